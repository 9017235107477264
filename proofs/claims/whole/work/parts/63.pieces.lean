/-! pieces are taken -/
/-- one takes a piece -/
theorem takeP_ok {E : WEnv} {w : Dv} {p : Int} {s : Pt × Pt} (hE : EnvOK E) (hp : 0 ≤ p ∧ p < E.N) (hw : WF E.S w) (h4 : w 4 < 19) (hm : w (165 + ag E p) < 2) (h1 : ptW E.S (w 3) s.1.1 s.1.2) (h2 : ptW E.S (w 3) s.2.1 s.2.2) (ho : s.1.1 * s.2.2 ≤ s.2.1 * s.1.2) :
    WF E.S (takeP E w p s) ∧ takeP E w p s 3 = w 3 ∧ takeP E w p s 4 = w 4 + 1 ∧ takeP E w p s (165 + ag E p) = w (165 + ag E p) + 1 ∧ ∀ q : Int, 0 ≤ q → q < E.N → q ≠ p → takeP E w p s (165 + ag E q) = w (165 + ag E q) := by
  have hag := ag_b hE hp
  obtain ⟨t1, t2, t3⟩ := take_lo (w := w) (a := ag E p) (p := s.1) (q := s.2) hw.2.1.1 ⟨hag.1, hag.2.2⟩ ⟨(hw.2.2 _ hag.1 hag.2.2).1.1, hm⟩
  refine ⟨take_WF hw ⟨hag.1, hag.2.2⟩ h1 h2 ho hm h4, t3 3 (by decide) (by omega) (by decide), t1, t2, fun q q0 q1 hq => ?_⟩
  have hq2 := ag_b hE (p := q) ⟨q0, q1⟩
  exact t3 _ (by omega) (fun e => hq (ag_inj hE ⟨q0, q1⟩ hp (by omega))) (by omega)
/-- three take a piece each -/
theorem take3_ok {E : WEnv} {w : Dv} {p q r : Int} {ps : Pcs} {i j k : Int} (hE : EnvOK E) (hN : E.N = 3) (hp : 0 ≤ p ∧ p < 3) (hq : 0 ≤ q ∧ q < 3) (hr : 0 ≤ r ∧ r < 3) (npq : p ≠ q) (npr : p ≠ r) (nqr : q ≠ r) (hw : WF E.S w) (h4 : w 4 ≤ 16) (hm : ∀ a : Int, 0 ≤ a → a < 3 → w (165 + ag E a) ≤ 1) (hP : PW E (w 3) ps) (hi : 0 ≤ i ∧ i < 3) (hj : 0 ≤ j ∧ j < 3) (hk : 0 ≤ k ∧ k < 3) :
    (WF E.S (takeP E w p (ps i)) ∧ takeP E w p (ps i) 3 = w 3 ∧ takeP E w p (ps i) 4 = w 4 + 1 ∧ takeP E w p (ps i) (165 + ag E q) < 2 ∧ takeP E w p (ps i) (165 + ag E r) < 2) ∧
    (WF E.S (takeP E (takeP E w p (ps i)) q (ps j)) ∧ takeP E (takeP E w p (ps i)) q (ps j) 3 = w 3 ∧ takeP E (takeP E w p (ps i)) q (ps j) 4 = w 4 + 2 ∧ takeP E (takeP E w p (ps i)) q (ps j) (165 + ag E r) < 2) ∧
    WF E.S (takeP E (takeP E (takeP E w p (ps i)) q (ps j)) r (ps k)) ∧ takeP E (takeP E (takeP E w p (ps i)) q (ps j)) r (ps k) 3 = w 3 ∧ takeP E (takeP E (takeP E w p (ps i)) q (ps j)) r (ps k) 4 = w 4 + 3 ∧ (∀ a : Int, 0 ≤ a → a < 3 → takeP E (takeP E (takeP E w p (ps i)) q (ps j)) r (ps k) (165 + ag E a) = w (165 + ag E a) + 1) := by
  have mp := hm p hp.1 hp.2
  have mq := hm q hq.1 hq.2
  have mr := hm r hr.1 hr.2
  obtain ⟨i1, i2, i3⟩ := hP i hi.1 hi.2
  obtain ⟨j1, j2, j3⟩ := hP j hj.1 hj.2
  obtain ⟨k1, k2, k3⟩ := hP k hk.1 hk.2
  obtain ⟨a1, a2, a3, a4, a5⟩ := takeP_ok (s := ps i) hE (p := p) ⟨hp.1, by omega⟩ hw (by omega) (by omega) i1 i2 i3
  have a5q := a5 q hq.1 (by omega) (fun e => npq e.symm)
  have a5r := a5 r hr.1 (by omega) (fun e => npr e.symm)
  generalize takeP E w p (ps i) = w1 at *
  obtain ⟨b1, b2, b3, b4, b5⟩ := takeP_ok (s := ps j) hE (p := q) ⟨hq.1, by omega⟩ a1 (by omega) (by omega) (by rw [a2]; exact j1) (by rw [a2]; exact j2) j3
  have b5p := b5 p hp.1 (by omega) npq
  have b5r := b5 r hr.1 (by omega) (fun e => nqr e.symm)
  generalize takeP E w1 q (ps j) = w2 at *
  obtain ⟨c1, c2, c3, c4, c5⟩ := takeP_ok (s := ps k) hE (p := r) ⟨hr.1, by omega⟩ b1 (by omega) (by omega) (by rw [b2, a2]; exact k1) (by rw [b2, a2]; exact k2) k3
  have c5p := c5 p hp.1 (by omega) npr
  have c5q := c5 q hq.1 (by omega) nqr
  refine ⟨⟨a1, a2, a3, by omega, by omega⟩, ⟨b1, by rw [b2, a2], by omega, by omega⟩, c1, by rw [c2, b2, a2], by omega, fun a a0 a1' => ?_⟩
  have : a = p ∨ a = q ∨ a = r := by omega
  rcases this with rfl | rfl | rfl <;> omega
