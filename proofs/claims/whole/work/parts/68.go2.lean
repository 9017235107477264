/-! thirds with trimmings: what comes of it -/
theorem mostS_gone {E : WEnv} {p gone : Int} {ps : Pcs} (h : ∃ j : Int, 0 ≤ j ∧ j < 3 ∧ ¬ bt gone j) : ¬ bt gone (mostS E p gone ps) := by
  obtain ⟨j, j0, j1, j2⟩ := h
  obtain ⟨h1, h2, h3, h4⟩ := mstS_b (E := E) (p := p) (gone := gone) (ps := ps) 3
  by_cases q : mstS E p gone ps 3 < 0
  · exact absurd (h4 q j j0 (by omega)) j2
  · unfold mostS
    rw [show max 0 (mstS E p gone ps 3) = mstS E p gone ps 3 by omega]
    exact h3 (by omega)
theorem i3 {P : Int → Prop} (h : P 0 ∧ P 1 ∧ P 2) : ∀ i : Int, 0 ≤ i → i < 3 → P i := fun i i0 i1 => by
  have : i = 0 ∨ i = 1 ∨ i = 2 := by omega
  rcases this with rfl | rfl | rfl
  · exact h.1
  · exact h.2.1
  · exact h.2.2
theorem bit3 {t s : Int} (ht : 0 ≤ t ∧ t < 3) (hs : 0 ≤ s ∧ s < 3) : bt (bShl 1 t) s ↔ s = t := by
  have h : ∀ t : Int, 0 ≤ t → t < 3 → ∀ s : Int, 0 ≤ s → s < 3 → (bt (bShl 1 t) s ↔ s = t) := i3 ⟨i3 (by decide +kernel), i3 (by decide +kernel), i3 (by decide +kernel)⟩
  exact h t ht.1 ht.2 s hs.1 hs.2
theorem bit3o {t r s : Int} (ht : 0 ≤ t ∧ t < 3) (hr : 0 ≤ r ∧ r < 3) (hs : 0 ≤ s ∧ s < 3) : bt (bOr (bShl 1 t) (bShl 1 r)) s ↔ s = t ∨ s = r := by
  have h : ∀ t : Int, 0 ≤ t → t < 3 → ∀ r : Int, 0 ≤ r → r < 3 → ∀ s : Int, 0 ≤ s → s < 3 → (bt (bOr (bShl 1 t) (bShl 1 r)) s ↔ s = t ∨ s = r) := i3 ⟨i3 ⟨i3 (by decide +kernel), i3 (by decide +kernel), i3 (by decide +kernel)⟩, i3 ⟨i3 (by decide +kernel), i3 (by decide +kernel), i3 (by decide +kernel)⟩, i3 ⟨i3 (by decide +kernel), i3 (by decide +kernel), i3 (by decide +kernel)⟩⟩
  exact h t ht.1 ht.2 r hr.1 hr.2 s hs.1 hs.2
theorem most_ne {E : WEnv} {p t : Int} {ps : Pcs} (ht : 0 ≤ t ∧ t < 3) : mostS E p (bShl 1 t) ps ≠ t := by
  have h := mostS_gone (E := E) (p := p) (gone := bShl 1 t) (ps := ps) (by
    by_cases q : t = 0
    · exact ⟨1, by decide, by decide, fun z => by have := (bit3 ht ⟨by decide, by decide⟩).mp z; omega⟩
    · exact ⟨0, by decide, by decide, fun z => by have := (bit3 ht ⟨by decide, by decide⟩).mp z; omega⟩)
  exact fun e => h ((bit3 ht mostS_b).mpr e)
theorem most_ne2 {E : WEnv} {p t r : Int} {ps : Pcs} (ht : 0 ≤ t ∧ t < 3) (hr : 0 ≤ r ∧ r < 3) : mostS E p (bOr (bShl 1 t) (bShl 1 r)) ps ≠ t ∧ mostS E p (bOr (bShl 1 t) (bShl 1 r)) ps ≠ r := by
  have h := mostS_gone (E := E) (p := p) (gone := bOr (bShl 1 t) (bShl 1 r)) (ps := ps) (by
    by_cases q : t = 0 ∨ r = 0
    · by_cases q2 : t = 1 ∨ r = 1
      · exact ⟨2, by decide, by decide, fun z => by have := (bit3o ht hr ⟨by decide, by decide⟩).mp z; omega⟩
      · exact ⟨1, by decide, by decide, fun z => by have := (bit3o ht hr ⟨by decide, by decide⟩).mp z; omega⟩
    · exact ⟨0, by decide, by decide, fun z => by have := (bit3o ht hr ⟨by decide, by decide⟩).mp z; omega⟩)
  exact ⟨fun e => h ((bit3o ht hr mostS_b).mpr (Or.inl e)), fun e => h ((bit3o ht hr mostS_b).mpr (Or.inr e))⟩
/-- what a row has of three pieces -/
def spP (row : Int → Int) (S : Nat) (u : Int) (s : Pt × Pt) : Int := spn row S u s.1.1 s.1.2 s.2.1 s.2.2
def tot3 (row : Int → Int) (S : Nat) (u : Int) (ps : Pcs) : Int := spP row S u (ps 0) + spP row S u (ps 1) + spP row S u (ps 2)
theorem tot3_perm {row : Int → Int} {S : Nat} {u : Int} {ps : Pcs} {i j k : Int} (hi : 0 ≤ i ∧ i < 3) (hj : 0 ≤ j ∧ j < 3) (hk : 0 ≤ k ∧ k < 3) (h1 : j ≠ i) (h2 : k ≠ i) (h3 : k ≠ j) : spP row S u (ps i) + spP row S u (ps j) + spP row S u (ps k) = tot3 row S u ps := by
  unfold tot3
  rcases (show i = 0 ∨ i = 1 ∨ i = 2 by omega) with rfl | rfl | rfl <;> rcases (show j = 0 ∨ j = 1 ∨ j = 2 by omega) with rfl | rfl | rfl <;> rcases (show k = 0 ∨ k = 1 ∨ k = 2 by omega) with rfl | rfl | rfl <;> omega
theorem spP_up {row : Int → Int} {E : WEnv} {u c : Int} {s : Pt × Pt} (hc : 0 ≤ c) (h1 : ptW E.S u s.1.1 s.1.2) (h2 : ptW E.S u s.2.1 s.2.2) : spP row E.S (c * u) s = c * spP row E.S u s := by
  unfold spP
  exact spn_scale hc (by have := h1.2.1; omega) h1.2.2.2.1 (by have := h2.2.1; omega) h2.2.2.2.1
theorem tot3_up {row : Int → Int} {E : WEnv} {u c : Int} {ps : Pcs} (hc : 0 ≤ c) (h : PW E u ps) : tot3 row E.S (c * u) ps = c * tot3 row E.S u ps := by
  unfold tot3
  rw [spP_up hc (h 0 (by decide) (by decide)).1 (h 0 (by decide) (by decide)).2.1, spP_up hc (h 1 (by decide) (by decide)).1 (h 1 (by decide) (by decide)).2.1, spP_up hc (h 2 (by decide) (by decide)).1 (h 2 (by decide) (by decide)).2.1, Int.mul_add, Int.mul_add]
theorem tot3_upd {row : Int → Int} {S : Nat} {u : Int} {ps : Pcs} {k : Int} {m : Pt} (hk : 0 ≤ k ∧ k < 3) : tot3 row S u (updP ps k ((ps k).1, m)) + spn row S u m.1 m.2 (ps k).2.1 (ps k).2.2 = tot3 row S u ps := by
  have e : spP row S u ((ps k).1, m) + spn row S u m.1 m.2 (ps k).2.1 (ps k).2.2 = spP row S u (ps k) := by
    unfold spP
    exact spn_two
  unfold tot3 updP
  rcases (show k = 0 ∨ k = 1 ∨ k = 2 by omega) with rfl | rfl | rfl
  · rw [if_pos rfl, if_neg (by decide), if_neg (by decide)]; omega
  · rw [if_neg (by decide), if_pos rfl, if_neg (by decide)]; omega
  · rw [if_neg (by decide), if_neg (by decide), if_pos rfl]; omega
theorem tot3_thr {row : Int → Int} {S : Nat} {u : Int} {ps : Pcs} (h1 : (ps 0).2 = (ps 1).1) (h2 : (ps 1).2 = (ps 2).1) : tot3 row S u ps = spn row S u (ps 0).1.1 (ps 0).1.2 (ps 2).2.1 (ps 2).2.2 := by
  unfold tot3 spP
  rw [h1, spn_two, h2, spn_two]
theorem upW_c {w w' : Dv} (hu : upW w w') (h1 : 1 ≤ w 3) (h2 : 1 ≤ w' 3) : ∃ c, 0 ≤ c ∧ w' 3 = c * w 3 := by
  unfold upW at hu
  obtain ⟨c, hc⟩ := hu
  have hc : w' 3 = c * w 3 := by rw [hc]; exact Int.mul_comm _ _
  refine ⟨c, ?_, hc⟩
  rcases Int.lt_or_le c 0 with z | z
  · have := Int.mul_nonneg (show 0 ≤ -c by omega) (show 0 ≤ w 3 by omega)
    rw [Int.neg_mul] at this
    omega
  · exact z
theorem trmS_sum {E : WEnv} {w : Dv} {x : TSt} (hE : EnvOK E) (hN : E.N = 3) (hw : WF E.S w) (h4 : w 4 = 0) (hm : ∀ a : Int, 0 ≤ a → a < 5 → w (165 + a) = 0) (h : trmS E w = some x) :
    (∀ i : Int, i < 165 → i ≠ 3 → i ≠ 4 → x.w i = w i) ∧ ∀ row, tot3 row E.S (x.w 3) x.ps + (if x.trimmed = true then spP row E.S (x.w 3) x.crumbs else 0) = spn row E.S (x.w 3) 0 1 E.S 1 := by
  unfold trmS at h
  cases ht : thrS E w 0 ((0, 1), ((E.S : Int), 1)) with
  | none => rw [ht] at h; cases h
  | some y =>
    obtain ⟨ps, w1⟩ := y
    rw [ht] at h
    obtain ⟨t1, t2, t3, t4, t5, t6, t7, t8, t9⟩ := thrS_ok hE ⟨by decide, by omega⟩ hw (ptW_Zu (by omega)) (ptW_S (by omega)) (show (0 : Int) * 1 ≤ E.S * 1 by omega) (by omega) ht
    have tt : ∀ (row : Int → Int) (u : Int), tot3 row E.S u ps = spn row E.S u 0 1 E.S 1 := fun row u => by
      rw [tot3_thr t8 t9, t6, t7]
    have fb := mostS_b (E := E) (p := 1) (gone := 0) (ps := ps)
    have sb := mostS_b (E := E) (p := 1) (gone := bShl 1 (mostS E 1 0 ps)) (ps := ps)
    have h : (if hasP E 1 (ps (mostS E 1 (bShl 1 (mostS E 1 0 ps)) ps)) * denP (ps (mostS E 1 0 ps)) < hasP E 1 (ps (mostS E 1 0 ps)) * denP (ps (mostS E 1 (bShl 1 (mostS E 1 0 ps)) ps)) then
      (pmS E w1 1 (ps (mostS E 1 0 ps)).1 (ps (mostS E 1 (bShl 1 (mostS E 1 0 ps)) ps)).1 (ps (mostS E 1 (bShl 1 (mostS E 1 0 ps)) ps)).2 1 1).map fun y =>
        ((updP ps (mostS E 1 0 ps) ((ps (mostS E 1 0 ps)).1, y.1), noteS y.2 1 (ag E 1) y.1 (ps (mostS E 1 0 ps)).2, mostS E 1 0 ps, true, (y.1, (ps (mostS E 1 0 ps)).2)) : TSt)
      else some ((ps, noteS w1 2 (ag E 1) (ps (mostS E 1 0 ps)).2 (0, 1), mostS E 1 0 ps, false, ((0, 1), (0, 1))) : TSt)) = some x := h
    generalize mostS E 1 (bShl 1 (mostS E 1 0 ps)) ps = sec at *
    generalize mostS E 1 0 ps = fav at *
    by_cases hc : hasP E 1 (ps sec) * denP (ps fav) < hasP E 1 (ps fav) * denP (ps sec)
    · rw [if_pos hc] at h
      cases hy : pmS E w1 1 (ps fav).1 (ps sec).1 (ps sec).2 1 1 with
      | none => rw [hy] at h; cases h
      | some y =>
        obtain ⟨m, w2⟩ := y
        rw [hy] at h
        have h := Option.some.inj h
        rw [← h]
        obtain ⟨j1, j2, j3, j4, j5, j6⟩ := (trim_mark hE hN t1 t5 fb sb hc).2 hy
        obtain ⟨n1, n2⟩ := note_lo (w := w2) (kind := 1) (a := ag E 1) (p := m) (q := (ps fav).2) j2.2.1.1
        refine ⟨fun i i1 i2 i3 => ?_, fun row => ?_⟩
        · show noteS w2 1 (ag E 1) m (ps fav).2 i = w i
          rw [n2 i i3 (by omega), j4, setU_ne i2, t4 i i2 i3 (by omega)]
        · show tot3 row E.S (noteS w2 1 (ag E 1) m (ps fav).2 3) (updP ps fav ((ps fav).1, m)) + (if true = true then spn row E.S (noteS w2 1 (ag E 1) m (ps fav).2 3) m.1 m.2 (ps fav).2.1 (ps fav).2.2 else 0) = spn row E.S (noteS w2 1 (ag E 1) m (ps fav).2 3) 0 1 E.S 1
          rw [if_pos rfl, tot3_upd fb, tt]
    · rw [if_neg hc] at h
      have h := Option.some.inj h
      rw [← h]
      obtain ⟨n1, n2⟩ := note_lo (w := w1) (kind := 2) (a := ag E 1) (p := (ps fav).2) (q := (0, 1)) t1.2.1.1
      refine ⟨fun i i1 i2 i3 => ?_, fun row => ?_⟩
      · show noteS w1 2 (ag E 1) (ps fav).2 (0, 1) i = w i
        rw [n2 i i3 (by omega), t4 i i2 i3 (by omega)]
      · show tot3 row E.S (noteS w1 2 (ag E 1) (ps fav).2 (0, 1) 3) ps + (if false = true then _ else 0) = spn row E.S (noteS w1 2 (ag E 1) (ps fav).2 (0, 1) 3) 0 1 E.S 1
        rw [if_neg (by decide), Int.add_zero, tt]
/-- three takes of pieces, all unlike -/
theorem take3_sum {E : WEnv} {w : Dv} {ps : Pcs} {p q r i j k : Int} (hE : EnvOK E) (hN : E.N = 3) (hp : 0 ≤ p ∧ p < 3) (hq : 0 ≤ q ∧ q < 3) (hr : 0 ≤ r ∧ r < 3) (npq : p ≠ q) (npr : p ≠ r) (nqr : q ≠ r) (hw : WF E.S w) (h4 : w 4 ≤ 16) (hm : ∀ a : Int, 0 ≤ a → a < 3 → w (165 + ag E a) ≤ 1) (hP : PW E (w 3) ps) (hi : 0 ≤ i ∧ i < 3) (hj : 0 ≤ j ∧ j < 3) (hk : 0 ≤ k ∧ k < 3) (h1 : j ≠ i) (h2 : k ≠ i) (h3 : k ≠ j) :
    (∀ row, sumH row E.S (takeP E (takeP E (takeP E w p (ps i)) q (ps j)) r (ps k)) 5 = sumH row E.S w 5 + tot3 row E.S (w 3) ps) ∧ (∀ y : Int, y < 165 → y ≠ 4 → takeP E (takeP E (takeP E w p (ps i)) q (ps j)) r (ps k) y = w y) ∧ ∀ a : Int, 3 ≤ a → a < 5 → takeP E (takeP E (takeP E w p (ps i)) q (ps j)) r (ps k) (165 + a) = w (165 + a) := by
  have gp := ag_b hE (p := p) ⟨hp.1, by omega⟩
  have gq := ag_b hE (p := q) ⟨hq.1, by omega⟩
  have gr := ag_b hE (p := r) ⟨hr.1, by omega⟩
  have mp := hm p hp.1 hp.2
  have mp0 := (hw.2.2 _ gp.1 gp.2.2).1.1
  obtain ⟨⟨a1, a2, a3, a4, a5⟩, ⟨d1, d2, d3, d4⟩, -⟩ := take3_ok (ps := ps) hE hN hp hq hr npq npr nqr hw h4 hm hP hi hj hk
  have s1 := fun row => sumH_take (S := E.S) (row := row) (p := (ps i).1) (q := (ps i).2) hw ⟨gp.1, gp.2.2⟩ (show w (165 + ag E p) < 2 by omega)
  have l1 := (take_lo (w := w) (a := ag E p) (p := (ps i).1) (q := (ps i).2) hw.2.1.1 ⟨gp.1, gp.2.2⟩ ⟨mp0, by omega⟩).2.2
  have e1 : takeS w (ag E p) (ps i).1 (ps i).2 = takeP E w p (ps i) := rfl
  rw [e1] at l1
  simp only [e1] at s1
  generalize takeP E w p (ps i) = w1 at *
  have mq0 := (a1.2.2 _ gq.1 gq.2.2).1.1
  have s2 := fun row => sumH_take (S := E.S) (row := row) (p := (ps j).1) (q := (ps j).2) a1 ⟨gq.1, gq.2.2⟩ a4
  have l2 := (take_lo (w := w1) (a := ag E q) (p := (ps j).1) (q := (ps j).2) a1.2.1.1 ⟨gq.1, gq.2.2⟩ ⟨mq0, a4⟩).2.2
  have e2 : takeS w1 (ag E q) (ps j).1 (ps j).2 = takeP E w1 q (ps j) := rfl
  rw [e2] at l2
  simp only [e2] at s2
  generalize takeP E w1 q (ps j) = w2 at *
  have mr0 := (d1.2.2 _ gr.1 gr.2.2).1.1
  have s3 := fun row => sumH_take (S := E.S) (row := row) (p := (ps k).1) (q := (ps k).2) d1 ⟨gr.1, gr.2.2⟩ d4
  have l3 := (take_lo (w := w2) (a := ag E r) (p := (ps k).1) (q := (ps k).2) d1.2.1.1 ⟨gr.1, gr.2.2⟩ ⟨mr0, d4⟩).2.2
  have e3 : takeS w2 (ag E r) (ps k).1 (ps k).2 = takeP E w2 r (ps k) := rfl
  rw [e3] at l3
  simp only [e3] at s3
  refine ⟨fun row => ?_, fun y y1 y2 => by rw [l3 y y2 (by omega) (by omega), l2 y y2 (by omega) (by omega), l1 y y2 (by omega) (by omega)], fun a a0 a1' => by rw [l3 _ (by omega) (by omega) (by omega), l2 _ (by omega) (by omega) (by omega), l1 _ (by omega) (by omega) (by omega)]⟩
  have t := tot3_perm (row := row) (S := E.S) (u := w 3) (ps := ps) hi hj hk h1 h2 h3
  unfold spP at t
  rw [s3 row, s2 row, s1 row, d2, a2]
  omega
theorem wayT_GK {E : WEnv} {w w' : Dv} (hE : EnvOK E) (hN : E.N = 3) (hw : WF E.S w) (h4 : w 4 = 0) (hm : ∀ a : Int, 0 ≤ a → a < 5 → w (165 + a) = 0) (h : wayT E w = some w') : GK E w w' := by
  unfold wayT at h
  cases hx : trmS E w with
  | none => rw [hx] at h; cases h
  | some x =>
    rw [hx] at h
    have h : tcrS E x (tpkS E x) = some w' := h
    have hT := trmS_ok hE hN hw h4 hm hx
    obtain ⟨q1, q2⟩ := trmS_sum hE hN hw h4 hm hx
    obtain ⟨p1, p2, p3, p4, p5⟩ := tpk_ok hE hN hT
    have hT' := hT
    obtain ⟨t1, t2, t3, t4, t5, t6⟩ := hT
    have hm3 : ∀ a : Int, 0 ≤ a → a < 3 → x.w (165 + ag E a) ≤ 1 := fun a a0 a1 => by
      have := ag_b hE (p := a) ⟨a0, by omega⟩
      rw [t3 _ this.1 this.2.2]; decide
    have b3 : ∀ p g, 0 ≤ mostS E p g x.ps ∧ mostS E p g x.ps < 3 := fun p g => mostS_b
    have sb : 0 ≤ (if x.trimmed = true ∧ mostS E 2 0 x.ps ≠ x.fav then x.fav else mostS E 1 (bShl 1 (mostS E 2 0 x.ps)) x.ps) ∧ (if x.trimmed = true ∧ mostS E 2 0 x.ps ≠ x.fav then x.fav else mostS E 1 (bShl 1 (mostS E 2 0 x.ps)) x.ps) < 3 := by
      split
      · exact t5
      · exact b3 _ _
    have sne : (if x.trimmed = true ∧ mostS E 2 0 x.ps ≠ x.fav then x.fav else mostS E 1 (bShl 1 (mostS E 2 0 x.ps)) x.ps) ≠ mostS E 2 0 x.ps := by
      split
      · rename_i q
        exact fun e => q.2 e.symm
      · exact most_ne (b3 2 0)
    have lne := most_ne2 (E := E) (p := 0) (ps := x.ps) (b3 2 0) sb
    obtain ⟨r1, r2, r3⟩ := take3_sum (p := 2) (q := 1) (r := 0) hE hN ⟨by decide, by decide⟩ ⟨by decide, by decide⟩ ⟨by decide, by decide⟩ (by decide) (by decide) (by decide) t1 (by omega) hm3 t4 (b3 2 0) sb (b3 0 _) sne lne.1 lne.2
    rw [tpkS_eq] at h p1 p2 p3 p4 p5
    generalize takeP E (takeP E (takeP E x.w 2 (x.ps (mostS E 2 0 x.ps))) 1 (x.ps (if x.trimmed = true ∧ mostS E 2 0 x.ps ≠ x.fav then x.fav else mostS E 1 (bShl 1 (mostS E 2 0 x.ps)) x.ps))) 0 (x.ps (mostS E 0 (bOr (bShl 1 (mostS E 2 0 x.ps)) (bShl 1 (if x.trimmed = true ∧ mostS E 2 0 x.ps ≠ x.fav then x.fav else mostS E 1 (bShl 1 (mostS E 2 0 x.ps)) x.ps))) x.ps)) = w1 at *
    generalize (if mostS E 2 0 x.ps = x.fav then (2 : Int) else 1) = who at *
    have p1 : WF E.S w1 := p1
    have p2 : w1 3 = x.w 3 := p2
    have p3 : w1 4 = 6 := p3
    have p4 : ∀ a : Int, 0 ≤ a → a < 3 → w1 (165 + ag E a) = 1 := p4
    have p5 : who = 1 ∨ who = 2 := p5
    have s0 : ∀ row : Int → Int, sumH row E.S x.w 5 = 0 := fun row => sumH_none t3 5 (by omega)
    have low : ∀ i : Int, i < 165 → i ≠ 3 → i ≠ 4 → w1 i = w i := fun i i1 i2 i3 => by rw [r2 i i1 i3, q1 i i1 i2 i3]
    have hi : ∀ a : Int, E.N ≤ a → a < 5 → w1 (165 + a) = 0 := fun a a0 a1 => by rw [r3 a (by omega) a1, t3 a (by omega) a1]
    have tcr : tcrS E x (w1, who) = if x.trimmed = true then (thrS E w1 (3 - who) (x.crumbs.1, x.crumbs.2)).map fun z => takeP E (takeP E (takeP E z.2 who (z.1 (mostS E who 0 z.1))) 0 (z.1 (mostS E 0 (bShl 1 (mostS E who 0 z.1)) z.1))) (3 - who) (z.1 (mostS E (3 - who) (bOr (bShl 1 (mostS E who 0 z.1)) (bShl 1 (mostS E 0 (bShl 1 (mostS E who 0 z.1)) z.1))) z.1)) else some w1 := rfl
    rw [tcr] at h
    by_cases tr : x.trimmed = true
    · rw [if_pos tr] at h
      obtain ⟨c1, c2, c3⟩ := t6 tr
      have po : 0 ≤ 3 - who ∧ 3 - who < E.N := by omega
      cases hz : thrS E w1 (3 - who) (x.crumbs.1, x.crumbs.2) with
      | none => rw [hz] at h; cases h
      | some z =>
        obtain ⟨ps, w2⟩ := z
        rw [hz] at h
        have h : takeP E (takeP E (takeP E w2 who (ps (mostS E who 0 ps))) 0 (ps (mostS E 0 (bShl 1 (mostS E who 0 ps)) ps))) (3 - who) (ps (mostS E (3 - who) (bOr (bShl 1 (mostS E who 0 ps)) (bShl 1 (mostS E 0 (bShl 1 (mostS E who 0 ps)) ps))) ps)) = w' := Option.some.inj h
        obtain ⟨u1, u2, u3, u4, u5, u6, u7, u8, u9⟩ := thrS_ok hE po p1 (by rw [p2]; exact c1) (by rw [p2]; exact c2) c3 (by omega) hz
        have m1 : ∀ a : Int, 0 ≤ a → a < 3 → w2 (165 + ag E a) ≤ 1 := fun a a0 a1 => by
          have := ag_b hE (p := a) ⟨a0, by omega⟩
          rw [u4 _ (by omega) (by omega) (by omega), p4 a a0 a1]; decide
        have d3 : ∀ p g, 0 ≤ mostS E p g ps ∧ mostS E p g ps < 3 := fun p g => mostS_b
        have n1 := most_ne (E := E) (p := 0) (ps := ps) (d3 who 0)
        have n2 := most_ne2 (E := E) (p := 3 - who) (ps := ps) (d3 who 0) (d3 0 (bShl 1 (mostS E who 0 ps)))
        obtain ⟨-, -, v1, v2, v3, v4⟩ := take3_ok (p := who) (q := 0) (r := 3 - who) (ps := ps) (i := mostS E who 0 ps) (j := mostS E 0 (bShl 1 (mostS E who 0 ps)) ps) (k := mostS E (3 - who) (bOr (bShl 1 (mostS E who 0 ps)) (bShl 1 (mostS E 0 (bShl 1 (mostS E who 0 ps)) ps))) ps) hE hN (by omega) (by omega) (by omega) (by omega) (by omega) (by omega) u1 (by omega) m1 u5 (d3 who 0) (d3 0 _) (d3 _ _)
        obtain ⟨y1, y2, y3⟩ := take3_sum (p := who) (q := 0) (r := 3 - who) (ps := ps) hE hN (by omega) (by omega) (by omega) (by omega) (by omega) (by omega) u1 (by omega) m1 u5 (d3 who 0) (d3 0 (bShl 1 (mostS E who 0 ps))) (d3 (3 - who) _) n1 n2.1 n2.2
        rw [← h]
        obtain ⟨c, c0, ec⟩ := upW_c u2 p1.1.1 u1.1.1
        refine ⟨v1, fun row hrow => ?_, fun i i1 i2 i3 => by rw [y2 i i1 i3, u4 i i2 i3 (by omega), low i i1 i2 i3], fun a a0 a1 => by rw [y3 a (by omega) a1, u4 _ (by omega) (by omega) (by omega), hi a a0 a1]⟩
        rw [v2, y1 row, tot3_thr u8 u9, u6, u7, sumH_up p1.2.2 u4 ec c0 5 (by omega), r1 row, s0 row, ec, p2, Int.zero_add]
        have q := q2 row
        rw [if_pos tr] at q
        have sc : spn row E.S (c * x.w 3) x.crumbs.1.1 x.crumbs.1.2 x.crumbs.2.1 x.crumbs.2.2 = c * spP row E.S (x.w 3) x.crumbs := spP_up (s := x.crumbs) c0 c1 c2
        show c * tot3 row E.S (x.w 3) x.ps + spn row E.S (c * x.w 3) x.crumbs.1.1 x.crumbs.1.2 x.crumbs.2.1 x.crumbs.2.2 ≤ _
        rw [sc, ← Int.mul_add, q]
        have sw := Int.mul_le_mul_of_nonneg_left (spn_whole (S := E.S) hrow hE.1.2 t1.1.1) c0
        rw [show cum row E.S * (c * x.w 3) = c * (cum row E.S * x.w 3) by ac_rfl]
        exact sw
    · rw [if_neg tr] at h
      cases h
      refine ⟨p1, fun row hrow => ?_, low, hi⟩
      have q := q2 row
      rw [if_neg tr, Int.add_zero] at q
      rw [r1 row, s0 row, p2, q, Int.zero_add]
      exact spn_whole hrow hE.1.2 t1.1.1
theorem clrW_at {w : Dv} : clrW w 3 = 1 ∧ clrW w 4 = 0 ∧ (∀ a : Int, 0 ≤ a → a < 5 → clrW w (165 + a) = 0) ∧ ∀ i : Int, i ≠ 3 → i ≠ 4 → (i < 165 ∨ 170 ≤ i) → clrW w i = w i := by
  refine ⟨rfl, rfl, fun a a0 a1 => ?_, fun i h1 h2 h3 => ?_⟩
  · unfold clrW
    rw [if_neg (by omega), if_neg (by omega), if_pos (by omega)]
  · unfold clrW
    rw [if_neg h1, if_neg h2, if_neg (by omega)]
theorem clrW_WF {S : Int} {w : Dv} : WF S (clrW w) := by
  obtain ⟨h1, h2, h3, -⟩ := clrW_at (w := w)
  refine ⟨⟨by omega, by omega⟩, ⟨by omega, by omega, fun k k0 k1 => by omega⟩, fun a a0 a1 => ⟨by have := h3 a a0 a1; omega, fun k k0 k1 => by have := h3 a a0 a1; omega⟩⟩
theorem goS_GK {E : WEnv} {w w' : Dv} {way : Int} (hE : EnvOK E) (h4 : way = 4 → E.N = 3) (hway : 0 ≤ way ∧ way ≤ 4) (h : goS E (clrW w) way = some w') : GK E (clrW w) w' := by
  obtain ⟨h1, h2, h3, -⟩ := clrW_at (w := w)
  have hw := clrW_WF (S := E.S) (w := w)
  unfold goS at h
  split at h
  · exact wayC_GK hE hw h2 h3 h
  · split at h
    · exact wayK_GK hE hw h2 h3 h
    · split at h
      · exact wayD_GK hE hw h2 h3 h
      · split at h
        · exact wayH_GK hE hw h2 h3 h
        · exact wayT_GK hE (h4 (by omega)) hw h2 h3 h
