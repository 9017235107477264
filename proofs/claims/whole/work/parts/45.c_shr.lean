/-! contracts: Sharer: marks and takes -/
theorem fnd_congr {w w' : Int → Int} {due all : Int} (h : ∀ s : Int, 0 ≤ s → s < 16 → w s = w' s) : ∀ f s : Nat, s + f ≤ 16 → fnd w due all f s = fnd w' due all f s
  | 0, _, _ => rfl
  | f + 1, s, hs => by
    unfold fnd
    rw [cum_congr (w := w) (w' := w') (s + 1) (fun x x0 x1 => h x x0 (by omega)), fnd_congr h f (s + 1) (by omega)]
theorem mkP_congr {w w' : Int → Int} {due all : Int} (h : ∀ s : Int, 0 ≤ s → s < 16 → w s = w' s) {s : Nat} (hs : s < 16) : mkP w due all s = mkP w' due all s := by
  unfold mkP mkX mkY
  rw [cum_congr (w := w) (w' := w') s (fun x x0 x1 => h x x0 (by omega)), h s (by omega) (by omega)]
/-- the cake, who is first, the whole -/
def RT (μ : Mem) (E : WEnv) : Prop := μ 2 0 = E.S ∧ μ 2 1 = E.N ∧ μ 440 2 = E.f ∧ (∀ a s : Int, 0 ≤ a → a < 5 → 0 ≤ s → s < 16 → μ (10 + a) s = E.T a s) ∧ μ 442 0 = 0 ∧ μ 442 1 = 1 ∧ μ 443 0 = E.S ∧ μ 443 1 = 1
theorem RT_fr {μ μ' : Mem} {E : WEnv} (h : RT μ E) (hf : ∀ x i, x = 2 ∨ 10 ≤ x ∧ x ≤ 14 ∨ (x = 440 ∧ i = 2) ∨ x = 442 ∨ x = 443 → μ' x i = μ x i) : RT μ' E := by
  obtain ⟨h1, h2, h3, h4, h5, h6, h7, h8⟩ := h
  refine ⟨by rw [hf 2 0 (by omega), h1], by rw [hf 2 1 (by omega), h2], by rw [hf 440 2 (by omega), h3], fun a s a0 a1 s0 s1 => by rw [hf (10 + a) s (by omega), h4 a s a0 a1 s0 s1], by rw [hf 442 0 (by omega), h5], by rw [hf 442 1 (by omega), h6], by rw [hf 443 0 (by omega), h7], by rw [hf 443 1 (by omega), h8]⟩
/-- what counts allow -/
def CN (w : Dv) : Prop := (0 ≤ w 4 ∧ w 4 ≤ 19) ∧ ∀ a : Int, 0 ≤ a → a < 5 → 0 ≤ w (165 + a) ∧ w (165 + a) ≤ 2
/-- a point stands at an address -/
def PA (μ : Mem) (o : Int) (p : Pt) : Prop := μ o 0 = p.1 ∧ μ o 1 = p.2
theorem PA_fr {μ μ' : Mem} {o : Int} {p : Pt} (h : PA μ o p) (hf : ∀ i, μ' o i = μ o i) : PA μ' o p := ⟨(hf 0).trans h.1, (hf 1).trans h.2⟩
section
variable {n : Int} {μ : Mem} {Q : Option AV → Lay → Mem → Prop}
theorem k440 : isK (L0 n) 440 (5, 0) := isK0 (by decide) (by decide) (by decide +kernel)
theorem k174 : isK (L0 n) 174 (1, 0) := isK0 (by decide) (by decide) (by decide +kernel)
theorem k2 : isK (L0 n) 2 (0, 0) := isK0 (by decide) (by decide) (by decide +kernel)
theorem told_rf {a : Int} (ha : 0 ≤ a ∧ a < 5) : rf (L0 n) (rf (L0 n) 2 3) a = 10 + a := by
  rw [(ck_rf (Or.inl rfl)).2, (ck_rows (Or.inl rfl) ha).2]
  omega
theorem told_K {a : Int} (ha : 0 ≤ a ∧ a < 5) : isK (L0 n) (10 + a) (20, 16) := by
  have := rowA_K (n := n) (how := 1) k2 ha
  unfold rowA at this
  rw [if_pos rfl, show (2 : Int) + 8 + a = 10 + a by omega] at this
  exact this
theorem k442 : isK (L0 n) 442 (3, 0) := isK0 (by decide) (by decide) (by decide +kernel)
theorem k443 : isK (L0 n) 443 (3, 0) := isK0 (by decide) (by decide) (by decide +kernel)
theorem k441 : isK (L0 n) 441 (7, 0) := isK0 (by decide) (by decide) (by decide +kernel)
theorem k444 : isK (L0 n) 444 (7, 0) := isK0 (by decide) (by decide) (by decide +kernel)
theorem k445 : isK (L0 n) 445 (3, 0) := isK0 (by decide) (by decide) (by decide +kernel)
theorem k446 : isK (L0 n) 446 (3, 0) := isK0 (by decide) (by decide) (by decide +kernel)
theorem kmark {i : Int} (h : 0 ≤ i ∧ i < 5) : isK (L0 n) (454 + 2 * i) (3, 0) := by
  have : i = 0 ∨ i = 1 ∨ i = 2 ∨ i = 3 ∨ i = 4 := by omega
  rcases this with rfl | rfl | rfl | rfl | rfl <;> exact isK0 (by decide) (by decide) (by decide +kernel)
theorem c_X5_agentAt {E : WEnv} {p : Int} (hE : EnvOK E) (hr : RT μ E) (hp : 0 ≤ p ∧ p < E.N) (h : Q (some (0, ag E p)) (L0 n) μ) : TR mX5_agentAt 0 (0, 0) [(2, 440), (0, p)] (L0 n) μ Q := by
  obtain ⟨-, r2, r3, -⟩ := hr
  obtain ⟨-, e1, e2, -⟩ := hE
  apply t_X5_agentAt (layOK n) k440
  rw [rf_shr.1, r2, r3]
  unfold ag at h
  refine ⟨⟨by omega, by omega⟩, fun q => ⟨⟨by omega, by omega⟩, ?_⟩, fun q => ?_⟩
  · rw [if_pos q] at h; exact h
  · rw [if_neg q] at h; exact h
theorem wv_same {μ : Mem} {E : WEnv} {a : Int} {u : Int} {p q : Pt} {S : Nat} (hS : S ≤ 16) (hr : ∀ s : Int, 0 ≤ s → s < 16 → μ (10 + a) s = E.T a s) : spn (μ (10 + a)) S u p.1 p.2 q.1 q.2 = spn (E.T a) S u p.1 p.2 q.1 q.2 := by
  unfold spn
  rw [pw_congr (w := μ (10 + a)) (w' := E.T a) S (fun s s0 s1 => hr s s0 (by omega)), pw_congr (w := μ (10 + a)) (w' := E.T a) S (fun s s0 s1 => hr s s0 (by omega))]
theorem rowOK_same {μ : Mem} {E : WEnv} {a : Int} (h : rowOK (E.T a)) (hr : ∀ s : Int, 0 ≤ s → s < 16 → μ (10 + a) s = E.T a s) : rowOK (μ (10 + a)) := fun s s0 s1 => by rw [hr s s0 s1]; exact h s s0 s1
theorem c_X5_has {E : WEnv} {w : Dv} {a s : Int} {p q : Pt} (hE : EnvOK E) (hr : RT μ E) (hd : DR μ 174 w) (hu : WFu w) (ks : isK (L0 n) s (7, 0)) (ha : 0 ≤ a ∧ a < 5) (h1 : PA μ (s + 1) p) (h2 : PA μ (s + 2) q) (hp : ptW E.S (w 3) p.1 p.2) (hq : ptW E.S (w 3) q.1 q.2)
    (h : Q (some (1, spn (E.T a) E.S (w 3) p.1 p.2 q.1 q.2)) (L0 n) μ) : TR mX5_has 3 (0, 0) [(2, 440), (0, a), (2, s)] (L0 n) μ Q := by
  have hrow := hE.2.2.2 a ha.1 ha.2
  have hS := hE.1
  obtain ⟨r1, r2, r3, r4, -⟩ := hr
  have d1 : μ 174 2 = w 3 := hd.1
  have hu1 := hu.1
  have hu2 := hu.2
  obtain ⟨f1, f2, f3, f4⟩ := sp_at ks
  have b1 := prt_b hp hu1 (by omega)
  have b2 := prt_b hq hu1 (by omega)
  have Su := S_mul_le (S := (E.S : Int)) (u := w 3) (by omega) (by omega)
  have p1 : ptP μ (s + 1) (w 3) = prt (w 3) p.1 p.2 := by unfold ptP prt; rw [h1.1, h1.2]
  have p2 : ptP μ (s + 2) (w 3) = prt (w 3) q.1 q.2 := by unfold ptP prt; rw [h2.1, h2.2]
  apply t_X5_has (layOK n) k440 ks
  rw [rf_shr.1, told_rf ha, rf_shr.2.1, d1, f1, f2]
  refine ⟨ha, c_X0_between k2 (told_K ha) f3 f4 ⟨by omega, by omega⟩ (rowOK_same hrow (fun s s0 s1 => r4 a s ha.1 ha.2 s0 s1)) ⟨by omega, by omega⟩ (by rw [h1.2]; exact hp.2.1) (by rw [h2.2]; exact hq.2.1) (by rw [p1]; exact ⟨b1.1, by omega⟩) (by rw [p2]; exact ⟨b2.1, by omega⟩) ⟨_, rfl, rfl, ?_⟩⟩
  rw [p1, p2, r1, Int.toNat_natCast]
  have := wv_same (u := w 3) (p := p) (q := q) hS.2 (fun s s0 s1 => r4 a s ha.1 ha.2 s0 s1)
  unfold spn at this h
  rw [this]
  exact h
theorem c_X5_putMark {E : WEnv} {w : Dv} {to st of p over under : Int} {s a b : Pt} (hE : EnvOK E) (hr : RT μ E) (hd : DR μ 174 w) (hc : CN w) (hu : WFu w) (kto : isK (L0 n) to (3, 0)) (kst : isK (L0 n) st (3, 0)) (kof : isK (L0 n) of (7, 0)) (hto : outD 174 to) (hp : 0 ≤ p ∧ p < E.N)
    (h1 : PA μ st s) (h2 : PA μ (of + 1) a) (h3 : PA μ (of + 2) b) (ws : ptW E.S (w 3) s.1 s.2) (wa : ptW E.S (w 3) a.1 a.2) (wb : ptW E.S (w 3) b.1 b.2) (hab : a.1 * b.2 ≤ b.1 * a.2) (ho : 0 ≤ over ∧ over ≤ 5) (hun : 1 ≤ under ∧ under ≤ 5)
    (hdue : pw (E.T (ag E p)) s.1 s.2 E.S * (wvD a b * under) + wvN (E.T (ag E p)) E.S a b * over * s.2 ≤ cum (E.T (ag E p)) E.S * (s.2 * (wvD a b * under)))
    (hok : ∀ (m : Pt) (w' : Dv), pmS E w p s a b over under = some (m, w') → ∀ μ', PA μ' to m → DR μ' 174 w' → (∀ x i, x ≠ to → x ≠ 180 → (x ≠ 174 ∨ i ≠ 2) → μ' x i = μ x i) → Q (some (0, 1)) (L0 n) μ')
    (hno : pmS E w p s a b over under = none → ∀ μ', (∀ x i, x ≠ to → outD 174 x → μ' x i = μ x i) → Q (some (0, 0)) (L0 n) μ') : TR mX5_putMark 3 (0, 0) [(2, 440), (2, to), (0, ag E p), (2, st), (2, of), (0, over), (0, under)] (L0 n) μ Q := by
  have hab5 := ag_b hE hp
  have ha : 0 ≤ ag E p ∧ ag E p < 5 := ⟨hab5.1, hab5.2.2⟩
  obtain ⟨m, em, mo, ep, hw'⟩ := pmS_ok hE hp hu ws (show 0 < a.2 by have := wa.2.1; omega) (show 0 < b.2 by have := wb.2.1; omega) hab ho.1 (show 0 < under by omega) hdue
  generalize ag E p = ap at *
  have hrow := hE.2.2.2 ap ha.1 ha.2
  have hS := hE.1
  obtain ⟨r1, r2, r3, r4, -⟩ := hr
  have r4 := fun s s0 s1 => r4 ap s ha.1 ha.2 s0 s1
  have d1 : μ 174 2 = w 3 := hd.1
  have hu1 := hu.1
  have hu2 := hu.2
  obtain ⟨f1, f2, f3, f4⟩ := sp_at kof
  have Su := S_mul_le (S := (E.S : Int)) (u := w 3) (by omega) (by omega)
  have b0 := prt_b ws hu1 (by omega)
  have b1 := prt_b wa hu1 (by omega)
  have b2 := prt_b wb hu1 (by omega)
  have p0 : μ st 0 * (w 3 / μ st 1) = prt (w 3) s.1 s.2 := by unfold prt; rw [h1.1, h1.2]
  have p1 : ptP μ (of + 1) (w 3) = prt (w 3) a.1 a.2 := by unfold ptP prt; rw [h2.1, h2.2]
  have p2 : ptP μ (of + 2) (w 3) = prt (w 3) b.1 b.2 := by unfold ptP prt; rw [h3.1, h3.2]
  have sb := spn_b hrow hS.2 hu1 wa wb hab
  have sw := spn_wv (row := E.T ap) (S := E.S) (u := w 3) (a := a) (b := b) (by omega) wa.2.1 wb.2.1 wa.2.2.2.1 wb.2.2.2.1
  have es := wv_same (u := w 3) (p := a) (q := b) hS.2 r4
  have nb := mulLB sb.1 ho.1 sb.2 ho.2
  -- the mark by the class' numbers
  have eK : markR (E.T ap) E.S s.1 s.2 (spn (E.T ap) E.S (w 3) a.1 a.2 b.1 b.2 * over) (w 3 * under) = some m := by
    rw [← em]
    refine markR_any (by have := ws.2.1; omega) (Int.mul_pos (by omega) (by omega)) (show 0 < wvD a b * under from Int.mul_pos (Int.mul_pos (by have := wa.2.1; omega) (by have := wb.2.1; omega)) (by omega)) ?_
    calc spn (E.T ap) E.S (w 3) a.1 a.2 b.1 b.2 * over * (wvD a b * under) = spn (E.T ap) E.S (w 3) a.1 a.2 b.1 b.2 * wvD a b * (over * under) := by ac_rfl
      _ = wvN (E.T ap) E.S a b * w 3 * (over * under) := by rw [sw]
      _ = _ := by ac_rfl
  rw [markR_class ws.2.2.2.1 (by have := ws.2.1; omega) (by omega) (by omega)] at eK
  have eP : ∀ P u, pw (μ (10 + ap)) P u E.S = pw (E.T ap) P u E.S := fun P u => pw_congr E.S (fun s s0 s1 => r4 s s0 (by omega))
  -- behind the mark: the unit
  have fin : ∀ μ1, μ1 = up (up μ to 0 m.1) to 1 m.2 → m.2 < 281474976710656 → TR mX1_takesIn 2 (0, 0) [(2, 174), (2, to)] (L0 n) μ1 (fun r21 L22 μ23 => ∃ w24, r21 = some (0, w24) ∧ (L0 n) = L22 ∧ (w24 = 0 → Q (some (0, 0)) (L0 n) μ23) ∧ (¬ w24 = 0 → Q (some (0, 1)) (L0 n) μ23)) := by
    intro μ1 e1 hm2
    have o1 : ∀ x i, x ≠ to → μ1 x i = μ x i := fun x i hx => by rw [e1, up_ne (Or.inl hx), up_ne (Or.inl hx)]
    have t0 : μ1 to 0 = m.1 := by rw [e1, up_ne (Or.inr (by decide)), up_eq]
    have t1 : μ1 to 1 = m.2 := by rw [e1, up_eq]
    unfold outD at hto
    have d2 : μ1 174 2 = w 3 := by rw [o1 174 2 (by omega), d1]
    have hm1 : 1 ≤ m.2 := by have := mo.1.2.1; omega
    refine c_X1_takesIn k174 kto hto (by rw [d2]; exact hu) (by rw [t1]; exact ⟨hm1, hm2⟩) ?_ ?_
    · rw [d2, t1]
      intro q1 q2 μ2 g1 g2
      have eu : unS w m.2 = some (setU w (rdN (w 3) m.2 * m.2)) := by unfold unS; rw [if_neg (by omega)]
      refine ⟨1, rfl, rfl, fun q => absurd q (by decide), fun _ => ?_⟩
      have g2' : ∀ x i, x ≠ to → x ≠ 180 → (x ≠ 174 ∨ i ≠ 2) → μ2 x i = μ x i := fun x i x1 x2 x3 => (g2 x i x3 x2).trans (o1 x i x1)
      have hd1 := DR_frame hd hc.1.2 (fun a a0 a1 => (hc.2 a a0 a1).2) (μ' := fun x i => if x = 174 ∧ i = 2 then w 3 else μ2 x i) (fun x i hx => by
        show (if x = 174 ∧ i = 2 then w 3 else μ2 x i) = _
        by_cases q : x = 174 ∧ i = 2
        · rw [if_pos q, q.1, q.2, d1]
        · rw [if_neg q]
          exact g2' x i (by omega) (by omega) (by omega))
      refine hok m _ (by rw [ep, eu]; rfl) μ2 ⟨by rw [g2 to 0 (Or.inl (by omega)) (by omega), t0], by rw [g2 to 1 (Or.inl (by omega)) (by omega), t1]⟩ ?_ g2'
      obtain ⟨-, ⟨r2, r3⟩, r4, r5⟩ := hd
      refine ⟨by unfold DRu; rw [g1, setU_3], ⟨by rw [g2' 174 3 (by omega) (by omega) (by omega), r2, setU_ne (by decide)], fun k k0 k1 => ?_⟩, fun a a0 a1 => by rw [g2' _ a (by omega) (by omega) (by omega), r4 a a0 a1, setU_ne (by omega)], fun a k a0 a1 k0 k1 => ?_⟩
      · rw [setU_ne (by decide)] at k1
        have e := r3 k k0 k1
        have c1 := hc.1
        unfold evA at *
        rw [setU_ne (by omega), setU_ne (by omega), setU_ne (by omega), setU_ne (by omega), setU_ne (by omega), setU_ne (by omega), g2' _ 0 (by omega) (by omega) (by omega), g2' _ 1 (by omega) (by omega) (by omega), g2' (174 + 7 + 4 * k + 2) 0 (by omega) (by omega) (by omega), g2' (174 + 7 + 4 * k + 2) 1 (by omega) (by omega) (by omega), g2' (174 + 7 + 4 * k + 3) 0 (by omega) (by omega) (by omega), g2' (174 + 7 + 4 * k + 3) 1 (by omega) (by omega) (by omega)]
        exact e
      · rw [setU_ne (by omega)] at k1
        have e := r5 a k a0 a1 k0 k1
        have c1 := hc.2 a a0 a1
        unfold hl at *
        rw [setU_ne (by omega), setU_ne (by omega), setU_ne (by omega), setU_ne (by omega), g2' _ 0 (by omega) (by omega) (by omega), g2' _ 1 (by omega) (by omega) (by omega), g2' (174 + 83 + 3 * (2 * a + k) + 2) 0 (by omega) (by omega) (by omega), g2' (174 + 83 + 3 * (2 * a + k) + 2) 1 (by omega) (by omega) (by omega)]
        exact e
    · rw [d2, t1]
      intro q1 μ2 g1 g2
      have eu : unS w m.2 = none := by unfold unS; rw [if_pos (by omega)]
      exact ⟨0, rfl, rfl, fun _ => hno (by rw [ep, eu]; rfl) μ2 (fun x i x1 x2 => by unfold outD at x2; exact (g2 x i (Or.inl (by omega)) (by omega)).trans (o1 x i x1)), fun q => absurd rfl q⟩
  apply t_X5_putMark (layOK n) k440 kto kst kof
  rw [rf_shr.1, told_rf ha, rf_shr.2.1, d1, f1, f2]
  refine ⟨ha, c_X0_between k2 (told_K ha) f3 f4 ⟨by omega, by omega⟩ (rowOK_same hrow r4) ⟨by omega, by omega⟩ (by rw [h2.2]; exact wa.2.1) (by rw [h3.2]; exact wb.2.1) (by rw [p1]; exact ⟨b1.1, by omega⟩) (by rw [p2]; exact ⟨b2.1, by omega⟩) ⟨_, rfl, rfl, ?_⟩⟩
  have eS : pw (E.T ap) (prt (w 3) b.1 b.2) (w 3) E.S - pw (E.T ap) (prt (w 3) a.1 a.2) (w 3) E.S = spn (E.T ap) E.S (w 3) a.1 a.2 b.1 b.2 := rfl
  rw [p1, p2, r1, Int.toNat_natCast, eP, eP, d1, eS]
  refine ⟨⟨by omega, by omega⟩, c_X3_parts kst (by rw [h1.2]; exact ws.2.1) (by omega) (by rw [p0]; exact ⟨by omega, by omega⟩) ⟨_, rfl, rfl, ?_⟩⟩
  rw [p0, d1]
  have K18 : (144 : Int) * w 3 * 5 ≤ 1000000000000000000 := by omega
  refine c_X0_reach k2 kto (told_K ha) ⟨by omega, by omega⟩ (rowOK_same hrow r4) ⟨by omega, hu2⟩ ⟨b0.1, by omega⟩ ⟨by omega, by omega⟩ ⟨nb.1, by omega⟩ ?_ ?_ ?_
  · intro q
    have q : spn (E.T ap) E.S (w 3) a.1 a.2 b.1 b.2 * over = 0 := q
    rw [if_pos q] at eK
    have em2 : m = (rdN (prt (w 3) s.1 s.2) (w 3), rdD (prt (w 3) s.1 s.2) (w 3)) := (Option.some.inj eK).symm
    refine ⟨_, rfl, rfl, fun q => absurd q (by decide), fun _ => fin _ (by rw [em2]) (by rw [em2]; have := rdD_le (x := prt (w 3) s.1 s.2) (y := w 3) (by omega); show rdD _ _ < _; omega)⟩
  · intro sp q hf
    rw [r1, Int.toNat_natCast] at hf ⊢
    rw [eP] at hf ⊢
    have q : ¬ spn (E.T ap) E.S (w 3) a.1 a.2 b.1 b.2 * over = 0 := q
    have hf : fnd (μ (10 + ap)) (under * pw (E.T ap) (prt (w 3) s.1 s.2) (w 3) E.S + spn (E.T ap) E.S (w 3) a.1 a.2 b.1 b.2 * over) (w 3 * under) E.S 0 = some sp := hf
    rw [fnd_congr r4 E.S 0 (by omega)] at hf
    rw [if_neg q, hf] at eK
    have sp16 := (fnd_spec E.S 0 sp hf).2.1
    have ec := mkP_congr (w := μ (10 + ap)) (w' := E.T ap) (due := under * pw (E.T ap) (prt (w 3) s.1 s.2) (w 3) E.S + spn (E.T ap) E.S (w 3) a.1 a.2 b.1 b.2 * over) (all := w 3 * under) r4 (s := sp) (by omega)
    have em2 : m = mkP (μ (10 + ap)) (under * pw (E.T ap) (prt (w 3) s.1 s.2) (w 3) E.S + spn (E.T ap) E.S (w 3) a.1 a.2 b.1 b.2 * over) (w 3 * under) sp := by rw [ec]; exact (Option.some.inj eK).symm
    refine ⟨_, rfl, rfl, fun q => absurd q (by decide), fun _ => fin _ (by rw [em2]; rfl) ?_⟩
    rw [em2]
    show rdD _ _ < _
    have ws9 := hrow sp (by omega) (by omega)
    have mm := mulLB (show 0 ≤ w 3 by omega) (show 0 ≤ under by omega) hu2 hun.2
    have mm2 := mulLB ws9.1 mm.1 ws9.2 mm.2
    have := rdD_le (x := mkX (μ (10 + ap)) (under * pw (E.T ap) (prt (w 3) s.1 s.2) (w 3) E.S + spn (E.T ap) E.S (w 3) a.1 a.2 b.1 b.2 * over) (w 3 * under) sp) (y := mkY (μ (10 + ap)) (w 3 * under) sp) (by unfold mkY; rw [r4 sp (by omega) (by omega)]; exact mm2.1)
    unfold mkY at this ⊢
    rw [r4 sp (by omega) (by omega)] at this ⊢
    omega
  · intro q hf
    rw [r1, Int.toNat_natCast] at hf
    rw [eP] at hf
    have q : ¬ spn (E.T ap) E.S (w 3) a.1 a.2 b.1 b.2 * over = 0 := q
    have hf : fnd (μ (10 + ap)) (under * pw (E.T ap) (prt (w 3) s.1 s.2) (w 3) E.S + spn (E.T ap) E.S (w 3) a.1 a.2 b.1 b.2 * over) (w 3 * under) E.S 0 = none := hf
    rw [fnd_congr r4 E.S 0 (by omega)] at hf
    rw [if_neg q, hf] at eK
    cases eK
end
