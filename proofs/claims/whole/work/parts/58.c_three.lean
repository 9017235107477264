/-! a span parted in three -/
theorem mark_mono {E : WEnv} {p o1 o2 under : Int} {rest e m1 m2 : Pt} (hE : EnvOK E) (hp : 0 ≤ p ∧ p < E.N) (ho : 0 ≤ o1 ∧ o1 ≤ o2) (hun : 0 < under) (r1 : 0 ≤ rest.1) (r2 : 0 < rest.2) (e2 : 0 < e.2) (hre : rest.1 * e.2 ≤ e.1 * rest.2) (h1 : MP E rest rest e o1 under p m1) (h2 : MP E rest rest e o2 under p m2) : m1.1 * m2.2 ≤ m2.1 * m1.2 := by
  have hag := ag_b hE hp
  have hrow := hE.2.2.2 _ hag.1 hag.2.2
  have hS := hE.1
  have n0 := (wv_b hrow hS.2 (show 1 ≤ rest.2 by omega) (show 1 ≤ e.2 by omega) hre).1
  have m20 := h2.2.1.2.1
  refine markR_least (x := m2.1) (y := m2.2) hrow ⟨by omega, hS.2⟩ r1 r2 (Int.mul_nonneg n0 ho.1) (show 0 < wvD rest e * under from Int.mul_pos (Int.mul_pos r2 e2) hun) h1.1 m20 h2.2.2.2.1 ?_
  rw [h2.2.2.2.2]
  have k := Int.mul_le_mul_of_nonneg_right (Int.mul_le_mul_of_nonneg_left ho.2 n0) (show 0 ≤ rest.2 by omega)
  exact Int.mul_le_mul_of_nonneg_right (by omega) (by omega)
theorem thrS_ok {E : WEnv} {w w' : Dv} {p : Int} {a b : Pt} {ps : Pcs} (hE : EnvOK E) (hp : 0 ≤ p ∧ p < E.N) (hw : WF E.S w) (ha : ptW E.S (w 3) a.1 a.2) (hb : ptW E.S (w 3) b.1 b.2) (hab : a.1 * b.2 ≤ b.1 * a.2) (h4 : w 4 + 2 ≤ 19) (h : thrS E w p (a, b) = some (ps, w')) :
    WF E.S w' ∧ upW w w' ∧ w' 4 = w 4 + 2 ∧ sameB w w' ∧ PW E (w' 3) ps ∧ (ps 0).1 = a ∧ (ps 2).2 = b ∧ (ps 0).2 = (ps 1).1 ∧ (ps 1).2 = (ps 2).1 := by
  have hag := ag_b hE hp
  have a2 : 0 < a.2 := by have := ha.2.1; omega
  have b2 : 0 < b.2 := by have := hb.2.1; omega
  have dd : ∀ o : Int, 0 ≤ o → o ≤ 3 → DUE E a a b o 3 p := fun o o0 o1 => due_in (hE.2.2.2 _ hag.1 hag.2.2) hE.1.2 a2 b2 hab o0 o1
  unfold thrS at h
  cases hx : pmS E w p a a b 1 3 with
  | none => rw [show pmS E w p (a, b).1 (a, b).1 (a, b).2 1 3 = none from hx] at h; cases h
  | some x =>
    obtain ⟨m1, w1⟩ := x
    rw [show pmS E w p (a, b).1 (a, b).1 (a, b).2 1 3 = some (m1, w1) from hx] at h
    obtain ⟨i1, i2, i3, i4, i5⟩ := pm_step hE hp hw ha a2 b2 hab (by decide) (by decide) (dd 1 (by decide) (by decide)) hx
    have h : ((pmS E w1 p a a b 2 3).map fun y => ((fun i => if i = 0 then (a, m1) else if i = 1 then (m1, y.1) else (y.1, b) : Pcs), noteS (noteS y.2 0 (ag E p) m1 (0, 1)) 0 (ag E p) y.1 (0, 1))) = some (ps, w') := h
    cases hy : pmS E w1 p a a b 2 3 with
    | none => rw [hy] at h; cases h
    | some y =>
      obtain ⟨m2, w2⟩ := y
      rw [hy] at h
      cases h
      obtain ⟨j1, j2, j3, j4, j5⟩ := pm_step hE hp i3 (ptW_up ha i4) a2 b2 hab (by decide) (by decide) (dd 2 (by decide) (by decide)) hy
      have e4 : w2 4 = w 4 := by rw [j5, setU_ne (by decide), i5, setU_ne (by decide)]
      obtain ⟨n1, n2⟩ := note_lo (w := w2) (kind := 0) (a := ag E p) (p := m1) (q := (0, 1)) j3.2.1.1
      have n3 := n2 3 (by decide) (by decide)
      have w3 := note_WF (kind := 0) j3 ⟨by decide, by decide⟩ ⟨hag.1, hag.2.2⟩ (ptW_up i2 j4) (ptW_Zu (by omega)) (fun q => absurd q (by decide)) (show w2 4 < 19 by omega)
      obtain ⟨o1, o2⟩ := note_lo (w := noteS w2 0 (ag E p) m1 (0, 1)) (kind := 0) (a := ag E p) (p := m2) (q := (0, 1)) w3.2.1.1
      have o3 := o2 3 (by decide) (by decide)
      have w4 := note_WF (kind := 0) w3 ⟨by decide, by decide⟩ ⟨hag.1, hag.2.2⟩ (by rw [n3]; exact j2) (ptW_Zu (by omega)) (fun q => absurd q (by decide)) (by rw [n1]; omega)
      have up2 := Int.dvd_trans i4 j4
      have c1 := mark_mono hE hp (show (0 : Int) ≤ 1 ∧ (1 : Int) ≤ 2 by decide) (by decide) ha.1 a2 b2 hab i1 j1
      have c2 := mark_end hE hp (show (0 : Int) ≤ 2 ∧ (2 : Int) ≤ 3 by decide) (by decide) ha.1 a2 b2 hab j1
      refine ⟨w4, by show w 3 ∣ _; rw [o3, n3]; exact up2, by rw [o1, n1]; omega, ?_, fun k k0 k1 => ?_, rfl, rfl, rfl, rfl⟩
      · have s1 : sameB w w1 := by rw [i5]; exact sameB_set
        have s2 : sameB w1 w2 := by rw [j5]; exact sameB_set
        exact sameB_tr (sameB_tr (sameB_tr s1 s2) (sameB_note j3.2.1.1)) (sameB_note w3.2.1.1)
      · rw [o3, n3]
        have : k = 0 ∨ k = 1 ∨ k = 2 := by omega
        rcases this with rfl | rfl | rfl
        · exact ⟨ptW_un ha up2, ptW_up i2 j4, i1.2.2.2.1⟩
        · exact ⟨ptW_up i2 j4, j2, c1⟩
        · exact ⟨j2, ptW_un hb up2, c2⟩
