/-! cut and trim, in numbers -/
theorem trim_due {E : WEnv} {p : Int} {a b c d : Pt} (hE : EnvOK E) (hp : 0 ≤ p ∧ p < E.N) (a2 : 0 < a.2) (b2 : 0 < b.2) (hc : wvN (E.T (ag E p)) E.S c d * wvD a b ≤ wvN (E.T (ag E p)) E.S a b * wvD c d) :
    (pw (E.T (ag E p)) a.1 a.2 E.S * (wvD c d * 1) + wvN (E.T (ag E p)) E.S c d * 1 * a.2) * b.2 ≤ pw (E.T (ag E p)) b.1 b.2 E.S * (a.2 * (wvD c d * 1)) ∧ (0 ≤ wvD c d → DUE E a c d 1 1 p) := by
  have hag := ag_b hE hp
  have hrow := hE.2.2.2 _ hag.1 hag.2.2
  have ew := wv_eq (row := E.T (ag E p)) (S := E.S) (a := a) (b := b) (by omega) (by omega)
  rw [ew] at hc
  have pb := (pw_b (P := b.1) hrow (show 0 ≤ b.2 by omega) E.S hE.1.2).2
  have k : (pw (E.T (ag E p)) a.1 a.2 E.S * (wvD c d * 1) + wvN (E.T (ag E p)) E.S c d * 1 * a.2) * b.2 ≤ pw (E.T (ag E p)) b.1 b.2 E.S * (a.2 * (wvD c d * 1)) := by
    rw [Int.mul_one, Int.mul_one]
    generalize pw (E.T (ag E p)) a.1 a.2 E.S = A at *
    generalize pw (E.T (ag E p)) b.1 b.2 E.S = B at *
    generalize wvN (E.T (ag E p)) E.S c d = W at *
    generalize wvD c d = D at *
    have f1 : (A * D + W * a.2) * b.2 = b.2 * A * D + W * wvD a b := by
      unfold wvD
      rw [Int.add_mul]
      congr 1 <;> ac_rfl
    have f2 : (a.2 * B - b.2 * A) * D = B * (a.2 * D) - b.2 * A * D := by
      rw [Int.sub_mul]
      congr 1
      ac_rfl
    rw [f2] at hc
    rw [f1]
    omega
  refine ⟨k, fun hD => ?_⟩
  unfold DUE
  have k2 := Int.mul_le_mul_of_nonneg_right pb (show 0 ≤ a.2 * (wvD c d * 1) from Int.mul_nonneg (by omega) (by omega))
  have e : cum (E.T (ag E p)) E.S * b.2 * (a.2 * (wvD c d * 1)) = cum (E.T (ag E p)) E.S * (a.2 * (wvD c d * 1)) * b.2 := by ac_rfl
  exact Int.le_of_mul_le_mul_right (Int.le_trans k (by rw [← e]; exact k2)) b2
theorem mostS_b {E : WEnv} {p gone : Int} {ps : Pcs} : 0 ≤ mostS E p gone ps ∧ mostS E p gone ps < 3 := by
  have := mstS_b (E := E) (p := p) (gone := gone) (ps := ps) 3
  unfold mostS
  omega
