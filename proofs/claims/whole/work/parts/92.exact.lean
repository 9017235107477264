/-! a span that is half for two: by numbers -/
def noZ (A : Int → Int) (S : Nat) : Prop := ∀ s : Int, 0 ≤ s → s < S → 1 ≤ A s
/-- twice what a row has between two places (in 5040ths), less all it has -/
def exc (B : Int → Int) (S : Nat) (p q : Int) : Int := 2 * (pw B q 5040 S - pw B p 5040 S) - cum B S * 5040
def stL (p : Int) : Int := (p / 5040 + 1) * 5040 - p
def stX (A : Int → Int) (p q : Int) : Int := if stL q * A (q / 5040) < stL p * A (p / 5040) then stL q * A (q / 5040) / A (p / 5040) else stL p
def stY (A : Int → Int) (p q : Int) : Int := if stL q * A (q / 5040) < stL p * A (p / 5040) then stL q else stL p * A (p / 5040) / A (q / 5040)
abbrev crs (e e2 : Int) : Prop := e < 0 ∧ 0 < e2 ∨ 0 < e ∧ e2 < 0
def exP (p x e e2 : Int) : Pt := (rdN (p * (max e (-e) + max e2 (-e2)) + x * max e (-e)) (5040 * (max e (-e) + max e2 (-e2))), rdD (p * (max e (-e) + max e2 (-e2)) + x * max e (-e)) (5040 * (max e (-e) + max e2 (-e2))))
def exR (A B : Int → Int) (S : Nat) : Nat → Int → Int → Pt × Pt
  | 0, p, q => ((rdN p 5040, rdD p 5040), (rdN q 5040, rdD q 5040))
  | f + 1, p, q => if exc B S p q = 0 then ((rdN p 5040, rdD p 5040), (rdN q 5040, rdD q 5040)) else if crs (exc B S p q) (exc B S (p + stX A p q) (q + stY A p q)) then (exP p (stX A p q) (exc B S p q) (exc B S (p + stX A p q) (q + stY A p q)), exP q (stY A p q) (exc B S p q) (exc B S (p + stX A p q) (q + stY A p q))) else exR A B S f (p + stX A p q) (q + stY A p q)
/-- the right end of the first span that is half for one -/
def exQ (A : Int → Int) (S : Nat) : Int := match markR A S 0 1 (cum A S) 2 with | some m => prt 5040 m.1 m.2 | none => 0
def JJ (A B : Int → Int) (S : Nat) (p q : Int) : Prop := (0 ≤ p ∧ p ≤ S * 5040) ∧ (0 ≤ q ∧ q ≤ S * 5040) ∧ 2 * (pw A q 5040 S - pw A p 5040 S) = cum A S * 5040 ∧ (0 < exc B S p q → 0 < exc B S 0 (exQ A S)) ∧ (exc B S p q < 0 → exc B S 0 (exQ A S) < 0)
theorem stp_dvd {a b d1 d2 c1 c2 T : Int} (ha : 1 ≤ a ∧ a ≤ 9) (h : 2 * ((c2 * 5040 + b * d2) - (c1 * 5040 + a * d1)) = T * 5040) : a ∣ (5040 - d2) * b := by
  have k : ∃ k : Int, a * k = 2520 := by
    rcases (show a = 1 ∨ a = 2 ∨ a = 3 ∨ a = 4 ∨ a = 5 ∨ a = 6 ∨ a = 7 ∨ a = 8 ∨ a = 9 by omega) with rfl | rfl | rfl | rfl | rfl | rfl | rfl | rfl | rfl
    · exact ⟨2520, rfl⟩
    · exact ⟨1260, rfl⟩
    · exact ⟨840, rfl⟩
    · exact ⟨630, rfl⟩
    · exact ⟨504, rfl⟩
    · exact ⟨420, rfl⟩
    · exact ⟨360, rfl⟩
    · exact ⟨315, rfl⟩
    · exact ⟨280, rfl⟩
  obtain ⟨k, hk⟩ := k
  refine ⟨(2 * b + 2 * c2 - T - 2 * c1) * k - d1, ?_⟩
  have e1 : a * ((2 * b + 2 * c2 - T - 2 * c1) * k - d1) = (2 * b + 2 * c2 - T - 2 * c1) * 2520 - a * d1 := by
    rw [Int.mul_sub, ← hk]
    congr 1
    ac_rfl
  have e2 : (5040 - d2) * b = 5040 * b - b * d2 := by rw [Int.sub_mul, Int.mul_comm d2 b]
  rw [e1, e2]
  omega
/-- places and strips -/
theorem sp_of {P : Int} {S : Nat} (h0 : 0 ≤ P) (h : P < S * 5040) : ∃ s : Nat, s < S ∧ P / 5040 = (s : Int) ∧ (s : Int) * 5040 ≤ P ∧ P < (s : Int) * 5040 + 5040 := by
  refine ⟨(P / 5040).toNat, ?_, ?_, ?_, ?_⟩ <;> omega
def STP (A : Int → Int) (p q x y : Int) : Prop := 0 < x ∧ x ≤ stL p ∧ 0 < y ∧ y ≤ stL q ∧ x * A (p / 5040) = y * A (q / 5040) ∧ (x = stL p ∨ y = stL q)
theorem stp_ok {A B : Int → Int} {S : Nat} {p q : Int} (hA : noZ A S) (rA : rowOK A) (hS : S ≤ 16) (hJ : JJ A B S p q) (hp : p < S * 5040) (hq : q < S * 5040) : STP A p q (stX A p q) (stY A p q) := by
  obtain ⟨⟨p0, -⟩, ⟨q0, -⟩, h, -⟩ := hJ
  obtain ⟨s, s1, s2, s3, s4⟩ := sp_of p0 hp
  obtain ⟨t, t1, t2, t3, t4⟩ := sp_of q0 hq
  have a1 := hA s (by omega) (by omega)
  have a2 := (rA s (by omega) (by omega)).2
  have b1 := hA t (by omega) (by omega)
  have b2 := (rA t (by omega) (by omega)).2
  rw [pw_in (row := A) (P := p) (by decide) s1 s3 (by omega), pw_in (row := A) (P := q) (by decide) t1 t3 (by omega)] at h
  have d1 := stp_dvd (a := A s) (b := A t) ⟨a1, a2⟩ h
  have d2 := stp_dvd (a := A t) (b := A s) (d1 := q - t * 5040) (d2 := p - s * 5040) (c1 := cum A t) (c2 := cum A s) (T := - cum A S) ⟨b1, b2⟩ (by omega)
  have l1 : stL p = 5040 - (p - s * 5040) := by unfold stL; rw [s2]; omega
  have l2 : stL q = 5040 - (q - t * 5040) := by unfold stL; rw [t2]; omega
  rw [← l2] at d1
  rw [← l1] at d2
  have p1 : 0 < stL p := by omega
  have p2 : 0 < stL q := by omega
  unfold stX stY
  rw [s2, t2]
  by_cases z : stL q * A t < stL p * A s
  · rw [if_pos z, if_pos z]
    have c := Int.ediv_mul_cancel d1
    have pos : 0 < stL q * A t := Int.mul_pos p2 (by omega)
    refine ⟨?_, ?_, p2, Int.le_refl _, by rw [s2, t2]; exact c, Or.inr rfl⟩
    · exact Int.ediv_pos_of_pos_of_dvd pos (by omega) d1
    · refine Int.le_of_mul_le_mul_right (a := A s) ?_ (by omega)
      rw [c]; omega
  · rw [if_neg z, if_neg z]
    have c := Int.ediv_mul_cancel d2
    have pos : 0 < stL p * A s := Int.mul_pos p1 (by omega)
    refine ⟨p1, Int.le_refl _, ?_, ?_, by rw [s2, t2]; exact c.symm, Or.inl rfl⟩
    · exact Int.ediv_pos_of_pos_of_dvd pos (by omega) d2
    · refine Int.le_of_mul_le_mul_right (a := A t) ?_ (by omega)
      rw [c]; omega
theorem pw_go {B : Int → Int} {S : Nat} {p x : Int} (h0 : 0 ≤ p) (h : p < S * 5040) (hx : 0 ≤ x) (hl : x ≤ stL p) : pw B (p + x) 5040 S = pw B p 5040 S + B (p / 5040) * x := by
  obtain ⟨s, s1, s2, s3, s4⟩ := sp_of h0 h
  unfold stL at hl
  rw [s2] at hl ⊢
  rw [pw_in (row := B) (P := p + x) (by decide) s1 (by omega) (by omega), pw_in (row := B) (P := p) (by decide) s1 s3 (by omega), show p + x - (s : Int) * 5040 = p - s * 5040 + x by omega, Int.mul_add]
  omega
theorem pw_lt {A : Int → Int} {S : Nat} {P P' : Int} (hA : noZ A S) (rA : rowOK A) (hS : S ≤ 16) (h0 : 0 ≤ P) (h : P < P') (h1 : P' ≤ S * 5040) : pw A P 5040 S < pw A P' 5040 S := by
  have e : ∃ s : Nat, s < S ∧ (s : Int) * 5040 < P' ∧ P' ≤ (s : Int) * 5040 + 5040 := ⟨((P' - 1) / 5040).toNat, by omega, by omega, by omega⟩
  obtain ⟨s, s1, s2, s3⟩ := e
  have := hA s (by omega) (by omega)
  exact pw_strict rA hS (by decide) s1 s2 s3 (by omega) h
theorem pw_0 {A : Int → Int} {u : Int} (hu : 0 ≤ u) : ∀ k : Nat, pw A 0 u k = 0
  | 0 => rfl
  | k + 1 => by
    show pw A 0 u k + A k * cl 0 u k = 0
    rw [pw_0 hu k, cl_0 (Int.mul_nonneg (by omega) hu), Int.mul_zero]
    rfl
/-- the start -/
theorem exQ_ok {A : Int → Int} {S : Nat} (hA : noZ A S) (rA : rowOK A) (hS : 2 ≤ S ∧ S ≤ 16) : ∃ m : Int × Int, markR A S 0 1 (cum A S) 2 = some m ∧ lowT m.1 m.2 ∧ m.2 ∣ 5040 ∧ 0 < m.2 ∧ 0 ≤ m.1 ∧ exQ A S = m.1 * (5040 / m.2) ∧ (0 ≤ exQ A S ∧ exQ A S ≤ S * 5040) ∧ 2 * pw A (exQ A S) 5040 S = cum A S * 5040 := by
  have cb := cum_b rA S hS.2
  have z0 := pw_0 (A := A) (u := 1) (by decide) S
  obtain ⟨m, e, lo, ms, -, mp⟩ := markR_ok (row := A) (S := S) (px := 0) (py := 1) (vx := cum A S) (vy := 2) rA ⟨by omega, hS.2⟩ (by decide) (by decide) (by omega) cb.1 (by decide) (by rw [z0]; omega)
  have h1 : 1 ≤ A 0 := hA 0 (by decide) (by omega)
  have c1 : 1 ≤ cum A S := by
    have := cum_mono rA (j := 1) S (by omega) hS.2
    have e1 : cum A 1 = A 0 := by show 0 + A ((0 : Nat) : Int) = _; rw [Int.zero_add]; rfl
    omega
  have lo0 := lo
  have m2 : 0 < m.2 := by have := lo.2.1; omega
  have m1 : 0 ≤ m.1 := lo.1
  have dv : m.2 ∣ 5040 := by
    unfold markR at e
    rw [if_neg (by omega)] at e
    cases hf : fnd A (pw A 0 1 S * 2 + cum A S * 1) (1 * 2) S 0 with
    | none => rw [hf] at e; cases e
    | some s =>
      rw [hf] at e
      cases e
      have sp := fnd_spec _ _ _ hf
      have s1 : s < S := by omega
      have a1 := hA s (by omega) (by omega)
      have a2 := (rA s (by omega) (by omega)).2
      have d1 : (mkP A (pw A 0 1 S * 2 + cum A S * 1) (1 * 2) s).2 ∣ A s * (1 * 2) := ⟨gc (mkX A (pw A 0 1 S * 2 + cum A S * 1) (1 * 2) s) (mkY A (1 * 2) s), (rdD_mul _ _).symm⟩
      refine Int.dvd_trans d1 ?_
      rcases (show A s = 1 ∨ A s = 2 ∨ A s = 3 ∨ A s = 4 ∨ A s = 5 ∨ A s = 6 ∨ A s = 7 ∨ A s = 8 ∨ A s = 9 by omega) with y | y | y | y | y | y | y | y | y <;> rw [y] <;> decide
  have eQ : exQ A S = prt 5040 m.1 m.2 := by unfold exQ; rw [e]
  have pc := pw_cross (row := A) (u := 5040) (px := m.1) (py := m.2) dv m2 (by decide) S
  have ce := Int.ediv_mul_cancel dv
  refine ⟨m, e, lo0, dv, m2, m1, by rw [eQ]; rfl, ⟨?_, ?_⟩, ?_⟩
  · rw [eQ]
    exact Int.mul_nonneg m1 (Int.ediv_nonneg (by decide) (by omega))
  · rw [eQ]
    show m.1 * (5040 / m.2) ≤ _
    have := Int.mul_le_mul_of_nonneg_right ms (Int.ediv_nonneg (show 0 ≤ (5040 : Int) by decide) (show 0 ≤ m.2 by omega))
    rw [Int.mul_assoc, Int.mul_comm m.2, ce] at this
    exact this
  · rw [eQ]
    rw [z0, Int.zero_mul, Int.zero_add, Int.mul_one, Int.one_mul] at mp
    refine Int.eq_of_mul_eq_mul_right (show m.2 ≠ 0 by omega) ?_
    rw [Int.mul_assoc, pc]
    calc 2 * (5040 * pw A m.1 m.2 S) = 5040 * (pw A m.1 m.2 S * 2) := by ac_rfl
      _ = 5040 * (cum A S * m.2) := by rw [mp]
      _ = cum A S * 5040 * m.2 := by ac_rfl
theorem JJ_0 {A B : Int → Int} {S : Nat} (hA : noZ A S) (rA : rowOK A) (hS : 2 ≤ S ∧ S ≤ 16) : JJ A B S 0 (exQ A S) := by
  obtain ⟨m, -, -, -, -, -, -, h1, h2⟩ := exQ_ok hA rA hS
  exact ⟨⟨by omega, by omega⟩, h1, by rw [pw_0 (by decide)]; omega, fun h => h, fun h => h⟩
/-- the end of the cake is not reached -/
theorem JJ_in {A B : Int → Int} {S : Nat} {p q : Int} (hA : noZ A S) (rA : rowOK A) (hS : 2 ≤ S ∧ S ≤ 16) (hJ : JJ A B S p q) (he : exc B S p q ≠ 0) : p < S * 5040 ∧ q < S * 5040 := by
  obtain ⟨⟨p0, p1⟩, ⟨q0, q1⟩, h, e1, e2⟩ := hJ
  obtain ⟨m, -, -, -, -, -, -, h1, h2⟩ := exQ_ok hA rA hS
  have cb := cum_b rA S hS.2
  have h01 : 1 ≤ A 0 := hA 0 (by decide) (by omega)
  have c1 : 1 ≤ cum A S := by
    have := cum_mono rA (j := 1) S (by omega) hS.2
    have e1 : cum A 1 = A 0 := by show 0 + A ((0 : Nat) : Int) = _; rw [Int.zero_add]; rfl
    omega
  have pq : p < q := by
    by_cases z : p < q
    · exact z
    · have := pw_mono (u := 5040) rA (show q ≤ p by omega) S hS.2
      omega
  refine ⟨by omega, ?_⟩
  by_cases z : q < S * 5040
  · exact z
  · have eq : q = S * 5040 := by omega
    have all := pw_all (w := A) (P := q) (u := 5040) (by decide) S (by omega)
    have allB := pw_all (w := B) (P := q) (u := 5040) (by decide) S (by omega)
    have same : pw A p 5040 S = pw A (exQ A S) 5040 S := by omega
    have ep : p = exQ A S := by
      by_cases y : p < exQ A S
      · have := pw_lt hA rA hS.2 p0 y h1.2; omega
      · by_cases y2 : exQ A S < p
        · have := pw_lt hA rA hS.2 h1.1 y2 p1; omega
        · omega
    have z0 := pw_0 (A := B) (u := 5040) (by decide) S
    have en : exc B S p q = - exc B S 0 (exQ A S) := by
      unfold exc
      rw [allB, z0, ep]
      omega
    omega
theorem JJ_go {A B : Int → Int} {S : Nat} {p q : Int} (hA : noZ A S) (rA : rowOK A) (hS : 2 ≤ S ∧ S ≤ 16) (hJ : JJ A B S p q) (he : exc B S p q ≠ 0) (hc : ¬ crs (exc B S p q) (exc B S (p + stX A p q) (q + stY A p q))) : JJ A B S (p + stX A p q) (q + stY A p q) := by
  obtain ⟨hp, hq⟩ := JJ_in hA rA hS hJ he
  have st := stp_ok hA rA hS.2 hJ hp hq
  obtain ⟨⟨p0, p1⟩, ⟨q0, q1⟩, h, e1, e2⟩ := hJ
  obtain ⟨x0, xl, y0, yl, xy, -⟩ := st
  have g1 := pw_go (B := A) p0 hp (by omega) xl
  have g2 := pw_go (B := A) q0 hq (by omega) yl
  have ls := xl
  have lt := yl
  unfold stL at ls lt
  rw [Int.mul_comm (A (p / 5040))] at g1
  rw [Int.mul_comm (A (q / 5040))] at g2
  unfold crs at hc
  exact ⟨⟨by omega, by omega⟩, ⟨by omega, by omega⟩, by omega, fun g => e1 (by omega), fun g => e2 (by omega)⟩
