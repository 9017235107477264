/-! exact (the reference) -/
theorem absB {x y X Y : Int} (hX : 0 ≤ X) (hx : -X ≤ x ∧ x ≤ X) (hy : -Y ≤ y ∧ y ≤ Y) : -(X * Y) ≤ x * y ∧ x * y ≤ X * Y := by
  by_cases a : 0 ≤ x
  · by_cases b : 0 ≤ y
    · have := mulLB a b hx.2 hy.2
      omega
    · have := mulLB a (show 0 ≤ -y by omega) hx.2 (show -y ≤ Y by omega)
      rw [Int.mul_neg] at this
      omega
  · by_cases b : 0 ≤ y
    · have := mulLB (show 0 ≤ -x by omega) b (show -x ≤ X by omega) hy.2
      rw [Int.neg_mul] at this
      omega
    · have := mulLB (show 0 ≤ -x by omega) (show 0 ≤ -y by omega) (show -x ≤ X by omega) (show -y ≤ Y by omega)
      rw [Int.neg_mul_neg] at this
      omega
theorem stX_min {A : Int → Int} {p q : Int} (ha : 0 < A (p / 5040)) : stX A p q = if stL q * A (q / 5040) / A (p / 5040) ≤ stL p then stL q * A (q / 5040) / A (p / 5040) else stL p := by
  unfold stX
  by_cases z : stL q * A (q / 5040) < stL p * A (p / 5040)
  · have : stL q * A (q / 5040) / A (p / 5040) < stL p := Int.ediv_lt_of_lt_mul ha z
    rw [if_pos z, if_pos (by omega)]
  · have : stL p ≤ stL q * A (q / 5040) / A (p / 5040) := (Int.le_ediv_iff_mul_le ha).mpr (by omega)
    rw [if_neg z]
    split
    · omega
    · rfl
/-- the crossing, as the reference reckons it -/
theorem cross_pt {p x D x0 e W : Int} (hD : 0 < D) (hW : 0 < W) (h : x0 * W = x * e * D) : rdN (p * D + x0) (5040 * D) = rdN (p * W + x * e) (5040 * W) ∧ rdD (p * D + x0) (5040 * D) = rdD (p * W + x * e) (5040 * W) := by
  refine rd_eq (by omega) (by omega) ?_
  have e1 : (p * D + x0) * (5040 * W) = 5040 * (p * D * W) + 5040 * (x0 * W) := by
    rw [Int.add_mul]
    congr 1 <;> ac_rfl
  have e2 : (p * W + x * e) * (5040 * D) = 5040 * (p * D * W) + 5040 * (x * e * D) := by
    rw [Int.add_mul]
    congr 1 <;> ac_rfl
  rw [e1, e2, h]
section
variable {n : Int} {μ : Mem} {Q : Option AV → Lay → Mem → Prop}
theorem c_pairOf {a b c d what : Int} (ha : 0 ≤ a) (hb : 0 ≤ b) (hc : 0 < c ∧ c ≤ 1000000000000) (hd : 0 < d ∧ d ≤ 1000) (hw : 0 ≤ what ∧ what ≤ 3)
    (h : ∀ μ', frQ μ μ' → Q (some (1, exN ((rdN a c, rdD a c), (rdN b (c * d), rdD b (c * d))) what)) (L0 n) μ') : TR mX10_pairOf 2 (0, 0) [(2, 493), (1, a), (1, b), (1, c), (1, d), (0, what)] (L0 n) μ Q := by
  have m := mulLB (show 0 ≤ c by omega) (show 0 ≤ d by omega) hc.2 hd.2
  have mp : 0 < c * d := Int.mul_pos hc.1 hd.1
  unfold exN at h
  apply t_X10_pairOf (layOK n) k493
  refine ⟨fun q => ⟨⟨by omega, by omega⟩, c_X10_becomes hb mp fun μ1 f1 fr1 => ⟨rfl, rfl, by omega, c_X10_partOf fr1 ⟨_, rfl, rfl, ?_⟩⟩⟩, fun q => c_X10_becomes ha hc.1 fun μ1 f1 fr1 => ⟨rfl, rfl, by omega, c_X10_partOf fr1 ⟨_, rfl, rfl, ?_⟩⟩⟩
  · have h := h μ1 f1
    rcases (show what = 2 ∨ what = 3 by omega) with rfl | rfl
    · rw [if_neg (by decide), if_neg (by decide), if_pos rfl] at h; rw [if_pos (by decide)]; exact h
    · rw [if_neg (by decide), if_neg (by decide), if_neg (by decide)] at h; rw [if_neg (by decide)]; exact h
  · have h := h μ1 f1
    rcases (show what = 0 ∨ what = 1 by omega) with rfl | rfl
    · rw [if_pos rfl] at h; rw [if_pos (by decide)]; exact h
    · rw [if_neg (by decide), if_pos rfl] at h; rw [if_neg (by decide)]; exact h
theorem R_exact {σ : Sg} {i j what : Int} (hR : RSt μ σ) (ho : OKs σ)
    (hy : (0 ≤ i ∧ i < σ.w 1) ∧ (0 ≤ j ∧ j < σ.w 1) ∧ i ≠ j ∧ (0 ≤ what ∧ what ≤ 3) ∧ noZ (rowW σ.w i 1) (σ.w 0).toNat ∧ noZ (rowW σ.w j 1) (σ.w 0).toNat → ∀ μ', RSt μ' σ → frR' μ μ' → Q (some (1, exN (exR (rowW σ.w i 1) (rowW σ.w j 1) (σ.w 0).toNat 48 0 (exQ (rowW σ.w i 1) (σ.w 0).toNat)) what)) (L0 n) μ')
    (hn : ¬ ((0 ≤ i ∧ i < σ.w 1) ∧ (0 ≤ j ∧ j < σ.w 1) ∧ i ≠ j ∧ (0 ≤ what ∧ what ≤ 3) ∧ noZ (rowW σ.w i 1) (σ.w 0).toNat ∧ noZ (rowW σ.w j 1) (σ.w 0).toNat) → Q (some (1, NOv)) (L0 n) μ) : TR mX10_exact 3 (0, 0) [(2, 493), (0, i), (0, j), (0, what)] (L0 n) μ Q := by
  have hN := ho.1.1.2.1
  have hS := ho.1.1.1
  apply t_X10_exact (layOK n) k493
  refine c_X10_isAgent hR.1 ho.1.1 fun r1 h1 => ⟨r1, rfl, rfl, fun q => hn (fun z => by omega), fun q => c_X10_isAgent hR.1 ho.1.1 fun r2 h2 => ⟨r2, rfl, rfl, fun q2 => hn (fun z => by omega), fun q2 => ⟨fun q3 => hn (fun z => z.2.2.1 q3), fun q3 => c_X10_in fun r4 h4 => ⟨r4, rfl, rfl, fun q4 => ?_, fun q4 => hn (fun z => by omega)⟩⟩⟩⟩
  have hi : 0 ≤ i ∧ i < 5 := by omega
  have hj : 0 ≤ j ∧ j < 5 := by omega
  have hw : 0 ≤ what ∧ what ≤ 3 := by omega
  have rA := ho.1.1.2.2 i 1 hi.1 hi.2
  have rB := ho.1.1.2.2 j 1 hj.1 hj.2
  generalize hA : rowW σ.w i 1 = A at *
  generalize hB : rowW σ.w j 1 = B at *
  have eS : (((σ.w 0).toNat : Nat) : Int) = σ.w 0 := by omega
  have hSS : 2 ≤ (σ.w 0).toNat ∧ (σ.w 0).toNat ≤ 16 := by omega
  have start : noZ A (σ.w 0).toNat → noZ B (σ.w 0).toNat → TR mX10_allOf 2 (0, 0) [(2, 493), (0, i), (0, 1)] (L0 n) μ (fun r5 L6 μ7 => ∃ w8, r5 = some (1, w8) ∧ (L0 n) = L6 ∧ TR mX10_marks 2 (0, 0) [(2, 493), (0, i), (1, 0), (1, 1), (1, w8), (1, 2)] (L0 n) μ7 (fun r9 L10 μ11 => ∃ w12, r9 = some (0, w12) ∧ (L0 n) = L10 ∧ (0 ≤ (5040 : Int) ∧ 0 < (μ11 493 5)) ∧ (inL ((μ11 493 4) * (5040 / (μ11 493 5)))) ∧ TR mX10_aheadOf 1 (0, 0) [(2, 493), (0, j), (0, 1), (1, ((μ11 493 4) * (5040 / (μ11 493 5)))), (1, 5040)] (L0 n) μ11 (fun r15 L16 μ17 => ∃ w18, r15 = some (1, w18) ∧ (L0 n) = L16 ∧ TR mX10_aheadOf 1 (0, 0) [(2, 493), (0, j), (0, 1), (1, 0), (1, 5040)] (L0 n) μ17 (fun r19 L20 μ21 => ∃ w22, r19 = some (1, w22) ∧ (L0 n) = L20 ∧ (inL (w18 - w22)) ∧ TR mX10_allOf 2 (0, 0) [(2, 493), (0, j), (0, 1)] (L0 n) μ21 (fun r24 L25 μ26 => ∃ w27, r24 = some (1, w27) ∧ (L0 n) = L25 ∧ (inL (w27 * 2520)) ∧ (inL ((w18 - w22) - (w27 * 2520))) ∧ WA mX10_exact 3 (0, 0) 156 [(2, 493), (0, i), (0, j), (0, what), (1, 0), (9, 0), (1, ((μ11 493 4) * (5040 / (μ11 493 5)))), (9, 0), (1, ((w18 - w22) - (w27 * 2520))), (9, 0), (9, 0), (9, 0), (9, 0), (9, 0), (9, 0), (9, 0), (9, 0), (9, 0), (9, 0), (9, 0), (9, 0), (9, 0), (9, 0), (9, 0), (9, 0), (9, 0), (9, 0), (9, 0)] [] (L0 n) μ26 Q))))) := by
    intro zA zB
    have hy := hy ⟨by omega, by omega, q3, hw, zA, zB⟩
    have cbA := cum_b rA _ hSS.2
    have cbB := cum_b rB _ hSS.2
    obtain ⟨m, em, -, dv, m2, m1, eq, q01, -⟩ := exQ_ok zA rA hSS
    -- the search
    have key : ∀ (f c : Nat) (p q : Int) (μ2 : Mem), c + f = 48 → JJ A B (σ.w 0).toNat p q → (c : Int) ≤ p / 5040 + q / 5040 → frQ μ μ2 → exR A B (σ.w 0).toNat 48 0 (exQ A (σ.w 0).toNat) = exR A B (σ.w 0).toNat f p q → ∀ g : Int, 2 * g = exc B (σ.w 0).toNat p q → WA mX10_exact 3 (0, 0) 156 [(2, 493), (0, i), (0, j), (0, what), (1, p), (9, 0), (1, q), (9, 0), (1, g), (9, 0), (9, 0), (9, 0), (9, 0), (9, 0), (9, 0), (9, 0), (9, 0), (9, 0), (9, 0), (9, 0), (9, 0), (9, 0), (9, 0), (9, 0), (9, 0), (9, 0), (9, 0), (9, 0)] [] (L0 n) μ2 Q := by
      intro f
      induction f with
      | zero =>
        intro c p q μ2 hcf hJ hm
        obtain ⟨⟨p0, p1⟩, ⟨q0, q1⟩, -⟩ := hJ
        omega
      | succ f ih =>
        intro c p q μ2 hcf hJ hm fr er g hg
        have hJ' := hJ
        obtain ⟨⟨p0, p1⟩, ⟨q0, q1⟩, -⟩ := hJ'
        have eb1 := exc_b (p := p) (q := q) rB hSS.2
        have R2 := RWm_Q hR.1 fr
        apply s_X10_exact_156 (layOK n) k493
        refine ⟨fun z => ?_, fun z => ?_⟩
        · have e0 : exR A B (σ.w 0).toNat (f + 1) p q = ((rdN p 5040, rdD p 5040), (rdN q 5040, rdD q 5040)) := by unfold exR; rw [if_pos (by omega)]
          rw [er, e0] at hy
          refine c_pairOf p0 q0 ⟨by decide, by decide⟩ ⟨by decide, by decide⟩ hw fun μ3 f3 => ⟨_, rfl, rfl, ?_⟩
          rw [Int.mul_one]
          have F := frY_tr (frQ_Y fr) (frQ_Y f3)
          exact hy μ3 (RSt_fr hR F) (frY_R F)
        have z2 : exc B (σ.w 0).toNat p q ≠ 0 := by omega
        obtain ⟨hp, hq⟩ := JJ_in zA rA hSS hJ z2
        have st := stp_ok zA rA hSS.2 hJ hp hq
        have nx := JJ_go zA rA hSS hJ z2
        obtain ⟨x0, xl, y0, yl, xy, xo⟩ := st
        have ls : stL p = (p / 5040 + 1) * 5040 - p := rfl
        have lt : stL q = (q / 5040 + 1) * 5040 - q := rfl
        have a1 := zA (p / 5040) (by omega) (by omega)
        have a2 := (rA (p / 5040) (by omega) (by omega)).2
        have b1 := zA (q / 5040) (by omega) (by omega)
        have b2 := (rA (q / 5040) (by omega) (by omega)).2
        have s1 := rB (p / 5040) (by omega) (by omega)
        have s2 := rB (q / 5040) (by omega) (by omega)
        have mq := mulLB (show 0 ≤ stL q by omega) (show 0 ≤ A (q / 5040) by omega) (show stL q ≤ 5040 by omega) b2
        have mm := stX_min (p := p) (q := q) (A := A) (by omega)
        have g1 := pw_go (B := B) p0 hp (by omega) xl
        have g2 := pw_go (B := B) q0 hq (by omega) yl
        have er2 : exR A B (σ.w 0).toNat 48 0 (exQ A (σ.w 0).toNat) = if crs (exc B (σ.w 0).toNat p q) (exc B (σ.w 0).toNat (p + stX A p q) (q + stY A p q)) then (exP p (stX A p q) (exc B (σ.w 0).toNat p q) (exc B (σ.w 0).toNat (p + stX A p q) (q + stY A p q)), exP q (stY A p q) (exc B (σ.w 0).toNat p q) (exc B (σ.w 0).toNat (p + stX A p q) (q + stY A p q))) else exR A B (σ.w 0).toNat f (p + stX A p q) (q + stY A p q) := by
          rw [er]
          conv => lhs; unfold exR
          rw [if_neg z2]
        have ee2 : exc B (σ.w 0).toNat (p + stX A p q) (q + stY A p q) = exc B (σ.w 0).toNat p q + 2 * (B (q / 5040) * stY A p q - B (p / 5040) * stX A p q) := by
          unfold exc
          rw [g1, g2]
          omega
        have eb2 := exc_b (p := p + stX A p q) (q := q + stY A p q) rB hSS.2
        generalize hx : stX A p q = x at *
        generalize hy' : stY A p q = y at *
        generalize hsp : p / 5040 = sp at *
        generalize hsq : q / 5040 = sq at *
        -- the step that is made if nothing crosses
        have step : ¬ crs (exc B (σ.w 0).toNat p q) (exc B (σ.w 0).toNat (p + x) (q + y)) → WA mX10_exact 3 (0, 0) 370 [(2, 493), (0, i), (0, j), (0, what), (1, p), (9, 0), (1, q), (9, 0), (9, 0), (9, 0), (9, 0), (9, 0), (1, A sp), (9, 0), (1, A sq), (9, 0), (9, 0), (9, 0), (9, 0), (9, 0), (9, 0), (9, 0), (1, x), (9, 0), (9, 0), (9, 0), (9, 0), (9, 0)] [] (L0 n) μ2 Q := by
          intro nc
          rw [if_neg nc] at er2
          have mx := mulLB (show 0 ≤ x by omega) (show 0 ≤ A sp by omega) (show x ≤ 5040 by omega) a2
          have ey : x * A sp / A sq = y := by rw [xy]; exact Int.mul_ediv_cancel _ (by omega)
          apply s_X10_exact_370 (layOK n) k493
          rw [ey]
          refine ⟨⟨by omega, by omega⟩, ⟨by omega, by omega⟩, ⟨by omega, by omega⟩, ⟨by omega, by omega⟩, c_X10_aheadOf R2 ho.1.1 hj (by omega) ⟨by decide, by decide⟩ (by omega) ⟨_, rfl, rfl, c_X10_aheadOf R2 ho.1.1 hj (by omega) ⟨by decide, by decide⟩ (by omega) ⟨_, rfl, rfl, ?_⟩⟩⟩
          rw [hB]
          have t1 := pw_b144 (P := p + x) (u := 5040) rB (by decide) hSS.2
          have t2 := pw_b144 (P := q + y) (u := 5040) rB (by decide) hSS.2
          refine ⟨⟨by omega, by omega⟩, c_X10_allOf R2 ho.1.1 hj ⟨_, rfl, rfl, ?_⟩⟩
          rw [hB]
          refine ⟨⟨by omega, by omega⟩, ⟨by omega, by omega⟩, ih (c + 1) (p + x) (q + y) μ2 (by omega) (nx nc) (by omega) fr er2 _ ?_⟩
          unfold exc
          omega
        -- the slope
        have m1' := mulLB s2.1 (show 0 ≤ A sp by omega) s2.2 a2
        have m2' := mulLB s1.1 (show 0 ≤ A sq by omega) s1.2 b2
        -- where it crosses
        have cut : ∀ s0 : Int, (s0 = 1 ∧ 0 ≤ B sq * A sp - B sp * A sq ∨ s0 = -1 ∧ B sq * A sp - B sp * A sq < 0) → WA mX10_exact 3 (0, 0) 291 [(2, 493), (0, i), (0, j), (0, what), (1, p), (9, 0), (1, q), (9, 0), (1, g), (9, 0), (9, 0), (9, 0), (1, A sp), (9, 0), (1, A sq), (9, 0), (1, B sq * A sp - B sp * A sq), (9, 0), (9, 0), (9, 0), (9, 0), (9, 0), (1, x), (9, 0), (9, 0), (9, 0), (9, 0), (9, 0)] [(1, s0)] (L0 n) μ2 Q := by
          intro s0 hs0
          -- the excess behind the step, by b
          have key2 : ∃ g' : Int, exc B (σ.w 0).toNat (p + x) (q + y) = 2 * g' ∧ g' * A sq = g * A sq + x * (B sq * A sp - B sp * A sq) := by
            refine ⟨g + (B sq * y - B sp * x), by omega, ?_⟩
            rw [Int.add_mul, Int.sub_mul, Int.mul_sub]
            have t1 : B sq * y * A sq = x * (B sq * A sp) := by
              calc B sq * y * A sq = B sq * (y * A sq) := by ac_rfl
                _ = B sq * (x * A sp) := by rw [xy]
                _ = x * (B sq * A sp) := by ac_rfl
            have t2 : B sp * x * A sq = x * (B sp * A sq) := by ac_rfl
            rw [t1, t2]
          obtain ⟨g', hg', kg⟩ := key2
          generalize hF : B sq * A sp - B sp * A sq = F at *
          have bF : -162 ≤ F ∧ F ≤ 162 := by omega
          have bg : -1100000 ≤ g ∧ g ≤ 1100000 := by omega
          have h1 := absB (X := 1100000) (Y := 9) (by decide) (show -1100000 ≤ -g ∧ -g ≤ 1100000 by omega) (show -9 ≤ A sq ∧ A sq ≤ 9 by omega)
          have hs1 : -1 ≤ s0 ∧ s0 ≤ 1 := by omega
          have h2 := absB (X := 1100000 * 9) (Y := 1) (by decide) h1 hs1
          have h3 := absB (X := 5040) (Y := 162) (by decide) (show -5040 ≤ x ∧ x ≤ 5040 by omega) bF
          have h4 := absB (X := 5040 * 162) (Y := 1) (by decide) h3 hs1
          -- signs gone: D the slope's size, E what is missing, both by the sign
          have sgn : F * s0 = max F (-F) := by
            rcases hs0 with ⟨r, w⟩ | ⟨r, w⟩ <;> rw [r] <;> omega
          have D0 : 0 ≤ max F (-F) := by omega
          have e3 : x * F * s0 = x * max F (-F) := by rw [Int.mul_assoc, sgn]
          have e4 : p * F * s0 = p * max F (-F) := by rw [Int.mul_assoc, sgn]
          have e5 : q * F * s0 = q * max F (-F) := by rw [Int.mul_assoc, sgn]
          have e6 : 5040 * F * s0 = 5040 * max F (-F) := by rw [Int.mul_assoc, sgn]
          have e7 : g' * s0 * A sq = g * s0 * A sq + x * max F (-F) := by
            calc g' * s0 * A sq = g' * A sq * s0 := by ac_rfl
              _ = (g * A sq + x * F) * s0 := by rw [kg]
              _ = g * s0 * A sq + x * F * s0 := by rw [Int.add_mul]; congr 1; ac_rfl
              _ = _ := by rw [e3]
          have e8 : -g * A sq * s0 = -(g * s0 * A sq) := by
            rw [Int.neg_mul, Int.neg_mul]
            congr 1
            ac_rfl
          have gs : g * s0 = g ∧ s0 = 1 ∨ g * s0 = -g ∧ s0 = -1 := by
            rcases hs0 with ⟨r, w⟩ | ⟨r, w⟩
            · exact Or.inl ⟨by rw [r, Int.mul_one], r⟩
            · exact Or.inr ⟨by rw [r]; omega, r⟩
          have gs' : g' * s0 = g' ∧ s0 = 1 ∨ g' * s0 = -g' ∧ s0 = -1 := by
            rcases hs0 with ⟨r, w⟩ | ⟨r, w⟩
            · exact Or.inl ⟨by rw [r, Int.mul_one], r⟩
            · exact Or.inr ⟨by rw [r]; omega, r⟩
          apply s_X10_exact_291 (layOK n) k493
          rw [e3, e4, e5, e6, e8]
          rw [e3] at h4
          rw [e8] at h2
          generalize hD : max F (-F) = D at *
          generalize hG : g * s0 = G at *
          generalize hG' : g' * s0 = G' at *
          have sg : (0 < G * A sq ↔ 0 < G) ∧ (G * A sq < 0 ↔ G < 0) ∧ (0 < G' * A sq ↔ 0 < G') ∧ (G' * A sq < 0 ↔ G' < 0) := by
            have t : ∀ u : Int, (0 < u * A sq ↔ 0 < u) ∧ (u * A sq < 0 ↔ u < 0) := fun u => by
              have hb : 0 < A sq := by omega
              rcases (show 0 < u ∨ u = 0 ∨ u < 0 by omega) with w | w | w
              · have := Int.mul_pos w hb; omega
              · rw [w, Int.zero_mul]; omega
              · have := Int.mul_neg_of_neg_of_pos w hb; omega
            exact ⟨(t G).1, (t G).2, (t G').1, (t G').2⟩
          have xD := mulLB (show 0 ≤ x by omega) D0 (show x ≤ 5040 by omega) (show D ≤ 162 by omega)
          refine ⟨⟨by omega, by omega⟩, ⟨by omega, by omega⟩, ⟨by omega, by omega⟩, fun w => step ?_, fun w => ⟨⟨by omega, by omega⟩, ⟨by omega, by omega⟩, fun w2 => step ?_, fun w2 => ?_⟩⟩
          · unfold crs
            omega
          · unfold crs
            omega
          -- it crosses on the way, or just at the corner
          have Gn : G < 0 := by omega
          have Gp : 0 ≤ G' := by omega
          have Dp : 0 < D := by
            by_cases y : 0 < D
            · exact y
            · have : D = 0 := by omega
              rw [this, Int.mul_zero] at w2
              omega
          have m3 := mulLB p0 (show 0 ≤ D by omega) (show p ≤ 80640 by omega) (show D ≤ 162 by omega)
          have m4 := mulLB q0 (show 0 ≤ D by omega) (show q ≤ 80640 by omega) (show D ≤ 162 by omega)
          have m5 := mulLB m4.1 (show 0 ≤ A sq by omega) m4.2 b2
          have m6 := mulLB (show 0 ≤ -(G * A sq) by omega) (show 0 ≤ A sp by omega) (show -(G * A sq) ≤ 9900000 by omega) a2
          have m7 := absB (X := 80640) (Y := 162) (by decide) (show -80640 ≤ p ∧ p ≤ 80640 by omega) bF
          have m8 := absB (X := 80640) (Y := 162) (by decide) (show -80640 ≤ q ∧ q ≤ 80640 by omega) bF
          refine ⟨⟨by omega, by omega⟩, ⟨by omega, by omega⟩, ⟨by omega, by omega⟩, ⟨by omega, by omega⟩, ⟨by omega, by omega⟩, ⟨by omega, by omega⟩, ⟨by omega, by omega⟩, ⟨by omega, by omega⟩, ⟨by omega, by omega⟩, ⟨by omega, by omega⟩, c_pairOf (by omega) (by omega) ⟨by omega, by omega⟩ ⟨by omega, by omega⟩ hw fun μ3 f3 => ⟨_, rfl, rfl, ?_⟩⟩
          have F3 := frY_tr (frQ_Y fr) (frQ_Y f3)
          have hy := hy μ3 (RSt_fr hR F3) (frY_R F3)
          rw [er2] at hy
          have eb : 5040 * D * A sq = 5040 * (D * A sq) := by ac_rfl
          have eq1 : q * D * A sq = q * (D * A sq) := by ac_rfl
          rw [eb, eq1]
          have Db : 0 < D * A sq := Int.mul_pos Dp (by omega)
          by_cases w3 : G' = 0
          · have g0 : exc B (σ.w 0).toNat (p + x) (q + y) = 0 := by omega
            rw [if_neg (by unfold crs; omega)] at hy
            have e0 : exR A B (σ.w 0).toNat f (p + x) (q + y) = ((rdN (p + x) 5040, rdD (p + x) 5040), (rdN (q + y) 5040, rdD (q + y) 5040)) := by
              cases f with
              | zero => rfl
              | succ f => unfold exR; rw [if_pos g0]
            rw [e0] at hy
            have ex : -(G * A sq) = x * D := by rw [w3, Int.zero_mul] at e7; omega
            have c1 : rdN (p * D + -(G * A sq)) (5040 * D) = rdN (p + x) 5040 ∧ rdD (p * D + -(G * A sq)) (5040 * D) = rdD (p + x) 5040 := by
              rw [ex, ← Int.add_mul, Int.mul_comm (p + x) D, Int.mul_comm 5040 D]
              exact ⟨rdN_scale Dp, rdD_scale Dp⟩
            have c2 : rdN (q * (D * A sq) + -(G * A sq) * A sp) (5040 * (D * A sq)) = rdN (q + y) 5040 ∧ rdD (q * (D * A sq) + -(G * A sq) * A sp) (5040 * (D * A sq)) = rdD (q + y) 5040 := by
              have : x * D * A sp = y * (D * A sq) := by
                calc x * D * A sp = x * A sp * D := by ac_rfl
                  _ = y * A sq * D := by rw [xy]
                  _ = y * (D * A sq) := by ac_rfl
              rw [ex, this, ← Int.add_mul, Int.mul_comm (q + y), Int.mul_comm 5040]
              exact ⟨rdN_scale Db, rdD_scale Db⟩
            rw [c1.1, c1.2, c2.1, c2.2]
            exact hy
          · rw [if_pos (by unfold crs; omega)] at hy
            unfold exP at hy
            -- sizes
            have ae : max (exc B (σ.w 0).toNat p q) (-(exc B (σ.w 0).toNat p q)) = 2 * -G := by omega
            have ae2 : max (exc B (σ.w 0).toNat (p + x) (q + y)) (-(exc B (σ.w 0).toNat (p + x) (q + y))) = 2 * G' := by omega
            rw [ae, ae2] at hy
            have eW : (2 * -G + 2 * G') * A sq = 2 * (x * D) := by
              have : (2 * -G + 2 * G') * A sq = 2 * (G' * A sq) - 2 * (G * A sq) := by
                rw [Int.add_mul, Int.mul_assoc, Int.mul_assoc, Int.neg_mul]
                omega
              omega
            have hh : -(G * A sq) * (2 * -G + 2 * G') = x * (2 * -G) * D := by
              calc -(G * A sq) * (2 * -G + 2 * G') = -G * ((2 * -G + 2 * G') * A sq) := by rw [← Int.neg_mul]; ac_rfl
                _ = -G * (2 * (x * D)) := by rw [eW]
                _ = x * (2 * -G) * D := by ac_rfl
            have hh2 : -(G * A sq) * A sp * (2 * -G + 2 * G') = y * (2 * -G) * (D * A sq) := by
              calc -(G * A sq) * A sp * (2 * -G + 2 * G') = -(G * A sq) * (2 * -G + 2 * G') * A sp := by ac_rfl
                _ = x * (2 * -G) * D * A sp := by rw [hh]
                _ = x * A sp * ((2 * -G) * D) := by ac_rfl
                _ = y * A sq * ((2 * -G) * D) := by rw [xy]
                _ = y * (2 * -G) * (D * A sq) := by ac_rfl
            have c1 := cross_pt (p := p) Dp (show 0 < 2 * -G + 2 * G' by omega) hh
            have c2 := cross_pt (p := q) Db (show 0 < 2 * -G + 2 * G' by omega) hh2
            rw [c1.1, c1.2, c2.1, c2.2]
            exact hy
        refine ⟨p0, ⟨by omega, by omega⟩, q0, ⟨by omega, by omega⟩, ?_⟩
        refine c_X10_worthOf R2 hi ⟨by omega, by omega⟩ ⟨_, rfl, rfl, c_X10_worthOf R2 hi ⟨by omega, by omega⟩ ⟨_, rfl, rfl, c_X10_worthOf R2 hj ⟨by omega, by omega⟩ ⟨_, rfl, rfl, ?_⟩⟩⟩
        rw [hA, hB]
        refine ⟨⟨by omega, by omega⟩, c_X10_worthOf R2 hj ⟨by omega, by omega⟩ ⟨_, rfl, rfl, ?_⟩⟩
        rw [hB, ← ls, ← lt]
        have sel : ∀ v : Int, v = x → (0 ≤ B sq * A sp - B sp * A sq → WA mX10_exact 3 (0, 0) 291 [(2, 493), (0, i), (0, j), (0, what), (1, p), (9, 0), (1, q), (9, 0), (1, g), (9, 0), (9, 0), (9, 0), (1, A sp), (9, 0), (1, A sq), (9, 0), (1, B sq * A sp - B sp * A sq), (9, 0), (9, 0), (9, 0), (9, 0), (9, 0), (1, v), (9, 0), (9, 0), (9, 0), (9, 0), (9, 0)] [(1, 1)] (L0 n) μ2 Q) ∧ (¬ 0 ≤ B sq * A sp - B sp * A sq → WA mX10_exact 3 (0, 0) 291 [(2, 493), (0, i), (0, j), (0, what), (1, p), (9, 0), (1, q), (9, 0), (1, g), (9, 0), (9, 0), (9, 0), (1, A sp), (9, 0), (1, A sq), (9, 0), (1, B sq * A sp - B sp * A sq), (9, 0), (9, 0), (9, 0), (9, 0), (9, 0), (1, v), (9, 0), (9, 0), (9, 0), (9, 0), (9, 0)] [(1, (-1))] (L0 n) μ2 Q) := by
          intro v hv
          rw [hv]
          exact ⟨fun w => cut 1 (Or.inl ⟨rfl, w⟩), fun w => cut (-1) (Or.inr ⟨rfl, by omega⟩)⟩
        refine ⟨⟨by omega, by omega⟩, ⟨by omega, by omega⟩, ⟨by omega, by omega⟩, ⟨by omega, by omega⟩, ⟨by omega, by omega⟩, ⟨by omega, by omega⟩, ⟨by omega, by omega⟩, ⟨by omega, by omega⟩, ⟨by omega, by omega⟩, ⟨by omega, by omega⟩, fun w => sel _ ?_, fun w => sel _ ?_⟩
        · rw [if_pos w] at mm; exact mm.symm
        · rw [if_neg w] at mm; exact mm.symm
    refine c_X10_allOf hR.1 ho.1.1 hi ⟨_, rfl, rfl, ?_⟩
    rw [hA]
    have r12 : rdN 1 2 = 1 := by decide
    refine c_X10_marks (p := (0, 1)) (v := (cum A (σ.w 0).toNat, 2)) (u := 2) hR.1 ho.1.1 hi ⟨by decide, by decide, by show (0 : Int) ≤ σ.w 0 * 1; omega⟩ ⟨cbA.1, by show (0 : Int) < 2; decide⟩ ⟨by decide, by decide⟩ (Int.one_dvd _) (Int.dvd_refl _) (by show cum A (σ.w 0).toNat * rdN 1 2 ≤ _; rw [r12]; omega) (fun m' e' μ1 f1 fr1 => ⟨_, rfl, rfl, ?_⟩) (fun e' => ?_)
    · rw [hA] at e'
      have : m' = m := Option.some.inj (e'.symm.trans em)
      subst this
      rw [fr1.1, fr1.2, ← eq]
      have R1 := RWm_Q hR.1 f1
      refine ⟨⟨by decide, m2⟩, ⟨by omega, by omega⟩, c_X10_aheadOf R1 ho.1.1 hj (by omega) ⟨by decide, by decide⟩ (by omega) ⟨_, rfl, rfl, c_X10_aheadOf R1 ho.1.1 hj (by decide) ⟨by decide, by decide⟩ (by omega) ⟨_, rfl, rfl, ?_⟩⟩⟩
      rw [hB]
      have t1 := pw_b144 (P := 0) (u := 5040) rB (by decide) hSS.2
      have t2 := pw_b144 (P := exQ A (σ.w 0).toNat) (u := 5040) rB (by decide) hSS.2
      refine ⟨⟨by omega, by omega⟩, c_X10_allOf R1 ho.1.1 hj ⟨_, rfl, rfl, ?_⟩⟩
      rw [hB]
      refine ⟨⟨by omega, by omega⟩, ⟨by omega, by omega⟩, ?_⟩
      have := key 48 0 0 (exQ A (σ.w 0).toNat) μ1 (by omega) (JJ_0 zA rA hSS) (by omega) f1 rfl (pw B (exQ A (σ.w 0).toNat) 5040 (σ.w 0).toNat - pw B 0 5040 (σ.w 0).toNat - cum B (σ.w 0).toNat * 2520) (by unfold exc; omega)
      exact this
    · rw [hA] at e'
      exact absurd (e'.symm.trans em) (by simp)
  have look : ∀ (d k : Nat), k + d = (σ.w 0).toNat → noZ A k → noZ B k → WA mX10_exact 3 (0, 0) 40 [(2, 493), (0, i), (0, j), (0, what), (0, (k : Int)), (9, 0), (9, 0), (9, 0), (9, 0), (9, 0), (9, 0), (9, 0), (9, 0), (9, 0), (9, 0), (9, 0), (9, 0), (9, 0), (9, 0), (9, 0), (9, 0), (9, 0), (9, 0), (9, 0), (9, 0), (9, 0), (9, 0), (9, 0)] [] (L0 n) μ Q := by
    intro d
    induction d with
    | zero =>
      intro k hk zA zB
      have hk : k = (σ.w 0).toNat := by omega
      subst hk
      apply s_X10_exact_40 (layOK n) k493
      exact c_X10_strips hR.1 ho.1.1 ⟨_, rfl, rfl, fun _ => start zA zB, fun z => absurd (show σ.w 0 ≤ (((σ.w 0).toNat : Nat) : Int) by omega) z⟩
    | succ d ih =>
      intro k hk zA zB
      have w1 := rA k (by omega) (by omega)
      have w2 := rB k (by omega) (by omega)
      apply s_X10_exact_40 (layOK n) k493
      refine c_X10_strips hR.1 ho.1.1 ⟨_, rfl, rfl, fun z => absurd z (by omega), fun _ => c_X10_worthOf hR.1 hi ⟨by omega, by omega⟩ ⟨_, rfl, rfl, fun z => hn (fun y => ?_), fun z => c_X10_worthOf hR.1 hj ⟨by omega, by omega⟩ ⟨_, rfl, rfl, fun z2 => ⟨⟨by omega, by omega⟩, ih (k + 1) (by omega) (fun s s0 s1 => ?_) (fun s s0 s1 => ?_)⟩, fun z2 => hn (fun y => ?_)⟩⟩⟩
      · rw [hA] at z
        have := y.2.2.2.2.1 k (by omega) (by omega)
        omega
      · rw [hA] at z
        by_cases y : s = k
        · rw [y]; omega
        · exact zA s s0 (by omega)
      · rw [hB] at z2
        by_cases y : s = k
        · rw [y]; omega
        · exact zB s s0 (by omega)
      · rw [hB] at z2
        have := y.2.2.2.2.2 k (by omega) (by omega)
        omega
  exact look (σ.w 0).toNat 0 (by omega) (fun s s0 s1 => absurd s1 (by omega)) (fun s s0 s1 => absurd s1 (by omega))
end
