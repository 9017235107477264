/-! the desk: begin, worth, tells, honest, strip, span, mark (the class) -/
def frsh (s a : Int) : Dv := fun i => if i = 0 then s else if i = 1 then a else if i = 3 then 1 else if 5 ≤ i ∧ i < 165 then 1 else 0
def updW (w : Dv) (i v : Int) : Dv := fun j => if j = i then v else w j
def honK (w : Dv) (a : Int) (k : Int) : Dv := fun i => if 85 + 16 * a ≤ i ∧ i < 85 + 16 * a + k then w (i - 80) else w i
def honC (w : Dv) (a : Int) : Nat → Int
  | 0 => 0
  | k + 1 => honC w a k + if w (85 + 16 * a + k) = w (5 + 16 * a + k) then 0 else 1
theorem honC_b {w : Dv} {a : Int} : ∀ k : Nat, 0 ≤ honC w a k ∧ honC w a k ≤ k
  | 0 => by simp [honC]
  | k + 1 => by
    have := honC_b (w := w) (a := a) k
    unfold honC
    split <;> omega
theorem hld_congr {row : Int → Int} {S : Nat} {w w' : Dv} {a : Int} (ha : 0 ≤ a) (h : ∀ i : Int, i = 3 ∨ 165 ≤ i → w' i = w i) : hld row S w' a = hld row S w a := by
  unfold hld hldK
  rw [h 3 (Or.inl rfl), h (165 + a) (by omega), h (170 + 8 * a + 4 * 0) (by omega), h (171 + 8 * a + 4 * 0) (by omega), h (172 + 8 * a + 4 * 0) (by omega), h (173 + 8 * a + 4 * 0) (by omega), h (170 + 8 * a + 4 * 1) (by omega), h (171 + 8 * a + 4 * 1) (by omega), h (172 + 8 * a + 4 * 1) (by omega), h (173 + 8 * a + 4 * 1) (by omega)]
theorem sumH_congr {row : Int → Int} {S : Nat} {w w' : Dv} (h : ∀ i : Int, i = 3 ∨ 165 ≤ i → w' i = w i) : ∀ k : Nat, sumH row S w' k = sumH row S w k
  | 0 => rfl
  | k + 1 => by
    show sumH row S w' k + hld row S w' k = sumH row S w k + hld row S w k
    rw [sumH_congr h k, hld_congr (by omega) h]
theorem WF_congr {S : Int} {w w' : Dv} (hw : WF S w) (h : ∀ i : Int, i = 3 ∨ i = 4 ∨ 165 ≤ i → w' i = w i) : WF S w' := by
  obtain ⟨h1, h2, h3⟩ := hw
  have e3 := h 3 (Or.inl rfl)
  have e4 := h 4 (Or.inr (Or.inl rfl))
  refine ⟨by unfold WFu; rw [e3]; exact h1, ?_, fun a a0 a1 => ?_⟩
  · unfold WFe
    rw [e3, e4]
    refine ⟨h2.1, h2.2.1, fun k k0 k1 => ?_⟩
    rw [h _ (by omega), h (211 + 6 * k) (by omega), h (212 + 6 * k) (by omega), h (213 + 6 * k) (by omega), h (214 + 6 * k) (by omega), h (215 + 6 * k) (by omega)]
    exact h2.2.2 k k0 k1
  · rw [h (165 + a) (by omega), e3]
    refine ⟨(h3 a a0 a1).1, fun k k0 k1 => ?_⟩
    rw [h (170 + 8 * a + 4 * k) (by omega), h (171 + 8 * a + 4 * k) (by omega), h (172 + 8 * a + 4 * k) (by omega), h (173 + 8 * a + 4 * k) (by omega)]
    exact (h3 a a0 a1).2 k k0 k1
theorem DR_congr {μ : Mem} {D : Int} {w w' : Dv} (hr : DR μ D w) (h : ∀ i : Int, i = 3 ∨ i = 4 ∨ 165 ≤ i → w' i = w i) : DR μ D w' := by
  obtain ⟨r1, ⟨r2, r3⟩, r4, r5⟩ := hr
  have e3 := h 3 (Or.inl rfl)
  have e4 := h 4 (Or.inr (Or.inl rfl))
  refine ⟨by unfold DRu; rw [e3]; exact r1, ⟨by rw [e4]; exact r2, fun k k0 k1 => ?_⟩, fun a a0 a1 => by rw [h (165 + a) (by omega)]; exact r4 a a0 a1, fun a k a0 a1 k0 k1 => ?_⟩
  · rw [e4] at k1
    rw [h (210 + 6 * k) (by omega), h (211 + 6 * k) (by omega), h (212 + 6 * k) (by omega), h (213 + 6 * k) (by omega), h (214 + 6 * k) (by omega), h (215 + 6 * k) (by omega)]
    exact r3 k k0 k1
  · rw [h (165 + a) (by omega)] at k1
    rw [h (170 + 8 * a + 4 * k) (by omega), h (171 + 8 * a + 4 * k) (by omega), h (172 + 8 * a + 4 * k) (by omega), h (173 + 8 * a + 4 * k) (by omega)]
    exact r5 a k a0 a1 k0 k1
/-- only worths are new -/
theorem WK_low {w w' : Dv} (hw : WK w) (h : ∀ i : Int, i < 5 ∨ 165 ≤ i → w' i = w i) (hr : ∀ i : Int, 5 ≤ i → i < 165 → 0 ≤ w' i ∧ w' i ≤ 9) : WK w' := by
  obtain ⟨⟨h1, h2, h3⟩, h4, h5, h6, h7, h8⟩ := hw
  have e0 := h 0 (Or.inl (by decide))
  have e1 := h 1 (Or.inl (by decide))
  have e2 := h 2 (Or.inl (by decide))
  have e3 := h 3 (Or.inl (by decide))
  refine ⟨⟨by rw [e0]; exact h1, by rw [e1]; exact h2, fun a how a0 a1 s s0 s1 => ?_⟩, by rw [e2]; exact h4, by rw [e0]; exact WF_congr h5 (fun i hi => h i (by omega)), fun row hrow => ?_, fun a a0 a1 => ?_, C3_of h8 (h 4 (Or.inl (by decide))) (fun i i0 => h i (Or.inr (by omega)))⟩
  · unfold rowW
    split
    · exact hr _ (by omega) (by omega)
    · exact hr _ (by omega) (by omega)
  · rw [e0, e3, sumH_congr (fun i hi => h i (by omega)) 5]
    exact h6 row hrow
  · rw [e1] at a0
    rw [h _ (by omega), h7 a a0 a1]
theorem WK_row {w : Dv} (h : WK w) : ∀ i : Int, 5 ≤ i → i < 165 → 0 ≤ w i ∧ w i ≤ 9 := fun i i0 i1 => by
  by_cases q : i < 85
  · have := h.1.2.2 ((i - 5) / 16) 0 (by omega) (by omega) ((i - 5) % 16) (by omega) (by omega)
    unfold rowW at this
    rw [if_pos rfl, show 5 + 16 * ((i - 5) / 16) + (i - 5) % 16 = i by omega] at this
    exact this
  · have := h.1.2.2 ((i - 85) / 16) 1 (by omega) (by omega) ((i - 85) % 16) (by omega) (by omega)
    unfold rowW at this
    rw [if_neg (by decide), show 85 + 16 * ((i - 85) / 16) + (i - 85) % 16 = i by omega] at this
    exact this
theorem frsh_WK {s a : Int} (hs : 2 ≤ s ∧ s ≤ 16) (ha : 2 ≤ a ∧ a ≤ 5) : WK (frsh s a) := by
  have e3 : frsh s a 3 = 1 := rfl
  have e4 : frsh s a 4 = 0 := rfl
  have em : ∀ b : Int, 0 ≤ b → b < 5 → frsh s a (165 + b) = 0 := fun b b0 b1 => by unfold frsh; rw [if_neg (by omega), if_neg (by omega), if_neg (by omega), if_neg (by omega)]
  refine ⟨⟨hs, ha, fun b how b0 b1 t t0 t1 => ?_⟩, Or.inl rfl, ⟨⟨by omega, by omega⟩, ⟨by omega, by omega, fun k k0 k1 => by omega⟩, fun b b0 b1 => ⟨by have := em b b0 b1; omega, fun k k0 k1 => by have := em b b0 b1; omega⟩⟩, fun row hrow => ?_, fun b b0 b1 => em b (by have : frsh s a 1 = a := rfl; omega) b1, C3_le (C3_0 e4) (by decide)⟩
  · unfold rowW frsh
    split <;> rw [if_neg (by omega), if_neg (by omega), if_neg (by omega), if_pos (by omega)] <;> decide
  · rw [sumH_none em 5 (by omega), e3, Int.mul_one]
    exact (cum_b hrow _ (by show (s.toNat) ≤ 16; omega)).1
theorem upd_WK {w : Dv} {i v : Int} (h : WK w) (hi : 5 ≤ i ∧ i < 165) (hv : 0 ≤ v ∧ v ≤ 9) : WK (updW w i v) := WK_low h (fun j hj => by unfold updW; rw [if_neg (by omega)]) (fun j j0 j1 => by
  unfold updW
  split
  · exact hv
  · exact WK_row h j j0 j1)
theorem honK_WK {w : Dv} {a k : Int} (h : WK w) (ha : 0 ≤ a ∧ a < 5) (hk : 0 ≤ k ∧ k ≤ 16) : WK (honK w a k) := WK_low h (fun j hj => by unfold honK; rw [if_neg (by omega)]) (fun j j0 j1 => by
  unfold honK
  split
  · exact WK_row h _ (by omega) (by omega)
  · exact WK_row h j j0 j1)
theorem OK_w {σ : Sg} {w : Dv} (h : OKs σ) (hw : WK w) : OKs (σ.setW w) := ⟨hw, h.2⟩
section
variable {n : Int} {μ : Mem} {Q : Option AV → Lay → Mem → Prop}
theorem C_begin {σ : Sg} {s a : Int} (hC : CSt μ σ) (ho : OKs σ)
    (hy : (2 ≤ s ∧ s ≤ 16) ∧ (2 ≤ a ∧ a ≤ 5) → ∀ μ', CSt μ' (σ.setW (frsh s a)) → frC μ μ' → Q (some (0, σ.w 1)) (L0 n) μ')
    (hn : ¬ ((2 ≤ s ∧ s ≤ 16) ∧ (2 ≤ a ∧ a ≤ 5)) → Q (some (0, -1)) (L0 n) μ) : TR mX9_begin 1 (0, 0) [(2, 1), (0, s), (0, a)] (L0 n) μ Q := by
  apply t_X9_begin (layOK n) k1
  rw [rf_desk.1, rf_desk.2.2.2.1, hC.1.2.1]
  refine ⟨fun q => hn (by omega), fun q => ⟨fun q2 => hn (by omega), fun q2 => ⟨fun q3 => hn (by omega), fun q3 => ⟨fun q4 => ?_, fun q4 => hn (by omega)⟩⟩⟩⟩
  refine c_X0_lay k2 fun μ1 g1 g2 g3 g4 => ⟨rfl, rfl, c_X1_clear k41 fun μ2 f1 f2 f3 f4 f5 f6 => ⟨rfl, rfl, ?_⟩⟩
  have f6' : ∀ x i, x ≠ 41 → x ≠ 43 → μ2 x i = μ1 x i := f6
  have o : ∀ x i, x ≠ 2 → ¬ inRow 2 x → x ≠ 41 → x ≠ 43 → μ2 x i = μ x i := fun x i h1 h2 h3 h4 => (f6' x i h3 h4).trans (g4 x i h1 h2)
  unfold inRow at g3 o
  refine hy (by omega) μ2 (CSt_w hC ho ⟨?_, ?_, fun b t b0 b1 t0 t1 => ?_⟩ ⟨f1, ?_, ⟨?_, fun k k0 k1 => ?_⟩, fun b b0 b1 => ?_, fun b k b0 b1 k0 k1 => ?_⟩ (fun x i hx => o x i (by omega) (by omega) (by omega) (by omega))) (fun x i hx => o x i (by omega) (by omega) (by omega) (by omega))
  · rw [f6' 2 0 (by decide) (by decide), g1]; rfl
  · rw [f6' 2 1 (by decide) (by decide), g2]; rfl
  · rw [f6' _ t (by omega) (by omega), f6' _ t (by omega) (by omega), g3 _ t (by omega) t0 t1, g3 _ t (by omega) t0 t1]
    unfold frsh
    rw [if_neg (by omega), if_neg (by omega), if_neg (by omega), if_pos (by omega), if_neg (by omega), if_neg (by omega), if_neg (by omega), if_pos (by omega)]
    exact ⟨rfl, rfl⟩
  · show μ2 41 2 = _
    rw [f3]; rfl
  · rw [f4]; rfl
  · have : frsh s a 4 = 0 := rfl
    omega
  · rw [f5 b b0 b1]
    unfold frsh
    rw [if_neg (by omega), if_neg (by omega), if_neg (by omega), if_neg (by omega)]
  · have : frsh s a (165 + b) = 0 := by unfold frsh; rw [if_neg (by omega), if_neg (by omega), if_neg (by omega), if_neg (by omega)]
    omega
/-- a told worth is new -/
theorem CSt_told {σ : Sg} {a s v : Int} (hC : CSt μ σ) (ho : OKs σ) (ha : 0 ≤ a ∧ a < 5) (hs : 0 ≤ s ∧ s < 16) (hv : 0 ≤ v ∧ v ≤ 9) : CSt (up μ (10 + a) s v) (σ.setW (updW σ.w (85 + 16 * a + s) v)) := by
  have cn := WK_cn ho.1
  have f : ∀ x i, x ≠ 10 + a ∨ i ≠ s → up μ (10 + a) s v x i = μ x i := fun x i h => up_ne h
  refine CSt_w hC ho ⟨?_, ?_, fun b t b0 b1 t0 t1 => ?_⟩ ⟨?_, ?_⟩ (fun x i hx => f x i (by omega))
  · rw [f 2 0 (by omega), hC.1.1]; unfold updW; rw [if_neg (by omega)]
  · rw [f 2 1 (by omega), hC.1.2.1]; unfold updW; rw [if_neg (by omega)]
  · obtain ⟨e1, e2⟩ := hC.1.2.2 b t b0 b1 t0 t1
    refine ⟨?_, ?_⟩
    · rw [f _ t (by omega), e1]; unfold updW; rw [if_neg (by omega)]
    · by_cases z : b = a ∧ t = s
      · obtain ⟨rfl, rfl⟩ := z
        rw [show (2 : Int) + 8 + b = 10 + b by omega, up_eq]; unfold updW; rw [if_pos rfl]
      · rw [f _ t (by omega), e2]; unfold updW; rw [if_neg (by omega)]
  · rw [f 41 0 (by omega), hC.2.1.1]; unfold updW; rw [if_neg (by omega)]
  · refine DR_frame (DR_congr hC.2.1.2 (fun i hi => by unfold updW; rw [if_neg (by omega)])) ?_ (fun b b0 b1 => ?_) (fun x i hx => f x i (by omega))
    · unfold updW; rw [if_neg (by omega)]; exact cn.1.2
    · unfold updW; rw [if_neg (by omega)]; exact (cn.2 b b0 b1).2
theorem CSt_own {σ : Sg} {a s v : Int} (hC : CSt μ σ) (ho : OKs σ) (ha : 0 ≤ a ∧ a < 5) (hs : 0 ≤ s ∧ s < 16) (hv : 0 ≤ v ∧ v ≤ 9) : CSt (up μ (4 + a) s v) (σ.setW (updW σ.w (5 + 16 * a + s) v)) := by
  have cn := WK_cn ho.1
  have f : ∀ x i, x ≠ 4 + a ∨ i ≠ s → up μ (4 + a) s v x i = μ x i := fun x i h => up_ne h
  refine CSt_w hC ho ⟨?_, ?_, fun b t b0 b1 t0 t1 => ?_⟩ ⟨?_, ?_⟩ (fun x i hx => f x i (by omega))
  · rw [f 2 0 (by omega), hC.1.1]; unfold updW; rw [if_neg (by omega)]
  · rw [f 2 1 (by omega), hC.1.2.1]; unfold updW; rw [if_neg (by omega)]
  · obtain ⟨e1, e2⟩ := hC.1.2.2 b t b0 b1 t0 t1
    refine ⟨?_, ?_⟩
    · by_cases z : b = a ∧ t = s
      · obtain ⟨rfl, rfl⟩ := z
        rw [show (2 : Int) + 2 + b = 4 + b by omega, up_eq]; unfold updW; rw [if_pos rfl]
      · rw [f _ t (by omega), e1]; unfold updW; rw [if_neg (by omega)]
    · rw [f _ t (by omega), e2]; unfold updW; rw [if_neg (by omega)]
  · rw [f 41 0 (by omega), hC.2.1.1]; unfold updW; rw [if_neg (by omega)]
  · refine DR_frame (DR_congr hC.2.1.2 (fun i hi => by unfold updW; rw [if_neg (by omega)])) ?_ (fun b b0 b1 => ?_) (fun x i hx => f x i (by omega))
    · unfold updW; rw [if_neg (by omega)]; exact cn.1.2
    · unfold updW; rw [if_neg (by omega)]; exact (cn.2 b b0 b1).2
theorem own_rf {a : Int} (ha : 0 ≤ a ∧ a < 5) : rf (L0 n) (rf (L0 n) 2 2) a = 4 + a := by
  rw [(ck_rf (Or.inl rfl)).1, (ck_rows (Or.inl rfl) ha).1]
  omega
theorem C_worth {σ : Sg} {a s v : Int} (hC : CSt μ σ) (ho : OKs σ)
    (hy : (0 ≤ a ∧ a < σ.w 1) ∧ (0 ≤ s ∧ s < σ.w 0) ∧ (0 ≤ v ∧ v ≤ 9) → ∀ μ', CSt μ' (σ.setW (updW (updW σ.w (5 + 16 * a + s) v) (85 + 16 * a + s) v)) → frC μ μ' → Q (some (0, σ.w (5 + 16 * a + s))) (L0 n) μ')
    (hn : ¬ ((0 ≤ a ∧ a < σ.w 1) ∧ (0 ≤ s ∧ s < σ.w 0) ∧ (0 ≤ v ∧ v ≤ 9)) → Q (some (0, -1)) (L0 n) μ) : TR mX9_worth 1 (0, 0) [(2, 1), (0, a), (0, s), (0, v)] (L0 n) μ Q := by
  have hS := ho.1.1.1
  have hN := ho.1.1.2.1
  apply t_X9_worth (layOK n) k1
  rw [rf_desk.1]
  refine c_hasA k2 hC.1 fun r1 h1 => ⟨r1, rfl, rfl, fun q => hn (by omega), fun q => c_hasS k2 hC.1 fun r2 h2 => ⟨r2, rfl, rfl, fun q2 => hn (by omega), fun q2 => c_X9_isWorth fun r3 h3 => ⟨r3, rfl, rfl, fun q3 => ?_, fun q3 => hn (by omega)⟩⟩⟩
  have ha : 0 ≤ a ∧ a < 5 := by omega
  have hs : 0 ≤ s ∧ s < 16 := by omega
  rw [own_rf ha, told_rf ha]
  have e := (hC.1.2.2 a s ha.1 ha.2 hs.1 hs.2).1
  rw [show (2 : Int) + 2 + a = 4 + a by omega] at e
  rw [e]
  have hv : 0 ≤ v ∧ v ≤ 9 := by omega
  have c1 := CSt_own hC ho ha hs hv
  have c2 := CSt_told c1 (OK_w ho (upd_WK ho.1 (show 5 ≤ 5 + 16 * a + s ∧ 5 + 16 * a + s < 165 by omega) hv)) ha hs hv
  exact ⟨ha, hs, hy (by omega) _ c2 (fun x i hx => by rw [up_ne (by omega), up_ne (by omega)])⟩
theorem C_tells {σ : Sg} {a s v : Int} (hC : CSt μ σ) (ho : OKs σ)
    (hy : (0 ≤ a ∧ a < σ.w 1) ∧ (0 ≤ s ∧ s < σ.w 0) ∧ (0 ≤ v ∧ v ≤ 9) → ∀ μ', CSt μ' (σ.setW (updW σ.w (85 + 16 * a + s) v)) → frC μ μ' → Q (some (0, σ.w (85 + 16 * a + s))) (L0 n) μ')
    (hn : ¬ ((0 ≤ a ∧ a < σ.w 1) ∧ (0 ≤ s ∧ s < σ.w 0) ∧ (0 ≤ v ∧ v ≤ 9)) → Q (some (0, -1)) (L0 n) μ) : TR mX9_tells 1 (0, 0) [(2, 1), (0, a), (0, s), (0, v)] (L0 n) μ Q := by
  have hS := ho.1.1.1
  have hN := ho.1.1.2.1
  apply t_X9_tells (layOK n) k1
  rw [rf_desk.1]
  refine c_hasA k2 hC.1 fun r1 h1 => ⟨r1, rfl, rfl, fun q => hn (by omega), fun q => c_hasS k2 hC.1 fun r2 h2 => ⟨r2, rfl, rfl, fun q2 => hn (by omega), fun q2 => c_X9_isWorth fun r3 h3 => ⟨r3, rfl, rfl, fun q3 => ?_, fun q3 => hn (by omega)⟩⟩⟩
  have ha : 0 ≤ a ∧ a < 5 := by omega
  have hs : 0 ≤ s ∧ s < 16 := by omega
  rw [told_rf ha]
  have e := (hC.1.2.2 a s ha.1 ha.2 hs.1 hs.2).2
  rw [show (2 : Int) + 8 + a = 10 + a by omega] at e
  rw [e]
  exact ⟨ha, hs, hy (by omega) _ (CSt_told hC ho ha hs (by omega)) (fun x i hx => by rw [up_ne (by omega)])⟩
theorem honK_step {w : Dv} {a : Int} {k : Int} (hk : 0 ≤ k) : honK w a (k + 1) = updW (honK w a k) (85 + 16 * a + k) (w (5 + 16 * a + k)) := by
  funext i
  show (if 85 + 16 * a ≤ i ∧ i < 85 + 16 * a + (k + 1) then w (i - 80) else w i) = (if i = 85 + 16 * a + k then w (5 + 16 * a + k) else (if 85 + 16 * a ≤ i ∧ i < 85 + 16 * a + k then w (i - 80) else w i))
  by_cases z : i = 85 + 16 * a + k
  · rw [if_pos (by omega), if_pos z, z, show 85 + 16 * a + k - 80 = 5 + 16 * a + k by omega]
  · rw [if_neg z]
    by_cases y : 85 + 16 * a ≤ i ∧ i < 85 + 16 * a + k
    · rw [if_pos y, if_pos (by omega)]
    · rw [if_neg y, if_neg (by omega)]
theorem honK_0 {w : Dv} {a : Int} : honK w a 0 = w := by
  funext i
  unfold honK
  rw [if_neg (by omega)]
theorem setW_self {σ : Sg} : σ.setW σ.w = σ := rfl
theorem C_honest {σ : Sg} {a : Int} (hC : CSt μ σ) (ho : OKs σ)
    (hy : (0 ≤ a ∧ a < σ.w 1) → ∀ μ', CSt μ' (σ.setW (honK σ.w a (σ.w 0))) → frC μ μ' → Q (some (0, honC σ.w a (σ.w 0).toNat)) (L0 n) μ')
    (hn : ¬ (0 ≤ a ∧ a < σ.w 1) → Q (some (0, -1)) (L0 n) μ) : TR mX9_honest 1 (0, 0) [(2, 1), (0, a)] (L0 n) μ Q := by
  have hS := ho.1.1.1
  have hN := ho.1.1.2.1
  apply t_X9_honest (layOK n) k1
  rw [rf_desk.1]
  refine c_hasA k2 hC.1 fun r1 h1 => ⟨r1, rfl, rfl, fun q => ?_, fun q => hn (by omega)⟩
  have ha : 0 ≤ a ∧ a < 5 := by omega
  have key : ∀ (d k : Nat), k + d = (σ.w 0).toNat → ∀ μ1, CSt μ1 (σ.setW (honK σ.w a k)) → frC μ μ1 → WA mX9_honest 1 (0, 0) 17 [(2, 1), (0, a), (0, honC σ.w a k), (0, (k : Int))] [] (L0 n) μ1 Q := by
    intro d
    induction d with
    | zero =>
      intro k hk μ1 c1 f1
      have hk : k = (σ.w 0).toNat := by omega
      have ek : (k : Int) = σ.w 0 := by omega
      have e0 : (σ.setW (honK σ.w a k)).w 0 = σ.w 0 := by show honK σ.w a k 0 = _; unfold honK; rw [if_neg (by omega)]
      apply s_X9_honest_17 (layOK n) k1
      rw [rf_desk.1, c1.1.1, e0]
      rw [ek] at c1
      rw [hk]
      refine ⟨fun _ => hy (by omega) μ1 c1 f1, fun q => absurd (show σ.w 0 ≤ (((σ.w 0).toNat : Nat) : Int) by omega) q⟩
    | succ d ih =>
      intro k hk μ1 c1 f1
      have hb := honC_b (w := σ.w) (a := a) k
      have o1 : OKs (σ.setW (honK σ.w a k)) := OK_w ho (honK_WK ho.1 ha (by omega))
      have e0 : (σ.setW (honK σ.w a k)).w 0 = σ.w 0 := by show honK σ.w a k 0 = _; unfold honK; rw [if_neg (by omega)]
      have hs : 0 ≤ (k : Int) ∧ (k : Int) < 16 := by omega
      obtain ⟨e1, e2⟩ := c1.1.2.2 a k ha.1 ha.2 hs.1 hs.2
      have g1 : (σ.setW (honK σ.w a k)).w (5 + 16 * a + k) = σ.w (5 + 16 * a + k) := by show honK σ.w a k _ = _; unfold honK; rw [if_neg (by omega)]
      have g2 : (σ.setW (honK σ.w a k)).w (85 + 16 * a + k) = σ.w (85 + 16 * a + k) := by show honK σ.w a k _ = _; unfold honK; rw [if_neg (by omega)]
      rw [show (2 : Int) + 2 + a = 4 + a by omega, g1] at e1
      rw [show (2 : Int) + 8 + a = 10 + a by omega, g2] at e2
      have hv := WK_row ho.1 (5 + 16 * a + k) (by omega) (by omega)
      have st := honK_step (w := σ.w) (a := a) (k := (k : Int)) (by omega)
      have ec : honC σ.w a (k + 1) = honC σ.w a k + if σ.w (85 + 16 * a + k) = σ.w (5 + 16 * a + k) then 0 else 1 := rfl
      have next := ih (k + 1) (by omega)
      rw [show (((k + 1 : Nat)) : Int) = (k : Int) + 1 by omega, st, ec] at next
      apply s_X9_honest_17 (layOK n) k1
      rw [rf_desk.1, c1.1.1, e0, own_rf ha, told_rf ha, e1, e2]
      refine ⟨fun q => absurd q (by omega), fun _ => ⟨ha, hs, fun q => ⟨⟨by omega, by omega⟩, ?_⟩, fun q => ⟨⟨by omega, by omega⟩, ⟨by omega, by omega⟩, ?_⟩⟩⟩
      · have ee : updW (honK σ.w a k) (85 + 16 * a + k) (σ.w (5 + 16 * a + k)) = honK σ.w a k := by
          funext i
          unfold updW
          by_cases z : i = 85 + 16 * a + k
          · rw [if_pos z, z, ← q]; exact g2.symm
          · rw [if_neg z]
        have nx := next μ1 (by rw [ee]; exact c1) f1
        rw [if_pos q, Int.add_zero] at nx
        exact nx
      · have c2 := CSt_told c1 o1 ha hs hv
        have nx := next _ c2 (fun x i hx => by rw [up_ne (by omega), f1 x i hx])
        rw [if_neg q] at nx
        exact nx
  have := key (σ.w 0).toNat 0 (by omega) μ (by rw [show ((0 : Nat) : Int) = 0 from rfl, honK_0, setW_self]; exact hC) (fun _ _ _ => rfl)
  exact this
theorem C_strip {σ : Sg} {a s how : Int} (hC : CSt μ σ) (ho : OKs σ)
    (hy : (0 ≤ a ∧ a < σ.w 1) ∧ (0 ≤ s ∧ s < σ.w 0) ∧ (how = 0 ∨ how = 1) → Q (some (0, rowW σ.w a how s)) (L0 n) μ)
    (hn : ¬ ((0 ≤ a ∧ a < σ.w 1) ∧ (0 ≤ s ∧ s < σ.w 0) ∧ (how = 0 ∨ how = 1)) → Q (some (0, -1)) (L0 n) μ) : TR mX9_strip 1 (0, 0) [(2, 1), (0, a), (0, s), (0, how)] (L0 n) μ Q := by
  have hS := ho.1.1.1
  have hN := ho.1.1.2.1
  apply t_X9_strip (layOK n) k1
  rw [rf_desk.1]
  refine c_hasA k2 hC.1 fun r1 h1 => ⟨r1, rfl, rfl, fun q => hn (by omega), fun q => c_hasS k2 hC.1 fun r2 h2 => ⟨r2, rfl, rfl, fun q2 => hn (by omega), fun q2 => c_X9_isFlag fun r3 h3 => ⟨r3, rfl, rfl, fun q3 => ?_, fun q3 => hn (by omega)⟩⟩⟩
  have ha : 0 ≤ a ∧ a < 5 := by omega
  have hs : 0 ≤ s ∧ s < 16 := by omega
  refine c_X0_row k2 ha ⟨_, rfl, rfl, rowA_K k2 ha, hs, ?_⟩
  rw [CKr_row hC.1 ha (by omega) s hs.1 hs.2]
  exact hy (by omega)
theorem c_X9_isPoint {a b : Int} {w : Dv} (h1 : CKr μ 2 w) (hs : SW w) (h : ∀ r : Int, (r = 1 ∧ ((1 ≤ b ∧ b ≤ 1000) ∧ 0 ≤ a ∧ a ≤ w 0 * b) ∨ r = 0 ∧ ¬ ((1 ≤ b ∧ b ≤ 1000) ∧ 0 ≤ a ∧ a ≤ w 0 * b)) → Q (some (0, r)) (L0 n) μ) : TR mX9_isPoint 0 (0, 0) [(2, 1), (0, a), (0, b)] (L0 n) μ Q := by
  have hS := hs.1
  apply t_X9_isPoint (layOK n) k1
  rw [rf_desk.1, h1.1]
  refine ⟨fun q => h 0 (Or.inr ⟨rfl, by omega⟩), fun q => ⟨fun q2 => h 0 (Or.inr ⟨rfl, by omega⟩), fun q2 => ⟨fun q3 => h 0 (Or.inr ⟨rfl, by omega⟩), fun q3 => ?_⟩⟩⟩
  have mb := mulLB (show 0 ≤ w 0 by omega) (show 0 ≤ b by omega) hS.2 (show b ≤ 1000 by omega)
  exact ⟨⟨by omega, by omega⟩, fun q4 => h 0 (Or.inr ⟨rfl, by omega⟩), fun q4 => h 1 (Or.inl ⟨rfl, by omega⟩)⟩
theorem C_span {σ : Sg} {ag' how a b c d part : Int} (hC : CSt μ σ) (ho : OKs σ)
    (hy : ((0 ≤ ag' ∧ ag' < σ.w 1) ∧ (how = 0 ∨ how = 1) ∧ (part = 0 ∨ part = 1)) ∧ ((1 ≤ b ∧ b ≤ 1000) ∧ 0 ≤ a ∧ a ≤ σ.w 0 * b) ∧ ((1 ≤ d ∧ d ≤ 1000) ∧ 0 ≤ c ∧ c ≤ σ.w 0 * d) ∧ a * d ≤ c * b → ∀ μ', CSt μ' σ → frC μ μ' → Q (some (1, frac (wvN (rowW σ.w ag' how) (σ.w 0).toNat (a, b) (c, d)) (wvD (a, b) (c, d)) part)) (L0 n) μ')
    (hn : ¬ (((0 ≤ ag' ∧ ag' < σ.w 1) ∧ (how = 0 ∨ how = 1) ∧ (part = 0 ∨ part = 1)) ∧ ((1 ≤ b ∧ b ≤ 1000) ∧ 0 ≤ a ∧ a ≤ σ.w 0 * b) ∧ ((1 ≤ d ∧ d ≤ 1000) ∧ 0 ≤ c ∧ c ≤ σ.w 0 * d) ∧ a * d ≤ c * b) → Q (some (1, NOv)) (L0 n) μ) : TR mX9_span 3 (0, 0) [(2, 1), (0, ag'), (0, how), (0, a), (0, b), (0, c), (0, d), (0, part)] (L0 n) μ Q := by
  have hS := ho.1.1.1
  have hN := ho.1.1.2.1
  have hs := ho.1.1
  apply t_X9_span (layOK n) k1
  rw [rf_desk.1]
  refine c_hasA k2 hC.1 fun r1 h1 => ⟨r1, rfl, rfl, fun q => hn (by omega), fun q => c_X9_isFlag fun r2 h2 => ⟨r2, rfl, rfl, fun q2 => hn (by omega), fun q2 => c_X9_isFlag fun r3 h3 => ⟨r3, rfl, rfl, fun q3 => hn (by omega), fun q3 => c_X9_isPoint hC.1 hs fun r4 h4 => ⟨r4, rfl, rfl, fun q4 => hn (by omega), fun q4 => c_X9_isPoint hC.1 hs fun r5 h5 => ⟨r5, rfl, rfl, fun q5 => ?_, fun q5 => hn (by omega)⟩⟩⟩⟩⟩
  have ha : 0 ≤ ag' ∧ ag' < 5 := by omega
  have hh : how = 0 ∨ how = 1 := by omega
  have sb := mulLB (show 0 ≤ σ.w 0 by omega) (show 0 ≤ b by omega) hS.2 (show b ≤ 1000 by omega)
  have sd := mulLB (show 0 ≤ σ.w 0 by omega) (show 0 ≤ d by omega) hS.2 (show d ≤ 1000 by omega)
  have bd := mulLB (show 0 ≤ b by omega) (show 0 ≤ d by omega) (show b ≤ 1000 by omega) (show d ≤ 1000 by omega)
  have bdp : 0 < b * d := Int.mul_pos (by omega) (by omega)
  have adb := mulLB (show 0 ≤ a by omega) (show 0 ≤ d by omega) (show a ≤ 16000 by omega) (show d ≤ 1000 by omega)
  have cbb := mulLB (show 0 ≤ c by omega) (show 0 ≤ b by omega) (show c ≤ 16000 by omega) (show b ≤ 1000 by omega)
  refine ⟨⟨by omega, by omega⟩, ⟨by omega, by omega⟩, ⟨by omega, by omega⟩, fun q6 => ?_, fun q6 => hn (by omega)⟩
  have rk := CKr_ok hC.1 hs ha hh
  have cS : 0 ≤ μ 2 0 ∧ μ 2 0 ≤ 16 := by rw [hC.1.1]; omega
  refine c_X0_row k2 ha ⟨_, rfl, rfl, rowA_K k2 ha, ?_⟩
  refine c_X0_upTo k2 (rowA_K k2 ha) cS rk cbb.1 ⟨by omega, by omega⟩ (by omega) ⟨_, rfl, rfl, ?_⟩
  refine c_X0_upTo k2 (rowA_K k2 ha) cS rk adb.1 ⟨by omega, by omega⟩ (by omega) ⟨_, rfl, rfl, ?_⟩
  rw [hC.1.1, pw_congr (w := μ (rowA 2 ag' how)) (w' := rowW σ.w ag' how) (σ.w 0).toNat (fun t t0 t1 => CKr_row hC.1 ha hh t t0 (by omega)), pw_congr (w := μ (rowA 2 ag' how)) (w' := rowW σ.w ag' how) (σ.w 0).toNat (fun t t0 t1 => CKr_row hC.1 ha hh t t0 (by omega))]
  have eN : pw (rowW σ.w ag' how) (c * b) (b * d) (σ.w 0).toNat - pw (rowW σ.w ag' how) (a * d) (b * d) (σ.w 0).toNat = wvN (rowW σ.w ag' how) (σ.w 0).toNat (a, b) (c, d) := rfl
  have wb := wv_b (row := rowW σ.w ag' how) (S := (σ.w 0).toNat) (a := (a, b)) (b := (c, d)) (hs.2.2 ag' how ha.1 ha.2) (by omega) (show 1 ≤ b by omega) (show 1 ≤ d by omega) q6
  have p1 := pw_b144 (P := c * b) (u := b * d) (hs.2.2 ag' how ha.1 ha.2) bd.1 (k := (σ.w 0).toNat) (by omega)
  have p2 := pw_b144 (P := a * d) (u := b * d) (hs.2.2 ag' how ha.1 ha.2) bd.1 (k := (σ.w 0).toNat) (by omega)
  refine ⟨⟨by omega, by omega⟩, ?_⟩
  rw [eN]
  exact c_X9_tell wb.1 ⟨bdp, by omega⟩ fun μ' f1 f2 => ⟨_, rfl, rfl, hy (by omega) μ' (CSt_fr hC ho f1) (frX_C f1)⟩
theorem C_mark {σ : Sg} {ag' a b x y part : Int} (hC : CSt μ σ) (ho : OKs σ)
    (hy : (0 ≤ ag' ∧ ag' < σ.w 1) ∧ ((1 ≤ b ∧ b ≤ 1000) ∧ 0 ≤ a ∧ a ≤ σ.w 0 * b) ∧ 0 ≤ x ∧ (1 ≤ y ∧ y ≤ 20) ∧ (part = 0 ∨ part = 1) → ∀ μ', CSt μ' σ → frC μ μ' → Q (some (1, match markR (rowW σ.w ag' 1) (σ.w 0).toNat a b (cum (rowW σ.w ag' 1) (σ.w 0).toNat * x) y with | some m => if part = 0 then m.1 else m.2 | none => NOv)) (L0 n) μ')
    (hn : ¬ ((0 ≤ ag' ∧ ag' < σ.w 1) ∧ ((1 ≤ b ∧ b ≤ 1000) ∧ 0 ≤ a ∧ a ≤ σ.w 0 * b) ∧ 0 ≤ x ∧ (1 ≤ y ∧ y ≤ 20) ∧ (part = 0 ∨ part = 1)) → Q (some (1, NOv)) (L0 n) μ) : TR mX9_mark 3 (0, 0) [(2, 1), (0, ag'), (0, a), (0, b), (0, x), (0, y), (0, part)] (L0 n) μ Q := by
  have hS := ho.1.1.1
  have hN := ho.1.1.2.1
  have hs := ho.1.1
  refine TR.okM fun _ hav => ?_
  have hx31 : inI x := (hav (0, x) (by simp)).1 rfl
  apply t_X9_mark (layOK n) k1
  rw [rf_desk.1, rf_desk.2.2.2.2.2.2.2.2.2.2.1]
  refine c_hasA k2 hC.1 fun r1 h1 => ⟨r1, rfl, rfl, fun q => hn (by omega), fun q => c_X9_isPoint hC.1 hs fun r4 h4 => ⟨r4, rfl, rfl, fun q4 => hn (by omega), fun q4 => ⟨fun q5 => hn (by omega), fun q5 => ⟨fun q6 => hn (by omega), fun q6 => ⟨fun q7 => hn (by omega), fun q7 => c_X9_isFlag fun r3 h3 => ⟨r3, rfl, rfl, fun q3 => ?_, fun q3 => hn (by omega)⟩⟩⟩⟩⟩⟩
  have ha : 0 ≤ ag' ∧ ag' < 5 := by omega
  rw [told_rf ha]
  have kr := told_K (n := n) ha
  have er : ∀ t : Int, 0 ≤ t → t < 16 → μ (10 + ag') t = rowW σ.w ag' 1 t := fun t t0 t1 => by
    have := CKr_row hC.1 (a := ag') (how := 1) ha (Or.inr rfl) t t0 t1
    unfold rowA at this
    rw [if_pos rfl, show (2 : Int) + 8 + ag' = 10 + ag' by omega] at this
    exact this
  have hrow := hs.2.2 ag' 1 ha.1 ha.2
  have rk : rowOK (μ (10 + ag')) := fun t t0 t1 => by rw [er t t0 t1]; exact hrow t t0 t1
  have cS : 0 ≤ μ 2 0 ∧ μ 2 0 ≤ 16 := by rw [hC.1.1]; omega
  refine ⟨ha, c_X0_total k2 kr cS rk ⟨_, rfl, rfl, ?_⟩⟩
  rw [hC.1.1, cum_congr (w := μ (10 + ag')) (w' := rowW σ.w ag' 1) (σ.w 0).toNat (fun t t0 t1 => er t t0 (by omega))]
  have cb := cum_b hrow (σ.w 0).toNat (by omega)
  generalize hT : cum (rowW σ.w ag' 1) (σ.w 0).toNat = T at *
  have T144 : T ≤ 144 := by omega
  have tb := mulLB cb.1 (show 0 ≤ b by omega) T144 (show b ≤ 1000 by omega)
  have tbx := mulLB tb.1 (show 0 ≤ x by omega) tb.2 (show x ≤ 2147483647 by have := hx31.2; omega)
  have sb := mulLB (show 0 ≤ σ.w 0 by omega) (show 0 ≤ b by omega) hS.2 (show b ≤ 1000 by omega)
  have sbb : a ≤ 16 * b := by
    have := Int.mul_le_mul_of_nonneg_right hS.2 (show 0 ≤ b by omega)
    omega
  have fx : ∀ v v' : Int, frX μ (up (up μ 488 0 v) 488 1 v') := fun v v' o i ho' => by rw [up_ne (Or.inl (by omega)), up_ne (Or.inl (by omega))]
  have hy := hy (by omega)
  have ezero : T * b * x = 0 ↔ T * x = 0 := by
    rw [show T * b * x = T * x * b by ac_rfl]
    constructor
    · intro z
      rcases Int.mul_eq_zero.mp z with z | z
      · exact z
      · omega
    · intro z; rw [z, Int.zero_mul]
  refine ⟨⟨by omega, by omega⟩, ⟨by omega, by omega⟩, c_X0_reach k2 k488 kr cS rk ⟨by omega, by omega⟩ ⟨by omega, sbb⟩ ⟨by omega, by omega⟩ ⟨tbx.1, by omega⟩ ?_ ?_ ?_⟩
  · intro z
    have em : markR (rowW σ.w ag' 1) (σ.w 0).toNat a b (T * x) y = some (rdN a b, rdD a b) := by unfold markR; rw [if_pos (ezero.mp z)]
    rw [em] at hy
    refine ⟨1, rfl, rfl, fun _ => ⟨fun q8 => ?_, fun q8 => ?_⟩, fun q8 => absurd q8 (by decide)⟩
    · have := hy _ (CSt_fr hC ho (fx (rdN a b) (rdD a b))) (frX_C (fx _ _))
      rw [up_eq]
      simp only [if_neg q8] at this
      exact this
    · have := hy _ (CSt_fr hC ho (fx (rdN a b) (rdD a b))) (frX_C (fx _ _))
      rw [up_ne (a := 488) (i := 0) (Or.inr (by decide)), up_eq]
      simp only [if_pos q8] at this
      exact this
  · intro s z hf
    rw [hC.1.1] at hf ⊢
    rw [pw_congr (w := μ (10 + ag')) (w' := rowW σ.w ag' 1) (σ.w 0).toNat (fun t t0 t1 => er t t0 (by omega))] at hf ⊢
    rw [fnd_congr er _ 0 (by omega)] at hf
    have s16 := (fnd_spec _ _ _ hf).2.1
    have ed : y * pw (rowW σ.w ag' 1) a b (σ.w 0).toNat + T * b * x = pw (rowW σ.w ag' 1) a b (σ.w 0).toNat * y + T * x * b := by
      rw [Int.mul_comm y]
      congr 1
      ac_rfl
    rw [ed] at hf ⊢
    have em : markR (rowW σ.w ag' 1) (σ.w 0).toNat a b (T * x) y = some (mkP (rowW σ.w ag' 1) (pw (rowW σ.w ag' 1) a b (σ.w 0).toNat * y + T * x * b) (b * y) s) := by
      unfold markR
      rw [if_neg (fun q => z (ezero.mpr q)), hf]
      rfl
    rw [em] at hy
    have mc := mkP_congr (w := μ (10 + ag')) (w' := rowW σ.w ag' 1) (due := pw (rowW σ.w ag' 1) a b (σ.w 0).toNat * y + T * x * b) (all := b * y) er (s := s) (by omega)
    unfold mkP at mc hy
    have m1 := congrArg Prod.fst mc
    have m2 := congrArg Prod.snd mc
    simp only at m1 m2
    rw [m1, m2]
    refine ⟨1, rfl, rfl, fun _ => ⟨fun q8 => ?_, fun q8 => ?_⟩, fun q8 => absurd q8 (by decide)⟩
    · have hy2 := fun v v' => hy (up (up μ 488 0 v) 488 1 v') (CSt_fr hC ho (fx v v')) (frX_C (fx v v'))
      rw [up_eq]
      simp only [if_neg q8] at hy2
      exact hy2 _ _
    · have hy2 := fun v v' => hy (up (up μ 488 0 v) 488 1 v') (CSt_fr hC ho (fx v v')) (frX_C (fx v v'))
      rw [up_ne (a := 488) (i := 0) (Or.inr (by decide)), up_eq]
      simp only [if_pos q8] at hy2
      exact hy2 _ _
  · intro z hf
    rw [hC.1.1, pw_congr (w := μ (10 + ag')) (w' := rowW σ.w ag' 1) (σ.w 0).toNat (fun t t0 t1 => er t t0 (by omega)), fnd_congr er _ 0 (by omega)] at hf
    have ed : y * pw (rowW σ.w ag' 1) a b (σ.w 0).toNat + T * b * x = pw (rowW σ.w ag' 1) a b (σ.w 0).toNat * y + T * x * b := by
      rw [Int.mul_comm y]
      congr 1
      ac_rfl
    rw [ed] at hf
    have em : markR (rowW σ.w ag' 1) (σ.w 0).toNat a b (T * x) y = none := by
      unfold markR
      rw [if_neg (fun q => z (ezero.mpr q)), hf]
      rfl
    rw [em] at hy
    exact ⟨0, rfl, rfl, fun q8 => absurd rfl q8, fun _ => hy μ hC (fun _ _ _ => rfl)⟩
end
