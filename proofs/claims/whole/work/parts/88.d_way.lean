/-! the desk's ways (the class) -/
def res (w : Dv) (way f : Int) : Option Dv := goS (EW w f) (clrW (hsW w 1)) way
def wbP (w w' : Dv) (a : Int) : Pt := (rdN (hld (rowW w a 0) (w 0).toNat w' a) (w' 3), rdD (hld (rowW w a 0) (w 0).toNat w' a) (w' 3))
/-- what a way would bring one, by its own worths -/
def wb (w : Dv) (way f a : Int) : Option Pt := (res w way f).map fun w' => wbP w w' a
def tellP (o : Option Pt) (part : Int) : Int := match o with | some p => if part = 0 then p.1 else p.2 | none => NOv
/-- a worth told moves -/
def mvW (w : Dv) (a l m : Int) : Dv := updW (updW w (85 + 16 * a + l) (w (85 + 16 * a + l) - 1)) (85 + 16 * a + m) (w (85 + 16 * a + m) + 1)
abbrev mayL (w : Dv) (a l m : Int) : Prop := l ≠ m ∧ 1 ≤ w (85 + 16 * a + l) ∧ w (85 + 16 * a + m) ≤ 8
def lie1 (w : Dv) (way f a l m : Int) (r : Int × Pt) : Int × Pt := if mayL w a l m then (match wb (mvW w a l m) way f a with | some q => if r.2.1 * q.2 < q.1 * r.2.2 then (100 * l + m, q) else r | none => r) else r
def lieS (w : Dv) (way f a : Int) (p : Pt) : Nat → Int × Pt
  | 0 => (-1, p)
  | k + 1 => lie1 w way f a ((k : Int) / w 0) ((k : Int) % w 0) (lieS w way f a p k)
def lieA (w : Dv) (way f a what : Int) : Int := match wb w way f a with
  | none => NOv
  | some p => if 0 ≤ (lieS w way f a p (w 0 * w 0).toNat).1 then (if what = 0 then (lieS w way f a p (w 0 * w 0).toNat).1 else if what = 1 then (lieS w way f a p (w 0 * w 0).toNat).2.1 else (lieS w way f a p (w 0 * w 0).toNat).2.2) else NOv
abbrev alw (w : Dv) (way : Int) : Prop := (way = 0 → w 1 = 2) ∧ (way = 4 → w 1 = 3)
def best1 (w : Dv) (f a k : Int) (r : Int × Pt) : Int × Pt := if alw w k then (match wb w k f a with | some q => if r.1 = -2 then (k, q) else if r.2.1 * q.2 < q.1 * r.2.2 then (k, q) else r | none => r) else r
def bestS (w : Dv) (f a : Int) : Nat → Int × Pt
  | 0 => (-2, (0, 1))
  | k + 1 => best1 w f a k (bestS w f a k)
/-- a row after a way was gone -/
def RK (w w' : Dv) : Prop := WK w' ∧ w' 0 = w 0 ∧ w' 1 = w 1 ∧ w' 2 = 1 ∧ ∀ i : Int, 5 ≤ i → i < 165 → w' i = w i
def ptB (p : Pt) : Prop := 0 ≤ p.1 ∧ 1 ≤ p.2 ∧ p.2 ≤ 1000000000
theorem RK_of {w w' : Dv} {f : Int} (hw : WK w) (h : GK (EW w f) (clrW (hsW w 1)) w') (hc : C3 w' 6) : RK w w' := by
  obtain ⟨h1, h2, h3, h4⟩ := h
  have eS := EW_S (f := f) hw.1
  have e : ∀ i : Int, i < 165 → i ≠ 3 → i ≠ 4 → w' i = hsW w 1 i := fun i i0 i1 i2 => by
    rw [h3 i i0 i1 i2, clrW_at.2.2.2 i i1 i2 (Or.inl i0)]
  have e0 : w' 0 = w 0 := (e 0 (by decide) (by decide) (by decide)).trans (hsW_ne (by decide))
  have e1 : w' 1 = w 1 := (e 1 (by decide) (by decide) (by decide)).trans (hsW_ne (by decide))
  have e2 : w' 2 = 1 := e 2 (by decide) (by decide) (by decide)
  have er : ∀ i : Int, 5 ≤ i → i < 165 → w' i = w i := fun i i0 i1 => (e i i1 (by omega) (by omega)).trans (hsW_ne (by omega))
  rw [eS] at h1
  refine ⟨⟨⟨by rw [e0]; exact hw.1.1, by rw [e1]; exact hw.1.2.1, fun a how a0 a1 s s0 s1 => ?_⟩, Or.inr e2, by rw [e0]; exact h1, fun row hrow => ?_, fun a a0 a1 => h4 a (by rw [e1] at a0; exact a0) a1, hc⟩, e0, e1, e2, er⟩
  · have := hw.1.2.2 a how a0 a1 s s0 s1
    unfold rowW at *
    split
    · rename_i q; rw [if_pos q] at this; rw [er _ (by omega) (by omega)]; exact this
    · rename_i q; rw [if_neg q] at this; rw [er _ (by omega) (by omega)]; exact this
  · rw [e0]
    exact h2 row hrow
theorem RK_row {w w' : Dv} (h : RK w w') {a how : Int} (ha : 0 ≤ a ∧ a < 5) : ∀ s : Int, 0 ≤ s → s < 16 → rowW w' a how s = rowW w a how s := fun s s0 s1 => by
  unfold rowW
  rw [h.2.2.2.2 _ (by omega) (by omega), h.2.2.2.2 _ (by omega) (by omega)]
theorem WF_eq {S S' : Int} {w : Dv} (h : WF S w) (e : S = S') : WF S' w := e ▸ h
theorem wbP_b {w w' : Dv} {a : Int} (hw : WK w) (h : RK w w') (ha : 0 ≤ a ∧ a < 5) : ptB (wbP w w' a) := by
  have hf : WF (w 0) w' := WF_eq h.1.2.2.1 h.2.1
  have hp := hld_pos (how := 0) hw.1 hf ha ha
  have u1 := hf.1.1
  have u2 := hf.1.2
  have := rdD_le (x := hld (rowW w a 0) (w 0).toNat w' a) (y := w' 3) (by omega)
  exact ⟨rdN_nn hp.1, rdD_pos (by omega), by show rdD _ _ ≤ _; omega⟩
/-- a way's outcome keeps the form -/
theorem res_RK {w w' : Dv} {way f : Int} (hw : WK w) (hf : 0 ≤ f ∧ f < w 1) (hway : 0 ≤ way ∧ way ≤ 4) (h4 : way = 4 → w 1 = 3) (h : res w way f = some w') : RK w w' := RK_of (f := f) hw (goS_GK (EW_ok hw.1 hf) h4 hway h) (goS_C3 (EW_ok hw.1 hf) h4 hway h)
theorem wb_b {w : Dv} {way f a : Int} {p : Pt} (hw : WK w) (hf : 0 ≤ f ∧ f < w 1) (hway : 0 ≤ way ∧ way ≤ 4) (h4 : way = 4 → w 1 = 3) (ha : 0 ≤ a ∧ a < 5) (h : wb w way f a = some p) : ptB p := by
  unfold wb at h
  cases e : res w way f with
  | none => rw [e] at h; cases h
  | some w' =>
    rw [e] at h
    cases h
    exact wbP_b hw (res_RK hw hf hway h4 e) ha
theorem mvW_WK {w : Dv} {a l m : Int} (hw : WK w) (ha : 0 ≤ a ∧ a < 5) (hl : 0 ≤ l ∧ l < 16) (hm : 0 ≤ m ∧ m < 16) (h : mayL w a l m) : WK (mvW w a l m) := by
  obtain ⟨h1, h2, h3⟩ := h
  have b1 := WK_row hw (85 + 16 * a + l) (by omega) (by omega)
  have b2 := WK_row hw (85 + 16 * a + m) (by omega) (by omega)
  exact upd_WK (upd_WK hw ⟨by omega, by omega⟩ ⟨by omega, by omega⟩) ⟨by omega, by omega⟩ ⟨by omega, by omega⟩
theorem mvW_low {w : Dv} {a l m i : Int} (ha : 0 ≤ a) (hl : 0 ≤ l) (hm : 0 ≤ m) (hi : i < 85) : mvW w a l m i = w i := by
  unfold mvW updW
  rw [if_neg (by omega), if_neg (by omega)]
theorem mvW_at {w : Dv} {a l m : Int} (h : l ≠ m) : mvW w a l m (85 + 16 * a + l) = w (85 + 16 * a + l) - 1 ∧ mvW w a l m (85 + 16 * a + m) = w (85 + 16 * a + m) + 1 := by
  unfold mvW updW
  exact ⟨by rw [if_neg (by omega), if_pos rfl], by rw [if_pos rfl]⟩
theorem mvW_back {w : Dv} {a l m : Int} (h : l ≠ m) : mvW (mvW w a l m) a m l = w := by
  obtain ⟨e1, e2⟩ := mvW_at (w := w) (a := a) h
  funext i
  show (if i = 85 + 16 * a + l then mvW w a l m (85 + 16 * a + l) + 1 else if i = 85 + 16 * a + m then mvW w a l m (85 + 16 * a + m) - 1 else mvW w a l m i) = w i
  by_cases z : i = 85 + 16 * a + l
  · rw [if_pos z, e1, z]; omega
  · rw [if_neg z]
    by_cases y : i = 85 + 16 * a + m
    · rw [if_pos y, e2, y]; omega
    · rw [if_neg y]
      unfold mvW updW
      rw [if_neg y, if_neg z]
theorem mayL_back {w : Dv} {a l m : Int} (hw : WK w) (ha : 0 ≤ a ∧ a < 5) (hl : 0 ≤ l ∧ l < 16) (hm : 0 ≤ m ∧ m < 16) (h : mayL w a l m) : mayL (mvW w a l m) a m l := by
  obtain ⟨e1, e2⟩ := mvW_at (w := w) (a := a) h.1
  have b1 := WK_row hw (85 + 16 * a + l) (by omega) (by omega)
  have b2 := WK_row hw (85 + 16 * a + m) (by omega) (by omega)
  exact ⟨fun z => h.1 z.symm, by rw [e2]; omega, by rw [e1]; omega⟩
theorem lie1_b {w : Dv} {way f a l m : Int} {r : Int × Pt} (hw : WK w) (hf : 0 ≤ f ∧ f < w 1) (hway : 0 ≤ way ∧ way ≤ 4) (h4 : way = 4 → w 1 = 3) (ha : 0 ≤ a ∧ a < 5) (hl : 0 ≤ l ∧ l < 16) (hm : 0 ≤ m ∧ m < 16) (hr : ptB r.2 ∧ -1 ≤ r.1 ∧ r.1 ≤ 2000) : ptB (lie1 w way f a l m r).2 ∧ -1 ≤ (lie1 w way f a l m r).1 ∧ (lie1 w way f a l m r).1 ≤ 2000 := by
  unfold lie1
  split
  · rename_i hm'
    have e1 : mvW w a l m 1 = w 1 := mvW_low ha.1 hl.1 hm.1 (by decide)
    cases e : wb (mvW w a l m) way f a with
    | none => exact hr
    | some q =>
      have := wb_b (mvW_WK hw ha hl hm hm') (by rw [e1]; exact hf) hway (by rw [e1]; exact h4) ha e
      dsimp only
      split
      · exact ⟨this, by show -1 ≤ 100 * l + m; omega, by show 100 * l + m ≤ 2000; omega⟩
      · exact hr
  · exact hr
theorem lieS_b {w : Dv} {way f a : Int} {p : Pt} (hw : WK w) (hf : 0 ≤ f ∧ f < w 1) (hway : 0 ≤ way ∧ way ≤ 4) (h4 : way = 4 → w 1 = 3) (ha : 0 ≤ a ∧ a < 5) (hp : ptB p) : ∀ k : Nat, (k : Int) ≤ w 0 * w 0 → ptB (lieS w way f a p k).2 ∧ -1 ≤ (lieS w way f a p k).1 ∧ (lieS w way f a p k).1 ≤ 2000
  | 0, _ => ⟨hp, by show (-1 : Int) ≤ -1; decide, by show (-1 : Int) ≤ 2000; decide⟩
  | k + 1, hk => by
    have hS := hw.1.1
    have m1 := Int.emod_nonneg (k : Int) (show w 0 ≠ 0 by omega)
    have m2 := Int.emod_lt_of_pos (k : Int) (show 0 < w 0 by omega)
    have d1 : 0 ≤ (k : Int) / w 0 := Int.ediv_nonneg (by omega) (by omega)
    have d2 : (k : Int) / w 0 < w 0 := Int.ediv_lt_of_lt_mul (by omega) (by omega)
    exact lie1_b hw hf hway h4 ha ⟨d1, by omega⟩ ⟨m1, by omega⟩ (lieS_b hw hf hway h4 ha hp k (by omega))
section
variable {n : Int} {μ : Mem} {Q : Option AV → Lay → Mem → Prop}
theorem frR_X {μ μ' : Mem} (h : frR μ μ') : frX μ μ' := fun x i hx => h x i (by omega)
theorem c_run {σ : Sg} {way f : Int} (hC : CSt μ σ) (ho : OKs σ) (hway : 0 ≤ way ∧ way ≤ 4) (hf : 0 ≤ f ∧ f < σ.w 1) (h4 : way = 4 → σ.w 1 = 3)
    (hok : ∀ w', res σ.w way f = some w' → RK σ.w w' → ∀ μ', CSt μ' σ → DR μ' 174 w' → μ' 174 0 = 1 → frR μ μ' → Q (some (0, 1)) (L0 n) μ')
    (hno : res σ.w way f = none → ∀ μ', CSt μ' σ → frR μ μ' → Q (some (0, 0)) (L0 n) μ') : TR mX5_run 6 (0, 0) [(2, 440), (0, way), (0, f)] (L0 n) μ Q := by
  have eS := EW_S (f := f) ho.1.1
  have hr : RQ μ (EW σ.w f) := ⟨by rw [hC.1.1, eS], hC.1.2.1, fun a s a0 a1 s0 s1 => by
    have := (hC.1.2.2 a s a0 a1 s0 s1).2
    rw [show (2 : Int) + 8 + a = 10 + a by omega] at this
    rw [this]
    show σ.w (85 + 16 * a + s) = rowW σ.w a 1 s
    unfold rowW
    rw [if_neg (by decide)], hC.2.2.1.1, hC.2.2.1.2⟩
  exact c_X5_run (w := hsW σ.w 1) (EW_ok ho.1.1 hf) hr hway h4 (fun w' e gk μ' r1 r2 r3 => hok w' e (res_RK ho.1 hf hway h4 e) μ' (CSt_fr hC ho (frR_X r3)) r1 r2 r3) (fun e μ' r3 => hno e μ' (CSt_fr hC ho (frR_X r3)) r3)
theorem k174' : isK (L0 n) 174 (1, 0) := isK0 (by decide) (by decide) (by decide +kernel)
theorem c_trial {σ : Sg} {a : Int} {w' : Dv} (hC : CSt μ σ) (ho : OKs σ) (hR : RK σ.w w') (hd : DR μ 174 w') (ha : 0 ≤ a ∧ a < 5)
    (h : Q (some (1, hld (rowW σ.w a 0) (σ.w 0).toNat w' a)) (L0 n) μ) : TR mX1_holds 3 (0, 0) [(2, 174), (0, a), (2, 2), (2, 4 + a)] (L0 n) μ Q := by
  have e : rowA 2 a 0 = 4 + a := by unfold rowA; rw [if_neg (by decide)]; omega
  have := c_hold (a := a) (b := a) (how := 0) hC.1 ho.1.1 k174' hd (WF_eq hR.1.2.2.1 hR.2.1) ha ha (Or.inl rfl) h
  rw [e] at this
  exact this
theorem C_shares {σ : Sg} {way f : Int} (hC : CSt μ σ) (ho : OKs σ)
    (hy : ((0 ≤ way ∧ way ≤ 4) ∧ (0 ≤ f ∧ f < σ.w 1)) ∧ alw σ.w way → (∀ w', res σ.w way f = some w' → RK σ.w w' → ∀ μ', CSt μ' (σ.setW w') → frC μ μ' → Q (some (0, w' 4)) (L0 n) μ') ∧ (res σ.w way f = none → ∀ μ', CSt μ' σ → frC μ μ' → Q (some (0, -3)) (L0 n) μ'))
    (hs : ((0 ≤ way ∧ way ≤ 4) ∧ (0 ≤ f ∧ f < σ.w 1)) ∧ ¬ alw σ.w way → Q (some (0, -5)) (L0 n) μ)
    (hn : ¬ ((0 ≤ way ∧ way ≤ 4) ∧ (0 ≤ f ∧ f < σ.w 1)) → Q (some (0, -1)) (L0 n) μ) : TR mX9_shares 7 (0, 0) [(2, 1), (0, way), (0, f)] (L0 n) μ Q := by
  have hN := ho.1.1.2.1
  apply t_X9_shares (layOK n) k1
  rw [rf_desk.1, rf_desk.2.2.2.1, rf_desk.2.2.2.2.1, rf_desk.2.2.2.2.2.2.1]
  refine c_X9_isWay fun r1 h1 => ⟨r1, rfl, rfl, fun q => hn (by omega), fun q => c_hasA k2 hC.1 fun r2 h2 => ⟨r2, rfl, rfl, fun q2 => c_X9_isAllowed hC.1 fun r3 h3 => ⟨r3, rfl, rfl, fun q3 => ?_, fun q3 => ?_⟩, fun q2 => hn (by omega)⟩⟩
  · have ha : alw σ.w way := by unfold alw; rcases h3 with z | z; exact z.2; exact absurd z.1 q3
    obtain ⟨hy1, hy2⟩ := hy ⟨⟨by omega, by omega⟩, ha⟩
    refine c_run hC ho (by omega) (by omega) ha.2 (fun w' e rk μ1 c1 d1 e1 f1 => ⟨_, rfl, rfl, fun _ => ?_, fun z => absurd z (by decide)⟩) (fun e μ1 c1 f1 => ⟨_, rfl, rfl, fun z => absurd rfl z, fun _ => hy2 e μ1 c1 (frX_C (frR_X f1))⟩)
    have cn := WK_cn rk.1
    refine TR.okM fun hM _ => c_X1_copy k41 k174' (by decide) d1 cn.1 cn.2 (Or.inr e1) (full01 hM (Or.inr (Or.inl rfl))) fun μ2 z1 z2 z3 z4 => ⟨rfl, rfl, ?_⟩
    have z4' : ∀ x i, (x < 41 ∨ 173 < x) → μ2 x i = μ1 x i := fun x i hx => z4 x i (by unfold outD; omega)
    have e4 : μ2 41 3 = w' 4 := z1.2.1.1
    rw [e4]
    refine hy1 w' e rk μ2 (CSt_w c1 ho ⟨?_, ?_, fun a s a0 a1 s0 s1 => ?_⟩ ⟨?_, z1⟩ (fun x i hx => z4' x i (by omega))) (fun x i hx => (z4' x i (by omega)).trans (f1 x i (by omega)))
    · rw [z4' 2 0 (by omega), c1.1.1, rk.2.1]
    · rw [z4' 2 1 (by omega), c1.1.2.1, rk.2.2.1]
    · rw [z4' _ s (by omega), z4' _ s (by omega), rk.2.2.2.2 _ (by omega) (by omega), rk.2.2.2.2 _ (by omega) (by omega)]
      exact c1.1.2.2 a s a0 a1 s0 s1
    · rw [z2, e1, rk.2.2.2.1]
  · have ha : ¬ alw σ.w way := by unfold alw; rcases h3 with z | z; omega; exact z.2
    exact hs ⟨⟨by omega, by omega⟩, ha⟩
theorem C_would {σ : Sg} {way f a part : Int} (hC : CSt μ σ) (ho : OKs σ)
    (hy : ((0 ≤ way ∧ way ≤ 4) ∧ (0 ≤ f ∧ f < σ.w 1)) ∧ (0 ≤ a ∧ a < σ.w 1) ∧ (part = 0 ∨ part = 1) ∧ alw σ.w way → ∀ μ', CSt μ' σ → frC μ μ' → Q (some (1, tellP (wb σ.w way f a) part)) (L0 n) μ')
    (hn : ¬ (((0 ≤ way ∧ way ≤ 4) ∧ (0 ≤ f ∧ f < σ.w 1)) ∧ (0 ≤ a ∧ a < σ.w 1) ∧ (part = 0 ∨ part = 1) ∧ alw σ.w way) → Q (some (1, NOv)) (L0 n) μ) : TR mX9_would 7 (0, 0) [(2, 1), (0, way), (0, f), (0, a), (0, part)] (L0 n) μ Q := by
  have hN := ho.1.1.2.1
  apply t_X9_would (layOK n) k1
  rw [rf_desk.1, rf_desk.2.2.2.2.1, rf_desk.2.2.2.2.2.2.1]
  refine c_X9_isWay fun r1 h1 => ⟨r1, rfl, rfl, fun q => hn (by omega), fun q => c_hasA k2 hC.1 fun r2 h2 => ⟨r2, rfl, rfl, fun q2 => hn (by omega), fun q2 => c_hasA k2 hC.1 fun r3 h3 => ⟨r3, rfl, rfl, fun q3 => hn (by omega), fun q3 => c_X9_isFlag fun r4 h4 => ⟨r4, rfl, rfl, fun q4 => c_X9_isAllowed hC.1 fun r5 h5 => ⟨r5, rfl, rfl, fun q5 => ?_, fun q5 => ?_⟩, fun q4 => hn (by omega)⟩⟩⟩⟩
  · have ha' : ¬ alw σ.w way := by unfold alw; rcases h5 with z | z; omega; exact z.2
    exact hn (fun z => ha' z.2.2.2)
  · have ha' : alw σ.w way := by unfold alw; rcases h5 with z | z; exact z.2; exact absurd z.1 q5
    have ha : 0 ≤ a ∧ a < 5 := by omega
    have hy := hy ⟨⟨by omega, by omega⟩, by omega, by omega, ha'⟩
    unfold wb at hy
    refine c_run hC ho (by omega) (by omega) ha'.2 (fun w' e rk μ1 c1 d1 e1 f1 => ⟨_, rfl, rfl, fun _ => ?_, fun z => absurd z (by decide)⟩) (fun e μ1 c1 f1 => ⟨_, rfl, rfl, fun z => absurd rfl z, fun _ => ?_⟩)
    · rw [e] at hy
      have hy : ∀ μ', CSt μ' σ → frC μ μ' → Q (some (1, frac (hld (rowW σ.w a 0) (σ.w 0).toNat w' a) (w' 3) part)) (L0 n) μ' := hy
      have hf : WF (σ.w 0) w' := WF_eq rk.1.2.2.1 rk.2.1
      have hp := hld_pos (how := 0) ho.1.1 hf ha ha
      have u1 := hf.1.1
      have u2 := hf.1.2
      have e3 : μ1 174 2 = w' 3 := d1.1
      rw [own_rf ha]
      refine ⟨ha, c_trial c1 ho rk d1 ha ⟨_, rfl, rfl, ?_⟩⟩
      rw [e3]
      exact c_X9_tell hp.1 ⟨by omega, by omega⟩ fun μ2 f2 f3 => ⟨_, rfl, rfl, hy μ2 (CSt_fr c1 ho f2) (fun x i hx => (f2 x i (by omega)).trans (f1 x i (by omega)))⟩
    · rw [e] at hy
      exact hy μ1 c1 (frX_C (frR_X f1))
/-- two points, what was the most and what is tried, are the desk's own -/
def frMo (μ μ' : Mem) : Prop := ∀ x i : Int, x ≠ 488 → x ≠ 489 → μ' x i = μ x i
theorem c_most {σ : Sg} {a : Int} {w' : Dv} (hC : CSt μ σ) (ho : OKs σ) (hR : RK σ.w w') (hd : DR μ 174 w') (ha : 0 ≤ a ∧ a < 5)
    (h : ∀ μ', PA μ' 489 (wbP σ.w w' a) → frMo μ μ' → Q none (L0 n) μ') : TR mX1_holds 3 (0, 0) [(2, 174), (0, a), (2, 2), (2, 4 + a)] (L0 n) μ (fun r28 L29 μ30 => ∃ w31, r28 = some (1, w31) ∧ (L0 n) = L29 ∧ TR mX3_put 1 (0, 0) [(2, 489), (1, w31), (1, (μ30 174 2))] (L0 n) μ30 Q) := by
  have hf : WF (σ.w 0) w' := WF_eq hR.1.2.2.1 hR.2.1
  have hp := hld_pos (how := 0) ho.1.1 hf ha ha
  have u1 := hf.1.1
  have u2 := hf.1.2
  have e3 : μ 174 2 = w' 3 := hd.1
  refine c_trial hC ho hR hd ha ⟨_, rfl, rfl, ?_⟩
  rw [e3]
  refine c_X3_put k489 hp.1 (by omega) (by omega) ?_
  exact h _ ⟨by rw [up_ne (Or.inr (by decide)), up_eq]; rfl, by rw [up_eq]; rfl⟩ (fun x i h1 h2 => by rw [up_ne (Or.inl h2), up_ne (Or.inl h2)])
theorem c_brings {σ : Sg} {a : Int} {w' : Dv} {r : Pt} (hC : CSt μ σ) (ho : OKs σ) (hR : RK σ.w w') (hd : DR μ 174 w') (ha : 0 ≤ a ∧ a < 5) (hr : ptB r) (hp : PA μ 489 r)
    (h : ∀ μ', frMo μ μ' → (r.1 * (wbP σ.w w' a).2 < (wbP σ.w w' a).1 * r.2 → PA μ' 489 (wbP σ.w w' a) → Q (some (0, 1)) (L0 n) μ') ∧ (¬ r.1 * (wbP σ.w w' a).2 < (wbP σ.w w' a).1 * r.2 → PA μ' 489 r → Q (some (0, 0)) (L0 n) μ')) : TR mX9_bringsMore 4 (0, 0) [(2, 1), (0, a)] (L0 n) μ Q := by
  have hb := wbP_b ho.1 hR ha
  generalize hq : wbP σ.w w' a = q at h hb
  have q1 : q.1 = rdN (hld (rowW σ.w a 0) (σ.w 0).toNat w' a) (w' 3) := by rw [← hq]; rfl
  have q2 : q.2 = rdD (hld (rowW σ.w a 0) (σ.w 0).toNat w' a) (w' 3) := by rw [← hq]; rfl
  have hf : WF (σ.w 0) w' := WF_eq hR.1.2.2.1 hR.2.1
  have hh := hld_pos (how := 0) ho.1.1 hf ha ha
  have u1 := hf.1.1
  have u2 := hf.1.2
  have e3 : μ 174 2 = w' 3 := hd.1
  apply t_X9_bringsMore (layOK n) k1
  rw [rf_desk.1, rf_desk.2.2.2.2.1, rf_desk.2.2.2.2.2.2.2.2.2.2.1, rf_desk.2.2.2.2.2.2.2.2.2.2.2.1, own_rf ha]
  refine ⟨ha, c_trial hC ho hR hd ha ⟨_, rfl, rfl, ?_⟩⟩
  rw [e3]
  refine c_X3_put k488 hh.1 (by omega) (by omega) ⟨rfl, rfl, ?_⟩
  rw [← q1, ← q2]
  generalize hμ1 : up (up μ 488 0 q.1) 488 1 q.2 = μ1
  have f1 : ∀ x i, x ≠ 488 → μ1 x i = μ x i := fun x i hx => by rw [← hμ1, up_ne (Or.inl hx), up_ne (Or.inl hx)]
  have a0 : μ1 488 0 = q.1 := by rw [← hμ1, up_ne (Or.inr (by decide)), up_eq]
  have a1 : μ1 488 1 = q.2 := by rw [← hμ1, up_eq]
  have b0 : μ1 489 0 = r.1 := (f1 489 0 (by decide)).trans hp.1
  have b1 : μ1 489 1 = r.2 := (f1 489 1 (by decide)).trans hp.2
  have h1 := h μ1 (fun x i hx _ => f1 x i hx)
  have mm := mulLB (show 0 ≤ r.2 by have := hr.2.1; omega) (show 0 ≤ q.2 by have := hb.2.1; omega) hr.2.2 hb.2.2
  refine c_X3_isBelow k489 k488 ⟨by rw [b0]; exact hr.1, by rw [b1]; have := hr.2.1; omega⟩ ⟨by rw [a0]; exact hb.1, by rw [a1]; have := hb.2.1; omega⟩ (by rw [b1, a1]; omega) fun z hz => ?_
  rw [b0, b1, a0, a1] at hz
  refine ⟨z, rfl, rfl, fun q3 => ?_, fun q3 => ?_⟩
  · refine c_X3_copy k489 k488 ⟨rfl, rfl, ?_⟩
    rw [a0, a1]
    refine (h _ (fun x i h1 h2 => ?_)).1 (by omega) ⟨by rw [up_ne (Or.inr (by decide)), up_eq], by rw [up_eq]⟩
    rw [up_ne (Or.inl h2), up_ne (Or.inl h2), f1 x i h1]
  · exact h1.2 (by omega) ⟨b0, b1⟩
theorem frMo_X {μ μ' : Mem} (h : frMo μ μ') : frX μ μ' := fun x i hx => h x i (by omega) (by omega)
theorem c_move {σ : Sg} {a l m : Int} (hC : CSt μ σ) (ho : OKs σ) (ha : 0 ≤ a ∧ a < 5) (hl : 0 ≤ l ∧ l < 16) (hm : 0 ≤ m ∧ m < 16)
    (hy : mayL σ.w a l m → ∀ μ', CSt μ' (σ.setW (mvW σ.w a l m)) → (∀ x i, x ≠ 10 + a → μ' x i = μ x i) → Q (some (0, 1)) (L0 n) μ') (hn : ¬ mayL σ.w a l m → Q (some (0, 0)) (L0 n) μ) : TR mX0_moveTold 0 (0, 0) [(2, 2), (0, a), (0, l), (0, m)] (L0 n) μ Q := by
  have el := (hC.1.2.2 a l ha.1 ha.2 hl.1 hl.2).2
  have em := (hC.1.2.2 a m ha.1 ha.2 hm.1 hm.2).2
  rw [show (2 : Int) + 8 + a = 10 + a by omega] at el em
  have bl := WK_row ho.1 (85 + 16 * a + l) (by omega) (by omega)
  have bm := WK_row ho.1 (85 + 16 * a + m) (by omega) (by omega)
  apply t_X0_moveTold (layOK n) k2
  rw [told_rf ha, el, em]
  refine ⟨ha, fun q => hn (fun z => z.1 q), fun q => ⟨hl, fun q2 => hn (fun z => by have := z.2.1; omega), fun q2 => ⟨hm, fun q3 => ?_, fun q3 => hn (fun z => by have := z.2.2; omega)⟩⟩⟩
  have e2 : up μ (10 + a) l (σ.w (85 + 16 * a + l) - 1) (10 + a) m = σ.w (85 + 16 * a + m) := by rw [up_ne (Or.inr (fun z => q z.symm)), em]
  rw [e2]
  have c1 := CSt_told hC ho ha hl (v := σ.w (85 + 16 * a + l) - 1) ⟨by omega, by omega⟩
  have c2 := CSt_told c1 (OK_w ho (upd_WK ho.1 (show 5 ≤ 85 + 16 * a + l ∧ 85 + 16 * a + l < 165 by omega) (show 0 ≤ σ.w (85 + 16 * a + l) - 1 ∧ σ.w (85 + 16 * a + l) - 1 ≤ 9 by omega))) ha hm (v := σ.w (85 + 16 * a + m) + 1) ⟨by omega, by omega⟩
  exact ⟨⟨by omega, by omega⟩, ⟨by omega, by omega⟩, hy ⟨q, by omega, by omega⟩ _ c2 (fun x i hx => by rw [up_ne (Or.inl hx), up_ne (Or.inl hx)])⟩

/-- during the search: the state, what was the most, what else is whose -/
def IL (μ0 : Mem) (σ : Sg) (p : Pt) (μ : Mem) : Prop := CSt μ σ ∧ PA μ 489 p ∧ frC μ0 μ
theorem C_lie {σ : Sg} {way f a what : Int} (hC : CSt μ σ) (ho : OKs σ)
    (hy : ((0 ≤ way ∧ way ≤ 4) ∧ (0 ≤ f ∧ f < σ.w 1)) ∧ (0 ≤ a ∧ a < σ.w 1) ∧ (0 ≤ what ∧ what ≤ 2) ∧ alw σ.w way → ∀ μ', CSt μ' σ → frC μ μ' → Q (some (1, lieA σ.w way f a what)) (L0 n) μ')
    (hn : ¬ (((0 ≤ way ∧ way ≤ 4) ∧ (0 ≤ f ∧ f < σ.w 1)) ∧ (0 ≤ a ∧ a < σ.w 1) ∧ (0 ≤ what ∧ what ≤ 2) ∧ alw σ.w way) → Q (some (1, NOv)) (L0 n) μ) : TR mX9_lie 7 (0, 0) [(2, 1), (0, way), (0, f), (0, a), (0, what)] (L0 n) μ Q := by
  have hN := ho.1.1.2.1
  have hS := ho.1.1.1
  apply t_X9_lie (layOK n) k1
  rw [rf_desk.1, rf_desk.2.2.2.2.1, rf_desk.2.2.2.2.2.2.1, rf_desk.2.2.2.2.2.2.2.2.2.2.2.1]
  refine c_X9_isWay fun r1 h1 => ⟨r1, rfl, rfl, fun q => hn (by omega), fun q => c_hasA k2 hC.1 fun r2 h2 => ⟨r2, rfl, rfl, fun q2 => hn (by omega), fun q2 => c_hasA k2 hC.1 fun r3 h3 => ⟨r3, rfl, rfl, fun q3 => hn (by omega), fun q3 => ⟨fun q4 => hn (by omega), fun q4 => ⟨fun q5 => c_X9_isAllowed hC.1 fun r5 h5 => ⟨r5, rfl, rfl, fun q6 => ?_, fun q6 => ?_⟩, fun q5 => hn (by omega)⟩⟩⟩⟩⟩
  · have ha' : ¬ alw σ.w way := by unfold alw; rcases h5 with z | z; omega; exact z.2
    exact hn (fun z => ha' z.2.2.2)
  have ha' : alw σ.w way := by unfold alw; rcases h5 with z | z; exact z.2; exact absurd z.1 q6
  have ha : 0 ≤ a ∧ a < 5 := by omega
  have hf : 0 ≤ f ∧ f < σ.w 1 := by omega
  have hway : 0 ≤ way ∧ way ≤ 4 := by omega
  have hy := hy ⟨⟨hway, hf⟩, by omega, by omega, ha'⟩
  unfold lieA wb at hy
  refine c_run hC ho hway hf ha'.2 (fun w' e rk μ1 c1 d1 e1 f1 => ⟨_, rfl, rfl, fun _ => ⟨ha, ?_⟩, fun z => absurd z (by decide)⟩) (fun e μ1 c1 f1 => ⟨_, rfl, rfl, fun z => absurd rfl z, fun _ => by rw [e] at hy; exact hy μ1 c1 (frX_C (frR_X f1))⟩)
  rw [own_rf ha]
  rw [e] at hy
  refine c_most c1 ho rk d1 ha fun μ2 p2 f2 => ⟨rfl, rfl, ?_⟩
  have hp := wbP_b ho.1 rk ha
  generalize hP : wbP σ.w w' a = p at *
  have hy : ∀ μ', CSt μ' σ → frC μ μ' → Q (some (1, if 0 ≤ (lieS σ.w way f a p (σ.w 0 * σ.w 0).toNat).1 then (if what = 0 then (lieS σ.w way f a p (σ.w 0 * σ.w 0).toNat).1 else if what = 1 then (lieS σ.w way f a p (σ.w 0 * σ.w 0).toNat).2.1 else (lieS σ.w way f a p (σ.w 0 * σ.w 0).toNat).2.2) else NOv)) (L0 n) μ' := by rw [← hP]; exact hy
  have i2 : IL μ σ p μ2 := ⟨CSt_fr c1 ho (frMo_X f2), p2, fun x i hx => (f2 x i (by omega) (by omega)).trans (f1 x i (by omega))⟩
  have sq : 0 ≤ σ.w 0 * σ.w 0 := Int.mul_nonneg (by omega) (by omega)
  have lb := fun k : Nat => lieS_b (p := p) ho.1 hf hway ha'.2 ha hp k
  -- the end
  have fin : ∀ μ3, IL μ σ (lieS σ.w way f a p (σ.w 0 * σ.w 0).toNat).2 μ3 → WA mX9_lie 7 (0, 0) 109 [(2, 1), (0, way), (0, f), (0, a), (0, what), (0, (lieS σ.w way f a p (σ.w 0 * σ.w 0).toNat).1), (0, σ.w 0), (9, 0)] [] (L0 n) μ3 Q := by
    intro μ3 i3
    have b := lb (σ.w 0 * σ.w 0).toNat (by omega)
    have hy := hy μ3 i3.1 i3.2.2
    generalize lieS σ.w way f a p (σ.w 0 * σ.w 0).toNat = r at *
    apply s_X9_lie_109 (layOK n) k1
    rw [rf_desk.1, rf_desk.2.2.2.2.2.2.2.2.2.2.2.1, i3.1.1.1]
    refine ⟨fun _ => ⟨fun z => ⟨fun z2 => ⟨⟨by omega, by omega⟩, c_X3_part k489 ⟨_, rfl, rfl, ?_⟩⟩, fun z2 => ?_⟩, fun z => ?_⟩, fun z => absurd (Int.le_refl _) z⟩
    · rw [if_pos z, if_neg z2] at hy
      rw [i3.2.1.1, i3.2.1.2]
      by_cases z3 : what = 1
      · rw [if_pos z3] at hy; rw [if_pos (by omega)]; exact hy
      · rw [if_neg z3] at hy; rw [if_neg (by omega)]; exact hy
    · rw [if_pos z, if_pos z2] at hy; exact hy
    · rw [if_neg z] at hy; exact hy
  -- one move
  have step : ∀ (k : Nat) (l m : Int) (μ3 : Mem), (k : Int) < σ.w 0 * σ.w 0 → 0 ≤ l → l < σ.w 0 → 0 ≤ m → m < σ.w 0 → l * σ.w 0 + m = k → IL μ σ (lieS σ.w way f a p k).2 μ3 → (∀ μ4, IL μ σ (lieS σ.w way f a p (k + 1)).2 μ4 → WA mX9_lie 7 (0, 0) 124 [(2, 1), (0, way), (0, f), (0, a), (0, what), (0, (lieS σ.w way f a p (k + 1)).1), (0, l), (0, m + 1)] [] (L0 n) μ4 Q) → WA mX9_lie 7 (0, 0) 124 [(2, 1), (0, way), (0, f), (0, a), (0, what), (0, (lieS σ.w way f a p k).1), (0, l), (0, m)] [] (L0 n) μ3 Q := by
    intro k l m μ3 hk l0 l1 m0 m1 hlm i3 next
    have b := lb k (by omega)
    have em := (Int.ediv_emod_unique (a := (k : Int)) (b := σ.w 0) (r := m) (q := l) (by omega)).mpr ⟨by rw [← hlm, Int.mul_comm l (σ.w 0)]; omega, m0, m1⟩
    have es : lieS σ.w way f a p (k + 1) = lie1 σ.w way f a l m (lieS σ.w way f a p k) := by
      show lie1 σ.w way f a ((k : Int) / σ.w 0) ((k : Int) % σ.w 0) _ = _
      rw [em.1, em.2]
    rw [es] at next
    generalize lieS σ.w way f a p k = r at *
    have hl : 0 ≤ l ∧ l < 16 := ⟨l0, by omega⟩
    have hm : 0 ≤ m ∧ m < 16 := ⟨m0, by omega⟩
    apply s_X9_lie_124 (layOK n) k1
    rw [rf_desk.1, rf_desk.2.2.2.2.2.2.1, i3.1.1.1]
    have stay : ¬ mayL σ.w a l m → WA mX9_lie 7 (0, 0) 124 [(2, 1), (0, way), (0, f), (0, a), (0, what), (0, r.1), (0, l), (0, m + 1)] [] (L0 n) μ3 Q := fun hM => by
      have e1 : lie1 σ.w way f a l m r = r := by unfold lie1; rw [if_neg hM]
      rw [e1] at next
      exact next μ3 i3
    refine ⟨fun z => absurd z (by omega), fun _ => c_move i3.1 ho ha hl hm (fun hM μ4 c4 f4 => ?_) (fun hM => ⟨_, rfl, rfl, fun _ => ⟨⟨by omega, by omega⟩, stay hM⟩, fun z => absurd rfl z⟩)⟩
    refine ⟨_, rfl, rfl, fun z => absurd z (by decide), fun _ => ?_⟩
    have o4 : OKs (σ.setW (mvW σ.w a l m)) := OK_w ho (mvW_WK ho.1 ha hl hm hM)
    have e1 : (σ.setW (mvW σ.w a l m)).w 1 = σ.w 1 := mvW_low ha.1 hl.1 hm.1 (by decide)
    have hb := mayL_back ho.1 ha hl hm hM
    have bk : (σ.setW (mvW σ.w a l m)).setW (mvW (σ.setW (mvW σ.w a l m)).w a m l) = σ := by
      show σ.setW (mvW (mvW σ.w a l m) a m l) = σ
      rw [mvW_back hM.1]
      rfl
    -- moves back
    have back : ∀ (v : Int) (μ5 : Mem) (q : Pt), CSt μ5 (σ.setW (mvW σ.w a l m)) → PA μ5 489 q → frC μ μ5 → (∀ μ6, IL μ σ q μ6 → WA mX9_lie 7 (0, 0) 124 [(2, 1), (0, way), (0, f), (0, a), (0, what), (0, v), (0, l), (0, m + 1)] [] (L0 n) μ6 Q) → TR mX0_moveTold 0 (0, 0) [(2, 2), (0, a), (0, m), (0, l)] (L0 n) μ5 (fun r13 L14 μ15 => ∃ w16, r13 = some (0, w16) ∧ (L0 n) = L14 ∧ (inI (m + 1)) ∧ WA mX9_lie 7 (0, 0) 124 [(2, 1), (0, way), (0, f), (0, a), (0, what), (0, v), (0, l), (0, (m + 1))] [] (L0 n) μ15 Q) := by
      intro v μ5 q c5 p5 f5 nx
      refine c_move c5 o4 ha hm hl (fun _ μ6 c6 f6 => ⟨_, rfl, rfl, ⟨by omega, by omega⟩, ?_⟩) (fun z => absurd hb z)
      rw [bk] at c6
      exact nx μ6 ⟨c6, PA_fr p5 (fun i => f6 489 i (by omega)), fun x i hx => (f6 x i (by omega)).trans (f5 x i hx)⟩
    have fc4 : frC μ μ4 := fun x i hx => (f4 x i (by omega)).trans (i3.2.2 x i hx)
    have p4 : PA μ4 489 r.2 := PA_fr i3.2.1 (fun i => f4 489 i (by omega))
    refine c_run c4 o4 hway (by rw [e1]; exact hf) (by rw [e1]; exact ha'.2) (fun w2 e2 rk2 μ5 c5 d5 x5 f5 => ⟨_, rfl, rfl, fun z => absurd z (by decide), fun _ => ?_⟩) (fun e2 μ5 c5 f5 => ⟨_, rfl, rfl, fun _ => ?_, fun z => absurd rfl z⟩)
    · have p5 : PA μ5 489 r.2 := PA_fr p4 (fun i => f5 489 i (by omega))
      have fc5 : frC μ μ5 := fun x i hx => (f5 x i (by omega)).trans (fc4 x i hx)
      have ew : lie1 σ.w way f a l m r = if r.2.1 * (wbP (mvW σ.w a l m) w2 a).2 < (wbP (mvW σ.w a l m) w2 a).1 * r.2.2 then (100 * l + m, wbP (mvW σ.w a l m) w2 a) else r := by
        have e2 : res (mvW σ.w a l m) way f = some w2 := e2
        unfold lie1 wb
        rw [if_pos hM, e2]
        rfl
      rw [ew] at next
      refine c_brings (r := r.2) c5 o4 rk2 d5 ha b.1 p5 fun μ6 f6 => ⟨fun z p6 => ⟨_, rfl, rfl, fun y => absurd y (by decide), fun _ => ⟨⟨by omega, by omega⟩, ⟨by omega, by omega⟩, ?_⟩⟩, fun z p6 => ⟨_, rfl, rfl, fun _ => ?_, fun y => absurd rfl y⟩⟩
      · have z : r.2.1 * (wbP (mvW σ.w a l m) w2 a).2 < (wbP (mvW σ.w a l m) w2 a).1 * r.2.2 := z
        rw [if_pos z] at next
        exact back _ μ6 _ (CSt_fr c5 o4 (frMo_X f6)) p6 (fun x i hx => (f6 x i (by omega) (by omega)).trans (fc5 x i hx)) next
      · have z : ¬ r.2.1 * (wbP (mvW σ.w a l m) w2 a).2 < (wbP (mvW σ.w a l m) w2 a).1 * r.2.2 := z
        rw [if_neg z] at next
        exact back _ μ6 _ (CSt_fr c5 o4 (frMo_X f6)) p6 (fun x i hx => (f6 x i (by omega) (by omega)).trans (fc5 x i hx)) next
    · have ew : lie1 σ.w way f a l m r = r := by
        have e2 : res (mvW σ.w a l m) way f = none := e2
        unfold lie1 wb
        rw [if_pos hM, e2]
        rfl
      rw [ew] at next
      exact back _ μ5 _ c5 (PA_fr p4 (fun i => f5 489 i (by omega))) (fun x i hx => (f5 x i (by omega)).trans (fc4 x i hx)) next
  have key : ∀ (d k : Nat) (l m : Int) (μ3 : Mem), (k : Int) + d = σ.w 0 * σ.w 0 → 0 ≤ l → l < σ.w 0 → 0 ≤ m → m ≤ σ.w 0 → l * σ.w 0 + m = k → IL μ σ (lieS σ.w way f a p k).2 μ3 → WA mX9_lie 7 (0, 0) 124 [(2, 1), (0, way), (0, f), (0, a), (0, what), (0, (lieS σ.w way f a p k).1), (0, l), (0, m)] [] (L0 n) μ3 Q := by
    intro d
    induction d with
    | zero =>
      intro k l m μ3 hk l0 l1 m0 m1 hlm i3
      have mm := Int.mul_le_mul_of_nonneg_right (show l + 1 ≤ σ.w 0 by omega) (show 0 ≤ σ.w 0 by omega)
      rw [Int.add_mul, Int.one_mul] at mm
      have em : m = σ.w 0 := by omega
      have el : l + 1 = σ.w 0 := by
        by_cases z : l + 1 = σ.w 0
        · exact z
        · have m3 := Int.mul_le_mul_of_nonneg_right (show l + 2 ≤ σ.w 0 by omega) (show 0 ≤ σ.w 0 by omega)
          rw [Int.add_mul] at m3
          omega
      have ek : k = (σ.w 0 * σ.w 0).toNat := by omega
      subst ek
      apply s_X9_lie_124 (layOK n) k1
      rw [rf_desk.1, rf_desk.2.2.2.2.2.2.1, i3.1.1.1]
      refine ⟨fun _ => ⟨⟨by omega, by omega⟩, ?_⟩, fun z => absurd (show σ.w 0 ≤ m by omega) z⟩
      rw [el]
      exact fin μ3 i3
    | succ d ih =>
      intro k l m μ3 hk l0 l1 m0 m1 hlm i3
      by_cases z : m < σ.w 0
      · exact step k l m μ3 (by omega) l0 l1 m0 z hlm i3 fun μ4 i4 => ih (k + 1) l (m + 1) μ4 (by omega) l0 l1 (by omega) (by omega) (by omega) i4
      · have em : m = σ.w 0 := by omega
        have el : l + 1 < σ.w 0 := by
          by_cases z2 : l + 1 < σ.w 0
          · exact z2
          · have e2 : l = σ.w 0 - 1 := by omega
            rw [e2, Int.sub_mul, Int.one_mul] at hlm
            omega
        have elm : (l + 1) * σ.w 0 + 0 = k := by rw [Int.add_mul, Int.one_mul]; omega
        apply s_X9_lie_124 (layOK n) k1
        rw [rf_desk.1, rf_desk.2.2.2.2.2.2.1, i3.1.1.1]
        refine ⟨fun _ => ⟨⟨by omega, by omega⟩, ?_⟩, fun y => absurd (show σ.w 0 ≤ m by omega) y⟩
        apply s_X9_lie_109 (layOK n) k1
        rw [rf_desk.1, i3.1.1.1]
        refine ⟨fun y => absurd y (by omega), fun _ => ?_⟩
        exact step k (l + 1) 0 μ3 (by omega) (by omega) el (by omega) (by omega) elm i3 fun μ4 i4 => ih (k + 1) (l + 1) (0 + 1) μ4 (by omega) (by omega) el (by omega) (by omega) (by omega) i4
  apply s_X9_lie_109 (layOK n) k1
  rw [rf_desk.1, i2.1.1.1]
  refine ⟨fun y => absurd y (by omega), fun _ => ?_⟩
  exact key (σ.w 0 * σ.w 0).toNat 0 0 0 μ2 (by omega) (by omega) (by omega) (by omega) (by omega) (by omega) i2
theorem best1_b {w : Dv} {f a k : Int} {r : Int × Pt} (hw : WK w) (hf : 0 ≤ f ∧ f < w 1) (hk : 0 ≤ k ∧ k ≤ 4) (ha : 0 ≤ a ∧ a < 5) (hr : ptB r.2 ∧ (r.1 = -2 ∨ 0 ≤ r.1 ∧ r.1 ≤ 4)) : ptB (best1 w f a k r).2 ∧ ((best1 w f a k r).1 = -2 ∨ 0 ≤ (best1 w f a k r).1 ∧ (best1 w f a k r).1 ≤ 4) := by
  unfold best1
  split
  · rename_i al
    cases e : wb w k f a with
    | none => exact hr
    | some q =>
      have := wb_b hw hf hk al.2 ha e
      dsimp only
      split
      · exact ⟨this, Or.inr hk⟩
      · split
        · exact ⟨this, Or.inr hk⟩
        · exact hr
  · exact hr
theorem bestS_b {w : Dv} {f a : Int} (hw : WK w) (hf : 0 ≤ f ∧ f < w 1) (ha : 0 ≤ a ∧ a < 5) : ∀ k : Nat, k ≤ 5 → ptB (bestS w f a k).2 ∧ ((bestS w f a k).1 = -2 ∨ 0 ≤ (bestS w f a k).1 ∧ (bestS w f a k).1 ≤ 4)
  | 0, _ => ⟨⟨Int.le_refl 0, Int.le_refl 1, by show (1 : Int) ≤ 1000000000; decide⟩, Or.inl rfl⟩
  | k + 1, hk => best1_b hw hf ⟨by omega, by omega⟩ ha (bestS_b hw hf ha k (by omega))
theorem C_best {σ : Sg} {a f : Int} (hC : CSt μ σ) (ho : OKs σ)
    (hy : (0 ≤ a ∧ a < σ.w 1) ∧ (0 ≤ f ∧ f < σ.w 1) → ∀ μ', CSt μ' σ → frC μ μ' → Q (some (0, (bestS σ.w f a 5).1)) (L0 n) μ')
    (hn : ¬ ((0 ≤ a ∧ a < σ.w 1) ∧ (0 ≤ f ∧ f < σ.w 1)) → Q (some (0, -1)) (L0 n) μ) : TR mX9_best 7 (0, 0) [(2, 1), (0, a), (0, f)] (L0 n) μ Q := by
  have hN := ho.1.1.2.1
  apply t_X9_best (layOK n) k1
  rw [rf_desk.1]
  refine c_hasA k2 hC.1 fun r2 h2 => ⟨r2, rfl, rfl, fun q2 => hn (by omega), fun q2 => c_hasA k2 hC.1 fun r3 h3 => ⟨r3, rfl, rfl, fun q3 => ?_, fun q3 => hn (by omega)⟩⟩
  have ha : 0 ≤ a ∧ a < 5 := by omega
  have hf : 0 ≤ f ∧ f < σ.w 1 := by omega
  have hy := hy (by omega)
  have key : ∀ (d k : Nat) (μ1 : Mem), k + d = 5 → CSt μ1 σ → frC μ μ1 → ((bestS σ.w f a k).1 ≠ -2 → PA μ1 489 (bestS σ.w f a k).2) → WA mX9_best 7 (0, 0) 30 [(2, 1), (0, a), (0, f), (0, (bestS σ.w f a k).1), (0, (k : Int))] [] (L0 n) μ1 Q := by
    intro d
    induction d with
    | zero =>
      intro k μ1 hk c1 f1 p1
      have hk : k = 5 := by omega
      subst hk
      apply s_X9_best_30 (layOK n) k1
      exact ⟨fun _ => hy μ1 c1 f1, fun z => absurd (show (4 : Int) < ((5 : Nat) : Int) by omega) z⟩
    | succ d ih =>
      intro k μ1 hk c1 f1 p1
      have b := bestS_b ho.1 hf ha k (by omega)
      have next := ih (k + 1)
      have es : bestS σ.w f a (k + 1) = best1 σ.w f a k (bestS σ.w f a k) := rfl
      rw [es] at next
      generalize bestS σ.w f a k = r at *
      apply s_X9_best_30 (layOK n) k1
      rw [rf_desk.1, rf_desk.2.2.2.2.1, rf_desk.2.2.2.2.2.2.1, rf_desk.2.2.2.2.2.2.2.2.2.2.2.1]
      refine ⟨fun z => absurd z (by omega), fun _ => c_X9_isAllowed c1.1 fun r5 h5 => ⟨r5, rfl, rfl, fun z => ⟨⟨by omega, by omega⟩, ?_⟩, fun z => ?_⟩⟩
      · have ha' : ¬ alw σ.w k := by unfold alw; rcases h5 with y | y; omega; exact y.2
        have e1 : best1 σ.w f a k r = r := by unfold best1; rw [if_neg ha']
        rw [e1] at next
        exact next μ1 (by omega) c1 f1 p1
      have ha' : alw σ.w k := by unfold alw; rcases h5 with y | y; exact y.2; exact absurd y.1 z
      refine c_run c1 ho ⟨by omega, by omega⟩ hf ha'.2 (fun w' e rk μ2 c2 d2 x2 f2 => ⟨_, rfl, rfl, fun z => absurd z (by decide), fun _ => ?_⟩) (fun e μ2 c2 f2 => ⟨_, rfl, rfl, fun _ => ⟨⟨by omega, by omega⟩, ?_⟩, fun z => absurd rfl z⟩)
      · have eb : best1 σ.w f a k r = if r.1 = -2 then ((k : Int), wbP σ.w w' a) else if r.2.1 * (wbP σ.w w' a).2 < (wbP σ.w w' a).1 * r.2.2 then ((k : Int), wbP σ.w w' a) else r := by
          unfold best1 wb
          rw [if_pos ha', e]
          rfl
        rw [eb] at next
        have fc2 : frC μ μ2 := fun x i hx => (f2 x i (by omega)).trans (f1 x i hx)
        refine ⟨fun y => ?_, fun y => ?_⟩
        · rw [if_neg y] at next
          refine c_brings (r := r.2) c2 ho rk d2 ha b.1 (PA_fr (p1 y) (fun i => f2 489 i (by omega))) fun μ3 f3 => ⟨fun u p3 => ⟨_, rfl, rfl, fun v => absurd v (by decide), fun _ => ⟨⟨by omega, by omega⟩, ?_⟩⟩, fun u p3 => ⟨_, rfl, rfl, fun _ => ⟨⟨by omega, by omega⟩, ?_⟩, fun v => absurd rfl v⟩⟩
          · rw [if_pos u] at next
            exact next μ3 (by omega) (CSt_fr c2 ho (frMo_X f3)) (fun x i hx => (f3 x i (by omega) (by omega)).trans (fc2 x i hx)) (fun _ => p3)
          · rw [if_neg u] at next
            exact next μ3 (by omega) (CSt_fr c2 ho (frMo_X f3)) (fun x i hx => (f3 x i (by omega) (by omega)).trans (fc2 x i hx)) (fun _ => p3)
        · rw [if_pos y] at next
          rw [own_rf ha]
          refine ⟨ha, c_most c2 ho rk d2 ha fun μ3 p3 f3 => ⟨rfl, rfl, ⟨by omega, by omega⟩, ?_⟩⟩
          exact next μ3 (by omega) (CSt_fr c2 ho (frMo_X f3)) (fun x i hx => (f3 x i (by omega) (by omega)).trans (fc2 x i hx)) (fun _ => p3)
      · have eb : best1 σ.w f a k r = r := by
          unfold best1 wb
          rw [if_pos ha', e]
          rfl
        rw [eb] at next
        exact next μ2 (by omega) c2 (fun x i hx => (f2 x i (by omega)).trans (f1 x i hx)) (fun y => PA_fr (p1 y) (fun i => f2 489 i (by omega)))
  exact key 5 0 μ (by omega) hC (fun _ _ _ => rfl) (fun z => absurd rfl z)
end
