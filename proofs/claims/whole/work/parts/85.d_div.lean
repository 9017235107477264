/-! the desk on the division (the class) -/
theorem spn_row {row row' : Int → Int} {S : Nat} {u x y x' y' : Int} (h : ∀ s : Int, 0 ≤ s → s < S → row s = row' s) : spn row S u x y x' y' = spn row' S u x y x' y' := by
  unfold spn
  rw [pw_congr (w := row) (w' := row') S h, pw_congr (w := row) (w' := row') S h]
theorem hld_row {row row' : Int → Int} {S : Nat} {w : Dv} {a : Int} (h : ∀ s : Int, 0 ≤ s → s < S → row s = row' s) : hld row S w a = hld row' S w a := by
  unfold hld hldK
  rw [spn_row h, spn_row h]
theorem sumH_row {row row' : Int → Int} {S : Nat} {w : Dv} (h : ∀ s : Int, 0 ≤ s → s < S → row s = row' s) : ∀ k : Nat, sumH row S w k = sumH row' S w k
  | 0 => rfl
  | k + 1 => by
    show sumH row S w k + hld row S w k = sumH row' S w k + hld row' S w k
    rw [sumH_row h k, hld_row h]
theorem trm_row {row row' : Int → Int} {S : Nat} {w : Dv} (h : ∀ s : Int, 0 ≤ s → s < S → row s = row' s) : ∀ k : Nat, trm row S w k = trm row' S w k
  | 0 => rfl
  | k + 1 => by
    unfold trm
    rw [trm_row h k, spn_row h]
def envS (row : Int → Int) (S : Nat) (w : Dv) (mine : Int) : Nat → Int
  | 0 => 0
  | k + 1 => if mine < hld row S w k then bOr (envS row S w mine k) (bShl 1 k) else envS row S w mine k
def fairS (w : Dv) (how : Int) : Nat → Int
  | 0 => 0
  | k + 1 => if hld (rowW w k how) (w 0).toNat w k * w 1 < cum (rowW w k how) (w 0).toNat * w 3 then fairS w how k else bOr (fairS w how k) (bShl 1 k)
theorem sumT_congr {tb tb' : Int → Int → Int} {N : Int} (hN : 0 < N) : ∀ (i : Nat) (left : Int), (i : Int) ≤ N → (∀ a b : Int, 0 ≤ a → a < N → 0 ≤ b → b < N → tb a b = tb' a b) → sumT tb N i left = sumT tb' N i left
  | 0, _, _, _ => rfl
  | i + 1, left, hi, h => by
    unfold sumT
    rw [h i (left % N) (by omega) (by omega) (Int.emod_nonneg _ (by omega)) (Int.emod_lt_of_pos _ hN), sumT_congr hN i (left / N) (by omega) h]
theorem exF_congr {tb tb' : Int → Int → Int} {N : Int} (hN : 0 < N) (h : ∀ a b : Int, 0 ≤ a → a < N → 0 ≤ b → b < N → tb a b = tb' a b) : exF tb N = exF tb' N := by
  have e1 : ∀ c, exV tb N c = exV tb' N c := fun c => by
    unfold exV
    rw [sumT_congr hN N.toNat c (by omega) h]
  have e2 : ∀ k, exB tb N k = exB tb' N k := fun k => by
    induction k with
    | zero => rfl
    | succ k ih => unfold exB; rw [ih, e1]
  unfold exF
  rw [e2]
section
variable {n : Int} {μ : Mem} {Q : Option AV → Lay → Mem → Prop}
theorem full01 (hM : okM (L0 n) μ) {D : Int} (h : D = 41 ∨ D = 174 ∨ D = 307) : μ D 1 = 0 ∨ μ D 1 = 1 := by
  have e : ∀ D : Int, 1 ≤ D → D ≤ 509 → kd0 0 D = (1, 0) → μ D 1 = 0 ∨ μ D 1 = 1 := fun D d1 d2 hd => by
    have h1 := hM D 1 (by omega) d2
    have h2 : kd (L0 n) D = (1, 0) := (kd0_pos (m := 0) d1).trans hd
    unfold sty at h1
    rw [h2] at h1
    exact h1
  rcases h with rfl | rfl | rfl
  · exact e 41 (by decide) (by decide) (by decide +kernel)
  · exact e 174 (by decide) (by decide) (by decide +kernel)
  · exact e 307 (by decide) (by decide) (by decide +kernel)
theorem C_event {σ : Sg} {k what : Int} (hC : CSt μ σ) (ho : OKs σ)
    (hy1 : σ.w 2 = 1 ∧ k = -1 ∧ what = 0 → Q (some (1, σ.w 4)) (L0 n) μ)
    (hy2 : σ.w 2 = 1 ∧ (0 ≤ k ∧ k < σ.w 4) ∧ (0 ≤ what ∧ what ≤ 5) → Q (some (1, σ.w (210 + 6 * k + what))) (L0 n) μ)
    (hn : ¬ (σ.w 2 = 1 ∧ k = -1 ∧ what = 0) → ¬ (σ.w 2 = 1 ∧ (0 ≤ k ∧ k < σ.w 4) ∧ (0 ≤ what ∧ what ≤ 5)) → Q (some (1, NOv)) (L0 n) μ) : TR mX9_event 3 (0, 0) [(2, 1), (0, k), (0, what)] (L0 n) μ Q := by
  have h2 := ho.1.2.1
  have cn := WK_cn ho.1
  have c41 := cn.1.1
  have c42 := cn.1.2
  obtain ⟨r1, ⟨r2, r3⟩, -⟩ := hC.2.1.2
  apply t_X9_event (layOK n) k1
  rw [rf_desk.2.2.2.1, hC.2.1.1, r2]
  refine ⟨fun q => hn (by omega) (by omega), fun q => ⟨fun q2 => hn (by omega) (by omega), fun q2 => ⟨fun q3 => hn (by omega) (by omega), fun q3 => ⟨fun q4 => hn (by omega) (by omega), fun q4 => ⟨fun q5 => ⟨fun q6 => ?_, fun q6 => ⟨fun q7 => hn (by omega) (by omega), fun q7 => hy1 (by omega)⟩⟩, fun q5 => hn (by omega) (by omega)⟩⟩⟩⟩⟩
  have kE := (dv_K (n := n) k41).1 k (by omega) (by omega)
  rw [(dv_rf (Or.inl rfl)).1, (dv_all (Or.inl rfl)).1 k (by omega) (by omega)]
  have g := r3 k (by omega) (by omega)
  unfold evA at g kE
  obtain ⟨g0, g1, g2, g3, g4, g5⟩ := g
  have hy2 := hy2 (by omega)
  refine ⟨⟨by omega, by omega⟩, c_X2_part kE ⟨by omega, by omega⟩ ⟨_, rfl, rfl, ?_⟩⟩
  rw [g0, g1, g2, g3, g4, g5]
  rcases (show what = 0 ∨ what = 1 ∨ what = 2 ∨ what = 3 ∨ what = 4 ∨ what = 5 by omega) with rfl | rfl | rfl | rfl | rfl | rfl
  · rw [if_pos rfl]; rw [Int.add_zero] at hy2; exact hy2
  · rw [if_neg (by decide), if_pos rfl]; rw [show 210 + 6 * k + 1 = 211 + 6 * k by omega] at hy2; exact hy2
  · rw [if_neg (by decide), if_neg (by decide), if_pos rfl]; rw [show 210 + 6 * k + 2 = 212 + 6 * k by omega] at hy2; exact hy2
  · rw [if_neg (by decide), if_neg (by decide), if_neg (by decide), if_pos rfl]; rw [show 210 + 6 * k + 3 = 213 + 6 * k by omega] at hy2; exact hy2
  · rw [if_neg (by decide), if_neg (by decide), if_neg (by decide), if_neg (by decide), if_pos rfl]; rw [show 210 + 6 * k + 4 = 214 + 6 * k by omega] at hy2; exact hy2
  · rw [if_neg (by decide), if_neg (by decide), if_neg (by decide), if_neg (by decide), if_neg (by decide)]; rw [show 210 + 6 * k + 5 = 215 + 6 * k by omega] at hy2; exact hy2
theorem C_share {σ : Sg} {a k what : Int} (hC : CSt μ σ) (ho : OKs σ)
    (hy1 : σ.w 2 = 1 ∧ (0 ≤ a ∧ a < σ.w 1) ∧ k = -1 ∧ what = 0 → Q (some (1, σ.w (165 + a))) (L0 n) μ)
    (hy2 : σ.w 2 = 1 ∧ (0 ≤ a ∧ a < σ.w 1) ∧ (0 ≤ k ∧ k < σ.w (165 + a)) ∧ (0 ≤ what ∧ what ≤ 3) → Q (some (1, σ.w (170 + 8 * a + 4 * k + what))) (L0 n) μ)
    (hn : ¬ (σ.w 2 = 1 ∧ (0 ≤ a ∧ a < σ.w 1) ∧ k = -1 ∧ what = 0) → ¬ (σ.w 2 = 1 ∧ (0 ≤ a ∧ a < σ.w 1) ∧ (0 ≤ k ∧ k < σ.w (165 + a)) ∧ (0 ≤ what ∧ what ≤ 3)) → Q (some (1, NOv)) (L0 n) μ) : TR mX9_share 2 (0, 0) [(2, 1), (0, a), (0, k), (0, what)] (L0 n) μ Q := by
  have h2 := ho.1.2.1
  have hN := ho.1.1.2.1
  have cn := WK_cn ho.1
  obtain ⟨r1, -, r4, r5⟩ := hC.2.1.2
  apply t_X9_share (layOK n) k1
  rw [rf_desk.2.2.2.1, rf_desk.1, hC.2.1.1]
  refine ⟨fun q => hn (by omega) (by omega), fun q => c_hasA k2 hC.1 fun r h => ⟨r, rfl, rfl, fun q2 => hn (by omega) (by omega), fun q2 => ⟨fun q3 => hn (by omega) (by omega), fun q3 => ⟨fun q4 => ⟨fun q5 => hn (by omega) (by omega), fun q5 => ?_⟩, fun q4 => hn (by omega) (by omega)⟩⟩⟩⟩
  have ha : 0 ≤ a ∧ a < 5 := by omega
  have mm := cn.2 a ha.1 ha.2
  rw [(dv_rf (Or.inl rfl)).2.1, r4 a ha.1 ha.2]
  refine ⟨ha, fun q6 => ⟨fun q7 => ?_, fun q7 => ⟨fun q8 => hn (by omega) (by omega), fun q8 => hy1 (by omega)⟩⟩, fun q6 => hn (by omega) (by omega)⟩
  have kH := hl_K (n := n) k41 ha (show 0 ≤ k ∧ k < 2 by omega)
  refine c_X1_held k41 ha (by omega) ⟨_, rfl, rfl, kH, c_X7_part kH ⟨by omega, by omega⟩ ⟨_, rfl, rfl, ?_⟩⟩
  obtain ⟨g0, g1, g2, g3⟩ := r5 a k ha.1 ha.2 (by omega) (by omega)
  have hy2 := hy2 (by omega)
  rw [g0, g1, g2, g3]
  rcases (show what = 0 ∨ what = 1 ∨ what = 2 ∨ what = 3 by omega) with rfl | rfl | rfl | rfl
  · rw [if_pos rfl]; rw [Int.add_zero] at hy2; exact hy2
  · rw [if_neg (by decide), if_pos rfl]; rw [show 170 + 8 * a + 4 * k + 1 = 171 + 8 * a + 4 * k by omega] at hy2; exact hy2
  · rw [if_neg (by decide), if_neg (by decide), if_pos rfl]; rw [show 170 + 8 * a + 4 * k + 2 = 172 + 8 * a + 4 * k by omega] at hy2; exact hy2
  · rw [if_neg (by decide), if_neg (by decide), if_neg (by decide)]; rw [show 170 + 8 * a + 4 * k + 3 = 173 + 8 * a + 4 * k by omega] at hy2; exact hy2
/-- what the division holds, by a row of the cake -/
theorem c_hold {σ : Sg} {D a b how : Int} {w : Dv} (hC : CKr μ 2 σ.w) (hs : SW σ.w) (kD : isK (L0 n) D (1, 0)) (hd : DR μ D w) (hw : WF (σ.w 0) w) (ha : 0 ≤ a ∧ a < 5) (hb : 0 ≤ b ∧ b < 5) (hh : how = 0 ∨ how = 1)
    (h : Q (some (1, hld (rowW σ.w b how) (σ.w 0).toNat w a)) (L0 n) μ) : TR mX1_holds 3 (0, 0) [(2, D), (0, a), (2, 2), (2, rowA 2 b how)] (L0 n) μ Q := by
  refine c_X1_holds kD k2 (rowA_K k2 hb) ha (by rw [hC.1]; exact hs.1) (CKr_ok hC hs hb hh) hd hw.1 (by rw [hC.1]; exact hw.2.2) ?_
  have hS := hs.1
  rw [hC.1, hld_row (row := μ (rowA 2 b how)) (row' := rowW σ.w b how) (fun s s0 s1 => CKr_row hC hb hh s s0 (by omega))]
  exact h
theorem hld_pos {w w' : Dv} (hs : SW w) (hw : WF (w 0) w') {a b how : Int} (ha : 0 ≤ a ∧ a < 5) (hb : 0 ≤ b ∧ b < 5) : 0 ≤ hld (rowW w b how) (w 0).toNat w' a ∧ hld (rowW w b how) (w 0).toNat w' a ≤ 288 * w' 3 := by
  have hS := hs.1
  have e : (((w 0).toNat : Nat) : Int) = w 0 := by omega
  exact hld_b (hs.2.2 b how hb.1 hb.2) (by omega) hw.1 (by rw [e]; exact hw.2.2) ha
theorem C_gets {σ : Sg} {a b how part : Int} (hC : CSt μ σ) (ho : OKs σ)
    (hy : (0 ≤ a ∧ a < σ.w 1) ∧ (0 ≤ b ∧ b < σ.w 1) ∧ (how = 0 ∨ how = 1) ∧ (part = 0 ∨ part = 1) ∧ σ.w 2 = 1 → ∀ μ', CSt μ' σ → frC μ μ' → Q (some (1, frac (hld (rowW σ.w a how) (σ.w 0).toNat σ.w b) (σ.w 3) part)) (L0 n) μ')
    (hn : ¬ ((0 ≤ a ∧ a < σ.w 1) ∧ (0 ≤ b ∧ b < σ.w 1) ∧ (how = 0 ∨ how = 1) ∧ (part = 0 ∨ part = 1) ∧ σ.w 2 = 1) → Q (some (1, NOv)) (L0 n) μ) : TR mX9_gets 4 (0, 0) [(2, 1), (0, a), (0, b), (0, how), (0, part)] (L0 n) μ Q := by
  have h2 := ho.1.2.1
  have hN := ho.1.1.2.1
  have hu := ho.1.2.2.1.1
  have u1 := hu.1
  have u2 := hu.2
  apply t_X9_gets (layOK n) k1
  rw [rf_desk.2.2.2.1, rf_desk.1]
  refine c_hasA k2 hC.1 fun r1 h1 => ⟨r1, rfl, rfl, fun q => hn (by omega), fun q => c_hasA k2 hC.1 fun r2 h2 => ⟨r2, rfl, rfl, fun q2 => hn (by omega), fun q2 => c_X9_isFlag fun r3 h3 => ⟨r3, rfl, rfl, fun q3 => hn (by omega), fun q3 => c_X9_isFlag fun r4 h4 => ⟨r4, rfl, rfl, fun q4 => hn (by omega), fun q4 => ?_⟩⟩⟩⟩
  rw [hC.2.1.1]
  refine ⟨fun q5 => ?_, fun q5 => hn (by omega)⟩
  have ha : 0 ≤ a ∧ a < 5 := by omega
  have hb : 0 ≤ b ∧ b < 5 := by omega
  have hp := hld_pos (how := how) ho.1.1 ho.1.2.2.1 hb ha
  have e3 : μ 41 2 = σ.w 3 := hC.2.1.2.1
  refine c_X0_row k2 ha ⟨_, rfl, rfl, rowA_K k2 ha, c_hold (how := how) hC.1 ho.1.1 k41 hC.2.1.2 ho.1.2.2.1 hb ha (by omega) ⟨_, rfl, rfl, ?_⟩⟩
  rw [e3]
  exact c_X9_tell hp.1 ⟨by omega, by omega⟩ fun μ' f1 f2 => ⟨_, rfl, rfl, hy (by omega) μ' (CSt_fr hC ho f1) (frX_C f1)⟩
theorem C_envies {σ : Sg} {a how : Int} (hC : CSt μ σ) (ho : OKs σ)
    (hy : (0 ≤ a ∧ a < σ.w 1) ∧ (how = 0 ∨ how = 1) ∧ σ.w 2 = 1 → Q (some (0, envS (rowW σ.w a how) (σ.w 0).toNat σ.w (hld (rowW σ.w a how) (σ.w 0).toNat σ.w a) (σ.w 1).toNat)) (L0 n) μ)
    (hs : (0 ≤ a ∧ a < σ.w 1) ∧ (how = 0 ∨ how = 1) ∧ ¬ σ.w 2 = 1 → Q (some (0, -5)) (L0 n) μ)
    (hn : ¬ ((0 ≤ a ∧ a < σ.w 1) ∧ (how = 0 ∨ how = 1)) → Q (some (0, -1)) (L0 n) μ) : TR mX9_envies 4 (0, 0) [(2, 1), (0, a), (0, how)] (L0 n) μ Q := by
  have h2 := ho.1.2.1
  have hN := ho.1.1.2.1
  apply t_X9_envies (layOK n) k1
  rw [rf_desk.2.2.2.1, rf_desk.1]
  refine c_hasA k2 hC.1 fun r1 h1 => ⟨r1, rfl, rfl, fun q => hn (by omega), fun q => c_X9_isFlag fun r3 h3 => ⟨r3, rfl, rfl, fun q3 => ?_, fun q3 => hn (by omega)⟩⟩
  rw [hC.2.1.1]
  refine ⟨fun q5 => ?_, fun q5 => hs (by omega)⟩
  have ha : 0 ≤ a ∧ a < 5 := by omega
  have hy := hy (by omega)
  refine c_X0_row k2 ha ⟨_, rfl, rfl, rowA_K k2 ha, c_hold (how := how) hC.1 ho.1.1 k41 hC.2.1.2 ho.1.2.2.1 ha ha (by omega) ⟨_, rfl, rfl, ?_⟩⟩
  have key : ∀ (d k : Nat), k + d = (σ.w 1).toNat → WA mX9_envies 4 (0, 0) 64 [(2, 1), (9, 0), (9, 0), (2, rowA 2 a how), (1, hld (rowW σ.w a how) (σ.w 0).toNat σ.w a), (9, 0), (0, envS (rowW σ.w a how) (σ.w 0).toNat σ.w (hld (rowW σ.w a how) (σ.w 0).toNat σ.w a) k), (0, (k : Int))] [] (L0 n) μ Q := by
    intro d
    induction d with
    | zero =>
      intro k hk
      have hk : k = (σ.w 1).toNat := by omega
      subst hk
      apply s_X9_envies_64 (layOK n) k1 (rowA_K k2 ha)
      rw [rf_desk.1, hC.1.2.1]
      exact ⟨fun _ => hy, fun z => absurd (show σ.w 1 ≤ (((σ.w 1).toNat : Nat) : Int) by omega) z⟩
    | succ d ih =>
      intro k hk
      have next := ih (k + 1) (by omega)
      have e : envS (rowW σ.w a how) (σ.w 0).toNat σ.w (hld (rowW σ.w a how) (σ.w 0).toNat σ.w a) (k + 1) = if hld (rowW σ.w a how) (σ.w 0).toNat σ.w a < hld (rowW σ.w a how) (σ.w 0).toNat σ.w k then bOr (envS (rowW σ.w a how) (σ.w 0).toNat σ.w (hld (rowW σ.w a how) (σ.w 0).toNat σ.w a) k) (bShl 1 k) else envS (rowW σ.w a how) (σ.w 0).toNat σ.w (hld (rowW σ.w a how) (σ.w 0).toNat σ.w a) k := rfl
      rw [e] at next
      apply s_X9_envies_64 (layOK n) k1 (rowA_K k2 ha)
      rw [rf_desk.1, hC.1.2.1, rf_desk.2.2.2.1]
      refine ⟨fun z => absurd z (by omega), fun _ => c_hold (how := how) hC.1 ho.1.1 k41 hC.2.1.2 ho.1.2.2.1 ⟨by omega, by omega⟩ ha (by omega) ⟨_, rfl, rfl, fun z => ⟨⟨by omega, by omega⟩, ?_⟩, fun z => ⟨⟨by omega, by omega⟩, ?_⟩⟩⟩
      · rw [if_neg (by omega)] at next; exact next
      · rw [if_pos (by omega)] at next; exact next
  exact key (σ.w 1).toNat 0 (by omega)
theorem C_fair {σ : Sg} {how : Int} (hC : CSt μ σ) (ho : OKs σ)
    (hy : (how = 0 ∨ how = 1) ∧ σ.w 2 = 1 → Q (some (0, fairS σ.w how (σ.w 1).toNat)) (L0 n) μ)
    (hs : (how = 0 ∨ how = 1) ∧ ¬ σ.w 2 = 1 → Q (some (0, -5)) (L0 n) μ)
    (hn : ¬ (how = 0 ∨ how = 1) → Q (some (0, -1)) (L0 n) μ) : TR mX9_fair 4 (0, 0) [(2, 1), (0, how)] (L0 n) μ Q := by
  have h2 := ho.1.2.1
  have hN := ho.1.1.2.1
  have hS := ho.1.1.1
  have hu := ho.1.2.2.1.1
  have u1 := hu.1
  have u2 := hu.2
  have e3 : μ 41 2 = σ.w 3 := hC.2.1.2.1
  apply t_X9_fair (layOK n) k1
  rw [rf_desk.2.2.2.1]
  refine c_X9_isFlag fun r3 h3 => ⟨r3, rfl, rfl, fun q3 => ?_, fun q3 => hn (by omega)⟩
  rw [hC.2.1.1]
  refine ⟨fun q5 => ?_, fun q5 => hs (by omega)⟩
  have hh : how = 0 ∨ how = 1 := by omega
  have hy := hy (by omega)
  have key : ∀ (d k : Nat), k + d = (σ.w 1).toNat → WA mX9_fair 4 (0, 0) 26 [(2, 1), (0, how), (0, fairS σ.w how k), (0, (k : Int)), (9, 0)] [] (L0 n) μ Q := by
    intro d
    induction d with
    | zero =>
      intro k hk
      have hk : k = (σ.w 1).toNat := by omega
      subst hk
      apply s_X9_fair_26 (layOK n) k1
      rw [rf_desk.1, hC.1.2.1]
      exact ⟨fun _ => hy, fun z => absurd (show σ.w 1 ≤ (((σ.w 1).toNat : Nat) : Int) by omega) z⟩
    | succ d ih =>
      intro k hk
      have next := ih (k + 1) (by omega)
      have e : fairS σ.w how (k + 1) = if hld (rowW σ.w k how) (σ.w 0).toNat σ.w k * σ.w 1 < cum (rowW σ.w k how) (σ.w 0).toNat * σ.w 3 then fairS σ.w how k else bOr (fairS σ.w how k) (bShl 1 k) := rfl
      rw [e] at next
      have hk5 : 0 ≤ (k : Int) ∧ (k : Int) < 5 := by omega
      have hp := hld_pos (how := how) ho.1.1 ho.1.2.2.1 hk5 hk5
      have mb := mulLB hp.1 (show 0 ≤ σ.w 1 by omega) (show hld (rowW σ.w k how) (σ.w 0).toNat σ.w k ≤ 288000000000 by omega) hN.2
      have hrow := ho.1.1.2.2 k how hk5.1 hk5.2
      have cb := cum_b hrow (σ.w 0).toNat (by omega)
      have cu := mulLB cb.1 (show 0 ≤ σ.w 3 by omega) (show cum (rowW σ.w k how) (σ.w 0).toNat ≤ 144 by omega) u2
      apply s_X9_fair_26 (layOK n) k1
      rw [rf_desk.1, hC.1.2.1, rf_desk.2.2.2.1]
      refine ⟨fun z => absurd z (by omega), fun _ => c_X0_row k2 hk5 ⟨_, rfl, rfl, rowA_K k2 hk5, c_hold (how := how) hC.1 ho.1.1 k41 hC.2.1.2 ho.1.2.2.1 hk5 hk5 hh ⟨_, rfl, rfl, ?_⟩⟩⟩
      rw [hC.1.2.1]
      refine ⟨⟨by omega, by omega⟩, c_X0_total k2 (rowA_K k2 hk5) (by rw [hC.1.1]; omega) (CKr_ok hC.1 ho.1.1 hk5 hh) ⟨_, rfl, rfl, ?_⟩⟩
      rw [e3, hC.1.1, cum_congr (w := μ (rowA 2 (k : Int) how)) (w' := rowW σ.w k how) (σ.w 0).toNat (fun t t0 t1 => CKr_row hC.1 hk5 hh t t0 (by omega))]
      refine ⟨⟨by omega, by omega⟩, fun z => ⟨⟨by omega, by omega⟩, ?_⟩, fun z => ⟨⟨by omega, by omega⟩, ?_⟩⟩
      · rw [if_pos z] at next; exact next
      · rw [if_neg z] at next; exact next
  exact key (σ.w 1).toNat 0 (by omega)
theorem C_exchange {σ : Sg} (hC : CSt μ σ) (ho : OKs σ)
    (hy : σ.w 2 = 1 → ∀ μ', CSt μ' σ → frC μ μ' → Q (some (0, exF (fun a b => hld (rowW σ.w a 0) (σ.w 0).toNat σ.w b) (σ.w 1))) (L0 n) μ')
    (hs : ¬ σ.w 2 = 1 → Q (some (0, -5)) (L0 n) μ) : TR mX9_exchange 5 (0, 0) [(2, 1)] (L0 n) μ Q := by
  have h2 := ho.1.2.1
  have hN := ho.1.1.2.1
  have hS := ho.1.1.1
  have cn := WK_cn ho.1
  apply t_X9_exchange (layOK n) k1
  rw [rf_desk.2.2.2.1, rf_desk.1, hC.2.1.1]
  refine ⟨fun q => ?_, fun q => hs (by omega)⟩
  have er : ∀ a : Int, 0 ≤ a → a < 5 → ∀ t : Int, 0 ≤ t → t < 16 → μ (2 + 2 + a) t = rowW σ.w a 0 t := fun a a0 a1 t t0 t1 => by
    have := CKr_row hC.1 (a := a) (how := 0) ⟨a0, a1⟩ (Or.inl rfl) t t0 t1
    unfold rowA at this
    rw [if_neg (by decide)] at this
    exact this
  refine c_X1_bestExchange k41 k2 (by rw [hC.1.2.1]; exact hN) (by rw [hC.1.1]; exact hS) (fun a a0 a1 s s0 s1 => by rw [er a a0 a1 s s0 s1]; exact ho.1.1.2.2 a 0 a0 a1 s s0 s1) hC.2.1.2 ho.1.2.2.1.1 (by rw [hC.1.1]; exact ho.1.2.2.1.2.2) cn.1.2 fun μ' f => ⟨_, rfl, rfl, ?_⟩
  rw [hC.1.1, hC.1.2.1, exF_congr (tb' := fun a b => hld (rowW σ.w a 0) (σ.w 0).toNat σ.w b) (by omega) (fun a b a0 a1 b0 b1 => hld_row (fun s s0 s1 => er a a0 (by omega) s s0 (by omega)))]
  have fx : frX μ μ' := fun x i hx => f x i (by omega)
  exact hy (by omega) μ' (CSt_fr hC ho fx) (frX_C fx)
theorem C_cuts {σ : Sg} (hC : CSt μ σ) (ho : OKs σ)
    (hy : σ.w 2 = 1 → ∀ μ', CSt μ' σ → frC μ μ' → Q (some (0, ((cutN (σ.w 0) σ.w 5).length : Int))) (L0 n) μ')
    (hs : ¬ σ.w 2 = 1 → Q (some (0, -5)) (L0 n) μ) : TR mX9_cuts 4 (0, 0) [(2, 1)] (L0 n) μ Q := by
  have h2 := ho.1.2.1
  apply t_X9_cuts (layOK n) k1
  rw [rf_desk.2.2.2.1, rf_desk.1, hC.2.1.1, hC.1.1]
  refine ⟨fun q => c_X1_countCuts k41 ho.1.1.1 hC.2.1.2 ho.1.2.2.1.1 ho.1.2.2.1.2.2 fun μ' f => ⟨_, rfl, rfl, ?_⟩, fun q => hs (by omega)⟩
  have fx : frX μ μ' := fun x i hx => f x i (by omega)
  exact hy (by omega) μ' (CSt_fr hC ho fx) (frX_C fx)
theorem C_off {σ : Sg} {a what part : Int} (hC : CSt μ σ) (ho : OKs σ)
    (hy : (0 ≤ a ∧ a < σ.w 1) ∧ (what = 0 ∨ what = 1) ∧ (part = 0 ∨ part = 1) ∧ σ.w 2 = 1 → ∀ μ', CSt μ' σ → frC μ μ' → Q (some (1, frac (if what = 0 then trm (rowW σ.w a 0) (σ.w 0).toNat σ.w (σ.w 4).toNat else cum (rowW σ.w a 0) (σ.w 0).toNat * σ.w 3 - sumH (rowW σ.w a 0) (σ.w 0).toNat σ.w 5) (σ.w 3) part)) (L0 n) μ')
    (hn : ¬ ((0 ≤ a ∧ a < σ.w 1) ∧ (what = 0 ∨ what = 1) ∧ (part = 0 ∨ part = 1) ∧ σ.w 2 = 1) → Q (some (1, NOv)) (L0 n) μ) : TR mX9_off 5 (0, 0) [(2, 1), (0, a), (0, what), (0, part)] (L0 n) μ Q := by
  have h2 := ho.1.2.1
  have hN := ho.1.1.2.1
  have hS := ho.1.1.1
  have hu := ho.1.2.2.1.1
  have u1 := hu.1
  have u2 := hu.2
  have e3 : μ 41 2 = σ.w 3 := hC.2.1.2.1
  have eS : (((σ.w 0).toNat : Nat) : Int) = σ.w 0 := by omega
  have cn := WK_cn ho.1
  have c41 := cn.1.1
  have c42 := cn.1.2
  apply t_X9_off (layOK n) k1
  rw [rf_desk.2.2.2.1, rf_desk.1]
  refine c_hasA k2 hC.1 fun r1 h1 => ⟨r1, rfl, rfl, fun q => hn (by omega), fun q => c_X9_isFlag fun r3 h3 => ⟨r3, rfl, rfl, fun q3 => hn (by omega), fun q3 => c_X9_isFlag fun r4 h4 => ⟨r4, rfl, rfl, fun q4 => hn (by omega), fun q4 => ?_⟩⟩⟩
  rw [hC.2.1.1]
  refine ⟨fun q5 => ?_, fun q5 => hn (by omega)⟩
  have ha : 0 ≤ a ∧ a < 5 := by omega
  have hy := hy (by omega)
  rw [own_rf ha]
  have eR : rowA 2 a 0 = 4 + a := by unfold rowA; rw [if_neg (by decide)]; omega
  have kr : isK (L0 n) (4 + a) (20, 16) := by rw [← eR]; exact rowA_K k2 ha
  have er : ∀ t : Int, 0 ≤ t → t < 16 → μ (4 + a) t = rowW σ.w a 0 t := fun t t0 t1 => by rw [← eR]; exact CKr_row hC.1 ha (Or.inl rfl) t t0 t1
  have rk : rowOK (μ (4 + a)) := by rw [← eR]; exact CKr_ok hC.1 ho.1.1 ha (Or.inl rfl)
  have hrow := ho.1.1.2.2 a 0 ha.1 ha.2
  refine ⟨ha, fun q6 => ?_, fun q6 => ?_⟩
  · rw [if_neg q6] at hy
    refine c_X1_leftOver k41 k2 kr (by rw [hC.1.1]; exact hS) rk hC.2.1.2 hu (by rw [hC.1.1]; exact ho.1.2.2.1.2.2) ⟨_, rfl, rfl, ?_⟩
    rw [e3, hC.1.1, cum_congr (w := μ (4 + a)) (w' := rowW σ.w a 0) (σ.w 0).toNat (fun t t0 t1 => er t t0 (by omega)), sumH_row (row := μ (4 + a)) (row' := rowW σ.w a 0) (fun t t0 t1 => er t t0 (by omega)) 5]
    have := ho.1.2.2.2.1 (rowW σ.w a 0) hrow
    exact c_X9_tell (by omega) ⟨by omega, by omega⟩ fun μ' f1 f2 => ⟨_, rfl, rfl, hy μ' (CSt_fr hC ho f1) (frX_C f1)⟩
  · rw [if_pos q6] at hy
    refine c_X1_trimmedOff k41 k2 kr (by rw [hC.1.1]; exact hS) rk hC.2.1.2 hu (by rw [hC.1.1]; exact ho.1.2.2.1.2.1) ⟨_, rfl, rfl, ?_⟩
    rw [e3, hC.1.1, trm_row (row := μ (4 + a)) (row' := rowW σ.w a 0) (fun t t0 t1 => er t t0 (by omega))]
    have tb := trm_b (S := (σ.w 0).toNat) hrow (by omega) hu (by rw [eS]; exact ho.1.2.2.1.2.1) (σ.w 4).toNat (by omega)
    exact c_X9_tell tb.1 ⟨by omega, by omega⟩ fun μ' f1 f2 => ⟨_, rfl, rfl, hy μ' (CSt_fr hC ho f1) (frX_C f1)⟩
def cntA (σ : Sg) (v : Int) : Int := if v = 0 then σ.w 1 else if v = 1 then σ.w 0 else if v = 2 then σ.w 2 else if v = 3 then (if σ.w 2 = 1 then σ.w 3 else -5) else if v = 4 then σ.tn else if v = 5 then σ.pn else if v = 6 then σ.w 4 else -1
theorem C_count {σ : Sg} {v : Int} (hC : CSt μ σ) (ho : OKs σ) (hy : Q (some (0, cntA σ v)) (L0 n) μ) : TR mX9_count 0 (0, 0) [(2, 1), (0, v)] (L0 n) μ Q := by
  have h2 := ho.1.2.1
  have hu := ho.1.2.2.1.1
  have u1 := hu.1
  have u2 := hu.2
  have e3 : μ 41 2 = σ.w 3 := hC.2.1.2.1
  have e4 : μ 41 3 = σ.w 4 := hC.2.1.2.2.1.1
  unfold cntA at hy
  apply t_X9_count (layOK n) k1
  rw [rf_desk.1, rf_desk.2.2.2.1, rf_desk.2.2.2.2.2.2.2.1, rf_desk.2.2.2.2.2.2.2.2.1, hC.1.1, hC.1.2.1, hC.2.1.1, e3, e4, hC.2.2.2.2.1.1, hC.2.2.2.2.2.1.1]
  refine ⟨⟨fun q => ?_, fun q => ?_, fun q => ⟨fun q2 => ?_, fun q2 => ?_⟩, fun q => ⟨fun q2 => ?_, fun q2 => ⟨⟨by omega, by omega⟩, ?_⟩⟩, fun q => ?_, fun q => ?_, fun q => ?_⟩, fun q => ?_⟩
  · rw [if_pos q] at hy; exact hy
  · rw [if_neg (by omega), if_pos q] at hy; exact hy
  · rw [if_neg (by omega), if_neg (by omega), if_pos q, q2] at hy; exact hy
  · rw [if_neg (by omega), if_neg (by omega), if_pos q, show σ.w 2 = 1 by omega] at hy; exact hy
  · rw [if_neg (by omega), if_neg (by omega), if_neg (by omega), if_pos q, if_neg (by omega)] at hy; exact hy
  · rw [if_neg (by omega), if_neg (by omega), if_neg (by omega), if_pos q, if_pos (by omega)] at hy; exact hy
  · rw [if_neg (by omega), if_neg (by omega), if_neg (by omega), if_neg (by omega), if_pos q] at hy; exact hy
  · rw [if_neg (by omega), if_neg (by omega), if_neg (by omega), if_neg (by omega), if_neg (by omega), if_pos q] at hy; exact hy
  · rw [if_neg (by omega), if_neg (by omega), if_neg (by omega), if_neg (by omega), if_neg (by omega), if_neg (by omega), if_pos q] at hy; exact hy
  · rw [if_neg (by omega), if_neg (by omega), if_neg (by omega), if_neg (by omega), if_neg (by omega), if_neg (by omega), if_neg (by omega)] at hy; exact hy
theorem k28 : isK (L0 n) 28 (0, 0) := isK0 (by decide) (by decide) (by decide +kernel)
theorem k307 : isK (L0 n) 307 (1, 0) := isK0 (by decide) (by decide) (by decide +kernel)
/-- a cake is copied -/
theorem CKr_copy {μ' : Mem} {c e : Int} {w : Dv} (h : CKr μ e w) (h0 : μ' c 0 = μ e 0) (h1 : μ' c 1 = μ e 1) (h2 : ∀ a i, inRow c a → 0 ≤ i → i < 16 → μ' a i = μ (a - c + e) i) : CKr μ' c w := by
  refine ⟨h0.trans h.1, h1.trans h.2.1, fun a s a0 a1 s0 s1 => ?_⟩
  obtain ⟨e1, e2⟩ := h.2.2 a s a0 a1 s0 s1
  rw [h2 (c + 2 + a) s (by unfold inRow; omega) s0 s1, h2 (c + 8 + a) s (by unfold inRow; omega) s0 s1, show c + 2 + a - c + e = e + 2 + a by omega, show c + 8 + a - c + e = e + 8 + a by omega]
  exact ⟨e1, e2⟩
theorem C_image {σ : Sg} (hC : CSt μ σ) (ho : OKs σ)
    (hy : ∀ μ', CSt μ' (σ.setI 1 σ.w) → frC μ μ' → Q (some (0, σ.w 1)) (L0 n) μ') : TR mX9_image 5 (0, 0) [(2, 1)] (L0 n) μ Q := by
  have h2 := ho.1.2.1
  have cn := WK_cn ho.1
  obtain ⟨h1, h2', h3, h4, h5, h6, h7⟩ := hC
  apply t_X9_image (layOK n) k1
  rw [rf_desk.2.2.1, rf_desk.1, rf_desk.2.2.2.2.2.1, rf_desk.2.2.2.1]
  refine c_X0_copy k28 k2 (by decide) fun μ1 g1 g2 g3 g4 => ⟨rfl, rfl, ?_⟩
  have f1 : ∀ x i, x < 28 ∨ 40 < x → μ1 x i = μ x i := fun x i hx => g4 x i (by omega) (by unfold inRow; omega)
  have d1 : DVr μ1 41 σ.w := DVr_fr h2' cn.1.2 (fun a a0 a1 => (cn.2 a a0 a1).2) (fun x i hx => f1 x i (by omega))
  refine TR.okM fun hM _ => c_X1_copy k307 k41 (by decide) d1.2 cn.1 cn.2 (by rw [d1.1]; exact h2) (full01 hM (Or.inl rfl)) fun μ2 y1 y2 y3 y4 => ⟨rfl, rfl, ?_⟩
  have f2 : ∀ x i, (x < 28 ∨ 40 < x) → (x < 307 ∨ 439 < x) → (x ≠ 1 ∨ i ≠ 6) → up μ2 1 6 1 x i = μ x i := fun x i hx hy' hz => by rw [up_ne hz, y4 x i (by unfold outD; omega), f1 x i hx]
  have u2 : ∀ x i, x ≠ 1 → up μ2 1 6 1 x i = μ2 x i := fun x i h => up_ne (Or.inl h)
  have cp : CKr μ2 28 σ.w := CKr_fr (CKr_copy h1 g1 g2 g3) (fun x i x0 x1 => y4 x i (by unfold outD; omega))
  have e1 : up μ2 1 6 1 2 1 = σ.w 1 := by rw [f2 2 1 (by omega) (by omega) (by omega), h1.2.1]
  rw [e1]
  refine hy _ ⟨CKr_fr h1 (fun x i x0 x1 => f2 x i (by omega) (by omega) (by omega)), DVr_fr h2' cn.1.2 (fun a a0 a1 => (cn.2 a a0 a1).2) (fun x i hx => f2 x i (by omega) (by omega) (by omega)), ⟨by rw [f2 442 0 (by omega) (by omega) (by omega), h3.1], by rw [f2 442 1 (by omega) (by omega) (by omega), h3.2]⟩, ⟨up_eq _ _ _ _, fun _ => ⟨CKr_fr cp (fun x i x0 x1 => u2 x i (by omega)), ⟨?_, ?_⟩⟩⟩, ⟨by rw [f2 473 0 (by omega) (by omega) (by omega), h5.1]; rfl, fun i i0 i1 => by rw [f2 474 i (by omega) (by omega) (by omega), h5.2 i i0 i1]; rfl⟩, ⟨by rw [f2 479 0 (by omega) (by omega) (by omega), h6.1]; rfl, fun i i0 i1 => by rw [f2 480 i (by omega) (by omega) (by omega), h6.2 i i0 i1]; rfl⟩, fun k k0 k1 => by rw [f2 487 k (by omega) (by omega) (by omega), h7.1 k k0 k1]; rfl, fun k i k0 k1 i0 i1 => by rw [f2 (483 + k) i (by omega) (by omega) (by omega), h7.2 k i k0 k1 i0 i1]; rfl⟩ (fun x i hx => f2 x i (by omega) (by omega) (by omega))
  · rw [u2 307 0 (by decide), y2, d1.1]; rfl
  · exact DR_frame y1 cn.1.2 (fun a a0 a1 => (cn.2 a a0 a1).2) (fun x i hx => u2 x i (by omega))
theorem C_back {σ : Sg} (hC : CSt μ σ) (ho : OKs σ)
    (hy : σ.hi = 1 → ∀ μ', CSt μ' (σ.setW σ.im) → frC μ μ' → Q (some (0, σ.im 1)) (L0 n) μ')
    (hs : ¬ σ.hi = 1 → Q (some (0, -5)) (L0 n) μ) : TR mX9_back 5 (0, 0) [(2, 1)] (L0 n) μ Q := by
  have hh := ho.2.1
  have h4 := hC.2.2.2.1
  apply t_X9_back (layOK n) k1
  rw [rf_desk.2.2.1, rf_desk.1, rf_desk.2.2.2.2.2.1, rf_desk.2.2.2.1, h4.1]
  refine ⟨fun q => ?_, fun q => hs (by omega)⟩
  have hi1 : σ.hi = 1 := by omega
  obtain ⟨g1, g2⟩ := h4.2 hi1
  have ok := ho.2.2.1 hi1
  have cn := WK_cn ok
  refine c_X0_copy k2 k28 (by decide) fun μ1 y1 y2 y3 y4 => ⟨rfl, rfl, ?_⟩
  have f1 : ∀ x i, x < 2 ∨ 14 < x → μ1 x i = μ x i := fun x i hx => y4 x i (by omega) (by unfold inRow; omega)
  have d1 : DVr μ1 307 σ.im := DVr_fr g2 cn.1.2 (fun a a0 a1 => (cn.2 a a0 a1).2) (fun x i hx => f1 x i (by omega))
  refine TR.okM fun hM _ => c_X1_copy k41 k307 (by decide) d1.2 cn.1 cn.2 (by rw [d1.1]; exact ok.2.1) (full01 hM (Or.inr (Or.inr rfl))) fun μ2 z1 z2 z3 z4 => ⟨rfl, rfl, ?_⟩
  have f2 : ∀ x i, (x < 2 ∨ 14 < x) → (x < 41 ∨ 173 < x) → μ2 x i = μ x i := fun x i hx hy' => by rw [z4 x i (by unfold outD; omega), f1 x i hx]
  have ck : CKr μ2 2 σ.im := CKr_fr (CKr_copy g1 y1 y2 y3) (fun x i x0 x1 => z4 x i (by unfold outD; omega))
  rw [ck.2.1]
  exact hy hi1 μ2 (CSt_w hC ho ck ⟨z2.trans d1.1, z1⟩ (fun x i hx => f2 x i (by omega) (by omega))) (fun x i hx => f2 x i (by omega) (by omega))
end
