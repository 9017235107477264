/-! the reference's answers on the division -/
theorem bOr_0 {x : Int} (h : inI x) : bOr x 0 = x := by
  unfold bOr
  rw [show Int32.ofInt 0 = 0 from rfl, Int32.or_zero]
  exact Int32.toInt_ofInt_of_le h.1 (by have := h.2; omega)
theorem inI_0 : inI 0 := ⟨by decide, by decide⟩
theorem envS_in {row : Int → Int} {S : Nat} {w : Dv} {m : Int} : ∀ k : Nat, inI (envS row S w m k)
  | 0 => inI_0
  | k + 1 => by
    unfold envS
    split
    · exact i32_in _
    · exact envS_in k
theorem fairS_in {w : Dv} {how : Int} : ∀ k : Nat, inI (fairS w how k)
  | 0 => inI_0
  | k + 1 => by
    unfold fairS
    split
    · exact fairS_in k
    · exact i32_in _
theorem rd_back {N D u s : Int} (hD : 0 < D) (hu : 0 < u) (e : s * D = N * u) : rdD N D ∣ u ∧ rdN N D * (u / rdD N D) = s := by
  have r := rd_eq (x := N) (y := D) (x' := s) (y' := u) hD hu e.symm
  rw [r.1, r.2]
  have d : rdD s u ∣ u := ⟨gc s u, (rdD_mul s u).symm⟩
  refine ⟨d, ?_⟩
  have p := rdD_pos (x := s) hu
  have c := Int.ediv_mul_cancel d
  have x := rd_cross s u
  have : rdN s u * (u / rdD s u) * rdD s u = s * rdD s u := by
    rw [Int.mul_assoc, c, x]
  exact Int.eq_of_mul_eq_mul_right (by omega) this
section
variable {n : Int} {μ : Mem} {Q : Option AV → Lay → Mem → Prop}
theorem c_isDiv {w : Dv} (hr : RWm μ w) (h : ∀ r : Int, (r = 1 ∧ w 2 = 1 ∨ r = 0 ∧ ¬ w 2 = 1) → Q (some (0, r)) (L0 n) μ) : TR mX10_isDivided 0 (0, 0) [(2, 493)] (L0 n) μ Q := by
  apply t_X10_isDivided (layOK n) k493
  rw [rf_ref.1, hr 2 (by decide) (by decide)]
  exact ⟨fun q => h 0 (Or.inr ⟨rfl, q⟩), fun q => h 1 (Or.inl ⟨rfl, q⟩)⟩
theorem c_X10_scaled {w : Dv} {a how i : Int} (hr : RWm μ w) (hs : SW w) (ha : 0 ≤ a ∧ a < 5) (hu : WFu w) (hi : 0 ≤ i ∧ i ≤ 506) (hp : ptW (w 0) (w 3) (w i) (w (i + 1))) (hq : ptW (w 0) (w 3) (w (i + 2)) (w (i + 3))) (ho : w i * w (i + 3) ≤ w (i + 2) * w (i + 1))
    (h : ∀ μ', frQ μ μ' → Q (some (1, spn (rowW w a how) (w 0).toNat (w 3) (w i) (w (i + 1)) (w (i + 2)) (w (i + 3)))) (L0 n) μ') : TR mX10_scaled 3 (0, 0) [(2, 493), (0, a), (0, how), (0, i)] (L0 n) μ Q := by
  have hS := hs.1
  have u1 := hu.1
  have u2 := hu.2
  have hrow := hs.2.2 a how ha.1 ha.2
  have p1 := hp.2.1
  have q1 := hq.2.1
  have eS : (((w 0).toNat : Nat) : Int) = w 0 := by omega
  apply t_X10_scaled (layOK n) k493
  rw [rf_ref.1, hr i (by omega) (by omega), hr (i + 1) (by omega) (by omega), hr (i + 2) (by omega) (by omega), hr (i + 3) (by omega) (by omega)]
  refine ⟨⟨by omega, by omega⟩, ⟨by omega, by omega⟩, ⟨by omega, by omega⟩, ⟨by omega, by omega⟩, ⟨by omega, by omega⟩, ⟨by omega, by omega⟩, ⟨by omega, by omega⟩, ?_⟩
  refine c_X10_worthBetween (p := (w i, w (i + 1))) (q := (w (i + 2), w (i + 3))) (u := w 3) hr hs ha ⟨hp.1, show 0 < w (i + 1) by omega, hp.2.2.1⟩ ⟨hq.1, show 0 < w (i + 3) by omega, hq.2.2.1⟩ ho ⟨by omega, by omega⟩ hp.2.2.2.1 hq.2.2.2.1 fun μ1 f1 fr1 => ⟨rfl, rfl, ?_⟩
  have D0 : 0 < wvD (w i, w (i + 1)) (w (i + 2), w (i + 3)) := Int.mul_pos (by show 0 < w (i + 1); omega) (by show 0 < w (i + 3); omega)
  have e : spn (rowW w a how) (w 0).toNat (w 3) (w i) (w (i + 1)) (w (i + 2)) (w (i + 3)) * wvD (w i, w (i + 1)) (w (i + 2), w (i + 3)) = wvN (rowW w a how) (w 0).toNat (w i, w (i + 1)) (w (i + 2), w (i + 3)) * w 3 := spn_wv (row := rowW w a how) (S := (w 0).toNat) (u := w 3) (a := (w i, w (i + 1))) (b := (w (i + 2), w (i + 3))) (by omega) p1 q1 hp.2.2.2.1 hq.2.2.2.1
  have b := rd_back D0 (show 0 < w 3 by omega) e
  have sb := spn_b (S := (w 0).toNat) hrow (by omega) u1 (by rw [eS]; exact hp) (by rw [eS]; exact hq) ho
  have dp := rdD_pos (x := wvN (rowW w a how) (w 0).toNat (w i, w (i + 1)) (w (i + 2), w (i + 3))) D0
  rw [fr1.1, fr1.2, f1 494 3 (Or.inl (by decide)), hr 3 (by decide) (by decide), b.2]
  exact ⟨⟨by omega, dp⟩, ⟨by omega, by omega⟩, h μ1 f1⟩
/-- a share's span out of the row's form -/
theorem WFs_at {S : Int} {w : Dv} {a k : Int} (hw : WF S w) (ha : 0 ≤ a ∧ a < 5) (hk : 0 ≤ k ∧ k < w (165 + a)) : ptW S (w 3) (w (170 + 8 * a + 4 * k)) (w (170 + 8 * a + 4 * k + 1)) ∧ ptW S (w 3) (w (170 + 8 * a + 4 * k + 2)) (w (170 + 8 * a + 4 * k + 3)) ∧ w (170 + 8 * a + 4 * k) * w (170 + 8 * a + 4 * k + 3) ≤ w (170 + 8 * a + 4 * k + 2) * w (170 + 8 * a + 4 * k + 1) := by
  have h := (hw.2.2 a ha.1 ha.2).2 k hk.1 hk.2
  rw [show 170 + 8 * a + 4 * k + 1 = 171 + 8 * a + 4 * k by omega, show 170 + 8 * a + 4 * k + 2 = 172 + 8 * a + 4 * k by omega, show 170 + 8 * a + 4 * k + 3 = 173 + 8 * a + 4 * k by omega]
  exact h
theorem c_wos {w : Dv} {a b how : Int} (hr : RWm μ w) (hs : SW w) (hw : WF (w 0) w) (ha : 0 ≤ a ∧ a < 5) (hb : 0 ≤ b ∧ b < 5)
    (h : ∀ μ', frQ μ μ' → Q (some (1, hld (rowW w a how) (w 0).toNat w b)) (L0 n) μ') : TR mX10_worthOfShare 4 (0, 0) [(2, 493), (0, a), (0, b), (0, how)] (L0 n) μ Q := by
  have mm := (hw.2.2 b hb.1 hb.2).1
  have hS := hs.1
  have u1 := hw.1.1
  have u2 := hw.1.2
  have hrow := hs.2.2 a how ha.1 ha.2
  have eS : (((w 0).toNat : Nat) : Int) = w 0 := by omega
  have kb : ∀ k : Int, 0 ≤ k → k < w (165 + b) → 0 ≤ hldK (rowW w a how) (w 0).toNat w b k ∧ hldK (rowW w a how) (w 0).toNat w b k ≤ 144 * w 3 := fun k k0 k1 => hldK_b hrow (by omega) hw.1 (by rw [eS]; exact hw.2.2) hb ⟨k0, k1⟩
  apply t_X10_worthOfShare (layOK n) k493
  have fin : ∀ (μ1 : Mem) (k v : Int), frQ μ μ1 → w (165 + b) ≤ k → v = hld (rowW w a how) (w 0).toNat w b → WA mX10_worthOfShare 4 (0, 0) 6 [(2, 493), (0, a), (0, b), (0, how), (1, v), (9, 0), (0, k)] [] (L0 n) μ1 Q := by
    intro μ1 k v f hk e
    apply s_X10_worthOfShare_6 (layOK n) k493
    rw [rf_ref.1, f 494 _ (Or.inl (by decide)), hr (165 + b) (by omega) (by omega)]
    exact ⟨⟨by omega, by omega⟩, ⟨by omega, by omega⟩, fun _ => by rw [e]; exact h μ1 f, fun q => absurd hk q⟩
  have step : ∀ (μ1 : Mem) (k v : Int), frQ μ μ1 → 0 ≤ k → k < w (165 + b) → 0 ≤ v → v ≤ 144 * w 3 → (∀ μ2, frQ μ μ2 → WA mX10_worthOfShare 4 (0, 0) 6 [(2, 493), (0, a), (0, b), (0, how), (1, v + hldK (rowW w a how) (w 0).toNat w b k), (9, 0), (0, k + 1)] [] (L0 n) μ2 Q) → WA mX10_worthOfShare 4 (0, 0) 6 [(2, 493), (0, a), (0, b), (0, how), (1, v), (9, 0), (0, k)] [] (L0 n) μ1 Q := by
    intro μ1 k v f k0 k1 v0 v1 nx
    obtain ⟨g1, g2, g3⟩ := WFs_at hw hb ⟨k0, k1⟩
    have hk := kb k k0 k1
    apply s_X10_worthOfShare_6 (layOK n) k493
    rw [rf_ref.1, f 494 _ (Or.inl (by decide)), hr (165 + b) (by omega) (by omega)]
    refine ⟨⟨by omega, by omega⟩, ⟨by omega, by omega⟩, fun q => absurd q (by omega), fun _ => ⟨⟨by omega, by omega⟩, ⟨by omega, by omega⟩, ⟨by omega, by omega⟩, ⟨by omega, by omega⟩, ?_⟩⟩
    refine c_X10_scaled (RWm_Q hr f) hs ha hw.1 ⟨by omega, by omega⟩ g1 g2 g3 fun μ2 f2 => ?_
    have e : spn (rowW w a how) (w 0).toNat (w 3) (w (170 + 8 * b + 4 * k)) (w (170 + 8 * b + 4 * k + 1)) (w (170 + 8 * b + 4 * k + 2)) (w (170 + 8 * b + 4 * k + 3)) = hldK (rowW w a how) (w 0).toNat w b k := by
      unfold hldK
      rw [show 170 + 8 * b + 4 * k + 1 = 171 + 8 * b + 4 * k by omega, show 170 + 8 * b + 4 * k + 2 = 172 + 8 * b + 4 * k by omega, show 170 + 8 * b + 4 * k + 3 = 173 + 8 * b + 4 * k by omega]
    rw [e]
    exact ⟨_, rfl, rfl, ⟨by omega, by omega⟩, ⟨by omega, by omega⟩, nx μ2 (frQ_tr f f2)⟩
  by_cases c1 : 1 < w (165 + b)
  · have k0 := kb 0 (by omega) (by omega)
    refine step μ 0 0 frQ_rf (by omega) (by omega) (by omega) (by omega) fun μ1 f1 => step μ1 _ _ f1 (by omega) (by omega) (by omega) (by omega) fun μ2 f2 => fin μ2 _ _ f2 (by omega) ?_
    unfold hld
    rw [if_pos (by omega), if_pos c1, Int.zero_add]
    rfl
  · by_cases c0 : 0 < w (165 + b)
    · refine step μ 0 0 frQ_rf (by omega) (by omega) (by omega) (by omega) fun μ1 f1 => fin μ1 _ _ f1 (by omega) ?_
      unfold hld
      rw [if_pos c0, if_neg c1]
      omega
    · refine fin μ 0 0 frQ_rf (by omega) ?_
      unfold hld
      rw [if_neg c0, if_neg c1]
      rfl
theorem R_event {σ : Sg} {k what : Int} (hR : RSt μ σ) (ho : OKs σ)
    (hy1 : σ.w 2 = 1 ∧ k = -1 ∧ what = 0 → Q (some (1, σ.w 4)) (L0 n) μ)
    (hy2 : σ.w 2 = 1 ∧ (0 ≤ k ∧ k < σ.w 4) ∧ (0 ≤ what ∧ what ≤ 5) → Q (some (1, σ.w (210 + 6 * k + what))) (L0 n) μ)
    (hn : ¬ (σ.w 2 = 1 ∧ k = -1 ∧ what = 0) → ¬ (σ.w 2 = 1 ∧ (0 ≤ k ∧ k < σ.w 4) ∧ (0 ≤ what ∧ what ≤ 5)) → Q (some (1, NOv)) (L0 n) μ) : TR mX10_event 1 (0, 0) [(2, 493), (0, k), (0, what)] (L0 n) μ Q := by
  have cn := WK_cn ho.1
  have c41 := cn.1.1
  have c42 := cn.1.2
  apply t_X10_event (layOK n) k493
  have e4 := hR.1 4 (by decide) (by decide)
  rw [rf_ref.1]
  refine ⟨fun q => c_isDiv hR.1 fun r1 h1 => ⟨r1, rfl, rfl, fun q2 => hn (by omega) (by omega), fun q2 => ?_⟩, fun q => c_isDiv hR.1 fun r1 h1 => ⟨r1, rfl, rfl, fun q2 => hn (by omega) (by omega), fun q2 => ⟨fun q3 => hn (by omega) (by omega), fun q3 => by rw [e4]; exact hy1 (by omega)⟩⟩⟩
  rw [e4]
  refine ⟨⟨by omega, by omega⟩, c_X10_in fun r2 h2 => ⟨r2, rfl, rfl, fun q3 => hn (by omega) (by omega), fun q3 => c_X10_in fun r3 h3 => ⟨r3, rfl, rfl, fun q4 => hn (by omega) (by omega), fun q4 => ?_⟩⟩⟩
  rw [hR.1 (210 + 6 * k + what) (by omega) (by omega)]
  exact ⟨⟨by omega, by omega⟩, ⟨by omega, by omega⟩, ⟨by omega, by omega⟩, ⟨by omega, by omega⟩, hy2 (by omega)⟩
theorem R_share {σ : Sg} {a k what : Int} (hR : RSt μ σ) (ho : OKs σ)
    (hy1 : σ.w 2 = 1 ∧ (0 ≤ a ∧ a < σ.w 1) ∧ k = -1 ∧ what = 0 → Q (some (1, σ.w (165 + a))) (L0 n) μ)
    (hy2 : σ.w 2 = 1 ∧ (0 ≤ a ∧ a < σ.w 1) ∧ (0 ≤ k ∧ k < σ.w (165 + a)) ∧ (0 ≤ what ∧ what ≤ 3) → Q (some (1, σ.w (170 + 8 * a + 4 * k + what))) (L0 n) μ)
    (hn : ¬ (σ.w 2 = 1 ∧ (0 ≤ a ∧ a < σ.w 1) ∧ k = -1 ∧ what = 0) → ¬ (σ.w 2 = 1 ∧ (0 ≤ a ∧ a < σ.w 1) ∧ (0 ≤ k ∧ k < σ.w (165 + a)) ∧ (0 ≤ what ∧ what ≤ 3)) → Q (some (1, NOv)) (L0 n) μ) : TR mX10_share 2 (0, 0) [(2, 493), (0, a), (0, k), (0, what)] (L0 n) μ Q := by
  have hN := ho.1.1.2.1
  have cn := WK_cn ho.1
  apply t_X10_share (layOK n) k493
  rw [rf_ref.1]
  refine c_X10_isAgent hR.1 ho.1.1 fun r1 h1 => ⟨r1, rfl, rfl, fun q => hn (by omega) (by omega), fun q => c_isDiv hR.1 fun r2 h2 => ⟨r2, rfl, rfl, fun q2 => ?_, fun q2 => hn (by omega) (by omega)⟩⟩
  have ha : 0 ≤ a ∧ a < 5 := by omega
  have mm := cn.2 a ha.1 ha.2
  rw [hR.1 (165 + a) (by omega) (by omega)]
  refine ⟨fun q3 => ⟨⟨by omega, by omega⟩, ⟨by omega, by omega⟩, ⟨by omega, by omega⟩, c_X10_in fun r3 h3 => ⟨r3, rfl, rfl, fun q4 => hn (by omega) (by omega), fun q4 => c_X10_in fun r4 h4 => ⟨r4, rfl, rfl, fun q5 => hn (by omega) (by omega), fun q5 => ?_⟩⟩⟩, fun q3 => ⟨fun q4 => hn (by omega) (by omega), fun q4 => ⟨⟨by omega, by omega⟩, ⟨by omega, by omega⟩, hy1 (by omega)⟩⟩⟩
  rw [hR.1 (170 + 8 * a + 4 * k + what) (by omega) (by omega)]
  exact ⟨⟨by omega, by omega⟩, ⟨by omega, by omega⟩, ⟨by omega, by omega⟩, ⟨by omega, by omega⟩, ⟨by omega, by omega⟩, ⟨by omega, by omega⟩, hy2 (by omega)⟩
theorem R_gets {σ : Sg} {a b how part : Int} (hR : RSt μ σ) (ho : OKs σ)
    (hy : (0 ≤ a ∧ a < σ.w 1) ∧ (0 ≤ b ∧ b < σ.w 1) ∧ (how = 0 ∨ how = 1) ∧ (part = 0 ∨ part = 1) ∧ σ.w 2 = 1 → ∀ μ', RSt μ' σ → frR' μ μ' → Q (some (1, frac (hld (rowW σ.w a how) (σ.w 0).toNat σ.w b) (σ.w 3) part)) (L0 n) μ')
    (hn : ¬ ((0 ≤ a ∧ a < σ.w 1) ∧ (0 ≤ b ∧ b < σ.w 1) ∧ (how = 0 ∨ how = 1) ∧ (part = 0 ∨ part = 1) ∧ σ.w 2 = 1) → Q (some (1, NOv)) (L0 n) μ) : TR mX10_gets 5 (0, 0) [(2, 493), (0, a), (0, b), (0, how), (0, part)] (L0 n) μ Q := by
  have hN := ho.1.1.2.1
  have u1 := ho.1.2.2.1.1.1
  apply t_X10_gets (layOK n) k493
  rw [rf_ref.1]
  refine c_X10_isAgent hR.1 ho.1.1 fun r1 h1 => ⟨r1, rfl, rfl, fun q => hn (by omega), fun q => c_X10_isAgent hR.1 ho.1.1 fun r2 h2 => ⟨r2, rfl, rfl, fun q2 => hn (by omega), fun q2 => c_X10_in fun r3 h3 => ⟨r3, rfl, rfl, fun q3 => hn (by omega), fun q3 => c_X10_in fun r4 h4 => ⟨r4, rfl, rfl, fun q4 => hn (by omega), fun q4 => c_isDiv hR.1 fun r5 h5 => ⟨r5, rfl, rfl, fun q5 => ?_, fun q5 => hn (by omega)⟩⟩⟩⟩⟩
  have hp := hld_pos (how := how) ho.1.1 ho.1.2.2.1 (show 0 ≤ b ∧ b < 5 by omega) (show 0 ≤ a ∧ a < 5 by omega)
  refine c_wos hR.1 ho.1.1 ho.1.2.2.1 ⟨by omega, by omega⟩ ⟨by omega, by omega⟩ fun μ1 f1 => ⟨_, rfl, rfl, ?_⟩
  rw [f1 494 3 (Or.inl (by decide)), hR.1 3 (by decide) (by decide)]
  refine c_X10_becomes hp.1 (by omega) fun μ2 f2 fr2 => ⟨rfl, rfl, c_X10_partOf fr2 ⟨_, rfl, rfl, ?_⟩⟩
  have F := frY_tr (frQ_Y f1) (frQ_Y f2)
  exact hy (by omega) μ2 (RSt_fr hR F) (frY_R F)
theorem R_envies {σ : Sg} {a how : Int} (hR : RSt μ σ) (ho : OKs σ)
    (hy : (0 ≤ a ∧ a < σ.w 1) ∧ (how = 0 ∨ how = 1) ∧ σ.w 2 = 1 → ∀ μ', RSt μ' σ → frR' μ μ' → Q (some (0, envS (rowW σ.w a how) (σ.w 0).toNat σ.w (hld (rowW σ.w a how) (σ.w 0).toNat σ.w a) (σ.w 1).toNat)) (L0 n) μ')
    (hs : (0 ≤ a ∧ a < σ.w 1) ∧ (how = 0 ∨ how = 1) ∧ ¬ σ.w 2 = 1 → Q (some (0, -5)) (L0 n) μ)
    (hn : ¬ ((0 ≤ a ∧ a < σ.w 1) ∧ (how = 0 ∨ how = 1)) → Q (some (0, -1)) (L0 n) μ) : TR mX10_envies 5 (0, 0) [(2, 493), (0, a), (0, how)] (L0 n) μ Q := by
  have hN := ho.1.1.2.1
  apply t_X10_envies (layOK n) k493
  refine c_X10_isAgent hR.1 ho.1.1 fun r1 h1 => ⟨r1, rfl, rfl, fun q => hn (by omega), fun q => c_X10_in fun r3 h3 => ⟨r3, rfl, rfl, fun q3 => c_isDiv hR.1 fun r5 h5 => ⟨r5, rfl, rfl, fun q5 => ?_, fun q5 => hs (by omega)⟩, fun q3 => hn (by omega)⟩⟩
  have ha : 0 ≤ a ∧ a < 5 := by omega
  have hy := hy (by omega)
  refine c_wos hR.1 ho.1.1 ho.1.2.2.1 ha ha fun μ1 f1 => ⟨_, rfl, rfl, ?_⟩
  have key : ∀ (d k : Nat), k + d = (σ.w 1).toNat → ∀ μ1, frQ μ μ1 → WA mX10_envies 5 (0, 0) 44 [(2, 493), (0, a), (0, how), (0, envS (rowW σ.w a how) (σ.w 0).toNat σ.w (hld (rowW σ.w a how) (σ.w 0).toNat σ.w a) k), (1, hld (rowW σ.w a how) (σ.w 0).toNat σ.w a), (9, 0), (0, (k : Int))] [] (L0 n) μ1 Q := by
    intro d
    induction d with
    | zero =>
      intro k hk μ1 f1
      have hk : k = (σ.w 1).toNat := by omega
      subst hk
      apply s_X10_envies_44 (layOK n) k493
      exact c_X10_agents (RWm_Q hR.1 f1) ho.1.1 ⟨_, rfl, rfl, fun _ => hy μ1 (RSt_fr hR (frQ_Y f1)) (frY_R (frQ_Y f1)), fun z => absurd (show σ.w 1 ≤ (((σ.w 1).toNat : Nat) : Int) by omega) z⟩
    | succ d ih =>
      intro k hk μ1 f1
      have next := ih (k + 1) (by omega)
      have e : envS (rowW σ.w a how) (σ.w 0).toNat σ.w (hld (rowW σ.w a how) (σ.w 0).toNat σ.w a) (k + 1) = if hld (rowW σ.w a how) (σ.w 0).toNat σ.w a < hld (rowW σ.w a how) (σ.w 0).toNat σ.w k then bOr (envS (rowW σ.w a how) (σ.w 0).toNat σ.w (hld (rowW σ.w a how) (σ.w 0).toNat σ.w a) k) (bShl 1 k) else envS (rowW σ.w a how) (σ.w 0).toNat σ.w (hld (rowW σ.w a how) (σ.w 0).toNat σ.w a) k := rfl
      rw [e] at next
      apply s_X10_envies_44 (layOK n) k493
      refine c_X10_agents (RWm_Q hR.1 f1) ho.1.1 ⟨_, rfl, rfl, fun z => absurd z (by omega), fun _ => c_wos (RWm_Q hR.1 f1) ho.1.1 ho.1.2.2.1 ha ⟨by omega, by omega⟩ fun μ2 f2 => ⟨_, rfl, rfl, fun z => ⟨⟨by omega, by omega⟩, ?_⟩, fun z => ⟨⟨by omega, by omega⟩, ?_⟩⟩⟩
      · rw [bOr_0 (envS_in k)]
        have nx := next μ2 (frQ_tr f1 f2)
        rw [if_neg (by omega)] at nx; exact nx
      · have nx := next μ2 (frQ_tr f1 f2)
        rw [if_pos (by omega)] at nx; exact nx
  exact key (σ.w 1).toNat 0 (by omega) μ1 f1
theorem R_fair {σ : Sg} {how : Int} (hR : RSt μ σ) (ho : OKs σ)
    (hy : (how = 0 ∨ how = 1) ∧ σ.w 2 = 1 → ∀ μ', RSt μ' σ → frR' μ μ' → Q (some (0, fairS σ.w how (σ.w 1).toNat)) (L0 n) μ')
    (hs : (how = 0 ∨ how = 1) ∧ ¬ σ.w 2 = 1 → Q (some (0, -5)) (L0 n) μ)
    (hn : ¬ (how = 0 ∨ how = 1) → Q (some (0, -1)) (L0 n) μ) : TR mX10_fair 5 (0, 0) [(2, 493), (0, how)] (L0 n) μ Q := by
  have hN := ho.1.1.2.1
  have hS := ho.1.1.1
  have u1 := ho.1.2.2.1.1.1
  have u2 := ho.1.2.2.1.1.2
  apply t_X10_fair (layOK n) k493
  refine c_X10_in fun r3 h3 => ⟨r3, rfl, rfl, fun q3 => c_isDiv hR.1 fun r5 h5 => ⟨r5, rfl, rfl, fun q5 => ?_, fun q5 => hs (by omega)⟩, fun q3 => hn (by omega)⟩
  have hy := hy (by omega)
  have key : ∀ (d k : Nat), k + d = (σ.w 1).toNat → ∀ μ1, frQ μ μ1 → WA mX10_fair 5 (0, 0) 26 [(2, 493), (0, how), (0, fairS σ.w how k), (0, (k : Int))] [] (L0 n) μ1 Q := by
    intro d
    induction d with
    | zero =>
      intro k hk μ1 f1
      have hk : k = (σ.w 1).toNat := by omega
      subst hk
      apply s_X10_fair_26 (layOK n) k493
      exact c_X10_agents (RWm_Q hR.1 f1) ho.1.1 ⟨_, rfl, rfl, fun _ => hy μ1 (RSt_fr hR (frQ_Y f1)) (frY_R (frQ_Y f1)), fun z => absurd (show σ.w 1 ≤ (((σ.w 1).toNat : Nat) : Int) by omega) z⟩
    | succ d ih =>
      intro k hk μ1 f1
      have next := ih (k + 1) (by omega)
      have e : fairS σ.w how (k + 1) = if hld (rowW σ.w k how) (σ.w 0).toNat σ.w k * σ.w 1 < cum (rowW σ.w k how) (σ.w 0).toNat * σ.w 3 then fairS σ.w how k else bOr (fairS σ.w how k) (bShl 1 k) := rfl
      rw [e] at next
      have hk5 : 0 ≤ (k : Int) ∧ (k : Int) < 5 := by omega
      have hp := hld_pos (how := how) ho.1.1 ho.1.2.2.1 hk5 hk5
      have mb := mulLB hp.1 (show 0 ≤ σ.w 1 by omega) (show hld (rowW σ.w k how) (σ.w 0).toNat σ.w k ≤ 288000000000 by omega) hN.2
      have hrow := ho.1.1.2.2 k how hk5.1 hk5.2
      have cb := cum_b hrow (σ.w 0).toNat (by omega)
      have cu := mulLB cb.1 (show 0 ≤ σ.w 3 by omega) (show cum (rowW σ.w k how) (σ.w 0).toNat ≤ 144 by omega) u2
      apply s_X10_fair_26 (layOK n) k493
      rw [rf_ref.1]
      refine c_X10_agents (RWm_Q hR.1 f1) ho.1.1 ⟨_, rfl, rfl, fun z => absurd z (by omega), fun _ => c_wos (RWm_Q hR.1 f1) ho.1.1 ho.1.2.2.1 hk5 hk5 fun μ2 f2 => ?_⟩
      have F := frQ_tr f1 f2
      have R2 := RWm_Q hR.1 F
      refine ⟨_, rfl, rfl, c_X10_agents R2 ho.1.1 ⟨_, rfl, rfl, ⟨by omega, by omega⟩, c_X10_allOf R2 ho.1.1 hk5 ⟨_, rfl, rfl, ?_⟩⟩⟩
      rw [R2 3 (by decide) (by decide)]
      refine ⟨⟨by omega, by omega⟩, fun z => ⟨⟨by omega, by omega⟩, ?_⟩, fun z => ⟨⟨by omega, by omega⟩, ?_⟩⟩
      · rw [bOr_0 (fairS_in k)]
        have nx := next μ2 F
        rw [if_pos z] at nx; exact nx
      · have nx := next μ2 F
        rw [if_neg z] at nx; exact nx
  exact key (σ.w 1).toNat 0 (by omega) μ frQ_rf
theorem R_count {σ : Sg} {v : Int} (hR : RSt μ σ) (ho : OKs σ) (hy : Q (some (0, cntA σ v)) (L0 n) μ) : TR mX10_count 1 (0, 0) [(2, 493), (0, v)] (L0 n) μ Q := by
  have h2 := ho.1.2.1
  have hN := ho.1.1.2.1
  have hS := ho.1.1.1
  have u1 := ho.1.2.2.1.1.1
  have u2 := ho.1.2.2.1.1.2
  have cn := WK_cn ho.1
  have c41 := cn.1.1
  have c42 := cn.1.2
  unfold cntA at hy
  apply t_X10_count (layOK n) k493
  have e3 := hR.1 3 (by decide) (by decide)
  rw [rf_ref.1, hR.1 2 (by decide) (by decide), hR.1 4 (by decide) (by decide), hR.2.2.1.1, hR.2.2.2.1.1]
  refine ⟨⟨fun q => c_X10_agents hR.1 ho.1.1 ⟨_, rfl, rfl, ?_⟩, fun q => c_X10_strips hR.1 ho.1.1 ⟨_, rfl, rfl, ?_⟩, fun q => ⟨⟨by omega, by omega⟩, ?_⟩, fun q => c_isDiv hR.1 fun r h => ⟨r, rfl, rfl, fun q2 => ?_, fun q2 => ⟨by rw [e3]; exact ⟨by omega, by omega⟩, ?_⟩⟩, fun q => ?_, fun q => ?_, fun q => ⟨⟨by omega, by omega⟩, ?_⟩⟩, fun q => ?_⟩
  · rw [if_pos q] at hy; exact hy
  · rw [if_neg (by omega), if_pos q] at hy; exact hy
  · rw [if_neg (by omega), if_neg (by omega), if_pos q] at hy; exact hy
  · rw [if_neg (by omega), if_neg (by omega), if_neg (by omega), if_pos q, if_neg (by omega)] at hy; exact hy
  · rw [if_neg (by omega), if_neg (by omega), if_neg (by omega), if_pos q, if_pos (by omega)] at hy; rw [e3]; exact hy
  · rw [if_neg (by omega), if_neg (by omega), if_neg (by omega), if_neg (by omega), if_pos q] at hy; exact hy
  · rw [if_neg (by omega), if_neg (by omega), if_neg (by omega), if_neg (by omega), if_neg (by omega), if_pos q] at hy; exact hy
  · rw [if_neg (by omega), if_neg (by omega), if_neg (by omega), if_neg (by omega), if_neg (by omega), if_neg (by omega), if_pos q] at hy; exact hy
  · rw [if_neg (by omega), if_neg (by omega), if_neg (by omega), if_neg (by omega), if_neg (by omega), if_neg (by omega), if_neg (by omega)] at hy; exact hy
theorem k494 : isK (L0 n) 494 (21, 510) := isK0 (by decide) (by decide) (by decide +kernel)
theorem k496 : isK (L0 n) 496 (21, 510) := isK0 (by decide) (by decide) (by decide +kernel)
theorem R_image {σ : Sg} (hR : RSt μ σ) (ho : OKs σ)
    (hy : ∀ μ', RSt μ' (σ.setI 1 σ.w) → frR' μ μ' → Q (some (0, σ.w 1)) (L0 n) μ') : TR mX10_image 1 (0, 0) [(2, 493)] (L0 n) μ Q := by
  obtain ⟨h1, h2, h3, h4, h5⟩ := hR
  apply t_X10_image (layOK n) k493
  rw [rf_ref.1, rf_ref.2.2.1]
  refine c_X10_copies k494 k496 (by decide) fun μ1 g1 g2 => ⟨rfl, rfl, ?_⟩
  have f : ∀ x i, x ≠ 496 → (x ≠ 493 ∨ i ≠ 3) → μ1 x i = μ x i := fun x i hx hy => by rw [g2 x i hx, up_ne hy]
  have r1 : RWm μ1 σ.w := RWm_fr h1 (fun i => f 494 i (by decide) (by omega))
  refine c_X10_agents r1 ho.1.1 ⟨_, rfl, rfl, hy μ1 ⟨r1, ⟨by rw [g2 493 3 (by decide), up_eq]; rfl, fun _ i i0 i1 => by rw [g1 i i0 i1, up_ne (Or.inl (by decide)), h1 i i0 i1]; rfl⟩, ⟨by rw [f 493 7 (by decide) (by decide), h3.1]; rfl, fun i i0 i1 => by rw [f 497 i (by decide) (by omega), h3.2 i i0 i1]; rfl⟩, ⟨by rw [f 493 21 (by decide) (by decide), h4.1]; rfl, fun i i0 i1 => by rw [f 503 i (by decide) (by omega), h4.2 i i0 i1]; rfl⟩, fun k k0 k1 => by rw [f 508 k (by decide) (by omega), h5.1 k k0 k1]; rfl, fun i i0 i1 => by rw [f 509 i (by decide) (by omega), h5.2 i i0 i1]; rfl⟩ (fun x i hx => f x i (by omega) (by omega))⟩
theorem R_back {σ : Sg} (hR : RSt μ σ) (ho : OKs σ)
    (hy : σ.hi = 1 → ∀ μ', RSt μ' (σ.setW σ.im) → frR' μ μ' → Q (some (0, σ.im 1)) (L0 n) μ')
    (hs : ¬ σ.hi = 1 → Q (some (0, -5)) (L0 n) μ) : TR mX10_back 1 (0, 0) [(2, 493)] (L0 n) μ Q := by
  have hh := ho.2.1
  apply t_X10_back (layOK n) k493
  rw [rf_ref.1, rf_ref.2.2.1, hR.2.1.1]
  refine ⟨fun q => ?_, fun q => hs (by omega)⟩
  have hi1 : σ.hi = 1 := by omega
  have ok := ho.2.2.1 hi1
  refine c_X10_copies k496 k494 (by decide) fun μ1 g1 g2 => ⟨rfl, rfl, ?_⟩
  have r1 : RWm μ1 σ.im := fun i i0 i1 => by rw [g1 i i0 i1, hR.2.1.2 hi1 i i0 i1]
  exact c_X10_agents r1 ok.1 ⟨_, rfl, rfl, hy hi1 μ1 (RSt_w hR r1 (fun x i hx => g2 x i (by omega))) (fun x i hx => g2 x i (by omega))⟩
end
