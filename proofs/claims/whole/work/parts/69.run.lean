/-! the class runs a way -/
/-- what a run leaves as it was -/
def frR (μ μ' : Mem) : Prop := ∀ x i : Int, (x < 174 ∨ 306 < x ∧ x < 440 ∨ x = 442 ∨ 472 < x) → μ' x i = μ x i
/-- the cake as the class holds it, but for who is first -/
def RQ (μ : Mem) (E : WEnv) : Prop := μ 2 0 = E.S ∧ μ 2 1 = E.N ∧ (∀ a s : Int, 0 ≤ a → a < 5 → 0 ≤ s → s < 16 → μ (10 + a) s = E.T a s) ∧ μ 442 0 = 0 ∧ μ 442 1 = 1
theorem rd_one {x : Int} : rdN x 1 = x ∧ rdD x 1 = 1 := by
  unfold rdN rdD gc
  rw [Int.gcd_one_right]
  exact ⟨Int.ediv_one x, rfl⟩
section
variable {n : Int} {μ : Mem} {Q : Option AV → Lay → Mem → Prop}
theorem c_X5_run {E : WEnv} {w : Dv} {way : Int} (hE : EnvOK E) (hr : RQ μ E) (hway : 0 ≤ way ∧ way ≤ 4) (h4 : way = 4 → E.N = 3)
    (hok : ∀ w', goS E (clrW w) way = some w' → GK E (clrW w) w' → ∀ μ', DR μ' 174 w' → μ' 174 0 = 1 → frR μ μ' → Q (some (0, 1)) (L0 n) μ')
    (hno : goS E (clrW w) way = none → ∀ μ', frR μ μ' → Q (some (0, 0)) (L0 n) μ') : TR mX5_run 6 (0, 0) [(2, 440), (0, way), (0, E.f)] (L0 n) μ Q := by
  have hS := hE.1
  apply t_X5_run (layOK n) k440
  rw [rf_shr.1, rf_shr.2.1, rf_shr.2.2.1, rf_shr.2.2.2.1, rf441.2]
  refine c_X1_clear k174 fun μ1 g1 g2 g3 g4 g5 g6 => ⟨rfl, rfl, ?_⟩
  have g6 : ∀ x i, x ≠ 174 → x ≠ 176 → μ1 x i = up μ 440 2 E.f x i := g6
  have eS : μ1 2 0 = E.S := by rw [g6 2 0 (by decide) (by decide), up_ne (Or.inl (by decide)), hr.1]
  rw [eS]
  refine c_X3_put k443 (by omega) (by decide) (by decide) ⟨rfl, rfl, ?_⟩
  rw [rd_one.1, rd_one.2]
  generalize hμ2 : up (up μ1 443 0 (E.S : Int)) 443 1 1 = μ2
  have f2 : ∀ x i, x ≠ 443 → μ2 x i = μ1 x i := fun x i hx => by rw [← hμ2, up_ne (Or.inl hx), up_ne (Or.inl hx)]
  have p443 : PA μ2 443 ((E.S : Int), 1) := ⟨by rw [← hμ2, up_ne (Or.inr (by decide)), up_eq], by rw [← hμ2, up_eq]⟩
  have p442 : PA μ2 442 (0, 1) := ⟨by rw [f2 442 0 (by decide), g6 442 0 (by decide) (by decide), up_ne (Or.inl (by decide)), hr.2.2.2.1], by rw [f2 442 1 (by decide), g6 442 1 (by decide) (by decide), up_ne (Or.inl (by decide)), hr.2.2.2.2]⟩
  refine c_X7_copy k444 k441 (by decide) ⟨rfl, rfl, ?_⟩
  generalize hμ3 : spW μ2 444 (μ2 (441 + 1) 0) (μ2 (441 + 1) 1) (μ2 (441 + 2) 0) (μ2 (441 + 2) 1) = μ3
  have f3 : ∀ x i, x ≠ 445 → x ≠ 446 → μ3 x i = μ2 x i := fun x i h1 h2 => by rw [← hμ3]; exact spW_ne ⟨h1, h2⟩
  have p445 : PA μ3 445 (0, 1) ∧ PA μ3 446 ((E.S : Int), 1) := by
    rw [← hμ3]
    obtain ⟨c0, c1, c2, c3⟩ := spW_in (μ := μ2) (s := 444) (a := μ2 442 0) (b := μ2 442 1) (c := μ2 443 0) (d := μ2 443 1)
    exact ⟨⟨c0.trans p442.1, c1.trans p442.2⟩, c2.trans p443.1, c3.trans p443.2⟩
  have f13 : ∀ x i, x ≠ 443 → x ≠ 445 → x ≠ 446 → μ3 x i = μ1 x i := fun x i h1 h2 h3 => (f3 x i h2 h3).trans (f2 x i h1)
  have f03 : ∀ x i, x ≠ 443 → x ≠ 445 → x ≠ 446 → x ≠ 174 → x ≠ 176 → (x ≠ 440 ∨ i ≠ 2) → μ3 x i = μ x i := fun x i h1 h2 h3 h4 h5 h6 => by
    rw [f13 x i h1 h2 h3, g6 x i h4 h5, up_ne h6]
  have hr3 : RT μ3 E := by
    refine ⟨?_, ?_, ?_, fun a s a0 a1 s0 s1 => ?_, ?_, ?_, ?_, ?_⟩
    · rw [f03 2 0 (by decide) (by decide) (by decide) (by decide) (by decide) (Or.inl (by decide)), hr.1]
    · rw [f03 2 1 (by decide) (by decide) (by decide) (by decide) (by decide) (Or.inl (by decide)), hr.2.1]
    · rw [f13 440 2 (by decide) (by decide) (by decide), g6 440 2 (by decide) (by decide), up_eq]
    · rw [f03 (10 + a) s (by omega) (by omega) (by omega) (by omega) (by omega) (Or.inl (by omega)), hr.2.2.1 a s a0 a1 s0 s1]
    · rw [f3 442 0 (by decide) (by decide)]; exact p442.1
    · rw [f3 442 1 (by decide) (by decide)]; exact p442.2
    · rw [f3 443 0 (by decide) (by decide)]; exact p443.1
    · rw [f3 443 1 (by decide) (by decide)]; exact p443.2
  obtain ⟨w3, w4, wm, -⟩ := clrW_at (w := w)
  have hw := clrW_WF (S := E.S) (w := w)
  have hGK := fun w' => goS_GK (w := w) (w' := w') hE h4 hway
  have d3 : DR μ3 174 (clrW w) := by
    refine ⟨?_, ⟨?_, fun k k0 k1 => by omega⟩, fun a a0 a1 => ?_, fun a k a0 a1 k0 k1 => by have := wm a a0 a1; omega⟩
    · show μ3 174 2 = _
      rw [f13 174 2 (by decide) (by decide) (by decide), g3, w3]
    · rw [f13 174 3 (by decide) (by decide) (by decide), g4, w4]
    · rw [f13 _ a (by decide) (by decide) (by decide), g5 a a0 a1, wm a a0 a1]
  have fR : ∀ μ4, frS μ3 μ4 → ∀ v : Int, frR μ (up μ4 174 0 v) := fun μ4 hf v x i hx => by
    rw [up_ne (Or.inl (by omega)), hf x i (by omega) (by omega), f03 x i (by omega) (by omega) (by omega) (by omega) (by omega) (by omega)]
  have fin1 : ∀ w', goS E (clrW w) way = some w' → ∀ μ4, DR μ4 174 w' → frS μ3 μ4 → WA mX5_run 6 (0, 0) 161 [(2, 440), (9, 0), (9, 0)] [] (L0 n) (up μ4 174 0 1) Q := fun w' e μ4 q1 q2 => by
    have gk := hGK w' e
    have cn := WF_cn gk.1
    apply s_X5_run_161 (layOK n) k440
    rw [rf_shr.2.1, up_eq]
    exact ⟨Or.inr rfl, hok w' e gk _ (DR_frame q1 cn.1.2 (fun a a0 a1 => (cn.2 a a0 a1).2) (fun x i hx => up_ne (by omega))) (up_eq _ _ _ _) (fR μ4 q2 1)⟩
  have fin0 : goS E (clrW w) way = none → ∀ μ4, frS μ3 μ4 → WA mX5_run 6 (0, 0) 161 [(2, 440), (9, 0), (9, 0)] [] (L0 n) (up μ4 174 0 0) Q := fun e μ4 q2 => by
    apply s_X5_run_161 (layOK n) k440
    rw [rf_shr.2.1, up_eq]
    exact ⟨Or.inl rfl, hno e _ (fR μ4 q2 0)⟩
  refine ⟨⟨fun q => ?_, fun q => ?_, fun q => ?_, fun q => ?_⟩, fun q => ?_⟩
  · have e : goS E (clrW w) way = wayC E (clrW w) := by unfold goS; rw [if_pos q]
    rw [e] at fin1 fin0
    exact c_X5_cutAndChoose hE hr3 d3 hw w4 wm (fun w' e1 μ4 q1 q2 _ => ⟨1, rfl, rfl, Or.inr rfl, fin1 w' e1 μ4 q1 q2⟩) (fun e1 μ4 q2 => ⟨0, rfl, rfl, Or.inl rfl, fin0 e1 μ4 q2⟩)
  · have e : goS E (clrW w) way = wayK E (clrW w) := by unfold goS; rw [if_neg (by omega), if_pos q]
    rw [e] at fin1 fin0
    exact c_X5_moveKnife hE hr3 d3 hw w4 wm p445.1 (fun w' e1 μ4 q1 q2 _ => ⟨1, rfl, rfl, Or.inr rfl, fin1 w' e1 μ4 q1 q2⟩) (fun e1 μ4 q2 => ⟨0, rfl, rfl, Or.inl rfl, fin0 e1 μ4 q2⟩)
  · have e : goS E (clrW w) way = wayD E (clrW w) := by unfold goS; rw [if_neg (by omega), if_neg (by omega), if_pos q]
    rw [e] at fin1 fin0
    exact c_X5_diminish hE hr3 d3 hw w4 wm p445.1 p445.2 (fun w' e1 μ4 q1 q2 _ => ⟨1, rfl, rfl, Or.inr rfl, fin1 w' e1 μ4 q1 q2⟩) (fun e1 μ4 q2 => ⟨0, rfl, rfl, Or.inl rfl, fin0 e1 μ4 q2⟩)
  · have e : goS E (clrW w) way = wayH E (clrW w) := by unfold goS; rw [if_neg (by omega), if_neg (by omega), if_neg (by omega), if_pos q]
    rw [e] at fin1 fin0
    exact c_X5_halve hE hr3 d3 hw w4 wm p445.1 (fun w' e1 μ4 q1 q2 _ => ⟨1, rfl, rfl, Or.inr rfl, fin1 w' e1 μ4 q1 q2⟩) (fun e1 μ4 q2 => ⟨0, rfl, rfl, Or.inl rfl, fin0 e1 μ4 q2⟩)
  · have hN := h4 (by omega)
    have e : goS E (clrW w) way = wayT E (clrW w) := by unfold goS; rw [if_neg (by omega), if_neg (by omega), if_neg (by omega), if_neg (by omega)]
    rw [e] at fin1 fin0
    unfold wayT at fin1 fin0
    refine c_X5_cutAndTrim hE hN hr3 d3 hw w4 (fun x e1 μ4 q1 q2 q3 q4 q5 q6 _ => ⟨1, rfl, rfl, fun z => absurd z (by decide), fun _ => ?_⟩) (fun e1 μ4 q2 => ⟨0, rfl, rfl, fun _ => fin0 (by rw [e1]; rfl) μ4 q2, fun z => absurd rfl z⟩)
    have hT := trmS_ok hE hN hw w4 wm e1
    obtain ⟨t1, t2, t3, t4, t5⟩ := tpk_ok hE hN hT
    have hr4 := RT_frS hr3 q6
    rw [e1] at fin1 fin0
    refine c_X5_takePieces hE hN hr4 hT q1 q2 q3 q4 (fun μ5 v1 v2 v3 => ⟨1, rfl, rfl, fun z => absurd z (by decide), fun _ => ?_⟩)
    have hr5 : RT μ5 E := RT_fr hr4 (fun y i hy => v3 y i (Or.inl (by unfold outD; omega)) (by omega))
    have f5 : frS μ3 μ5 := frS_tr q6 (fun y i z1 z2 => v3 y i (Or.inl (by unfold outD; omega)) (by omega))
    refine c_X5_partTrimmings hE hN hr5 hT t1 t2 t3 t4 t5 v1 ((v3 440 11 (Or.inl (Or.inr (by decide))) (Or.inr (by decide))).trans q4) v2 (fun z => ?_) (fun w' e2 μ6 x1 x2 _ => ⟨1, rfl, rfl, fun z => absurd z (by decide), fun _ => fin1 w' e2 μ6 x1 (frS_tr f5 x2)⟩) (fun e2 μ6 x2 => ⟨0, rfl, rfl, fun _ => fin0 e2 μ6 (frS_tr f5 x2), fun z => absurd rfl z⟩)
    obtain ⟨y1, y2⟩ := q5 z
    exact ⟨PA_fr y1 (fun i => v3 452 i (Or.inl (Or.inr (by decide))) (Or.inl (by decide))), PA_fr y2 (fun i => v3 453 i (Or.inl (Or.inr (by decide))) (Or.inl (by decide)))⟩
end
