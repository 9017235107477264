/-! the class cuts and trims -/
section
variable {n : Int} {μ : Mem} {Q : Option AV → Lay → Mem → Prop}
theorem k451 : isK (L0 n) 451 (7, 0) := isK0 (by decide) (by decide) (by decide +kernel)
theorem rf451 : rf (L0 n) 451 0 = 452 ∧ rf (L0 n) 451 1 = 453 := ⟨(sp_at k451).1, (sp_at k451).2.1⟩
theorem k452 : isK (L0 n) 452 (3, 0) := isK0 (by decide) (by decide) (by decide +kernel)
theorem k453 : isK (L0 n) 453 (3, 0) := isK0 (by decide) (by decide) (by decide +kernel)
theorem frT_frS {μ μ' : Mem} (h : frT μ μ') : frS μ μ' := fun x i h1 h2 => h x i (Or.inl (by unfold outD; omega)) (by omega) (by omega) (by omega)
theorem PP_fr {μ μ' : Mem} {ps : Pcs} (h : PP μ ps) (hf : ∀ x i, 464 ≤ x → x ≤ 472 → μ' x i = μ x i) : PP μ' ps := fun k k0 k1 => ⟨PA_fr (h k k0 k1).1 (fun i => hf _ i (by omega) (by omega)), PA_fr (h k k0 k1).2 (fun i => hf _ i (by omega) (by omega))⟩
theorem c_X5_cutAndTrim {E : WEnv} {w : Dv} (hE : EnvOK E) (hN : E.N = 3) (hr : RT μ E) (hd : DR μ 174 w) (hw : WF E.S w) (h4 : w 4 = 0)
    (hok : ∀ x : TSt, trmS E w = some x → ∀ μ', DR μ' 174 x.w → PP μ' x.ps → μ' 440 10 = x.fav → μ' 440 11 = (if x.trimmed = true then 1 else 0) → (x.trimmed = true → PA μ' 452 x.crumbs.1 ∧ PA μ' 453 x.crumbs.2) → frS μ μ' → μ' 174 1 = μ 174 1 → Q (some (0, 1)) (L0 n) μ')
    (hno : trmS E w = none → ∀ μ', frS μ μ' → Q (some (0, 0)) (L0 n) μ') : TR mX5_cutAndTrim 5 (0, 0) [(2, 440)] (L0 n) μ Q := by
  have p442 : PA μ 442 (0, 1) := ⟨hr.2.2.2.2.1, hr.2.2.2.2.2.1⟩
  have p443 : PA μ 443 ((E.S : Int), 1) := ⟨hr.2.2.2.2.2.2.1, hr.2.2.2.2.2.2.2⟩
  have hag := ag_b hE (p := 1) ⟨by decide, by omega⟩
  have m2e := (sh_el (n := n)).1 2 (by decide) (by decide)
  have km2 : isK (L0 n) (454 + 2 * 2) (3, 0) := kmark ⟨by decide, by decide⟩
  have trm : trmS E w = (thrS E w 0 ((0, 1), ((E.S : Int), 1))).bind fun x => if hasP E 1 (x.1 (mostS E 1 (bShl 1 (mostS E 1 0 x.1)) x.1)) * denP (x.1 (mostS E 1 0 x.1)) < hasP E 1 (x.1 (mostS E 1 0 x.1)) * denP (x.1 (mostS E 1 (bShl 1 (mostS E 1 0 x.1)) x.1)) then
      (pmS E x.2 1 (x.1 (mostS E 1 0 x.1)).1 (x.1 (mostS E 1 (bShl 1 (mostS E 1 0 x.1)) x.1)).1 (x.1 (mostS E 1 (bShl 1 (mostS E 1 0 x.1)) x.1)).2 1 1).map fun y =>
        ((updP x.1 (mostS E 1 0 x.1) ((x.1 (mostS E 1 0 x.1)).1, y.1), noteS y.2 1 (ag E 1) y.1 (x.1 (mostS E 1 0 x.1)).2, mostS E 1 0 x.1, true, (y.1, (x.1 (mostS E 1 0 x.1)).2)) : TSt)
      else some ((x.1, noteS x.2 2 (ag E 1) (x.1 (mostS E 1 0 x.1)).2 (0, 1), mostS E 1 0 x.1, false, ((0, 1), (0, 1))) : TSt) := rfl
  apply t_X5_cutAndTrim (layOK n) k440
  rw [rf_shr.2.2.1, rf_shr.2.2.2.2.2.2.2.1]
  refine c_X5_agentAt hE hr ⟨by decide, by omega⟩ ⟨_, rfl, rfl, ?_⟩
  refine c_X5_cutInThree hE hr hd hw (by omega) ⟨by decide, by omega⟩ (Or.inl rfl) k441 p442 p443 (ptW_Zu (by omega)) (ptW_S (by omega)) (show (0 : Int) * 1 ≤ E.S * 1 by omega) ?_ ?_
  · intro ps w1 ht μ1 g1 g2 g3
    obtain ⟨t1, t2, t3, t4, t5, -⟩ := thrS_ok hE ⟨by decide, by omega⟩ hw (ptW_Zu (by omega)) (ptW_S (by omega)) (show (0 : Int) * 1 ≤ E.S * 1 by omega) (by omega) ht
    have hr1 : RT μ1 E := RT_frS hr (frT_frS g3)
    have cn1 := WF_cn t1
    have fb := mostS_b (E := E) (p := 1) (gone := 0) (ps := ps)
    have sb := mostS_b (E := E) (p := 1) (gone := bShl 1 (mostS E 1 0 ps)) (ps := ps)
    rw [ht] at trm
    have trm : trmS E w = if hasP E 1 (ps (mostS E 1 (bShl 1 (mostS E 1 0 ps)) ps)) * denP (ps (mostS E 1 0 ps)) < hasP E 1 (ps (mostS E 1 0 ps)) * denP (ps (mostS E 1 (bShl 1 (mostS E 1 0 ps)) ps)) then
      (pmS E w1 1 (ps (mostS E 1 0 ps)).1 (ps (mostS E 1 (bShl 1 (mostS E 1 0 ps)) ps)).1 (ps (mostS E 1 (bShl 1 (mostS E 1 0 ps)) ps)).2 1 1).map fun y =>
        ((updP ps (mostS E 1 0 ps) ((ps (mostS E 1 0 ps)).1, y.1), noteS y.2 1 (ag E 1) y.1 (ps (mostS E 1 0 ps)).2, mostS E 1 0 ps, true, (y.1, (ps (mostS E 1 0 ps)).2)) : TSt)
      else some ((ps, noteS w1 2 (ag E 1) (ps (mostS E 1 0 ps)).2 (0, 1), mostS E 1 0 ps, false, ((0, 1), (0, 1))) : TSt) := trm
    refine ⟨1, rfl, rfl, fun _ => ?_, fun q => absurd q (by decide)⟩
    refine c_X5_agentAt hE hr1 ⟨by decide, by omega⟩ ⟨_, rfl, rfl, ?_⟩
    refine c_X5_mostOf hE hr1 g1 t1.1 ⟨by decide, by omega⟩ g2 t5 ⟨_, rfl, rfl, ?_⟩
    rw [up_eq]
    generalize hμ2 : up μ1 440 10 (mostS E 1 0 ps) = μ2
    have f2 : ∀ x i, x ≠ 440 ∨ i ≠ 10 → μ2 x i = μ1 x i := fun x i z => by rw [← hμ2, up_ne z]
    have fav2 : μ2 440 10 = mostS E 1 0 ps := by rw [← hμ2, up_eq]
    have hr2 : RT μ2 E := RT_fr hr1 (fun x i hx => f2 x i (by omega))
    have d2 : DR μ2 174 w1 := DR_frame g1 cn1.1.2 (fun a a0 a1 => (cn1.2 a a0 a1).2) (fun x i hx => f2 x i (by omega))
    have P2 : PP μ2 ps := PP_fr g2 (fun x i z1 z2 => f2 x i (by omega))
    have fs2 : frS μ μ2 := fun x i z1 z2 => (f2 x i (by omega)).trans (frT_frS g3 x i z1 z2)
    have fl2 : μ2 174 1 = μ 174 1 := (f2 174 1 (by decide)).trans (g3 174 1 (Or.inr ⟨rfl, by decide, by decide⟩) (by decide) (by decide) (by decide))
    refine ⟨fb, c_X5_mostOf hE hr2 d2 t1.1 ⟨by decide, by omega⟩ P2 t5 ⟨_, rfl, rfl, sb, ?_⟩⟩
    generalize mostS E 1 (bShl 1 (mostS E 1 0 ps)) ps = sec at *
    generalize mostS E 1 0 ps = fav at *
    rw [sh_el.2.1 fav fb.1 fb.2, sh_el.2.1 sec sb.1 sb.2]
    have kf := kpiece (n := n) fb
    have ks := kpiece (n := n) sb
    obtain ⟨ef1, ef2, kf1, kf2⟩ := sp_at kf
    obtain ⟨wf1, wf2, wf3⟩ := t5 fav fb.1 fb.2
    obtain ⟨wc1, wc2, wc3⟩ := t5 sec sb.1 sb.2
    have pf := P2 fav fb.1 fb.2
    have pc := P2 sec sb.1 sb.2
    rw [show (465 : Int) + 3 * fav = 464 + 3 * fav + 1 by omega, show (466 : Int) + 3 * fav = 464 + 3 * fav + 2 by omega] at pf
    rw [show (465 : Int) + 3 * sec = 464 + 3 * sec + 1 by omega, show (466 : Int) + 3 * sec = 464 + 3 * sec + 2 by omega] at pc
    refine c_X5_has hE hr2 d2 t1.1 kf ⟨hag.1, hag.2.2⟩ pf.1 pf.2 wf1 wf2 ⟨_, rfl, rfl, ?_⟩
    refine c_X5_has hE hr2 d2 t1.1 ks ⟨hag.1, hag.2.2⟩ pc.1 pc.2 wc1 wc2 ⟨_, rfl, rfl, ?_⟩
    have cmp := spn_lt (row := E.T (ag E 1)) (S := E.S) (u := w1 3) (a := (ps sec).1) (b := (ps sec).2) (c := (ps fav).1) (d := (ps fav).2) (by have := t1.1.1; omega) (ptW_dv wc1) (ptW_dv wc2) (ptW_dv wf1) (ptW_dv wf2)
    have o442 : PA μ2 442 (0, 1) := ⟨hr2.2.2.2.2.1, hr2.2.2.2.2.2.1⟩
    refine ⟨fun q => ?_, fun q => ?_⟩
    · have nc : ¬ hasP E 1 (ps sec) * denP (ps fav) < hasP E 1 (ps fav) * denP (ps sec) := fun z => absurd (cmp.mpr z) (by omega)
      rw [if_neg nc] at trm
      apply s_X5_cutAndTrim_83 (layOK n) k440 kf ks k440
      rw [up_eq, rf_shr.2.1, rf_shr.2.2.1, rf441.1, ef2]
      refine ⟨Or.inl rfl, fun z => absurd rfl z, fun _ => ?_⟩
      have f3 : ∀ x i, x ≠ 440 ∨ i ≠ 11 → up μ2 440 11 0 x i = μ2 x i := fun x i z => up_ne z
      generalize hμ3 : up μ2 440 11 0 = μ3 at *
      have tr3 : μ3 440 11 = 0 := by rw [← hμ3, up_eq]
      have pf3 : PA μ3 (464 + 3 * fav + 2) (ps fav).2 := PA_fr pf.2 (fun i => f3 _ i (by omega))
      have o4423 : PA μ3 442 (0, 1) := PA_fr o442 (fun i => f3 _ i (by omega))
      refine c_X1_note k174 kf2 k442 (Or.inr (by omega)) (Or.inr (by decide)) (DR_frame d2 cn1.1.2 (fun a a0 a1 => (cn1.2 a a0 a1).2) (fun x i hx => f3 x i (by omega))) ⟨cn1.1.1, by omega⟩ (fun b b0 b1 => (cn1.2 b b0 b1).2) fun μ4 v1 v2 => ⟨rfl, rfl, ?_⟩
      rw [pf3.1, pf3.2, o4423.1, o4423.2] at v1
      refine hok _ trm μ4 v1 (PP_fr P2 (fun x i z1 z2 => (v2 x i (Or.inl (Or.inr (by omega)))).trans (f3 x i (by omega)))) (((v2 440 10 (Or.inl (Or.inr (by decide)))).trans (f3 440 10 (by decide))).trans fav2) ((v2 440 11 (Or.inl (Or.inr (by decide)))).trans tr3) (fun z => absurd (show false = true from z) (by decide)) (fun x i z1 z2 => ((v2 x i (Or.inl (by unfold outD; omega))).trans (f3 x i (by omega))).trans (fs2 x i z1 z2)) (((v2 174 1 (Or.inr ⟨rfl, by decide⟩)).trans (f3 174 1 (by decide))).trans fl2)
    · have hc : hasP E 1 (ps sec) * denP (ps fav) < hasP E 1 (ps fav) * denP (ps sec) := cmp.mp (by omega)
      rw [if_pos hc] at trm
      apply s_X5_cutAndTrim_83 (layOK n) k440 kf ks k440
      rw [up_eq, rf_shr.2.2.2.2.1, m2e.1, ef1, ef2, rf_shr.2.2.2.2.2.2.2.2, rf_shr.2.1, rf451.1, rf451.2]
      refine ⟨Or.inr rfl, fun _ => ?_, fun z => absurd z (by decide)⟩
      have f3 : ∀ x i, x ≠ 440 ∨ i ≠ 11 → up μ2 440 11 1 x i = μ2 x i := fun x i z => up_ne z
      have tr3 : up μ2 440 11 1 440 11 = 1 := up_eq _ _ _ _
      generalize up μ2 440 11 1 = μ3 at *
      have hr3 : RT μ3 E := RT_fr hr2 (fun x i hx => f3 x i (by omega))
      have d3 : DR μ3 174 w1 := DR_frame d2 cn1.1.2 (fun a a0 a1 => (cn1.2 a a0 a1).2) (fun x i hx => f3 x i (by omega))
      have pf3 : PA μ3 (464 + 3 * fav + 1) (ps fav).1 ∧ PA μ3 (464 + 3 * fav + 2) (ps fav).2 := ⟨PA_fr pf.1 (fun i => f3 _ i (by omega)), PA_fr pf.2 (fun i => f3 _ i (by omega))⟩
      have pc3 : PA μ3 (464 + 3 * sec + 1) (ps sec).1 ∧ PA μ3 (464 + 3 * sec + 2) (ps sec).2 := ⟨PA_fr pc.1 (fun i => f3 _ i (by omega)), PA_fr pc.2 (fun i => f3 _ i (by omega))⟩
      have tmk := fun m w2 => trim_mark (m := m) (w1 := w2) hE hN t1 t5 fb sb hc
      refine c_X5_putMark hE hr3 d3 cn1 t1.1 km2 kf1 ks (Or.inr (by decide)) ⟨by decide, by omega⟩ pf3.1 pc3.1 pc3.2 wf1 wc1 wc2 wc3 ⟨by decide, by decide⟩ ⟨by decide, by decide⟩ (tmk (0, 1) w1).1 ?_ ?_
      · intro m w2 hy μ4 v1 v2 v3
        obtain ⟨j1, j2, j3, j4, j5, j6⟩ := (tmk m w2).2 hy
        have e4 : w2 4 = 2 := by rw [j4, setU_ne (by decide), t3, h4]; decide
        have cn2 := WF_cn j2
        rw [hy] at trm
        have v1 : PA μ4 458 m := v1
        have v3 : ∀ x i, x ≠ 458 → x ≠ 180 → (x ≠ 174 ∨ i ≠ 2) → μ4 x i = μ3 x i := v3
        have pf4 : PA μ4 (464 + 3 * fav + 2) (ps fav).2 := PA_fr pf3.2 (fun i => v3 _ i (by omega) (by omega) (by omega))
        refine ⟨1, rfl, rfl, fun _ => ?_, fun z => absurd z (by decide)⟩
        refine c_X7_put k451 km2 kf2 (by omega) ⟨rfl, rfl, ?_⟩
        rw [show μ4 (454 + 2 * 2) 0 = m.1 from v1.1, show μ4 (454 + 2 * 2) 1 = m.2 from v1.2, pf4.1, pf4.2]
        obtain ⟨r1, r2, r3⟩ := sw_fr (μ := μ4) (s := 451) (p := m) (q := (ps fav).2)
        generalize spW μ4 451 m.1 m.2 (ps fav).2.1 (ps fav).2.2 = μ5 at *
        have r2 : PA μ5 452 m := r2
        have r3 : PA μ5 453 (ps fav).2 := r3
        have v15 : PA μ5 458 m := PA_fr v1 (fun i => r1 458 i (by decide) (by decide))
        refine c_X3_copy kf2 km2 ⟨rfl, rfl, ?_⟩
        rw [show μ5 (454 + 2 * 2) 0 = m.1 from v15.1, show μ5 (454 + 2 * 2) 1 = m.2 from v15.2]
        have f6 : ∀ x i, x ≠ 464 + 3 * fav + 2 → up (up μ5 (464 + 3 * fav + 2) 0 m.1) (464 + 3 * fav + 2) 1 m.2 x i = μ5 x i := fun x i z => cp_ne z
        have c6 : PA (up (up μ5 (464 + 3 * fav + 2) 0 m.1) (464 + 3 * fav + 2) 1 m.2) (464 + 3 * fav + 2) m := cp_PA
        generalize up (up μ5 (464 + 3 * fav + 2) 0 m.1) (464 + 3 * fav + 2) 1 m.2 = μ6 at *
        have f63 : ∀ x i, x ≠ 464 + 3 * fav + 2 → x ≠ 452 → x ≠ 453 → x ≠ 458 → x ≠ 180 → (x ≠ 174 ∨ i ≠ 2) → μ6 x i = μ3 x i := fun x i z1 z2 z3 z4 z5 z6 => ((f6 x i z1).trans (r1 x i (by omega) (by omega))).trans (v3 x i z4 z5 z6)
        have r26 : PA μ6 452 m := PA_fr r2 (fun i => f6 452 i (by omega))
        have r36 : PA μ6 453 (ps fav).2 := PA_fr r3 (fun i => f6 453 i (by omega))
        refine c_X1_note k174 k452 k453 (Or.inr (by decide)) (Or.inr (by decide)) (DR_frame v2 cn2.1.2 (fun a a0 a1 => (cn2.2 a a0 a1).2) (fun x i hx => (f6 x i (by omega)).trans (r1 x i (by omega) (by omega)))) ⟨cn2.1.1, by omega⟩ (fun b b0 b1 => (cn2.2 b b0 b1).2) fun μ7 y1 y2 => ⟨rfl, rfl, ?_⟩
        rw [r26.1, r26.2, r36.1, r36.2] at y1
        have f73 : ∀ x i, outD 174 x ∨ x = 174 ∧ i = 1 → x ≠ 464 + 3 * fav + 2 → x ≠ 452 → x ≠ 453 → x ≠ 458 → μ7 x i = μ3 x i := fun x i z z1 z2 z3 z4 => (y2 x i (z.imp_right fun y => ⟨y.1, by omega⟩)).trans (f63 x i z1 z2 z3 z4 (by unfold outD at z; omega) (by unfold outD at z; omega))
        refine hok _ trm μ7 y1 (fun k k0 k1 => ?_) (((f73 440 10 (Or.inl (Or.inr (by decide))) (by omega) (by decide) (by decide) (by decide)).trans (f3 440 10 (by decide))).trans fav2) ((f73 440 11 (Or.inl (Or.inr (by decide))) (by omega) (by decide) (by decide) (by decide)).trans tr3) (fun _ => ⟨PA_fr r26 (fun i => y2 452 i (Or.inl (Or.inr (by decide)))), PA_fr r36 (fun i => y2 453 i (Or.inl (Or.inr (by decide))))⟩) (fun x i z1 z2 => ((f73 x i (Or.inl (by unfold outD; omega)) (by omega) (by omega) (by omega) (by omega)).trans (f3 x i (by omega))).trans (fs2 x i z1 z2)) (((f73 174 1 (Or.inr ⟨rfl, rfl⟩) (by omega) (by decide) (by decide) (by decide)).trans (f3 174 1 (by decide))).trans fl2)
        show PA μ7 (465 + 3 * k) (updP ps fav ((ps fav).1, m) k).1 ∧ PA μ7 (466 + 3 * k) (updP ps fav ((ps fav).1, m) k).2
        have Pk := P2 k k0 k1
        unfold updP
        by_cases e : k = fav
        · subst e
          rw [if_pos rfl]
          exact ⟨PA_fr Pk.1 (fun i => (f73 _ i (Or.inl (Or.inr (by omega))) (by omega) (by omega) (by omega) (by omega)).trans (f3 _ i (by omega))), by rw [show (466 : Int) + 3 * k = 464 + 3 * k + 2 by omega]; exact PA_fr c6 (fun i => y2 _ i (Or.inl (Or.inr (by omega))))⟩
        · rw [if_neg e]
          exact ⟨PA_fr Pk.1 (fun i => (f73 _ i (Or.inl (Or.inr (by omega))) (by omega) (by omega) (by omega) (by omega)).trans (f3 _ i (by omega))), PA_fr Pk.2 (fun i => (f73 _ i (Or.inl (Or.inr (by omega))) (by omega) (by omega) (by omega) (by omega)).trans (f3 _ i (by omega)))⟩
      · intro hy μ4 v3
        rw [hy] at trm
        exact ⟨0, rfl, rfl, fun z => absurd rfl z, fun _ => hno trm μ4 (fun x i z1 z2 => ((v3 x i (by omega) (by unfold outD; omega)).trans (f3 x i (by omega))).trans (fs2 x i z1 z2))⟩
  · intro ht μ1 g3
    rw [ht] at trm
    exact ⟨0, rfl, rfl, fun q => absurd rfl q, fun _ => hno trm μ1 (fun x i z1 z2 => g3 x i (by unfold outD; omega) (by omega) (by omega))⟩
end
