/-! constructors: Sharer, Tape, Sheet, Rows -/
section
variable {n : Int}
theorem ki441 : isK (L0 n) 441 (7, 0) := isK0 (by decide) (by decide) (by decide +kernel)
theorem ki444 : isK (L0 n) 444 (7, 0) := isK0 (by decide) (by decide) (by decide +kernel)
theorem ki447 : isK (L0 n) 447 (26, 5) := isK0 (by decide) (by decide) (by decide +kernel)
theorem ki448 : isK (L0 n) 448 (26, 5) := isK0 (by decide) (by decide) (by decide +kernel)
theorem ki449 : isK (L0 n) 449 (20, 5) := isK0 (by decide) (by decide) (by decide +kernel)
theorem ki450 : isK (L0 n) 450 (25, 3) := isK0 (by decide) (by decide) (by decide +kernel)
theorem ki451 : isK (L0 n) 451 (7, 0) := isK0 (by decide) (by decide) (by decide +kernel)
theorem ki474 : isK (L0 n) 474 (22, 160) := isK0 (by decide) (by decide) (by decide +kernel)
theorem ki475 : isK (L0 n) 475 (3, 0) := isK0 (by decide) (by decide) (by decide +kernel)
theorem ki476 : isK (L0 n) 476 (7, 0) := isK0 (by decide) (by decide) (by decide +kernel)
theorem ki480 : isK (L0 n) 480 (22, 640) := isK0 (by decide) (by decide) (by decide +kernel)
theorem ki482 : isK (L0 n) 482 (23, 4) := isK0 (by decide) (by decide) (by decide +kernel)
theorem ki487 : isK (L0 n) 487 (20, 4) := isK0 (by decide) (by decide) (by decide +kernel)
theorem shKB : (List.range 5).all (fun i => decide (kd0 0 (454 + 2 * (i : Int)) = (3, 0)) && decide (kd0 0 (455 + 2 * (i : Int)) = (3, 0)) && (if i < 3 then decide (kd0 0 (464 + 3 * (i : Int)) = (7, 0)) else true) && (if i < 4 then decide (kd0 0 (483 + (i : Int)) = (20, 20)) else true)) = true := by decide +kernel
theorem sh_K : (∀ i : Int, 0 ≤ i → i < 5 → isK (L0 n) (454 + 2 * i) (3, 0) ∧ isK (L0 n) (455 + 2 * i) (3, 0)) ∧ (∀ i : Int, 0 ≤ i → i < 3 → isK (L0 n) (464 + 3 * i) (7, 0)) ∧ ∀ i : Int, 0 ≤ i → i < 4 → isK (L0 n) (483 + i) (20, 20) := by
  have key : ∀ i : Int, 0 ≤ i → i < 5 → _ := fun i i0 i1 => List.all_eq_true.mp shKB i.toNat (List.mem_range.mpr (by omega))
  refine ⟨fun i i0 i1 => ?_, fun i i0 i1 => ?_, fun i i0 i1 => ?_⟩
  · have h := key i i0 i1
    simp only [Bool.and_eq_true, decide_eq_true_eq, show ((i.toNat : Nat) : Int) = i by omega] at h
    exact ⟨isK0 (by omega) (by omega) h.1.1.1, isK0 (by omega) (by omega) h.1.1.2⟩
  · have h := key i i0 (by omega)
    simp only [Bool.and_eq_true, decide_eq_true_eq, show ((i.toNat : Nat) : Int) = i by omega, show i.toNat < 3 by omega, if_true] at h
    exact isK0 (by omega) (by omega) h.1.2
  · have h := key i i0 (by omega)
    simp only [Bool.and_eq_true, decide_eq_true_eq, show ((i.toNat : Nat) : Int) = i by omega, show i.toNat < 4 by omega, if_true] at h
    exact isK0 (by omega) (by omega) h.2
end
section
variable {n : Int} {L : Lay} {μ : Mem} {op : Int → Int → Prop} {Q : Option AV → Lay → Mem → Prop}
theorem i_X5 (hP : PL n L 440 (fun a k => (a = 440 ∧ rf (L0 n) a k ≠ -1) ∨ op a k)) (hop : ∀ a i, 440 ≤ a → ¬ op a i)
    (h : ∀ L' μ', PL n L' 472 op → (∀ a i, a ≤ 440 → μ' a i = μ a i) → μ' 442 0 = 0 → μ' 442 1 = 1 → Q none L' μ') : TR mX5_init 3 (32, 74) [(2, 440), (2, 2), (2, 174)] L μ Q := by
  obtain ⟨A1, A2, -⟩ := sh_el (n := n)
  obtain ⟨B1, B2, -⟩ := sh_K (n := n)
  have F0 : frL 440 μ μ := fl_rf
  refine o_X5_init (PL_K hP k440 (Int.le_refl _)) (PL_K hP k2 (by decide)) (PL_K hP k174 (by decide)) ?_
  refine ⟨(31, 72), rfl, fun o L1 μ1 eo eL em1 => ?_⟩
  have eo := PL_o hP (c' := 441) (by omega) eo
  subst eo
  have P1 := PL_at hP (c' := 441) (by omega) ki441 eL
  have F1 := fl_new F0 em1 (by rw [hP.1]; omega)
  refine ⟨PL_K P1 k440 (by omega), PL_K P1 k2 (by omega), PL_K P1 k174 (by omega), PL_K P1 ki441 (by omega), ?_⟩
  refine ⟨(2, 4), (29, 68), rfl, rfl, i_X7 P1 ki441 fun M1b μ1b P1b f1b z1 z2 => ⟨rfl, PL_K P1b k440 (by omega), PL_K P1b k2 (by omega), PL_K P1b k174 (by omega), PL_K P1b ki441 (by omega), ?_⟩⟩
  replace P1b := PL_c (c' := 443) P1b (by omega)
  have F1b := fl_tr F1 (fun a i ha => f1b a i (by omega))
  intro M1 e1
  have R1 := PL_put P1b rf_shr.2.2.1 e1
  refine ⟨PL_K R1 k440 (by omega), PL_K R1 k2 (by omega), PL_K R1 k174 (by omega), ?_⟩
  have G0 : frL 443 μ1b μ1b := fl_rf
  refine ⟨(28, 66), rfl, fun o L2 μ2 eo eL em2 => ?_⟩
  have eo := PL_o R1 (c' := 444) (by omega) eo
  subst eo
  have P2 := PL_at R1 (c' := 444) (by omega) ki444 eL
  have F2 := fl_new G0 em2 (by rw [R1.1]; omega)
  refine ⟨PL_K P2 k440 (by omega), PL_K P2 k2 (by omega), PL_K P2 k174 (by omega), PL_K P2 ki444 (by omega), ?_⟩
  refine ⟨(2, 4), (26, 62), rfl, rfl, i_X7 P2 ki444 fun M2b μ2b P2b f2b _ _ => ⟨rfl, PL_K P2b k440 (by omega), PL_K P2b k2 (by omega), PL_K P2b k174 (by omega), PL_K P2b ki444 (by omega), ?_⟩⟩
  replace P2b := PL_c (c' := 446) P2b (by omega)
  have F2b := fl_tr F2 (fun a i ha => f2b a i (by omega))
  intro M2 e2
  have R2 := PL_put P2b rf_shr.2.2.2.1 e2
  refine ⟨PL_K R2 k440 (by omega), PL_K R2 k2 (by omega), PL_K R2 k174 (by omega), ?_⟩
  refine ⟨(25, 57), rfl, fun o L3 μ3 eo eL em3 => ?_⟩
  have eo := PL_o R2 (c' := 447) (by omega) eo
  subst eo
  have P3 := PL_at R2 (c' := 447) (by omega) ki447 eL
  have F3 := fl_new F2b em3 (by rw [R2.1]; omega)
  refine ⟨PL_K P3 k440 (by omega), PL_K P3 k2 (by omega), PL_K P3 k174 (by omega), PL_K P3 ki447 (by omega), ?_⟩
  intro M3 e3
  have R3 := PL_put P3 rf_shr.2.2.2.2.1 e3
  refine ⟨PL_K R3 k440 (by omega), PL_K R3 k2 (by omega), PL_K R3 k174 (by omega), ?_⟩
  refine ⟨(24, 52), rfl, fun o L4 μ4 eo eL em4 => ?_⟩
  have eo := PL_o R3 (c' := 448) (by omega) eo
  subst eo
  have P4 := PL_at R3 (c' := 448) (by omega) ki448 eL
  have F4 := fl_new F3 em4 (by rw [R3.1]; omega)
  refine ⟨PL_K P4 k440 (by omega), PL_K P4 k2 (by omega), PL_K P4 k174 (by omega), PL_K P4 ki448 (by omega), ?_⟩
  intro M4 e4
  have R4 := PL_put P4 rf_shr.2.2.2.2.2.1 e4
  refine ⟨PL_K R4 k440 (by omega), PL_K R4 k2 (by omega), PL_K R4 k174 (by omega), ?_⟩
  refine ⟨(23, 47), rfl, fun o L5 μ5 eo eL em5 => ?_⟩
  have eo := PL_o R4 (c' := 449) (by omega) eo
  subst eo
  have P5 := PL_at0 R4 (c' := 449) (by omega) ki449 (by decide) eL
  have F5 := fl_new F4 em5 (by rw [R4.1]; omega)
  refine ⟨PL_K P5 k440 (by omega), PL_K P5 k2 (by omega), PL_K P5 k174 (by omega), PL_K P5 ki449 (by omega), ?_⟩
  intro M5 e5
  have R5 := PL_put P5 rf_shr.2.2.2.2.2.2.1 e5
  refine ⟨PL_K R5 k440 (by omega), PL_K R5 k2 (by omega), PL_K R5 k174 (by omega), ?_⟩
  refine ⟨(22, 44), rfl, fun o L6 μ6 eo eL em6 => ?_⟩
  have eo := PL_o R5 (c' := 450) (by omega) eo
  subst eo
  have P6 := PL_at R5 (c' := 450) (by omega) ki450 eL
  have F6 := fl_new F5 em6 (by rw [R5.1]; omega)
  refine ⟨PL_K P6 k440 (by omega), PL_K P6 k2 (by omega), PL_K P6 k174 (by omega), PL_K P6 ki450 (by omega), ?_⟩
  intro M6 e6
  have R6 := PL_put P6 rf_shr.2.2.2.2.2.2.2.1 e6
  refine ⟨PL_K R6 k440 (by omega), PL_K R6 k2 (by omega), PL_K R6 k174 (by omega), ?_⟩
  refine ⟨(21, 42), rfl, fun o L7 μ7 eo eL em7 => ?_⟩
  have eo := PL_o R6 (c' := 451) (by omega) eo
  subst eo
  have P7 := PL_at R6 (c' := 451) (by omega) ki451 eL
  have F7 := fl_new F6 em7 (by rw [R6.1]; omega)
  refine ⟨PL_K P7 k440 (by omega), PL_K P7 k2 (by omega), PL_K P7 k174 (by omega), PL_K P7 ki451 (by omega), ?_⟩
  refine ⟨(2, 4), (19, 38), rfl, rfl, i_X7 P7 ki451 fun M7b μ7b P7b f7b _ _ => ⟨rfl, PL_K P7b k440 (by omega), PL_K P7b k2 (by omega), PL_K P7b k174 (by omega), PL_K P7b ki451 (by omega), ?_⟩⟩
  replace P7b := PL_c (c' := 453) P7b (by omega)
  have F7b := fl_tr F7 (fun a i ha => f7b a i (by omega))
  intro M7 e7
  have R7 := PL_put P7b rf_shr.2.2.2.2.2.2.2.2 e7
  refine ⟨PL_K R7 k440 (by omega), PL_K R7 k2 (by omega), PL_K R7 k174 (by omega), ?_⟩
  intro M8 e8
  have R8 := PL_put R7 rf_shr.1 e8
  refine ⟨PL_K R8 k440 (by omega), PL_K R8 k174 (by omega), ?_⟩
  intro M9 e9
  have R9 := PL_put R8 rf_shr.2.1 e9
  refine ⟨PL_K R9 k440 (by omega), ?_⟩
  have z1 : μ1b 442 0 = 0 := z1
  have z2 : μ1b 442 1 = 1 := z2
  -- the pieces
  have second : ∀ (d k9 : Nat) (L : Lay) (μ1 : Mem), k9 + d = 3 → PL n L (463 + 3 * (k9 : Int)) (fun a i => (a = 450 ∧ (k9 : Int) ≤ i ∧ i < 3) ∨ op a i) → frL 443 μ1b μ1 → WA mX5_init 3 (3 * d, 6 * d) 119 [(2, 440), (9, 0), (9, 0), (0, (k9 : Int))] [] L μ1 Q := by
    intro d
    induction d with
    | zero =>
      intro k9 L μ1 hk hP F
      have P1 : PL n L 472 op := PL_c (PL_weak hP (fun a i z => z.elim (fun z => by omega) id)) (by omega)
      have e8 : rf L 440 8 = 450 := PL_rf P1 (by decide) (hop _ _ (by decide)) (rf_shr.2.2.2.2.2.2.2.1)
      apply p_X5_init_119 (PL_K P1 k440 (by decide))
      rw [e8]
      exact ⟨PL_K P1 ki450 (by decide), fun _ => h L μ1 P1 (fun a i ha => (F a i (by omega)).trans (F1b a i ha)) ((F 442 0 (by decide)).trans z1) ((F 442 1 (by decide)).trans z2), fun z => absurd (show (3 : Int) ≤ k9 by omega) z⟩
    | succ d ih =>
      intro k9 L μ1 hk hP F
      have e8 : rf L 440 8 = 450 := PL_rf hP (by omega) (fun z => z.elim (fun z => by omega) (hop _ _ (by decide))) (rf_shr.2.2.2.2.2.2.2.1)
      have KN : isK (L0 n) (464 + 3 * (k9 : Int)) (7, 0) := B2 k9 (by omega) (by omega)
      apply p_X5_init_119 (PL_K hP k440 (by omega))
      rw [e8]
      refine ⟨PL_K hP ki450 (by omega), fun z => absurd z (by omega), fun _ => ⟨(3 * d + 2, 6 * d + 4), Prod.ext (show 3 * (d + 1) = 3 * d + 2 + 1 by omega) (show 6 * (d + 1) = 6 * d + 4 + 2 by omega), fun o L1 μ2 eo eL em => ?_⟩⟩
      have eo := PL_o hP (c' := 464 + 3 * (k9 : Int)) (by omega) eo
      subst eo
      have P1 := PL_at hP (c' := 464 + 3 * (k9 : Int)) (by omega) KN eL
      have F1 := fl_new F em (by rw [hP.1]; omega)
      refine ⟨PL_K P1 k440 (by omega), PL_K P1 KN (by omega), PL_K P1 ki450 (by omega), (2, 4), (3 * d, 6 * d), (show 2 + 3 * d = 3 * d + 2 by omega), (show 4 + 6 * d = 6 * d + 4 by omega), i_X7 P1 KN fun L2 μ3 P2 f2 _ _ => ⟨rfl, PL_K P2 k440 (by omega), PL_K P2 KN (by omega), PL_K P2 ki450 (by omega), ⟨by omega, by omega⟩, fun L3 e3 => ?_⟩⟩
      have P3 := PL_put P2 (A2 k9 (by omega) (by omega)) e3
      refine ⟨PL_K P3 k440 (by omega), ⟨by omega, by omega⟩, ?_⟩
      refine ih (k9 + 1) L3 _ (by omega) (PL_c (PL_weak P3 (fun a i z => ?_)) (by omega)) (fl_tr F1 (fun a i ha => f2 a i (by omega)))
      obtain ⟨z1, z2⟩ := z
      rcases z1 with z1 | z1
      · exact Or.inl ⟨z1.1, by omega, z1.2.2⟩
      · exact Or.inr z1
  -- the marks
  have first : ∀ (d k9 : Nat) (L : Lay) (μ1 : Mem), k9 + d = 5 → PL n L (453 + 2 * (k9 : Int)) (fun a i => (a = 447 ∧ (k9 : Int) ≤ i ∧ i < 5) ∨ (a = 448 ∧ (k9 : Int) ≤ i ∧ i < 5) ∨ (a = 450 ∧ 0 ≤ i ∧ i < 3) ∨ op a i) → frL 443 μ1b μ1 → WA mX5_init 3 (2 * d + 9, 4 * d + 18) 80 [(2, 440), (9, 0), (9, 0), (0, (k9 : Int))] [] L μ1 Q := by
    intro d
    induction d with
    | zero =>
      intro k9 L μ1 hk hP F
      apply p_X5_init_80 (PL_K hP k440 (by omega))
      refine ⟨fun _ => second 3 0 L μ1 rfl (PL_c (PL_weak hP (fun a i z => z.elim (fun z => by omega) (fun z => z.elim (fun z => by omega) id))) (by omega)) F, fun z => absurd (show (5 : Int) ≤ k9 by omega) z⟩
    | succ d ih =>
      intro k9 L μ1 hk hP F
      have e5 : rf L 440 5 = 447 := PL_rf hP (by omega) (fun z => z.elim (fun z => by omega) (fun z => z.elim (fun z => by omega) (fun z => z.elim (fun z => by omega) (hop _ _ (by decide))))) (rf_shr.2.2.2.2.1)
      obtain ⟨KN, KM⟩ := B1 k9 (by omega) (by omega)
      obtain ⟨RN, RM⟩ := A1 k9 (by omega) (by omega)
      apply p_X5_init_80 (PL_K hP k440 (by omega))
      rw [e5]
      refine ⟨fun z => absurd z (by omega), fun _ => ⟨PL_K hP ki447 (by omega), (2 * d + 10, 4 * d + 20), Prod.ext (show 2 * (d + 1) + 9 = 2 * d + 10 + 1 by omega) (show 4 * (d + 1) + 18 = 4 * d + 20 + 2 by omega), fun o L1 μ2 eo eL em => ?_⟩⟩
      have eo := PL_o hP (c' := 454 + 2 * (k9 : Int)) (by omega) eo
      subst eo
      have P1 := PL_at0 hP (c' := 454 + 2 * (k9 : Int)) (by omega) KN (by decide) eL
      have F1 := fl_up (o := 454 + 2 * (k9 : Int)) (j := 1) (v := 1) (fl_new F em (by rw [hP.1]; omega)) (by omega)
      refine ⟨PL_K P1 k440 (by omega), PL_K P1 KN (by omega), PL_K P1 ki447 (by omega), (0, 0), (2 * d + 10, 4 * d + 20), Nat.zero_add _, Nat.zero_add _, i_X3 P1 KN (by omega) ⟨rfl, PL_K P1 k440 (by omega), PL_K P1 KN (by omega), PL_K P1 ki447 (by omega), ⟨by omega, by omega⟩, fun L3 e3 => ?_⟩⟩
      have P3 := PL_put P1 RN e3
      have e6 : rf L3 440 6 = 448 := PL_rf P3 (by omega) (fun z => z.1.elim (fun z => by omega) (fun z => z.elim (fun z => by omega) (fun z => z.elim (fun z => by omega) (hop _ _ (by decide))))) (rf_shr.2.2.2.2.2.1)
      rw [e6]
      refine ⟨PL_K P3 k440 (by omega), PL_K P3 ki448 (by omega), (2 * d + 9, 4 * d + 18), rfl, fun o4 L4 μ4 eo4 eL4 em4 => ?_⟩
      have eo4 := PL_o P3 (c' := 455 + 2 * (k9 : Int)) (by omega) eo4
      subst eo4
      have P4 := PL_at0 P3 (c' := 455 + 2 * (k9 : Int)) (by omega) KM (by decide) eL4
      have F4 := fl_up (o := 455 + 2 * (k9 : Int)) (j := 1) (v := 1) (fl_new F1 em4 (by rw [P3.1]; omega)) (by omega)
      refine ⟨PL_K P4 k440 (by omega), PL_K P4 KM (by omega), PL_K P4 ki448 (by omega), (0, 0), (2 * d + 9, 4 * d + 18), Nat.zero_add _, Nat.zero_add _, i_X3 P4 KM (by omega) ⟨rfl, PL_K P4 k440 (by omega), PL_K P4 KM (by omega), PL_K P4 ki448 (by omega), fun L5 e5 => ?_⟩⟩
      have P5 := PL_put P4 RM e5
      refine ⟨PL_K P5 k440 (by omega), ⟨by omega, by omega⟩, ?_⟩
      refine ih (k9 + 1) L5 _ (by omega) (PL_c (PL_weak P5 (fun a i z => ?_)) (by omega)) F4
      obtain ⟨⟨z1, z2⟩, z3⟩ := z
      rcases z1 with z1 | z1 | z1
      · exact Or.inl ⟨z1.1, by omega, z1.2.2⟩
      · exact Or.inr (Or.inl ⟨z1.1, by omega, z1.2.2⟩)
      · exact Or.inr (Or.inr z1)
  refine first 5 0 _ _ rfl (PL_c (PL_weak R9 (fun a k z => ?_)) (by omega)) F7b
  obtain ⟨z, n1⟩ := z
  obtain ⟨z, n0⟩ := z
  obtain ⟨z, n9⟩ := z
  obtain ⟨z, n8⟩ := z
  rcases z with ⟨e, y⟩ | z
  · exact Or.inr (Or.inr (Or.inl ⟨e, by have := op_arr (e ▸ ki450) (by decide) y; omega⟩))
  obtain ⟨z, n7⟩ := z
  obtain ⟨z, n6⟩ := z
  rcases z with ⟨e, y⟩ | z
  · exact Or.inr (Or.inl ⟨e, by have := op_arr (e ▸ ki448) (by decide) y; omega⟩)
  obtain ⟨z, n5⟩ := z
  rcases z with ⟨e, y⟩ | z
  · exact Or.inl ⟨e, by have := op_arr (e ▸ ki447) (by decide) y; omega⟩
  obtain ⟨z, n4⟩ := z
  obtain ⟨z, n3⟩ := z
  rcases z with ⟨e, y⟩ | z
  · subst e
    obtain ⟨g1, g2⟩ := op_obj k440 (by decide) y
    have g2 : k.toNat = 0 ∨ k.toNat = 1 ∨ k.toNat = 3 ∨ k.toNat = 4 ∨ k.toNat = 5 ∨ k.toNat = 6 ∨ k.toNat = 7 ∨ k.toNat = 8 ∨ k.toNat = 9 := by simpa [rsl] using g2
    have g2 : k = 0 ∨ k = 1 ∨ k = 3 ∨ k = 4 ∨ k = 5 ∨ k = 6 ∨ k = 7 ∨ k = 8 ∨ k = 9 := by omega
    rcases g2 with rfl | rfl | rfl | rfl | rfl | rfl | rfl | rfl | rfl
    · exact absurd ⟨rfl, rfl⟩ n0
    · exact absurd ⟨rfl, rfl⟩ n1
    · exact absurd ⟨rfl, rfl⟩ n3
    · exact absurd ⟨rfl, rfl⟩ n4
    · exact absurd ⟨rfl, rfl⟩ n5
    · exact absurd ⟨rfl, rfl⟩ n6
    · exact absurd ⟨rfl, rfl⟩ n7
    · exact absurd ⟨rfl, rfl⟩ n8
    · exact absurd ⟨rfl, rfl⟩ n9
  · exact Or.inr (Or.inr (Or.inr z))
theorem i_X8 (hP : PL n L 473 (fun a k => (a = 473 ∧ rf (L0 n) a k ≠ -1) ∨ op a k))
    (h : ∀ L' μ', PL n L' 478 op → (∀ a i, a ≤ 473 → μ' a i = μ a i) → Q none L' μ') : TR mX8_init 3 (5, 168) [(2, 473)] L μ Q := by
  have F0 : frL 473 μ μ := fl_rf
  refine o_X8_init (PL_K hP k473 (Int.le_refl _)) ?_
  refine ⟨(4, 8), rfl, fun o L1 μ1 eo eL em1 => ?_⟩
  have eo := PL_o hP (c' := 474) (by omega) eo
  subst eo
  have P1 := PL_at0 hP (c' := 474) (by omega) ki474 (by decide) eL
  have F1 := fl_new F0 em1 (by rw [hP.1]; omega)
  refine ⟨PL_K P1 k473 (by omega), PL_K P1 ki474 (by omega), ?_⟩
  intro M1 e1
  have R1 := PL_put P1 rf_tape.1 e1
  refine ⟨PL_K R1 k473 (by omega), ?_⟩
  refine ⟨(3, 6), rfl, fun o L2 μ2 eo eL em2 => ?_⟩
  have eo := PL_o R1 (c' := 475) (by omega) eo
  subst eo
  have P2 := PL_at0 R1 (c' := 475) (by omega) ki475 (by decide) eL
  have F2 := fl_new F1 em2 (by rw [R1.1]; omega)
  refine ⟨PL_K P2 k473 (by omega), PL_K P2 ki475 (by omega), ?_⟩
  refine ⟨(0, 0), (3, 6), rfl, rfl, i_X3 P2 ki475 (by omega) ⟨rfl, PL_K P2 k473 (by omega), PL_K P2 ki475 (by omega), ?_⟩⟩
  replace F2 := fl_up (o := 475) (j := 1) (v := 1) F2 (by omega)
  intro M2 e2
  have R2 := PL_put P2 rf_tape.2.1 e2
  refine ⟨PL_K R2 k473 (by omega), ?_⟩
  refine ⟨(2, 4), rfl, fun o L3 μ3 eo eL em3 => ?_⟩
  have eo := PL_o R2 (c' := 476) (by omega) eo
  subst eo
  have P3 := PL_at R2 (c' := 476) (by omega) ki476 eL
  have F3 := fl_new F2 em3 (by rw [R2.1]; omega)
  refine ⟨PL_K P3 k473 (by omega), PL_K P3 ki476 (by omega), ?_⟩
  refine ⟨(2, 4), (0, 0), rfl, rfl, i_X7 P3 ki476 fun M3b μ3b P3b f3b _ _ => ⟨rfl, PL_K P3b k473 (by omega), PL_K P3b ki476 (by omega), ?_⟩⟩
  replace P3b := PL_c (c' := 478) P3b (by omega)
  have F3b := fl_tr F3 (fun a i ha => f3b a i (by omega))
  intro M3 e3
  have R3 := PL_put P3b rf_tape.2.2 e3
  refine ⟨PL_K R3 k473 (by omega), ?_⟩
  refine h _ _ (PL_weak R3 (fun a k z => ?_)) F3b
  obtain ⟨z, n4⟩ := z
  obtain ⟨z, n3⟩ := z
  obtain ⟨z, n2⟩ := z
  rcases z with ⟨e, y⟩ | z
  · subst e
    obtain ⟨g1, g2⟩ := op_obj k473 (by decide) y
    have g2 : k.toNat = 2 ∨ k.toNat = 3 ∨ k.toNat = 4 := by simpa [rsl] using g2
    have g2 : k = 2 ∨ k = 3 ∨ k = 4 := by omega
    rcases g2 with rfl | rfl | rfl
    · exact absurd ⟨rfl, rfl⟩ n2
    · exact absurd ⟨rfl, rfl⟩ n3
    · exact absurd ⟨rfl, rfl⟩ n4
  · exact z
theorem i_X6 (hP : PL n L 479 (fun a k => (a = 479 ∧ rf (L0 n) a k ≠ -1) ∨ op a k))
    (h : ∀ L' μ', PL n L' 480 op → (∀ a i, a ≤ 479 → μ' a i = μ a i) → Q none L' μ') : TR mX6_init 1 (1, 640) [(2, 479)] L μ Q := by
  have F0 : frL 479 μ μ := fl_rf
  refine o_X6_init (PL_K hP k479 (Int.le_refl _)) ?_
  refine ⟨(0, 0), rfl, fun o L1 μ1 eo eL em1 => ?_⟩
  have eo := PL_o hP (c' := 480) (by omega) eo
  subst eo
  have P1 := PL_at0 hP (c' := 480) (by omega) ki480 (by decide) eL
  have F1 := fl_new F0 em1 (by rw [hP.1]; omega)
  refine ⟨PL_K P1 k479 (by omega), PL_K P1 ki480 (by omega), ?_⟩
  intro M1 e1
  have R1 := PL_put P1 rf_sheet e1
  refine ⟨PL_K R1 k479 (by omega), ?_⟩
  refine h _ _ (PL_weak R1 (fun a k z => ?_)) F1
  obtain ⟨z, n1⟩ := z
  rcases z with ⟨e, y⟩ | z
  · subst e
    obtain ⟨g1, g2⟩ := op_obj k479 (by decide) y
    have g2 : k.toNat = 1 := by simpa [rsl] using g2
    have g2 : k = 1 := by omega
    subst g2
    · exact absurd ⟨rfl, rfl⟩ n1
  · exact z
theorem i_X4 (hP : PL n L 481 (fun a k => (a = 481 ∧ rf (L0 n) a k ≠ -1) ∨ op a k)) (hop : ∀ a i, 481 ≤ a → ¬ op a i)
    (h : ∀ L' μ', PL n L' 487 op → (∀ a i, a ≤ 481 → μ' a i = μ a i) → (∀ i : Int, 0 ≤ i → i < 4 → μ' 487 i = -1) → (∀ a i : Int, 483 ≤ a → a ≤ 486 → μ' a i = 0) → Q none L' μ') : TR mX4_init 1 (6, 88) [(2, 481)] L μ Q := by
  have e0 := hP.1
  obtain ⟨-, -, A3⟩ := sh_el (n := n)
  obtain ⟨-, -, B3⟩ := sh_K (n := n)
  refine o_X4_init (PL_K hP k481 (Int.le_refl _)) ⟨(1, 4), rfl, fun o1 L1 μ1 eo eL em => ?_⟩
  have eo := PL_o hP (c' := 482) (by decide) eo
  subst eo
  have P1 := PL_multi (by decide) hP (by decide) (by decide) ki482.2.2 (fun j j0 j1 => ⟨(B3 j j0 j1).2.2, A3 j j0 j1⟩) eL
  replace P1 := PL_c (c' := 486) P1 (by decide)
  refine ⟨PL_K P1 k481 (by decide), PL_K P1 ki482 (by decide), fun L2 e2 => ?_⟩
  have P2 := PL_put P1 rf_rws.1 e2
  refine ⟨PL_K P2 k481 (by decide), (0, 0), rfl, fun o3 L3 μ3 eo3 eL3 em3 => ?_⟩
  have eo3 := PL_o P2 (c' := 487) (by decide) eo3
  subst eo3
  have P3 := PL_at0 P2 (c' := 487) (by decide) ki487 (by decide) eL3
  refine ⟨PL_K P3 k481 (by decide), PL_K P3 ki487 (by decide), fun L4 e4 => ?_⟩
  have P4 := PL_put P3 rf_rws.2 e4
  have P5 : PL n L4 487 op := PL_weak P4 (fun a k z => by
    obtain ⟨⟨z1, z2⟩, z3⟩ := z
    rcases z1 with ⟨rfl, z1⟩ | z1
    · obtain ⟨g1, g2⟩ := op_obj k481 (by decide) z1
      have g2 : k.toNat = 0 ∨ k.toNat = 1 := by simpa [rsl] using g2
      exact absurd (show (k = 0 ∨ k = 1) by omega) (fun y => y.elim (fun y => z2 ⟨rfl, y⟩) (fun y => z3 ⟨rfl, y⟩))
    · exact z1)
  have F3 : ∀ a i, a ≤ 481 → μ3 a i = μ a i := fun a i ha => by rw [em3, nwM_old (by rw [P2.1]; omega), em, nwRM_old (by rw [e0]; omega)]
  have e1 : rf L4 481 1 = 487 := PL_rf P5 (by decide) (hop _ _ (by decide)) rf_rws.2
  refine ⟨PL_K P5 k481 (by decide), ?_⟩
  have Z3 : ∀ a i : Int, 483 ≤ a → a ≤ 486 → μ3 a i = 0 := fun a i a0 a1 => by rw [em3, nwM_old (by rw [P2.1]; omega), em]; exact if_neg (by rw [e0]; omega)
  have key : ∀ (d k9 : Nat) (μ4 : Mem), k9 + d = 4 → (∀ a i, a ≤ 486 → μ4 a i = μ3 a i) → (∀ i : Int, 0 ≤ i → i < k9 → μ4 487 i = -1) → WA mX4_init 1 (0, 0) 24 [(2, 481), (0, (k9 : Int))] [] L4 μ4 Q := by
    intro d
    induction d with
    | zero =>
      intro k9 μ4 hk F hs
      apply p_X4_init_24 (PL_K P5 k481 (by decide))
      exact ⟨fun _ => h L4 μ4 P5 (fun a i ha => (F a i (by omega)).trans (F3 a i ha)) (fun i i0 i1 => hs i i0 (by omega)) (fun a i a0 a1 => (F a i a1).trans (Z3 a i a0 a1)), fun z => absurd (show (4 : Int) ≤ k9 by omega) z⟩
    | succ d ih =>
      intro k9 μ4 hk F hs
      apply p_X4_init_24 (PL_K P5 k481 (by decide))
      rw [e1]
      refine ⟨fun z => absurd z (by omega), fun _ => ⟨PL_K P5 ki487 (by decide), ⟨by omega, by omega⟩, ⟨by omega, by omega⟩, ih (k9 + 1) _ (by omega) (fun a i ha => by rw [up_ne (Or.inl (by omega))]; exact F a i ha) (fun i i0 i1 => ?_)⟩⟩
      by_cases z : i = (k9 : Int)
      · rw [z, up_eq]
      · rw [up_ne (Or.inr z)]
        exact hs i i0 (by omega)
  exact key 4 0 μ3 rfl (fun _ _ _ => rfl) (fun i i0 i1 => by omega)
end
