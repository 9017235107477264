/-! constructors: Division -/
section
variable {n : Int} {L : Lay} {μ : Mem} {op : Int → Int → Prop} {Q : Option AV → Lay → Mem → Prop}
theorem i_X1 {D : Int} (kD : isK (L0 n) D (1, 0)) (hP : PL n L D (fun a k => (a = D ∧ rf (L0 n) a k ≠ -1) ∨ op a k)) (hop : ∀ a i, D ≤ a → ¬ op a i)
    (h : ∀ L' μ', PL n L' (D + 132) op → (∀ a i, a < D → μ' a i = μ a i) → μ' D 0 = 0 → μ' D 2 = 1 → μ' D 3 = 0 → (∀ a : Int, 0 ≤ a → a < 5 → μ' (D + 2) a = 0) → Q none L' μ') : TR mX1_init 4 (132, 352) [(2, D)] L μ Q := by
  have hD := dv_is kD
  obtain ⟨K1, K2, K3, K4, K5, K6⟩ := dv_K2 (n := n) hD
  obtain ⟨q4, q5, q6, q7, q8, q9⟩ := dv_rf (n := n) hD
  obtain ⟨A1, A2, A3⟩ := dv_all (n := n) hD
  have KE := (dv_K kD).1
  have KS := (dv_K kD).2.1
  have KP := (dv_K kD).2.2.1
  -- the points seen
  have third : ∀ (d k9 : Nat) (L : Lay) (μ1 : Mem), k9 + d = 20 → PL n L (D + 112 + k9) (fun a i => (a = D + 4 ∧ (k9 : Int) ≤ i ∧ i < 20) ∨ op a i) → frL (D - 1) μ μ1 → WA mX1_init 4 (d, 2 * d) 119 [(2, D), (0, (k9 : Int))] [] L μ1 Q := by
    intro d
    induction d with
    | zero =>
      intro k9 L μ1 hk hP F
      have P1 : PL n L (D + 132) op := PL_c (PL_weak hP (fun a i z => z.elim (fun z => by omega) id)) (by omega)
      have e7 : rf L D 7 = D + 4 := PL_rf P1 (by omega) (hop _ _ (by omega)) q7
      apply p_X1_init_119 (PL_K P1 kD (by omega))
      rw [e7]
      refine ⟨PL_K P1 K4 (by omega), fun _ => i_X1_clear kD P1 (by omega) (fun i => hop _ i (Int.le_refl _)) fun μ' g0 g1 g2 g3 g4 g5 => ⟨rfl, rfl, h L μ' P1 (fun a i ha => ?_) g0 g2 g3 g4⟩, fun z => absurd (show (20 : Int) ≤ k9 by omega) z⟩
      rw [g5 a i (by omega) (by omega), F a i (by omega)]
    | succ d ih =>
      intro k9 L μ1 hk hP F
      have e7 : rf L D 7 = D + 4 := PL_rf hP (by omega) (fun z => z.elim (fun z => by omega) (hop _ _ (by omega))) q7
      have KN : isK (L0 n) (D + 113 + k9) (3, 0) := KP k9 (by omega) (by omega)
      apply p_X1_init_119 (PL_K hP kD (by omega))
      rw [e7]
      refine ⟨PL_K hP K4 (by omega), fun z => absurd z (by omega), fun _ => ⟨(d, 2 * d), Prod.ext (show d + 1 = d + 1 from rfl) (show 2 * (d + 1) = 2 * d + 2 by omega), fun o L1 μ2 eo eL em => ?_⟩⟩
      have eo := PL_o hP (c' := D + 113 + k9) (by omega) eo
      subst eo
      have P1 := PL_at0 hP (c' := D + 113 + k9) (by omega) KN (by decide) eL
      have F1 := fl_new F em (by rw [hP.1]; omega)
      refine ⟨PL_K P1 kD (by omega), PL_K P1 KN (by omega), PL_K P1 K4 (by omega), (0, 0), (d, 2 * d), Nat.zero_add _, Nat.zero_add _, i_X3 P1 KN (by omega) ⟨rfl, PL_K P1 kD (by omega), PL_K P1 KN (by omega), PL_K P1 K4 (by omega), ⟨by omega, by omega⟩, fun L3 e3 => ?_⟩⟩
      have P3 := PL_put P1 (A3 k9 (by omega) (by omega)) e3
      refine ⟨PL_K P3 kD (by omega), ⟨by omega, by omega⟩, ?_⟩
      refine ih (k9 + 1) L3 _ (by omega) (PL_c (PL_weak P3 (fun a i z => ?_)) (by omega)) (fl_up F1 (by omega))
      obtain ⟨z1, z2⟩ := z
      rcases z1 with z1 | z1
      · exact Or.inl ⟨z1.1, by omega, z1.2.2⟩
      · exact Or.inr z1
  -- the spans held
  have second : ∀ (d k9 : Nat) (L : Lay) (μ1 : Mem), k9 + d = 10 → PL n L (D + 82 + 3 * k9) (fun a i => (a = D + 3 ∧ (k9 : Int) ≤ i ∧ i < 10) ∨ (a = D + 4 ∧ 0 ≤ i ∧ i < 20) ∨ op a i) → frL (D - 1) μ μ1 → WA mX1_init 4 (3 * d + 20, 6 * d + 40) 89 [(2, D), (0, (k9 : Int))] [] L μ1 Q := by
    intro d
    induction d with
    | zero =>
      intro k9 L μ1 hk hP F
      have e6 : rf L D 6 = D + 3 := PL_rf hP (by omega) (fun z => z.elim (fun z => by omega) (fun z => z.elim (fun z => by omega) (hop _ _ (by omega)))) q6
      apply p_X1_init_89 (PL_K hP kD (by omega))
      rw [e6]
      refine ⟨PL_K hP K3 (by omega), fun _ => ?_, fun z => absurd (show (10 : Int) ≤ k9 by omega) z⟩
      exact third 20 0 L μ1 rfl (PL_c (PL_weak hP (fun a i z => z.elim (fun z => by omega) id)) (by omega)) F
    | succ d ih =>
      intro k9 L μ1 hk hP F
      have e6 : rf L D 6 = D + 3 := PL_rf hP (by omega) (fun z => z.elim (fun z => by omega) (fun z => z.elim (fun z => by omega) (hop _ _ (by omega)))) q6
      have KN : isK (L0 n) (D + 83 + 3 * k9) (7, 0) := KS k9 (by omega) (by omega)
      apply p_X1_init_89 (PL_K hP kD (by omega))
      rw [e6]
      refine ⟨PL_K hP K3 (by omega), fun z => absurd z (by omega), fun _ => ⟨(3 * d + 22, 6 * d + 44), Prod.ext (show 3 * (d + 1) + 20 = 3 * d + 22 + 1 by omega) (show 6 * (d + 1) + 40 = 6 * d + 44 + 2 by omega), fun o L1 μ2 eo eL em => ?_⟩⟩
      have eo := PL_o hP (c' := D + 83 + 3 * k9) (by omega) eo
      subst eo
      have P1 := PL_at hP (c' := D + 83 + 3 * k9) (by omega) KN eL
      have F1 := fl_new F em (by rw [hP.1]; omega)
      refine ⟨PL_K P1 kD (by omega), PL_K P1 KN (by omega), PL_K P1 K3 (by omega), (2, 4), (3 * d + 20, 6 * d + 40), (show 2 + (3 * d + 20) = 3 * d + 22 by omega), (show 4 + (6 * d + 40) = 6 * d + 44 by omega), i_X7 P1 KN fun L2 μ3 P2 f2 _ _ => ⟨rfl, PL_K P2 kD (by omega), PL_K P2 KN (by omega), PL_K P2 K3 (by omega), ⟨by omega, by omega⟩, fun L3 e3 => ?_⟩⟩
      have P3 := PL_put P2 (A2 k9 (by omega) (by omega)) e3
      refine ⟨PL_K P3 kD (by omega), ⟨by omega, by omega⟩, ?_⟩
      refine ih (k9 + 1) L3 _ (by omega) (PL_c (PL_weak P3 (fun a i z => ?_)) (by omega)) (fl_tr F1 (fun a i ha => f2 a i (by omega)))
      obtain ⟨z1, z2⟩ := z
      rcases z1 with z1 | z1
      · exact Or.inl ⟨z1.1, by omega, z1.2.2⟩
      · exact Or.inr z1
  -- the log
  have first : ∀ (d k9 : Nat) (L : Lay) (μ1 : Mem), k9 + d = 19 → PL n L (D + 6 + 4 * k9) (fun a i => (a = D + 1 ∧ (k9 : Int) ≤ i ∧ i < 19) ∨ (a = D + 3 ∧ 0 ≤ i ∧ i < 10) ∨ (a = D + 4 ∧ 0 ≤ i ∧ i < 20) ∨ op a i) → frL (D - 1) μ μ1 → WA mX1_init 4 (4 * d + 50, 9 * d + 100) 59 [(2, D), (0, (k9 : Int))] [] L μ1 Q := by
    intro d
    induction d with
    | zero =>
      intro k9 L μ1 hk hP F
      have e4 : rf L D 4 = D + 1 := PL_rf hP (by omega) (fun z => z.elim (fun z => by omega) (fun z => z.elim (fun z => by omega) (fun z => z.elim (fun z => by omega) (hop _ _ (by omega))))) q4
      apply p_X1_init_59 (PL_K hP kD (by omega))
      rw [e4]
      refine ⟨PL_K hP K1 (by omega), fun _ => ?_, fun z => absurd (show (19 : Int) ≤ k9 by omega) z⟩
      exact second 10 0 L μ1 rfl (PL_c (PL_weak hP (fun a i z => z.elim (fun z => by omega) id)) (by omega)) F
    | succ d ih =>
      intro k9 L μ1 hk hP F
      have e4 : rf L D 4 = D + 1 := PL_rf hP (by omega) (fun z => z.elim (fun z => by omega) (fun z => z.elim (fun z => by omega) (fun z => z.elim (fun z => by omega) (hop _ _ (by omega))))) q4
      have KN : isK (L0 n) (D + 7 + 4 * k9) (2, 0) := KE k9 (by omega) (by omega)
      apply p_X1_init_59 (PL_K hP kD (by omega))
      rw [e4]
      refine ⟨PL_K hP K1 (by omega), fun z => absurd z (by omega), fun _ => ⟨(4 * d + 53, 9 * d + 106), Prod.ext (show 4 * (d + 1) + 50 = 4 * d + 53 + 1 by omega) (show 9 * (d + 1) + 100 = 9 * d + 106 + 3 by omega), fun o L1 μ2 eo eL em => ?_⟩⟩
      have eo := PL_o hP (c' := D + 7 + 4 * k9) (by omega) eo
      subst eo
      have P1 := PL_at hP (c' := D + 7 + 4 * k9) (by omega) KN eL
      have F1 := fl_new F em (by rw [hP.1]; omega)
      refine ⟨PL_K P1 kD (by omega), PL_K P1 KN (by omega), PL_K P1 K1 (by omega), (3, 6), (4 * d + 50, 9 * d + 100), (show 3 + (4 * d + 50) = 4 * d + 53 by omega), (show 6 + (9 * d + 100) = 9 * d + 106 by omega), i_X2 P1 KN fun L2 μ3 P2 f2 => ⟨rfl, PL_K P2 kD (by omega), PL_K P2 KN (by omega), PL_K P2 K1 (by omega), ⟨by omega, by omega⟩, fun L3 e3 => ?_⟩⟩
      have P3 := PL_put P2 (A1 k9 (by omega) (by omega)) e3
      refine ⟨PL_K P3 kD (by omega), ⟨by omega, by omega⟩, ?_⟩
      refine ih (k9 + 1) L3 _ (by omega) (PL_c (PL_weak P3 (fun a i z => ?_)) (by omega)) (fl_tr F1 (fun a i ha => f2 a i (by omega)))
      obtain ⟨z1, z2⟩ := z
      rcases z1 with z1 | z1
      · exact Or.inl ⟨z1.1, by omega, z1.2.2⟩
      · exact Or.inr z1
  have F0 : frL (D - 1) μ μ := fl_rf
  refine o_X1_init (PL_K hP kD (Int.le_refl _)) ?_
  refine ⟨(131, 333), rfl, fun o L1 μ1 eo eL em => ?_⟩
  have eo := PL_o hP (c' := D + 1) (by omega) eo
  subst eo
  have P1 := PL_at hP (c' := D + 1) (by omega) K1 eL
  have F1 := fl_new F0 em (by rw [hP.1]; omega)
  refine ⟨PL_K P1 kD (by omega), PL_K P1 K1 (by omega), ?_⟩
  intro M1 e1
  have R1 := PL_put P1 q4 e1
  refine ⟨PL_K R1 kD (by omega), ?_⟩
  refine ⟨(130, 328), rfl, fun o L2 μ2 eo eL em => ?_⟩
  have eo := PL_o R1 (c' := D + 2) (by omega) eo
  subst eo
  have P2 := PL_at0 R1 (c' := D + 2) (by omega) K2 (by decide) eL
  have F2 := fl_new F1 em (by rw [R1.1]; omega)
  refine ⟨PL_K P2 kD (by omega), PL_K P2 K2 (by omega), ?_⟩
  intro M2 e2
  have R2 := PL_put P2 q5 e2
  refine ⟨PL_K R2 kD (by omega), ?_⟩
  refine ⟨(129, 318), rfl, fun o L3 μ3 eo eL em => ?_⟩
  have eo := PL_o R2 (c' := D + 3) (by omega) eo
  subst eo
  have P3 := PL_at R2 (c' := D + 3) (by omega) K3 eL
  have F3 := fl_new F2 em (by rw [R2.1]; omega)
  refine ⟨PL_K P3 kD (by omega), PL_K P3 K3 (by omega), ?_⟩
  intro M3 e3
  have R3 := PL_put P3 q6 e3
  refine ⟨PL_K R3 kD (by omega), ?_⟩
  refine ⟨(128, 298), rfl, fun o L4 μ4 eo eL em => ?_⟩
  have eo := PL_o R3 (c' := D + 4) (by omega) eo
  subst eo
  have P4 := PL_at R3 (c' := D + 4) (by omega) K4 eL
  have F4 := fl_new F3 em (by rw [R3.1]; omega)
  refine ⟨PL_K P4 kD (by omega), PL_K P4 K4 (by omega), ?_⟩
  intro M4 e4
  have R4 := PL_put P4 q7 e4
  refine ⟨PL_K R4 kD (by omega), ?_⟩
  refine ⟨(127, 273), rfl, fun o L5 μ5 eo eL em => ?_⟩
  have eo := PL_o R4 (c' := D + 5) (by omega) eo
  subst eo
  have P5 := PL_at0 R4 (c' := D + 5) (by omega) K5 (by decide) eL
  have F5 := fl_new F4 em (by rw [R4.1]; omega)
  refine ⟨PL_K P5 kD (by omega), PL_K P5 K5 (by omega), ?_⟩
  intro M5 e5
  have R5 := PL_put P5 q8 e5
  refine ⟨PL_K R5 kD (by omega), ?_⟩
  refine ⟨(126, 271), rfl, fun o L6 μ6 eo eL em => ?_⟩
  have eo := PL_o R5 (c' := D + 6) (by omega) eo
  subst eo
  have P6 := PL_at0 R5 (c' := D + 6) (by omega) K6 (by decide) eL
  have F6 := fl_new F5 em (by rw [R5.1]; omega)
  refine ⟨PL_K P6 kD (by omega), PL_K P6 K6 (by omega), ?_⟩
  refine ⟨(0, 0), (126, 271), rfl, rfl, i_X3 P6 K6 (by omega) ⟨rfl, PL_K P6 kD (by omega), PL_K P6 K6 (by omega), ?_⟩⟩
  replace F6 := fl_up (o := D + 6) (j := 1) (v := 1) F6 (by omega)
  intro M6 e6
  have R6 := PL_put P6 q9 e6
  refine ⟨PL_K R6 kD (by omega), ?_⟩
  refine first 19 0 _ _ rfl (PL_c (PL_weak R6 (fun a k z => ?_)) (by omega)) F6
  obtain ⟨z, n9⟩ := z
  obtain ⟨z, n8⟩ := z
  obtain ⟨z, n7⟩ := z
  rcases z with ⟨e, y⟩ | z
  · exact Or.inr (Or.inr (Or.inl ⟨e, by have := op_arr (e ▸ K4) (by decide) y; omega⟩))
  obtain ⟨z, n6⟩ := z
  rcases z with ⟨e, y⟩ | z
  · exact Or.inr (Or.inl ⟨e, by have := op_arr (e ▸ K3) (by decide) y; omega⟩)
  obtain ⟨z, n5⟩ := z
  obtain ⟨z, n4⟩ := z
  rcases z with ⟨e, y⟩ | z
  · exact Or.inl ⟨e, by have := op_arr (e ▸ K1) (by decide) y; omega⟩
  rcases z with ⟨e, y⟩ | z
  · subst e
    obtain ⟨g1, g2⟩ := op_obj kD (by decide) y
    have g2 : k.toNat = 4 ∨ k.toNat = 5 ∨ k.toNat = 6 ∨ k.toNat = 7 ∨ k.toNat = 8 ∨ k.toNat = 9 := by simpa [rsl] using g2
    have g2 : k = 4 ∨ k = 5 ∨ k = 6 ∨ k = 7 ∨ k = 8 ∨ k = 9 := by omega
    rcases g2 with rfl | rfl | rfl | rfl | rfl | rfl
    · exact absurd ⟨rfl, rfl⟩ n4
    · exact absurd ⟨rfl, rfl⟩ n5
    · exact absurd ⟨rfl, rfl⟩ n6
    · exact absurd ⟨rfl, rfl⟩ n7
    · exact absurd ⟨rfl, rfl⟩ n8
    · exact absurd ⟨rfl, rfl⟩ n9
  · exact Or.inr (Or.inr (Or.inr z))
end
