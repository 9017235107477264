/-! constructors: KnifeDesk, the reference; the state they leave -/
def sg0 : Sg := (frsh 8 3, (0, frsh 8 3), (0, fun _ => 0), (0, fun _ => 0), (fun _ => -1, fun _ => 0))
theorem ok0 : OKs sg0 := ⟨frsh_WK ⟨by decide, by decide⟩ ⟨by decide, by decide⟩, Or.inl rfl, fun e => absurd (show (0 : Int) = 1 from e) (by decide), ⟨Int.le_refl 0, by show (0 : Int) ≤ 160; decide, fun i i0 i1 => absurd (show i < 0 from i1) (by omega)⟩, ⟨Int.le_refl 0, by show (0 : Int) ≤ 640; decide, fun i i0 i1 => absurd (show i < 0 from i1) (by omega)⟩, fun k k0 k1 => ⟨Int.le_refl (-1), by show (-1 : Int) ≤ 20; decide⟩⟩
theorem fl_mono {B B' : Int} {μ μ' : Mem} (h : frL B' μ μ') (hb : B ≤ B') : frL B μ μ' := fun a i ha => h a i (by omega)
section
variable {n : Int}
theorem kr494 : isK (L0 n) 494 (21, 510) := isK0 (by decide) (by decide) (by decide +kernel)
theorem kr495 : isK (L0 n) 495 (21, 510) := isK0 (by decide) (by decide) (by decide +kernel)
theorem kr496 : isK (L0 n) 496 (21, 510) := isK0 (by decide) (by decide) (by decide +kernel)
theorem kr497 : isK (L0 n) 497 (20, 160) := isK0 (by decide) (by decide) (by decide +kernel)
theorem kr498 : isK (L0 n) 498 (21, 5) := isK0 (by decide) (by decide) (by decide +kernel)
theorem kr499 : isK (L0 n) 499 (21, 5) := isK0 (by decide) (by decide) (by decide +kernel)
theorem kr500 : isK (L0 n) 500 (20, 10) := isK0 (by decide) (by decide) (by decide +kernel)
theorem kr501 : isK (L0 n) 501 (21, 40) := isK0 (by decide) (by decide) (by decide +kernel)
theorem kr502 : isK (L0 n) 502 (21, 12) := isK0 (by decide) (by decide) (by decide +kernel)
theorem kr503 : isK (L0 n) 503 (20, 4000) := isK0 (by decide) (by decide) (by decide +kernel)
theorem kr504 : isK (L0 n) 504 (20, 20) := isK0 (by decide) (by decide) (by decide +kernel)
theorem kr505 : isK (L0 n) 505 (21, 25) := isK0 (by decide) (by decide) (by decide +kernel)
theorem kr506 : isK (L0 n) 506 (21, 20) := isK0 (by decide) (by decide) (by decide +kernel)
theorem kr507 : isK (L0 n) 507 (21, 510) := isK0 (by decide) (by decide) (by decide +kernel)
theorem kr508 : isK (L0 n) 508 (20, 4) := isK0 (by decide) (by decide) (by decide +kernel)
theorem kr509 : isK (L0 n) 509 (20, 80) := isK0 (by decide) (by decide) (by decide +kernel)
end
section
variable {n : Int} {L : Lay} {μ : Mem} {op : Int → Int → Prop} {Q : Option AV → Lay → Mem → Prop}
theorem i_X9 (hP : PL n L 1 (fun a k => a = 1 ∧ rf (L0 n) a k ≠ -1)) (h6 : μ 1 6 = 0)
    (h : ∀ L' μ', PL n L' 492 (fun _ _ => False) → CSt μ' sg0 → Q none L' μ') : TR mX9_init 5 (491, 2610) [(2, 1)] L μ Q := by
  have hP0 : PL n L 1 (fun a k => a = 1 ∧ (k = 0 ∨ k = 1 ∨ k = 2 ∨ k = 3 ∨ k = 4 ∨ k = 5 ∨ k = 7 ∨ k = 8 ∨ k = 9 ∨ k = 10 ∨ k = 11 ∨ k = 12 ∨ k = 13)) := PL_weak hP (fun a k z => by
    obtain ⟨rfl, z⟩ := z
    obtain ⟨g1, g2⟩ := op_obj k1 (by decide) z
    have g2 : k.toNat = 0 ∨ k.toNat = 1 ∨ k.toNat = 2 ∨ k.toNat = 3 ∨ k.toNat = 4 ∨ k.toNat = 5 ∨ k.toNat = 7 ∨ k.toNat = 8 ∨ k.toNat = 9 ∨ k.toNat = 10 ∨ k.toNat = 11 ∨ k.toNat = 12 ∨ k.toNat = 13 := by simpa [rsl] using g2
    exact ⟨rfl, by omega⟩)
  refine o_X9_init (PL_K hP0 k1 (Int.le_refl _)) ?_
  have G1 : frL 1 (μ) (μ) := fl_rf
  refine ⟨(490, 2606), rfl, fun o L1 μ1 eo eL em1 => ?_⟩
  have eo := PL_o hP0 (c' := 2) (by omega) eo
  subst eo
  have P1 := PL_at hP0 (c' := 2) (by omega) k2 eL
  have F1 := fl_new G1 em1 (by rw [hP0.1]; omega)
  refine ⟨PL_K P1 k1 (by omega), PL_K P1 k2 (by omega), ?_⟩
  refine ⟨(12, 170), (478, 2436), rfl, rfl, i_X0 k2 P1 (fun a i ha z => absurd z.1 (by omega)) fun M1b μ1b P1b f1b u8 u3 ur => ⟨rfl, PL_K P1b k1 (by omega), PL_K P1b k2 (by omega), ?_⟩⟩
  replace P1b := PL_c (c' := 14) P1b (by omega)
  have F1b := fl_tr F1 (fun a i ha => f1b a i (by omega))
  intro M1 e1
  have R1 := PL_put P1b rf_desk.1 e1
  refine ⟨PL_K R1 k1 (by omega), ?_⟩
  replace R1 : PL n M1 14 (fun a k => a = 1 ∧ (k = 1 ∨ k = 2 ∨ k = 3 ∨ k = 4 ∨ k = 5 ∨ k = 7 ∨ k = 8 ∨ k = 9 ∨ k = 10 ∨ k = 11 ∨ k = 12 ∨ k = 13)) := PL_weak R1 (fun a k z => by have z : (a = 1 ∧ (k = 0 ∨ k = 1 ∨ k = 2 ∨ k = 3 ∨ k = 4 ∨ k = 5 ∨ k = 7 ∨ k = 8 ∨ k = 9 ∨ k = 10 ∨ k = 11 ∨ k = 12 ∨ k = 13)) ∧ ¬ (a = 1 ∧ k = 0) := z; omega)
  have G2 : frL 14 (μ1b) (μ1b) := fl_rf
  refine ⟨(477, 2432), rfl, fun o L2 μ2 eo eL em2 => ?_⟩
  have eo := PL_o R1 (c' := 15) (by omega) eo
  subst eo
  have P2 := PL_at R1 (c' := 15) (by omega) k15 eL
  have F2 := fl_new G2 em2 (by rw [R1.1]; omega)
  refine ⟨PL_K P2 k1 (by omega), PL_K P2 k15 (by omega), ?_⟩
  refine ⟨(12, 170), (465, 2262), rfl, rfl, i_X0 k15 P2 (fun a i ha z => absurd z.1 (by omega)) fun M2b μ2b P2b f2b _ _ _ => ⟨rfl, PL_K P2b k1 (by omega), PL_K P2b k15 (by omega), ?_⟩⟩
  replace P2b := PL_c (c' := 27) P2b (by omega)
  have F2b := fl_tr F2 (fun a i ha => f2b a i (by omega))
  intro M2 e2
  have R2 := PL_put P2b rf_desk.2.1 e2
  refine ⟨PL_K R2 k1 (by omega), ?_⟩
  replace R2 : PL n M2 27 (fun a k => a = 1 ∧ (k = 2 ∨ k = 3 ∨ k = 4 ∨ k = 5 ∨ k = 7 ∨ k = 8 ∨ k = 9 ∨ k = 10 ∨ k = 11 ∨ k = 12 ∨ k = 13)) := PL_weak R2 (fun a k z => by have z : (a = 1 ∧ (k = 1 ∨ k = 2 ∨ k = 3 ∨ k = 4 ∨ k = 5 ∨ k = 7 ∨ k = 8 ∨ k = 9 ∨ k = 10 ∨ k = 11 ∨ k = 12 ∨ k = 13)) ∧ ¬ (a = 1 ∧ k = 1) := z; omega)
  have G3 : frL 27 (μ2b) (μ2b) := fl_rf
  refine ⟨(464, 2258), rfl, fun o L3 μ3 eo eL em3 => ?_⟩
  have eo := PL_o R2 (c' := 28) (by omega) eo
  subst eo
  have P3 := PL_at R2 (c' := 28) (by omega) k28 eL
  have F3 := fl_new G3 em3 (by rw [R2.1]; omega)
  refine ⟨PL_K P3 k1 (by omega), PL_K P3 k28 (by omega), ?_⟩
  refine ⟨(12, 170), (452, 2088), rfl, rfl, i_X0 k28 P3 (fun a i ha z => absurd z.1 (by omega)) fun M3b μ3b P3b f3b _ _ _ => ⟨rfl, PL_K P3b k1 (by omega), PL_K P3b k28 (by omega), ?_⟩⟩
  replace P3b := PL_c (c' := 40) P3b (by omega)
  have F3b := fl_tr F3 (fun a i ha => f3b a i (by omega))
  intro M3 e3
  have R3 := PL_put P3b rf_desk.2.2.1 e3
  refine ⟨PL_K R3 k1 (by omega), ?_⟩
  replace R3 : PL n M3 40 (fun a k => a = 1 ∧ (k = 3 ∨ k = 4 ∨ k = 5 ∨ k = 7 ∨ k = 8 ∨ k = 9 ∨ k = 10 ∨ k = 11 ∨ k = 12 ∨ k = 13)) := PL_weak R3 (fun a k z => by have z : (a = 1 ∧ (k = 2 ∨ k = 3 ∨ k = 4 ∨ k = 5 ∨ k = 7 ∨ k = 8 ∨ k = 9 ∨ k = 10 ∨ k = 11 ∨ k = 12 ∨ k = 13)) ∧ ¬ (a = 1 ∧ k = 2) := z; omega)
  have G4 : frL 40 (μ3b) (μ3b) := fl_rf
  refine ⟨(451, 2078), rfl, fun o L4 μ4 eo eL em4 => ?_⟩
  have eo := PL_o R3 (c' := 41) (by omega) eo
  subst eo
  have P4 := PL_at R3 (c' := 41) (by omega) k41 eL
  have F4 := fl_new G4 em4 (by rw [R3.1]; omega)
  refine ⟨PL_K P4 k1 (by omega), PL_K P4 k41 (by omega), ?_⟩
  refine ⟨(132, 352), (319, 1726), rfl, rfl, i_X1 k41 P4 (fun a i ha z => absurd z.1 (by omega)) fun M4b μ4b P4b f4b d0 d2 d3 dm => ⟨rfl, PL_K P4b k1 (by omega), PL_K P4b k41 (by omega), ?_⟩⟩
  replace P4b := PL_c (c' := 173) P4b (by omega)
  have F4b := fl_tr F4 (fun a i ha => f4b a i (by omega))
  intro M4 e4
  have R4 := PL_put P4b rf_desk.2.2.2.1 e4
  refine ⟨PL_K R4 k1 (by omega), ?_⟩
  replace R4 : PL n M4 173 (fun a k => a = 1 ∧ (k = 4 ∨ k = 5 ∨ k = 7 ∨ k = 8 ∨ k = 9 ∨ k = 10 ∨ k = 11 ∨ k = 12 ∨ k = 13)) := PL_weak R4 (fun a k z => by have z : (a = 1 ∧ (k = 3 ∨ k = 4 ∨ k = 5 ∨ k = 7 ∨ k = 8 ∨ k = 9 ∨ k = 10 ∨ k = 11 ∨ k = 12 ∨ k = 13)) ∧ ¬ (a = 1 ∧ k = 3) := z; omega)
  have G5 : frL 173 (μ4b) (μ4b) := fl_rf
  refine ⟨(318, 1716), rfl, fun o L5 μ5 eo eL em5 => ?_⟩
  have eo := PL_o R4 (c' := 174) (by omega) eo
  subst eo
  have P5 := PL_at R4 (c' := 174) (by omega) k174 eL
  have F5 := fl_new G5 em5 (by rw [R4.1]; omega)
  refine ⟨PL_K P5 k1 (by omega), PL_K P5 k174 (by omega), ?_⟩
  refine ⟨(132, 352), (186, 1364), rfl, rfl, i_X1 k174 P5 (fun a i ha z => absurd z.1 (by omega)) fun M5b μ5b P5b f5b _ _ _ _ => ⟨rfl, PL_K P5b k1 (by omega), PL_K P5b k174 (by omega), ?_⟩⟩
  replace P5b := PL_c (c' := 306) P5b (by omega)
  have F5b := fl_tr F5 (fun a i ha => f5b a i (by omega))
  intro M5 e5
  have R5 := PL_put P5b rf_desk.2.2.2.2.1 e5
  refine ⟨PL_K R5 k1 (by omega), ?_⟩
  replace R5 : PL n M5 306 (fun a k => a = 1 ∧ (k = 5 ∨ k = 7 ∨ k = 8 ∨ k = 9 ∨ k = 10 ∨ k = 11 ∨ k = 12 ∨ k = 13)) := PL_weak R5 (fun a k z => by have z : (a = 1 ∧ (k = 4 ∨ k = 5 ∨ k = 7 ∨ k = 8 ∨ k = 9 ∨ k = 10 ∨ k = 11 ∨ k = 12 ∨ k = 13)) ∧ ¬ (a = 1 ∧ k = 4) := z; omega)
  have G6 : frL 306 (μ5b) (μ5b) := fl_rf
  refine ⟨(185, 1354), rfl, fun o L6 μ6 eo eL em6 => ?_⟩
  have eo := PL_o R5 (c' := 307) (by omega) eo
  subst eo
  have P6 := PL_at R5 (c' := 307) (by omega) k307 eL
  have F6 := fl_new G6 em6 (by rw [R5.1]; omega)
  refine ⟨PL_K P6 k1 (by omega), PL_K P6 k307 (by omega), ?_⟩
  refine ⟨(132, 352), (53, 1002), rfl, rfl, i_X1 k307 P6 (fun a i ha z => absurd z.1 (by omega)) fun M6b μ6b P6b f6b _ _ _ _ => ⟨rfl, PL_K P6b k1 (by omega), PL_K P6b k307 (by omega), ?_⟩⟩
  replace P6b := PL_c (c' := 439) P6b (by omega)
  have F6b := fl_tr F6 (fun a i ha => f6b a i (by omega))
  intro M6 e6
  have R6 := PL_put P6b rf_desk.2.2.2.2.2.1 e6
  refine ⟨PL_K R6 k1 (by omega), ?_⟩
  replace R6 : PL n M6 439 (fun a k => a = 1 ∧ (k = 7 ∨ k = 8 ∨ k = 9 ∨ k = 10 ∨ k = 11 ∨ k = 12 ∨ k = 13)) := PL_weak R6 (fun a k z => by have z : (a = 1 ∧ (k = 5 ∨ k = 7 ∨ k = 8 ∨ k = 9 ∨ k = 10 ∨ k = 11 ∨ k = 12 ∨ k = 13)) ∧ ¬ (a = 1 ∧ k = 5) := z; omega)
  have G7 : frL 439 (μ6b) (μ6b) := fl_rf
  refine ⟨(52, 989), rfl, fun o L7 μ7 eo eL em7 => ?_⟩
  have eo := PL_o R6 (c' := 440) (by omega) eo
  subst eo
  have P7 := PL_at R6 (c' := 440) (by omega) k440 eL
  have F7 := fl_new G7 em7 (by rw [R6.1]; omega)
  have c0 : rf L7 1 0 = 2 := PL_rf P7 (by decide) (fun z => z.elim (fun z => absurd z.1 (by decide)) (fun z => absurd z.2 (by decide))) rf_desk.1
  have c4 : rf L7 1 4 = 174 := PL_rf P7 (by decide) (fun z => z.elim (fun z => absurd z.1 (by decide)) (fun z => absurd z.2 (by decide))) rf_desk.2.2.2.2.1
  rw [c0, c4]
  refine ⟨PL_K P7 k1 (by omega), PL_K P7 k440 (by omega), PL_K P7 k2 (by decide), PL_K P7 k174 (by decide), ?_⟩
  refine ⟨(32, 74), (20, 915), rfl, rfl, i_X5 P7 (fun a i ha z => absurd z.1 (by omega)) fun M7b μ7b P7b f7b w0 w1 => ⟨rfl, PL_K P7b k1 (by omega), PL_K P7b k440 (by omega), ?_⟩⟩
  replace P7b := PL_c (c' := 472) P7b (by omega)
  have F7b := fl_tr F7 (fun a i ha => f7b a i (by omega))
  intro M7 e7
  have R7 := PL_put P7b rf_desk.2.2.2.2.2.2.1 e7
  refine ⟨PL_K R7 k1 (by omega), ?_⟩
  replace R7 : PL n M7 472 (fun a k => a = 1 ∧ (k = 8 ∨ k = 9 ∨ k = 10 ∨ k = 11 ∨ k = 12 ∨ k = 13)) := PL_weak R7 (fun a k z => by have z : (a = 1 ∧ (k = 7 ∨ k = 8 ∨ k = 9 ∨ k = 10 ∨ k = 11 ∨ k = 12 ∨ k = 13)) ∧ ¬ (a = 1 ∧ k = 7) := z; omega)
  have G8 : frL 472 (μ7b) (μ7b) := fl_rf
  refine ⟨(19, 910), rfl, fun o L8 μ8 eo eL em8 => ?_⟩
  have eo := PL_o R7 (c' := 473) (by omega) eo
  subst eo
  have P8 := PL_at R7 (c' := 473) (by omega) k473 eL
  have F8 := fl_new G8 em8 (by rw [R7.1]; omega)
  refine ⟨PL_K P8 k1 (by omega), PL_K P8 k473 (by omega), ?_⟩
  refine ⟨(5, 168), (14, 742), rfl, rfl, i_X8 P8 fun M8b μ8b P8b f8b => ⟨rfl, PL_K P8b k1 (by omega), PL_K P8b k473 (by omega), ?_⟩⟩
  replace P8b := PL_c (c' := 478) P8b (by omega)
  have F8b := fl_tr F8 (fun a i ha => f8b a i (by omega))
  intro M8 e8
  have R8 := PL_put P8b rf_desk.2.2.2.2.2.2.2.1 e8
  refine ⟨PL_K R8 k1 (by omega), ?_⟩
  replace R8 : PL n M8 478 (fun a k => a = 1 ∧ (k = 9 ∨ k = 10 ∨ k = 11 ∨ k = 12 ∨ k = 13)) := PL_weak R8 (fun a k z => by have z : (a = 1 ∧ (k = 8 ∨ k = 9 ∨ k = 10 ∨ k = 11 ∨ k = 12 ∨ k = 13)) ∧ ¬ (a = 1 ∧ k = 8) := z; omega)
  have G9 : frL 478 (μ8b) (μ8b) := fl_rf
  refine ⟨(13, 740), rfl, fun o L9 μ9 eo eL em9 => ?_⟩
  have eo := PL_o R8 (c' := 479) (by omega) eo
  subst eo
  have P9 := PL_at R8 (c' := 479) (by omega) k479 eL
  have F9 := fl_new G9 em9 (by rw [R8.1]; omega)
  refine ⟨PL_K P9 k1 (by omega), PL_K P9 k479 (by omega), ?_⟩
  refine ⟨(1, 640), (12, 100), rfl, rfl, i_X6 P9 fun M9b μ9b P9b f9b => ⟨rfl, PL_K P9b k1 (by omega), PL_K P9b k479 (by omega), ?_⟩⟩
  replace P9b := PL_c (c' := 480) P9b (by omega)
  have F9b := fl_tr F9 (fun a i ha => f9b a i (by omega))
  intro M9 e9
  have R9 := PL_put P9b rf_desk.2.2.2.2.2.2.2.2.1 e9
  refine ⟨PL_K R9 k1 (by omega), ?_⟩
  replace R9 : PL n M9 480 (fun a k => a = 1 ∧ (k = 10 ∨ k = 11 ∨ k = 12 ∨ k = 13)) := PL_weak R9 (fun a k z => by have z : (a = 1 ∧ (k = 9 ∨ k = 10 ∨ k = 11 ∨ k = 12 ∨ k = 13)) ∧ ¬ (a = 1 ∧ k = 9) := z; omega)
  have G10 : frL 480 (μ9b) (μ9b) := fl_rf
  refine ⟨(11, 98), rfl, fun o L10 μ10 eo eL em10 => ?_⟩
  have eo := PL_o R9 (c' := 481) (by omega) eo
  subst eo
  have P10 := PL_at R9 (c' := 481) (by omega) k481 eL
  have F10 := fl_new G10 em10 (by rw [R9.1]; omega)
  refine ⟨PL_K P10 k1 (by omega), PL_K P10 k481 (by omega), ?_⟩
  refine ⟨(6, 88), (5, 10), rfl, rfl, i_X4 P10 (fun a i ha z => absurd z.1 (by omega)) fun M10b μ10b P10b f10b s1 s0 => ⟨rfl, PL_K P10b k1 (by omega), PL_K P10b k481 (by omega), ?_⟩⟩
  replace P10b := PL_c (c' := 487) P10b (by omega)
  have F10b := fl_tr F10 (fun a i ha => f10b a i (by omega))
  intro M10 e10
  have R10 := PL_put P10b rf_desk.2.2.2.2.2.2.2.2.2.1 e10
  refine ⟨PL_K R10 k1 (by omega), ?_⟩
  replace R10 : PL n M10 487 (fun a k => a = 1 ∧ (k = 11 ∨ k = 12 ∨ k = 13)) := PL_weak R10 (fun a k z => by have z : (a = 1 ∧ (k = 10 ∨ k = 11 ∨ k = 12 ∨ k = 13)) ∧ ¬ (a = 1 ∧ k = 10) := z; omega)
  have G11 : frL 487 (μ10b) (μ10b) := fl_rf
  refine ⟨(4, 8), rfl, fun o L11 μ11 eo eL em11 => ?_⟩
  have eo := PL_o R10 (c' := 488) (by omega) eo
  subst eo
  have P11 := PL_at0 R10 (c' := 488) (by omega) k488 (by decide) eL
  have F11 := fl_new G11 em11 (by rw [R10.1]; omega)
  refine ⟨PL_K P11 k1 (by omega), PL_K P11 k488 (by omega), ?_⟩
  refine ⟨(0, 0), (4, 8), rfl, rfl, i_X3 P11 k488 (by omega) ⟨rfl, PL_K P11 k1 (by omega), PL_K P11 k488 (by omega), ?_⟩⟩
  replace F11 := fl_up (o := 488) (j := 1) (v := 1) F11 (by omega)
  intro M11 e11
  have R11 := PL_put P11 rf_desk.2.2.2.2.2.2.2.2.2.2.1 e11
  refine ⟨PL_K R11 k1 (by omega), ?_⟩
  replace R11 : PL n M11 488 (fun a k => a = 1 ∧ (k = 12 ∨ k = 13)) := PL_weak R11 (fun a k z => by have z : (a = 1 ∧ (k = 11 ∨ k = 12 ∨ k = 13)) ∧ ¬ (a = 1 ∧ k = 11) := z; omega)
  have G12 : frL 488 (up μ11 488 1 1) (up μ11 488 1 1) := fl_rf
  refine ⟨(3, 6), rfl, fun o L12 μ12 eo eL em12 => ?_⟩
  have eo := PL_o R11 (c' := 489) (by omega) eo
  subst eo
  have P12 := PL_at0 R11 (c' := 489) (by omega) k489 (by decide) eL
  have F12 := fl_new G12 em12 (by rw [R11.1]; omega)
  refine ⟨PL_K P12 k1 (by omega), PL_K P12 k489 (by omega), ?_⟩
  refine ⟨(0, 0), (3, 6), rfl, rfl, i_X3 P12 k489 (by omega) ⟨rfl, PL_K P12 k1 (by omega), PL_K P12 k489 (by omega), ?_⟩⟩
  replace F12 := fl_up (o := 489) (j := 1) (v := 1) F12 (by omega)
  intro M12 e12
  have R12 := PL_put P12 rf_desk.2.2.2.2.2.2.2.2.2.2.2.1 e12
  refine ⟨PL_K R12 k1 (by omega), ?_⟩
  replace R12 : PL n M12 489 (fun a k => a = 1 ∧ (k = 13)) := PL_weak R12 (fun a k z => by have z : (a = 1 ∧ (k = 12 ∨ k = 13)) ∧ ¬ (a = 1 ∧ k = 12) := z; omega)
  have G13 : frL 489 (up μ12 489 1 1) (up μ12 489 1 1) := fl_rf
  refine ⟨(2, 4), rfl, fun o L13 μ13 eo eL em13 => ?_⟩
  have eo := PL_o R12 (c' := 490) (by omega) eo
  subst eo
  have P13 := PL_at R12 (c' := 490) (by omega) k490 eL
  have F13 := fl_new G13 em13 (by rw [R12.1]; omega)
  refine ⟨PL_K P13 k1 (by omega), PL_K P13 k490 (by omega), ?_⟩
  refine ⟨(2, 4), (0, 0), rfl, rfl, i_X7 P13 k490 fun M13b μ13b P13b f13b _ _ => ⟨rfl, PL_K P13b k1 (by omega), PL_K P13b k490 (by omega), ?_⟩⟩
  replace P13b := PL_c (c' := 492) P13b (by omega)
  have F13b := fl_tr F13 (fun a i ha => f13b a i (by omega))
  intro M13 e13
  have R13 := PL_put P13b rf_desk.2.2.2.2.2.2.2.2.2.2.2.2 e13
  refine ⟨PL_K R13 k1 (by omega), ?_⟩
  replace R13 : PL n M13 492 (fun a k => False) := PL_weak R13 (fun a k z => by have z : (a = 1 ∧ (k = 13)) ∧ ¬ (a = 1 ∧ k = 13) := z; omega)
  have T13 : frL 492 (μ13b) (μ13b) := fl_rf
  have T12 : frL 489 (up μ12 489 1 1) (μ13b) := fl_tr F13b (fl_mono T13 (by decide))
  have T11 : frL 488 (up μ11 488 1 1) (μ13b) := fl_tr F12 (fl_mono T12 (by decide))
  have T10 : frL 487 (μ10b) (μ13b) := fl_tr F11 (fl_mono T11 (by decide))
  have T9 : frL 480 (μ9b) (μ13b) := fl_tr F10b (fl_mono T10 (by decide))
  have T8 : frL 478 (μ8b) (μ13b) := fl_tr F9b (fl_mono T9 (by decide))
  have T7 : frL 472 (μ7b) (μ13b) := fl_tr F8b (fl_mono T8 (by decide))
  have T6 : frL 439 (μ6b) (μ13b) := fl_tr F7b (fl_mono T7 (by decide))
  have T5 : frL 306 (μ5b) (μ13b) := fl_tr F6b (fl_mono T6 (by decide))
  have T4 : frL 173 (μ4b) (μ13b) := fl_tr F5b (fl_mono T5 (by decide))
  have T3 : frL 40 (μ3b) (μ13b) := fl_tr F4b (fl_mono T4 (by decide))
  have T2 : frL 27 (μ2b) (μ13b) := fl_tr F3b (fl_mono T3 (by decide))
  have T1 : frL 14 (μ1b) (μ13b) := fl_tr F2b (fl_mono T2 (by decide))
  have T0 : frL 1 (μ) (μ13b) := fl_tr F1b (fl_mono T1 (by decide))
  have f0 : frsh 8 3 0 = 8 := rfl
  have f1 : frsh 8 3 1 = 3 := rfl
  have fr1 : ∀ j : Int, 5 ≤ j → j < 165 → frsh 8 3 j = 1 := fun j j0 j1 => by unfold frsh; rw [if_neg (by omega), if_neg (by omega), if_neg (by omega), if_pos ⟨j0, j1⟩]
  have fr0 : ∀ j : Int, 165 ≤ j → frsh 8 3 j = 0 := fun j j0 => by unfold frsh; rw [if_neg (by omega), if_neg (by omega), if_neg (by omega), if_neg (by omega)]
  refine h _ _ R13 ⟨⟨?_, ?_, fun a s a0 a1 s0' s1' => ?_⟩, ⟨?_, ?_, ⟨?_, fun k k0 k1 => ?_⟩, fun a a0 a1 => ?_, fun a k a0 a1 k0 k1 => ?_⟩, ⟨(T7 442 0 (by decide)).trans w0, (T7 442 1 (by decide)).trans w1⟩, ⟨(T0 1 6 (by decide)).trans h6, fun e => absurd (show (0 : Int) = 1 from e) (by decide)⟩, ⟨?_, fun i i0 i1 => absurd (show i < 0 from i1) (by omega)⟩, ⟨?_, fun i i0 i1 => absurd (show i < 0 from i1) (by omega)⟩, fun k k0 k1 => (T10 487 k (by decide)).trans (s1 k k0 k1), fun k i k0 k1 _ _ => (T10 (483 + k) i (by omega)).trans (s0 (483 + k) i (by omega) (by omega))⟩
  · exact ((T1 2 0 (by decide)).trans u8)
  · exact ((T1 2 1 (by decide)).trans u3)
  · have e1 : sg0.w (5 + 16 * a + s) = 1 := fr1 _ (by omega) (by omega)
    have e2 : sg0.w (85 + 16 * a + s) = 1 := fr1 _ (by omega) (by omega)
    rw [e1, e2]
    exact ⟨(T1 (2 + 2 + a) s (by omega)).trans (ur _ _ (by unfold inRow; omega) s0' s1'), (T1 (2 + 8 + a) s (by omega)).trans (ur _ _ (by unfold inRow; omega) s0' s1')⟩
  · exact (T4 41 0 (by decide)).trans d0
  · exact (T4 41 2 (by decide)).trans d2
  · exact (T4 41 3 (by decide)).trans d3
  · exact absurd (show k < 0 from k1) (by omega)
  · have e1 : sg0.w (165 + a) = 0 := fr0 _ (by omega)
    rw [e1]
    exact (T4 (41 + 2) a (by decide)).trans (dm a a0 a1)
  · have e1 : sg0.w (165 + a) = 0 := fr0 _ (by omega)
    rw [e1] at k1
    omega
  · refine (T8 473 0 (by decide)).trans ((f8b 473 0 (by decide)).trans ?_)
    rw [em8]
    exact if_pos (by rw [R7.1]; rfl)
  · refine (T9 479 0 (by decide)).trans ((f9b 479 0 (by decide)).trans ?_)
    rw [em9]
    exact if_pos (by rw [R8.1]; rfl)
theorem i_X10_fresh {s a : Int} (hP : PL n L 509 (fun _ _ => False)) (h : ∀ μ', (∀ i : Int, 0 ≤ i → i < 510 → μ' 494 i = frsh s a i) → (∀ x i, x ≠ 494 → μ' x i = μ x i) → Q none L μ') : TR mX10_fresh 0 (0, 0) [(2, 493), (0, s), (0, a)] L μ Q := by
  have kM := PL_K hP k493 (by decide)
  have e0 : rf L 493 0 = 494 := PL_rf hP (by decide) id rf_ref.1
  have kN := PL_K hP kr494 (by decide)
  apply o_X10_fresh kM
  have key : ∀ (d k : Nat), k + d = 510 → ∀ μ1 : Mem, (∀ i : Int, 0 ≤ i → i < k → μ1 494 i = if 5 ≤ i ∧ i < 165 then 1 else 0) → (∀ x i, x ≠ 494 → μ1 x i = μ x i) → WA mX10_fresh 0 (0, 0) 2 [(2, 493), (0, s), (0, a), (0, (k : Int))] [] L μ1 Q := by
    intro d
    induction d with
    | zero =>
      intro k hk μ1 h1' h2'
      apply p_X10_fresh_2 kM
      rw [e0]
      refine ⟨fun _ => ⟨kN, ?_⟩, fun z => absurd (show (510 : Int) ≤ k by omega) z⟩
      have f : ∀ x i, x ≠ 494 → up (up (up μ1 494 0 s) 494 1 a) 494 3 1 x i = μ x i := fun x i h => by rw [up_ne (Or.inl h), up_ne (Or.inl h), up_ne (Or.inl h), h2' x i h]
      refine h _ (fun i i0 i1 => ?_) f
      unfold frsh
      by_cases z3 : i = 3
      · rw [z3, up_eq, if_neg (by decide), if_neg (by decide), if_pos rfl]
      · rw [up_ne (Or.inr z3)]
        by_cases z1 : i = 1
        · rw [z1, up_eq, if_neg (by decide), if_pos rfl]
        · rw [up_ne (Or.inr z1)]
          by_cases z0 : i = 0
          · rw [z0, up_eq, if_pos rfl]
          · rw [up_ne (Or.inr z0), h1' i i0 (by omega), if_neg z0, if_neg z1, if_neg z3]
    | succ d ih =>
      intro k hk μ1 h1' h2'
      have nx : ∀ v : Int, v = (if 5 ≤ (k : Int) ∧ (k : Int) < 165 then 1 else 0) → WA mX10_fresh 0 (0, 0) 2 [(2, 493), (0, s), (0, a), (0, (k : Int) + 1)] [] L (up μ1 494 k v) Q := fun v hv => ih (k + 1) (by omega) _ (fun i i0 i1 => by
        by_cases z : i = (k : Int)
        · rw [z, up_eq, hv]
        · rw [up_ne (Or.inr z), h1' i i0 (by omega)]) (fun x i hx => by rw [up_ne (Or.inl hx), h2' x i hx])
      apply p_X10_fresh_2 kM
      rw [e0]
      exact ⟨fun z => absurd z (by omega), fun _ => ⟨kN, fun z => ⟨⟨by omega, by omega⟩, ⟨by omega, by omega⟩, nx 0 (by rw [if_neg (by omega)])⟩, fun z => ⟨fun z2 => ⟨⟨by omega, by omega⟩, ⟨by omega, by omega⟩, nx 0 (by rw [if_neg (by omega)])⟩, fun z2 => ⟨⟨by omega, by omega⟩, ⟨by omega, by omega⟩, nx 1 (by rw [if_pos (by omega)])⟩⟩⟩⟩
  exact key 510 0 (by omega) μ (fun i i0 i1 => absurd i1 (by omega)) (fun _ _ _ => rfl)
theorem i_X10 (hP : PL n L 493 (fun a k => a = 493 ∧ rf (L0 n) a k ≠ -1))
    (h : ∀ L' μ', PL n L' 509 (fun _ _ => False) → (∀ a i, a ≤ 493 → μ' a i = μ a i) → (∀ i : Int, 0 ≤ i → i < 510 → μ' 494 i = frsh 8 3 i) → (∀ k : Int, 0 ≤ k → k < 4 → μ' 508 k = -1) → (∀ i : Int, μ' 509 i = 0) → Q none L' μ') : TR mX10_init 1 (16, 6421) [(2, 493)] L μ Q := by
  have hP0 : PL n L 493 (fun a k => a = 493 ∧ (k = 0 ∨ k = 1 ∨ k = 2 ∨ k = 6 ∨ k = 13 ∨ k = 14 ∨ k = 16 ∨ k = 17 ∨ k = 19 ∨ k = 20 ∨ k = 22 ∨ k = 23 ∨ k = 24 ∨ k = 25 ∨ k = 26 ∨ k = 27)) := PL_weak hP (fun a k z => by
    obtain ⟨rfl, z⟩ := z
    obtain ⟨g1, g2⟩ := op_obj k493 (by decide) z
    have g2 : k.toNat = 0 ∨ k.toNat = 1 ∨ k.toNat = 2 ∨ k.toNat = 6 ∨ k.toNat = 13 ∨ k.toNat = 14 ∨ k.toNat = 16 ∨ k.toNat = 17 ∨ k.toNat = 19 ∨ k.toNat = 20 ∨ k.toNat = 22 ∨ k.toNat = 23 ∨ k.toNat = 24 ∨ k.toNat = 25 ∨ k.toNat = 26 ∨ k.toNat = 27 := by simpa [rsl] using g2
    exact ⟨rfl, by omega⟩)
  have F0 : frL 493 μ μ := fl_rf
  refine o_X10_init (PL_K hP0 k493 (Int.le_refl _)) ?_
  refine ⟨(15, 5911), rfl, fun o L1 μ1 eo eL em1 => ?_⟩
  have eo := PL_o hP0 (c' := 494) (by omega) eo
  subst eo
  have P1 := PL_at0 hP0 (c' := 494) (by omega) kr494 (by decide) eL
  have F1 := fl_new F0 em1 (by rw [hP0.1]; omega)
  refine ⟨PL_K P1 k493 (by omega), PL_K P1 kr494 (by omega), ?_⟩
  intro M1 e1
  have R1 := PL_put P1 rf_ref.1 e1
  refine ⟨PL_K R1 k493 (by omega), ?_⟩
  replace R1 : PL n M1 494 (fun a k => a = 493 ∧ (k = 1 ∨ k = 2 ∨ k = 6 ∨ k = 13 ∨ k = 14 ∨ k = 16 ∨ k = 17 ∨ k = 19 ∨ k = 20 ∨ k = 22 ∨ k = 23 ∨ k = 24 ∨ k = 25 ∨ k = 26 ∨ k = 27)) := PL_weak R1 (fun a k z => by have z : (a = 493 ∧ (k = 0 ∨ k = 1 ∨ k = 2 ∨ k = 6 ∨ k = 13 ∨ k = 14 ∨ k = 16 ∨ k = 17 ∨ k = 19 ∨ k = 20 ∨ k = 22 ∨ k = 23 ∨ k = 24 ∨ k = 25 ∨ k = 26 ∨ k = 27)) ∧ ¬ (a = 493 ∧ k = 0) := z; omega)
  refine ⟨(14, 5401), rfl, fun o L2 μ2 eo eL em2 => ?_⟩
  have eo := PL_o R1 (c' := 495) (by omega) eo
  subst eo
  have P2 := PL_at0 R1 (c' := 495) (by omega) kr495 (by decide) eL
  have F2 := fl_new F1 em2 (by rw [R1.1]; omega)
  refine ⟨PL_K P2 k493 (by omega), PL_K P2 kr495 (by omega), ?_⟩
  intro M2 e2
  have R2 := PL_put P2 rf_ref.2.1 e2
  refine ⟨PL_K R2 k493 (by omega), ?_⟩
  replace R2 : PL n M2 495 (fun a k => a = 493 ∧ (k = 2 ∨ k = 6 ∨ k = 13 ∨ k = 14 ∨ k = 16 ∨ k = 17 ∨ k = 19 ∨ k = 20 ∨ k = 22 ∨ k = 23 ∨ k = 24 ∨ k = 25 ∨ k = 26 ∨ k = 27)) := PL_weak R2 (fun a k z => by have z : (a = 493 ∧ (k = 1 ∨ k = 2 ∨ k = 6 ∨ k = 13 ∨ k = 14 ∨ k = 16 ∨ k = 17 ∨ k = 19 ∨ k = 20 ∨ k = 22 ∨ k = 23 ∨ k = 24 ∨ k = 25 ∨ k = 26 ∨ k = 27)) ∧ ¬ (a = 493 ∧ k = 1) := z; omega)
  refine ⟨(13, 4891), rfl, fun o L3 μ3 eo eL em3 => ?_⟩
  have eo := PL_o R2 (c' := 496) (by omega) eo
  subst eo
  have P3 := PL_at0 R2 (c' := 496) (by omega) kr496 (by decide) eL
  have F3 := fl_new F2 em3 (by rw [R2.1]; omega)
  refine ⟨PL_K P3 k493 (by omega), PL_K P3 kr496 (by omega), ?_⟩
  intro M3 e3
  have R3 := PL_put P3 rf_ref.2.2.1 e3
  refine ⟨PL_K R3 k493 (by omega), ?_⟩
  replace R3 : PL n M3 496 (fun a k => a = 493 ∧ (k = 6 ∨ k = 13 ∨ k = 14 ∨ k = 16 ∨ k = 17 ∨ k = 19 ∨ k = 20 ∨ k = 22 ∨ k = 23 ∨ k = 24 ∨ k = 25 ∨ k = 26 ∨ k = 27)) := PL_weak R3 (fun a k z => by have z : (a = 493 ∧ (k = 2 ∨ k = 6 ∨ k = 13 ∨ k = 14 ∨ k = 16 ∨ k = 17 ∨ k = 19 ∨ k = 20 ∨ k = 22 ∨ k = 23 ∨ k = 24 ∨ k = 25 ∨ k = 26 ∨ k = 27)) ∧ ¬ (a = 493 ∧ k = 2) := z; omega)
  refine ⟨(12, 4731), rfl, fun o L4 μ4 eo eL em4 => ?_⟩
  have eo := PL_o R3 (c' := 497) (by omega) eo
  subst eo
  have P4 := PL_at0 R3 (c' := 497) (by omega) kr497 (by decide) eL
  have F4 := fl_new F3 em4 (by rw [R3.1]; omega)
  refine ⟨PL_K P4 k493 (by omega), PL_K P4 kr497 (by omega), ?_⟩
  intro M4 e4
  have R4 := PL_put P4 rf_ref.2.2.2.1 e4
  refine ⟨PL_K R4 k493 (by omega), ?_⟩
  replace R4 : PL n M4 497 (fun a k => a = 493 ∧ (k = 13 ∨ k = 14 ∨ k = 16 ∨ k = 17 ∨ k = 19 ∨ k = 20 ∨ k = 22 ∨ k = 23 ∨ k = 24 ∨ k = 25 ∨ k = 26 ∨ k = 27)) := PL_weak R4 (fun a k z => by have z : (a = 493 ∧ (k = 6 ∨ k = 13 ∨ k = 14 ∨ k = 16 ∨ k = 17 ∨ k = 19 ∨ k = 20 ∨ k = 22 ∨ k = 23 ∨ k = 24 ∨ k = 25 ∨ k = 26 ∨ k = 27)) ∧ ¬ (a = 493 ∧ k = 6) := z; omega)
  refine ⟨(11, 4726), rfl, fun o L5 μ5 eo eL em5 => ?_⟩
  have eo := PL_o R4 (c' := 498) (by omega) eo
  subst eo
  have P5 := PL_at0 R4 (c' := 498) (by omega) kr498 (by decide) eL
  have F5 := fl_new F4 em5 (by rw [R4.1]; omega)
  refine ⟨PL_K P5 k493 (by omega), PL_K P5 kr498 (by omega), ?_⟩
  intro M5 e5
  have R5 := PL_put P5 rf_ref.2.2.2.2.1 e5
  refine ⟨PL_K R5 k493 (by omega), ?_⟩
  replace R5 : PL n M5 498 (fun a k => a = 493 ∧ (k = 14 ∨ k = 16 ∨ k = 17 ∨ k = 19 ∨ k = 20 ∨ k = 22 ∨ k = 23 ∨ k = 24 ∨ k = 25 ∨ k = 26 ∨ k = 27)) := PL_weak R5 (fun a k z => by have z : (a = 493 ∧ (k = 13 ∨ k = 14 ∨ k = 16 ∨ k = 17 ∨ k = 19 ∨ k = 20 ∨ k = 22 ∨ k = 23 ∨ k = 24 ∨ k = 25 ∨ k = 26 ∨ k = 27)) ∧ ¬ (a = 493 ∧ k = 13) := z; omega)
  refine ⟨(10, 4721), rfl, fun o L6 μ6 eo eL em6 => ?_⟩
  have eo := PL_o R5 (c' := 499) (by omega) eo
  subst eo
  have P6 := PL_at0 R5 (c' := 499) (by omega) kr499 (by decide) eL
  have F6 := fl_new F5 em6 (by rw [R5.1]; omega)
  refine ⟨PL_K P6 k493 (by omega), PL_K P6 kr499 (by omega), ?_⟩
  intro M6 e6
  have R6 := PL_put P6 rf_ref.2.2.2.2.2.1 e6
  refine ⟨PL_K R6 k493 (by omega), ?_⟩
  replace R6 : PL n M6 499 (fun a k => a = 493 ∧ (k = 16 ∨ k = 17 ∨ k = 19 ∨ k = 20 ∨ k = 22 ∨ k = 23 ∨ k = 24 ∨ k = 25 ∨ k = 26 ∨ k = 27)) := PL_weak R6 (fun a k z => by have z : (a = 493 ∧ (k = 14 ∨ k = 16 ∨ k = 17 ∨ k = 19 ∨ k = 20 ∨ k = 22 ∨ k = 23 ∨ k = 24 ∨ k = 25 ∨ k = 26 ∨ k = 27)) ∧ ¬ (a = 493 ∧ k = 14) := z; omega)
  refine ⟨(9, 4711), rfl, fun o L7 μ7 eo eL em7 => ?_⟩
  have eo := PL_o R6 (c' := 500) (by omega) eo
  subst eo
  have P7 := PL_at0 R6 (c' := 500) (by omega) kr500 (by decide) eL
  have F7 := fl_new F6 em7 (by rw [R6.1]; omega)
  refine ⟨PL_K P7 k493 (by omega), PL_K P7 kr500 (by omega), ?_⟩
  intro M7 e7
  have R7 := PL_put P7 rf_ref.2.2.2.2.2.2.1 e7
  refine ⟨PL_K R7 k493 (by omega), ?_⟩
  replace R7 : PL n M7 500 (fun a k => a = 493 ∧ (k = 17 ∨ k = 19 ∨ k = 20 ∨ k = 22 ∨ k = 23 ∨ k = 24 ∨ k = 25 ∨ k = 26 ∨ k = 27)) := PL_weak R7 (fun a k z => by have z : (a = 493 ∧ (k = 16 ∨ k = 17 ∨ k = 19 ∨ k = 20 ∨ k = 22 ∨ k = 23 ∨ k = 24 ∨ k = 25 ∨ k = 26 ∨ k = 27)) ∧ ¬ (a = 493 ∧ k = 16) := z; omega)
  refine ⟨(8, 4671), rfl, fun o L8 μ8 eo eL em8 => ?_⟩
  have eo := PL_o R7 (c' := 501) (by omega) eo
  subst eo
  have P8 := PL_at0 R7 (c' := 501) (by omega) kr501 (by decide) eL
  have F8 := fl_new F7 em8 (by rw [R7.1]; omega)
  refine ⟨PL_K P8 k493 (by omega), PL_K P8 kr501 (by omega), ?_⟩
  intro M8 e8
  have R8 := PL_put P8 rf_ref.2.2.2.2.2.2.2.1 e8
  refine ⟨PL_K R8 k493 (by omega), ?_⟩
  replace R8 : PL n M8 501 (fun a k => a = 493 ∧ (k = 19 ∨ k = 20 ∨ k = 22 ∨ k = 23 ∨ k = 24 ∨ k = 25 ∨ k = 26 ∨ k = 27)) := PL_weak R8 (fun a k z => by have z : (a = 493 ∧ (k = 17 ∨ k = 19 ∨ k = 20 ∨ k = 22 ∨ k = 23 ∨ k = 24 ∨ k = 25 ∨ k = 26 ∨ k = 27)) ∧ ¬ (a = 493 ∧ k = 17) := z; omega)
  refine ⟨(7, 4659), rfl, fun o L9 μ9 eo eL em9 => ?_⟩
  have eo := PL_o R8 (c' := 502) (by omega) eo
  subst eo
  have P9 := PL_at0 R8 (c' := 502) (by omega) kr502 (by decide) eL
  have F9 := fl_new F8 em9 (by rw [R8.1]; omega)
  refine ⟨PL_K P9 k493 (by omega), PL_K P9 kr502 (by omega), ?_⟩
  intro M9 e9
  have R9 := PL_put P9 rf_ref.2.2.2.2.2.2.2.2.1 e9
  refine ⟨PL_K R9 k493 (by omega), ?_⟩
  replace R9 : PL n M9 502 (fun a k => a = 493 ∧ (k = 20 ∨ k = 22 ∨ k = 23 ∨ k = 24 ∨ k = 25 ∨ k = 26 ∨ k = 27)) := PL_weak R9 (fun a k z => by have z : (a = 493 ∧ (k = 19 ∨ k = 20 ∨ k = 22 ∨ k = 23 ∨ k = 24 ∨ k = 25 ∨ k = 26 ∨ k = 27)) ∧ ¬ (a = 493 ∧ k = 19) := z; omega)
  refine ⟨(6, 659), rfl, fun o L10 μ10 eo eL em10 => ?_⟩
  have eo := PL_o R9 (c' := 503) (by omega) eo
  subst eo
  have P10 := PL_at0 R9 (c' := 503) (by omega) kr503 (by decide) eL
  have F10 := fl_new F9 em10 (by rw [R9.1]; omega)
  refine ⟨PL_K P10 k493 (by omega), PL_K P10 kr503 (by omega), ?_⟩
  intro M10 e10
  have R10 := PL_put P10 rf_ref.2.2.2.2.2.2.2.2.2.1 e10
  refine ⟨PL_K R10 k493 (by omega), ?_⟩
  replace R10 : PL n M10 503 (fun a k => a = 493 ∧ (k = 22 ∨ k = 23 ∨ k = 24 ∨ k = 25 ∨ k = 26 ∨ k = 27)) := PL_weak R10 (fun a k z => by have z : (a = 493 ∧ (k = 20 ∨ k = 22 ∨ k = 23 ∨ k = 24 ∨ k = 25 ∨ k = 26 ∨ k = 27)) ∧ ¬ (a = 493 ∧ k = 20) := z; omega)
  refine ⟨(5, 639), rfl, fun o L11 μ11 eo eL em11 => ?_⟩
  have eo := PL_o R10 (c' := 504) (by omega) eo
  subst eo
  have P11 := PL_at0 R10 (c' := 504) (by omega) kr504 (by decide) eL
  have F11 := fl_new F10 em11 (by rw [R10.1]; omega)
  refine ⟨PL_K P11 k493 (by omega), PL_K P11 kr504 (by omega), ?_⟩
  intro M11 e11
  have R11 := PL_put P11 rf_ref.2.2.2.2.2.2.2.2.2.2.1 e11
  refine ⟨PL_K R11 k493 (by omega), ?_⟩
  replace R11 : PL n M11 504 (fun a k => a = 493 ∧ (k = 23 ∨ k = 24 ∨ k = 25 ∨ k = 26 ∨ k = 27)) := PL_weak R11 (fun a k z => by have z : (a = 493 ∧ (k = 22 ∨ k = 23 ∨ k = 24 ∨ k = 25 ∨ k = 26 ∨ k = 27)) ∧ ¬ (a = 493 ∧ k = 22) := z; omega)
  refine ⟨(4, 614), rfl, fun o L12 μ12 eo eL em12 => ?_⟩
  have eo := PL_o R11 (c' := 505) (by omega) eo
  subst eo
  have P12 := PL_at0 R11 (c' := 505) (by omega) kr505 (by decide) eL
  have F12 := fl_new F11 em12 (by rw [R11.1]; omega)
  refine ⟨PL_K P12 k493 (by omega), PL_K P12 kr505 (by omega), ?_⟩
  intro M12 e12
  have R12 := PL_put P12 rf_ref.2.2.2.2.2.2.2.2.2.2.2.1 e12
  refine ⟨PL_K R12 k493 (by omega), ?_⟩
  replace R12 : PL n M12 505 (fun a k => a = 493 ∧ (k = 24 ∨ k = 25 ∨ k = 26 ∨ k = 27)) := PL_weak R12 (fun a k z => by have z : (a = 493 ∧ (k = 23 ∨ k = 24 ∨ k = 25 ∨ k = 26 ∨ k = 27)) ∧ ¬ (a = 493 ∧ k = 23) := z; omega)
  refine ⟨(3, 594), rfl, fun o L13 μ13 eo eL em13 => ?_⟩
  have eo := PL_o R12 (c' := 506) (by omega) eo
  subst eo
  have P13 := PL_at0 R12 (c' := 506) (by omega) kr506 (by decide) eL
  have F13 := fl_new F12 em13 (by rw [R12.1]; omega)
  refine ⟨PL_K P13 k493 (by omega), PL_K P13 kr506 (by omega), ?_⟩
  intro M13 e13
  have R13 := PL_put P13 rf_ref.2.2.2.2.2.2.2.2.2.2.2.2.1 e13
  refine ⟨PL_K R13 k493 (by omega), ?_⟩
  replace R13 : PL n M13 506 (fun a k => a = 493 ∧ (k = 25 ∨ k = 26 ∨ k = 27)) := PL_weak R13 (fun a k z => by have z : (a = 493 ∧ (k = 24 ∨ k = 25 ∨ k = 26 ∨ k = 27)) ∧ ¬ (a = 493 ∧ k = 24) := z; omega)
  refine ⟨(2, 84), rfl, fun o L14 μ14 eo eL em14 => ?_⟩
  have eo := PL_o R13 (c' := 507) (by omega) eo
  subst eo
  have P14 := PL_at0 R13 (c' := 507) (by omega) kr507 (by decide) eL
  have F14 := fl_new F13 em14 (by rw [R13.1]; omega)
  refine ⟨PL_K P14 k493 (by omega), PL_K P14 kr507 (by omega), ?_⟩
  intro M14 e14
  have R14 := PL_put P14 rf_ref.2.2.2.2.2.2.2.2.2.2.2.2.2.1 e14
  refine ⟨PL_K R14 k493 (by omega), ?_⟩
  replace R14 : PL n M14 507 (fun a k => a = 493 ∧ (k = 26 ∨ k = 27)) := PL_weak R14 (fun a k z => by have z : (a = 493 ∧ (k = 25 ∨ k = 26 ∨ k = 27)) ∧ ¬ (a = 493 ∧ k = 25) := z; omega)
  refine ⟨(1, 80), rfl, fun o L15 μ15 eo eL em15 => ?_⟩
  have eo := PL_o R14 (c' := 508) (by omega) eo
  subst eo
  have P15 := PL_at0 R14 (c' := 508) (by omega) kr508 (by decide) eL
  have F15 := fl_new F14 em15 (by rw [R14.1]; omega)
  refine ⟨PL_K P15 k493 (by omega), PL_K P15 kr508 (by omega), ?_⟩
  replace F15 := fl_up (o := 508) (j := 3) (v := (-1)) (fl_up (o := 508) (j := 2) (v := (-1)) (fl_up (o := 508) (j := 1) (v := (-1)) (fl_up (o := 508) (j := 0) (v := (-1)) F15 (by decide)) (by decide)) (by decide)) (by decide)
  intro M15 e15
  have R15 := PL_put P15 rf_ref.2.2.2.2.2.2.2.2.2.2.2.2.2.2.1 e15
  refine ⟨PL_K R15 k493 (by omega), ?_⟩
  replace R15 : PL n M15 508 (fun a k => a = 493 ∧ (k = 27)) := PL_weak R15 (fun a k z => by have z : (a = 493 ∧ (k = 26 ∨ k = 27)) ∧ ¬ (a = 493 ∧ k = 26) := z; omega)
  refine ⟨(0, 0), rfl, fun o L16 μ16 eo eL em16 => ?_⟩
  have eo := PL_o R15 (c' := 509) (by omega) eo
  subst eo
  have P16 := PL_at0 R15 (c' := 509) (by omega) kr509 (by decide) eL
  have F16 := fl_new F15 em16 (by rw [R15.1]; omega)
  refine ⟨PL_K P16 k493 (by omega), PL_K P16 kr509 (by omega), ?_⟩
  intro M16 e16
  have R16 := PL_put P16 rf_ref.2.2.2.2.2.2.2.2.2.2.2.2.2.2.2 e16
  refine ⟨PL_K R16 k493 (by omega), ?_⟩
  replace R16 : PL n M16 509 (fun a k => False) := PL_weak R16 (fun a k z => by have z : (a = 493 ∧ (k = 27)) ∧ ¬ (a = 493 ∧ k = 27) := z; omega)
  refine i_X10_fresh R16 fun μ' g1 g2 => ⟨rfl, rfl, h _ μ' R16 (fun a i ha => (g2 a i (by omega)).trans (F16 a i ha)) g1 (fun k k0 k1 => ?_) (fun i => ?_)⟩
  · rw [g2 508 k (by decide), em16, nwM_old (by rw [R15.1]; decide)]
    have hk : k = 0 ∨ k = 1 ∨ k = 2 ∨ k = 3 := by omega
    rcases hk with rfl | rfl | rfl | rfl
    · rw [up_ne (Or.inr (by decide)), up_ne (Or.inr (by decide)), up_ne (Or.inr (by decide)), up_eq]
    · rw [up_ne (Or.inr (by decide)), up_ne (Or.inr (by decide)), up_eq]
    · rw [up_ne (Or.inr (by decide)), up_eq]
    · rw [up_eq]
  · rw [g2 509 i (by decide), em16]
    exact if_pos (by rw [R15.1]; rfl)
end
