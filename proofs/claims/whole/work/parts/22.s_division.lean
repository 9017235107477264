/-! Division: each method from its entry and from its loops' heads: what must hold, and the run (laid by wip/whole/gen/vc.py) -/
section
variable {L : Lay} {μ : Mem} {Q : Option AV → Lay → Mem → Prop}
set_option maxRecDepth 20000 in
theorem t_X1_bestExchange (hL : LayOK L) {v0 v1 : Int} (k0 : isK L v0 (1, 0)) (k1 : isK L v1 (0, 0)) (h : WA mX1_bestExchange 4 (0, 0) 10 [(2, v0), (2, v1), (0, (μ v1 1)), (0, 1), (0, 0), (9, 0), (9, 0), (9, 0), (9, 0), (9, 0)] [] L μ Q) : TR mX1_bestExchange 4 (0, 0) [(2, v0), (2, v1)] L μ Q := by
  refine TR.of (ls := [(2, v0), (2, v1), (9, 0), (9, 0), (9, 0), (9, 0), (9, 0), (9, 0), (9, 0), (9, 0)]) (by decide) (by simp) rfl (Nat.le_of_ble_eq_true rfl) ?_
  refine wa_aload_n 1 dX1_bestExchange_0 rfl rfl ?_
  refine wa_getI 4 1 dX1_bestExchange_1 rfl wF_X1_137 rfl rfl k1 ?_
  refine wa_istore_n 5 [(2, v0), (2, v1), (0, (μ v1 1)), (9, 0), (9, 0), (9, 0), (9, 0), (9, 0), (9, 0), (9, 0)] dX1_bestExchange_4 rfl rfl rfl ?_
  refine wa_iconst 6 dX1_bestExchange_5 rfl (by decide) ?_
  refine wa_istore_n 7 [(2, v0), (2, v1), (0, (μ v1 1)), (0, 1), (9, 0), (9, 0), (9, 0), (9, 0), (9, 0), (9, 0)] dX1_bestExchange_6 rfl rfl rfl ?_
  refine wa_iconst 8 dX1_bestExchange_7 rfl (by decide) ?_
  refine wa_istore 10 [(2, v0), (2, v1), (0, (μ v1 1)), (0, 1), (0, 0), (9, 0), (9, 0), (9, 0), (9, 0), (9, 0)] dX1_bestExchange_8 rfl rfl rfl ?_
  exact h
set_option maxRecDepth 20000 in
theorem s_X1_bestExchange_10 (hL : LayOK L) {v0 v1 v2 v3 v4 : Int} (k0 : isK L v0 (1, 0)) (k1 : isK L v1 (0, 0)) (h : (v2 ≤ v4 → WA mX1_bestExchange 4 (0, 0) 78 [(2, v0), (9, 0), (0, v2), (0, v3), (1, (-1)), (9, 0), (0, 0), (0, 0), (9, 0), (9, 0)] [] L μ Q) ∧ (¬ v2 ≤ v4 → (inI (v3 * v2)) ∧ WA mX1_bestExchange 4 (0, 0) 23 [(2, v0), (2, v1), (0, v2), (0, (v3 * v2)), (0, v4), (0, 0), (9, 0), (9, 0), (9, 0), (9, 0)] [] L μ Q)) : WA mX1_bestExchange 4 (0, 0) 10 [(2, v0), (2, v1), (0, v2), (0, v3), (0, v4), (9, 0), (9, 0), (9, 0), (9, 0), (9, 0)] [] L μ Q := by
  refine wa_iload 12 dX1_bestExchange_10 rfl rfl ?_
  refine wa_iload_n 13 dX1_bestExchange_12 rfl rfl ?_
  refine wa_icmp_ge 16 67 dX1_bestExchange_13 rfl (by decide) (fun q => ?_) (fun q => ?_)
  · replace h := h.1 q
    refine wa_ldc2 70 (-1) dX1_bestExchange_67 rfl wJ_X1_144 ⟨rfl, by decide⟩ ?_
    refine wa_lstore 72 [(2, v0), (2, v1), (0, v2), (0, v3), (1, (-1)), (9, 0), (9, 0), (9, 0), (9, 0), (9, 0)] dX1_bestExchange_70 rfl rfl rfl ?_
    refine wa_iconst 73 dX1_bestExchange_72 rfl (by decide) ?_
    refine wa_istore 75 [(2, v0), (2, v1), (0, v2), (0, v3), (1, (-1)), (9, 0), (0, 0), (9, 0), (9, 0), (9, 0)] dX1_bestExchange_73 rfl rfl rfl ?_
    refine wa_iconst 76 dX1_bestExchange_75 rfl (by decide) ?_
    refine wa_istore 78 [(2, v0), (2, v1), (0, v2), (0, v3), (1, (-1)), (9, 0), (0, 0), (0, 0), (9, 0), (9, 0)] dX1_bestExchange_76 rfl rfl rfl ?_
    exact wa_weak [(2, v0), (9, 0), (0, v2), (0, v3), (1, (-1)), (9, 0), (0, 0), (0, 0), (9, 0), (9, 0)] ⟨Or.inl rfl, Or.inr rfl, Or.inl rfl, Or.inl rfl, Or.inl rfl, Or.inl rfl, Or.inl rfl, Or.inl rfl, Or.inl rfl, Or.inl rfl, trivial⟩ h
  · replace h := h.2 q
    refine wa_iload_n 17 dX1_bestExchange_16 rfl rfl ?_
    refine wa_iload_n 18 dX1_bestExchange_17 rfl rfl ?_
    obtain ⟨c1, h⟩ := h
    refine wa_imul 19 dX1_bestExchange_18 rfl c1 ?_
    refine wa_istore_n 20 [(2, v0), (2, v1), (0, v2), (0, (v3 * v2)), (0, v4), (9, 0), (9, 0), (9, 0), (9, 0), (9, 0)] dX1_bestExchange_19 rfl rfl rfl ?_
    refine wa_iconst 21 dX1_bestExchange_20 rfl (by decide) ?_
    refine wa_istore 23 [(2, v0), (2, v1), (0, v2), (0, (v3 * v2)), (0, v4), (0, 0), (9, 0), (9, 0), (9, 0), (9, 0)] dX1_bestExchange_21 rfl rfl rfl ?_
    exact h
set_option maxRecDepth 20000 in
theorem s_X1_bestExchange_23 (hL : LayOK L) {v0 v1 v2 v3 v4 v5 : Int} (k0 : isK L v0 (1, 0)) (k1 : isK L v1 (0, 0)) (h : (v2 ≤ v5 → (inI (v4 + 1)) ∧ WA mX1_bestExchange 4 (0, 0) 10 [(2, v0), (2, v1), (0, v2), (0, v3), (0, (v4 + 1)), (9, 0), (9, 0), (9, 0), (9, 0), (9, 0)] [] L μ Q) ∧ (¬ v2 ≤ v5 → (inI (v4 * 5)) ∧ (inI ((v4 * 5) + v5)) ∧ (0 ≤ v4 ∧ v4 < 5) ∧ TR mX1_holds 3 (0, 0) [(2, v0), (0, v5), (2, v1), (2, (rf L ((rf L v1 2)) v4))] L μ (fun r8 L9 μ10 => ∃ w11, r8 = some (1, w11) ∧ L = L9 ∧ (0 ≤ ((v4 * 5) + v5) ∧ ((v4 * 5) + v5) < 25) ∧ (inI (v5 + 1)) ∧ WA mX1_bestExchange 4 (0, 0) 23 [(2, v0), (2, v1), (0, v2), (0, v3), (0, v4), (0, (v5 + 1)), (9, 0), (9, 0), (9, 0), (9, 0)] [] L (up μ10 ((rf L v0 8)) (((v4 * 5) + v5)) w11) Q))) : WA mX1_bestExchange 4 (0, 0) 23 [(2, v0), (2, v1), (0, v2), (0, v3), (0, v4), (0, v5), (9, 0), (9, 0), (9, 0), (9, 0)] [] L μ Q := by
  refine wa_iload 25 dX1_bestExchange_23 rfl rfl ?_
  refine wa_iload_n 26 dX1_bestExchange_25 rfl rfl ?_
  refine wa_icmp_ge 29 61 dX1_bestExchange_26 rfl (by decide) (fun q => ?_) (fun q => ?_)
  · replace h := h.1 q
    obtain ⟨c1, h⟩ := h
    refine wa_iinc 64 [(2, v0), (2, v1), (0, v2), (0, v3), (0, (v4 + 1)), (0, v5), (9, 0), (9, 0), (9, 0), (9, 0)] dX1_bestExchange_61 rfl rfl rfl c1 rfl ?_
    refine wa_goto 10 dX1_bestExchange_64 (by decide) ?_
    exact wa_weak [(2, v0), (2, v1), (0, v2), (0, v3), (0, (v4 + 1)), (9, 0), (9, 0), (9, 0), (9, 0), (9, 0)] ⟨Or.inl rfl, Or.inl rfl, Or.inl rfl, Or.inl rfl, Or.inl rfl, Or.inr rfl, Or.inl rfl, Or.inl rfl, Or.inl rfl, Or.inl rfl, trivial⟩ h
  · replace h := h.2 q
    refine wa_aload_n 30 dX1_bestExchange_29 rfl rfl ?_
    have e2 : isK L (rf L v0 8) (21, 25) := lay_f hL k0 8 rfl
    refine wa_getR 33 8 dX1_bestExchange_30 rfl wF_X1_33 rfl rfl ⟨k0, isK_pos e2⟩ ?_
    refine wa_iload 35 dX1_bestExchange_33 rfl rfl ?_
    refine wa_iconst 36 dX1_bestExchange_35 rfl (by decide) ?_
    obtain ⟨c3, h⟩ := h
    refine wa_imul 37 dX1_bestExchange_36 rfl c3 ?_
    refine wa_iload 39 dX1_bestExchange_37 rfl rfl ?_
    obtain ⟨c4, h⟩ := h
    refine wa_iadd 40 dX1_bestExchange_39 rfl c4 ?_
    refine wa_aload_n 41 dX1_bestExchange_40 rfl rfl ?_
    refine wa_iload 43 dX1_bestExchange_41 rfl rfl ?_
    refine wa_aload_n 44 dX1_bestExchange_43 rfl rfl ?_
    refine wa_aload_n 45 dX1_bestExchange_44 rfl rfl ?_
    have e5 : isK L (rf L v1 2) (23, 5) := lay_f hL k1 2 rfl
    refine wa_getR 48 2 dX1_bestExchange_45 rfl wF_X1_140 rfl rfl ⟨k1, isK_pos e5⟩ ?_
    refine wa_iload 50 dX1_bestExchange_48 rfl rfl ?_
    obtain ⟨c6, h⟩ := h
    have e7 : isK L (rf L ((rf L v1 2)) v4) (20, 16) := lay_e hL k1 2 rfl c6
    refine wa_aaload 51 23 dX1_bestExchange_50 rfl ⟨by decide, by decide⟩ ⟨okA_of e5 c6, isK_pos e7⟩ ?_
    refine wa_callV 54 3 3 1 (av := [(0, v5), (2, v1), (2, (rf L ((rf L v1 2)) v4))]) (rest := [(0, ((v4 * 5) + v5)), (2, (rf L v0 8))]) (k1 := (0, 0)) (k2 := (0, 0)) cvX1_holds dX1_bestExchange_51 rfl wM_X1_122 ⟨rfl, by decide, rfl, Nat.le_of_ble_eq_true rfl, by decide, Nat.le_of_ble_eq_true rfl, rfl, rfl⟩ rfl k0 (TR.mono h (fun r8 L9 μ10 h => ?_))
    obtain ⟨w11, rfl, rfl, h⟩ := h
    show WA mX1_bestExchange 4 (0, 0) 54 [(2, v0), (2, v1), (0, v2), (0, v3), (0, v4), (0, v5), (9, 0), (9, 0), (9, 0), (9, 0)] [(1, w11), (0, ((v4 * 5) + v5)), (2, (rf L v0 8))] L μ10 Q
    obtain ⟨c12, h⟩ := h
    refine wa_lastore 55 dX1_bestExchange_54 rfl (okA_of e2 c12) ?_
    obtain ⟨c13, h⟩ := h
    refine wa_iinc 58 [(2, v0), (2, v1), (0, v2), (0, v3), (0, v4), (0, (v5 + 1)), (9, 0), (9, 0), (9, 0), (9, 0)] dX1_bestExchange_55 rfl rfl rfl c13 rfl ?_
    refine wa_goto 23 dX1_bestExchange_58 (by decide) ?_
    exact h
set_option maxRecDepth 20000 in
theorem s_X1_bestExchange_78 (hL : LayOK L) {v0 v2 v3 v4 v6 v7 : Int} (k0 : isK L v0 (1, 0)) (h : (v3 ≤ v7 → TR mX1_figures 0 (0, 0) [(0, v6), (0, v2)] L μ (fun r1 L2 μ3 => ∃ w4, r1 = some (0, w4) ∧ L = L2 ∧ Q (some (0, w4)) L μ3)) ∧ (¬ v3 ≤ v7 → TR mX1_together 0 (0, 0) [(2, v0), (0, v7), (0, v2)] L μ (fun r5 L6 μ7 => ∃ w8, r5 = some (1, w8) ∧ L = L6 ∧ (w8 ≤ v4 → (inI (v7 + 1)) ∧ WA mX1_bestExchange 4 (0, 0) 78 [(2, v0), (9, 0), (0, v2), (0, v3), (1, v4), (9, 0), (0, v6), (0, (v7 + 1)), (9, 0), (9, 0)] [] L μ7 Q) ∧ (¬ w8 ≤ v4 → (inI (v7 + 1)) ∧ WA mX1_bestExchange 4 (0, 0) 78 [(2, v0), (9, 0), (0, v2), (0, v3), (1, w8), (9, 0), (0, v7), (0, (v7 + 1)), (9, 0), (9, 0)] [] L μ7 Q)))) : WA mX1_bestExchange 4 (0, 0) 78 [(2, v0), (9, 0), (0, v2), (0, v3), (1, v4), (9, 0), (0, v6), (0, v7), (9, 0), (9, 0)] [] L μ Q := by
  refine wa_iload 80 dX1_bestExchange_78 rfl rfl ?_
  refine wa_iload_n 81 dX1_bestExchange_80 rfl rfl ?_
  refine wa_icmp_ge 84 115 dX1_bestExchange_81 rfl (by decide) (fun q => ?_) (fun q => ?_)
  · replace h := h.1 q
    refine wa_iload 117 dX1_bestExchange_115 rfl rfl ?_
    refine wa_iload_n 118 dX1_bestExchange_117 rfl rfl ?_
    refine wa_callS 121 0 2 (av := [(0, v6), (0, v2)]) (rest := []) (k1 := (0, 0)) (k2 := (0, 0)) cvX1_figures dX1_bestExchange_118 rfl wM_X1_150 ⟨rfl, Nat.le_of_ble_eq_true rfl, by decide, Nat.le_of_ble_eq_true rfl, rfl, rfl⟩ rfl (TR.mono h (fun r1 L2 μ3 h => ?_))
    obtain ⟨w4, rfl, rfl, h⟩ := h
    show WA mX1_bestExchange 4 (0, 0) 121 [(2, v0), (9, 0), (0, v2), (0, v3), (1, v4), (9, 0), (0, v6), (0, v7), (9, 0), (9, 0)] [(0, w4)] L μ3 Q
    exact wa_iret dX1_bestExchange_121 rfl h
  · replace h := h.2 q
    refine wa_aload_n 85 dX1_bestExchange_84 rfl rfl ?_
    refine wa_iload 87 dX1_bestExchange_85 rfl rfl ?_
    refine wa_iload_n 88 dX1_bestExchange_87 rfl rfl ?_
    refine wa_callV 91 0 2 1 (av := [(0, v7), (0, v2)]) (rest := []) (k1 := (0, 0)) (k2 := (0, 0)) cvX1_together dX1_bestExchange_88 rfl wM_X1_146 ⟨rfl, by decide, rfl, Nat.le_of_ble_eq_true rfl, by decide, Nat.le_of_ble_eq_true rfl, rfl, rfl⟩ rfl k0 (TR.mono h (fun r5 L6 μ7 h => ?_))
    obtain ⟨w8, rfl, rfl, h⟩ := h
    show WA mX1_bestExchange 4 (0, 0) 91 [(2, v0), (9, 0), (0, v2), (0, v3), (1, v4), (9, 0), (0, v6), (0, v7), (9, 0), (9, 0)] [(1, w8)] L μ7 Q
    refine wa_lstore 93 [(2, v0), (9, 0), (0, v2), (0, v3), (1, v4), (9, 0), (0, v6), (0, v7), (1, w8), (9, 0)] dX1_bestExchange_91 rfl rfl rfl ?_
    refine wa_lload 95 dX1_bestExchange_93 rfl rfl ?_
    refine wa_lload 97 dX1_bestExchange_95 rfl rfl ?_
    refine wa_lc_le 101 109 dX1_bestExchange_97 dX1_bestExchange_98 rfl (by decide) (fun q => ?_) (fun q => ?_)
    · replace h := h.1 q
      obtain ⟨c9, h⟩ := h
      refine wa_iinc 112 [(2, v0), (9, 0), (0, v2), (0, v3), (1, v4), (9, 0), (0, v6), (0, (v7 + 1)), (1, w8), (9, 0)] dX1_bestExchange_109 rfl rfl rfl c9 rfl ?_
      refine wa_goto 78 dX1_bestExchange_112 (by decide) ?_
      exact wa_weak [(2, v0), (9, 0), (0, v2), (0, v3), (1, v4), (9, 0), (0, v6), (0, (v7 + 1)), (9, 0), (9, 0)] ⟨Or.inl rfl, Or.inl rfl, Or.inl rfl, Or.inl rfl, Or.inl rfl, Or.inl rfl, Or.inl rfl, Or.inl rfl, Or.inr rfl, Or.inl rfl, trivial⟩ h
    · replace h := h.2 q
      refine wa_lload 103 dX1_bestExchange_101 rfl rfl ?_
      refine wa_lstore 105 [(2, v0), (9, 0), (0, v2), (0, v3), (1, w8), (9, 0), (0, v6), (0, v7), (1, w8), (9, 0)] dX1_bestExchange_103 rfl rfl rfl ?_
      refine wa_iload 107 dX1_bestExchange_105 rfl rfl ?_
      refine wa_istore 109 [(2, v0), (9, 0), (0, v2), (0, v3), (1, w8), (9, 0), (0, v7), (0, v7), (1, w8), (9, 0)] dX1_bestExchange_107 rfl rfl rfl ?_
      obtain ⟨c10, h⟩ := h
      refine wa_iinc 112 [(2, v0), (9, 0), (0, v2), (0, v3), (1, w8), (9, 0), (0, v7), (0, (v7 + 1)), (1, w8), (9, 0)] dX1_bestExchange_109 rfl rfl rfl c10 rfl ?_
      refine wa_goto 78 dX1_bestExchange_112 (by decide) ?_
      exact wa_weak [(2, v0), (9, 0), (0, v2), (0, v3), (1, w8), (9, 0), (0, v7), (0, (v7 + 1)), (9, 0), (9, 0)] ⟨Or.inl rfl, Or.inl rfl, Or.inl rfl, Or.inl rfl, Or.inl rfl, Or.inl rfl, Or.inl rfl, Or.inl rfl, Or.inr rfl, Or.inl rfl, trivial⟩ h
set_option maxRecDepth 20000 in
theorem t_X1_clear (hL : LayOK L) {v0 : Int} (k0 : isK L v0 (1, 0)) (h : WA mX1_clear 0 (0, 0) 22 [(2, v0), (0, 0)] [] L (up (up (up (up μ v0 0 0) v0 1 0) v0 2 1) v0 3 0) Q) : TR mX1_clear 0 (0, 0) [(2, v0)] L μ Q := by
  refine TR.of (ls := [(2, v0), (9, 0)]) (by decide) (by simp) rfl (Nat.le_of_ble_eq_true rfl) ?_
  refine wa_aload_n 1 dX1_clear_0 rfl rfl ?_
  refine wa_iconst 2 dX1_clear_1 rfl (by decide) ?_
  refine wa_putI 5 0 dX1_clear_2 rfl wF_X1_47 rfl rfl k0 (Or.inl rfl) ?_
  refine wa_aload_n 6 dX1_clear_5 rfl rfl ?_
  refine wa_iconst 7 dX1_clear_6 rfl (by decide) ?_
  refine wa_putI 10 1 dX1_clear_7 rfl wF_X1_51 rfl rfl k0 (Or.inl rfl) ?_
  refine wa_aload_n 11 dX1_clear_10 rfl rfl ?_
  refine wa_lconst 12 1 dX1_clear_11 rfl ⟨rfl, by decide⟩ ?_
  refine wa_putL 15 2 dX1_clear_12 rfl wF_X1_54 rfl rfl k0 ?_
  refine wa_aload_n 16 dX1_clear_15 rfl rfl ?_
  refine wa_iconst 17 dX1_clear_16 rfl (by decide) ?_
  refine wa_putN 20 3 dX1_clear_17 rfl wF_X1_58 rfl rfl k0 ?_
  refine wa_iconst 21 dX1_clear_20 rfl (by decide) ?_
  refine wa_istore_n 22 [(2, v0), (0, 0)] dX1_clear_21 rfl rfl rfl ?_
  exact h
set_option maxRecDepth 20000 in
theorem s_X1_clear_22 (hL : LayOK L) {v0 v1 : Int} (k0 : isK L v0 (1, 0)) (h : (5 ≤ v1 → Q none L μ) ∧ (¬ 5 ≤ v1 → (0 ≤ v1 ∧ v1 < 5) ∧ (inI (v1 + 1)) ∧ WA mX1_clear 0 (0, 0) 22 [(2, v0), (0, (v1 + 1))] [] L (up μ ((rf L v0 5)) v1 0) Q)) : WA mX1_clear 0 (0, 0) 22 [(2, v0), (0, v1)] [] L μ Q := by
  refine wa_iload_n 23 dX1_clear_22 rfl rfl ?_
  refine wa_iconst 24 dX1_clear_23 rfl (by decide) ?_
  refine wa_icmp_ge 27 40 dX1_clear_24 rfl (by decide) (fun q => ?_) (fun q => ?_)
  · replace h := h.1 q
    exact wa_vret dX1_clear_40 rfl h
  · replace h := h.2 q
    refine wa_aload_n 28 dX1_clear_27 rfl rfl ?_
    have e1 : isK L (rf L v0 5) (20, 5) := lay_f hL k0 5 rfl
    refine wa_getR 31 5 dX1_clear_28 rfl wF_X1_17 rfl rfl ⟨k0, isK_pos e1⟩ ?_
    refine wa_iload_n 32 dX1_clear_31 rfl rfl ?_
    refine wa_iconst 33 dX1_clear_32 rfl (by decide) ?_
    obtain ⟨c2, h⟩ := h
    refine wa_iastore 34 dX1_clear_33 rfl (okA_of e1 c2) ?_
    obtain ⟨c3, h⟩ := h
    refine wa_iinc 37 [(2, v0), (0, (v1 + 1))] dX1_clear_34 rfl rfl rfl c3 rfl ?_
    refine wa_goto 22 dX1_clear_37 (by decide) ?_
    exact h
set_option maxRecDepth 20000 in
theorem t_X1_copy (hL : LayOK L) {v0 v1 : Int} (k0 : isK L v0 (1, 0)) (k1 : isK L v1 (1, 0)) (h : ((μ v1 0) = 0 ∨ (μ v1 0) = 1) ∧ (((up μ v0 0 ((μ v1 0))) v1 1) = 0 ∨ ((up μ v0 0 ((μ v1 0))) v1 1) = 1) ∧ WA mX1_copy 4 (0, 0) 34 [(2, v0), (2, v1), (0, 0), (9, 0)] [] L (up (up (up (up μ v0 0 ((μ v1 0))) v0 1 (((up μ v0 0 ((μ v1 0))) v1 1))) v0 2 (((up (up μ v0 0 ((μ v1 0))) v0 1 (((up μ v0 0 ((μ v1 0))) v1 1))) v1 2))) v0 3 (((up (up (up μ v0 0 ((μ v1 0))) v0 1 (((up μ v0 0 ((μ v1 0))) v1 1))) v0 2 (((up (up μ v0 0 ((μ v1 0))) v0 1 (((up μ v0 0 ((μ v1 0))) v1 1))) v1 2))) v1 3))) Q) : TR mX1_copy 4 (0, 0) [(2, v0), (2, v1)] L μ Q := by
  refine TR.of (ls := [(2, v0), (2, v1), (9, 0), (9, 0)]) (by decide) (by simp) rfl (Nat.le_of_ble_eq_true rfl) ?_
  refine wa_aload_n 1 dX1_copy_0 rfl rfl ?_
  refine wa_aload_n 2 dX1_copy_1 rfl rfl ?_
  refine wa_getI 5 0 dX1_copy_2 rfl wF_X1_47 rfl rfl k1 ?_
  obtain ⟨c1, h⟩ := h
  refine wa_putI 8 0 dX1_copy_5 rfl wF_X1_47 rfl rfl k0 c1 ?_
  refine wa_aload_n 9 dX1_copy_8 rfl rfl ?_
  refine wa_aload_n 10 dX1_copy_9 rfl rfl ?_
  refine wa_getI 13 1 dX1_copy_10 rfl wF_X1_51 rfl rfl k1 ?_
  obtain ⟨c2, h⟩ := h
  refine wa_putI 16 1 dX1_copy_13 rfl wF_X1_51 rfl rfl k0 c2 ?_
  refine wa_aload_n 17 dX1_copy_16 rfl rfl ?_
  refine wa_aload_n 18 dX1_copy_17 rfl rfl ?_
  refine wa_getL 21 2 dX1_copy_18 rfl wF_X1_54 rfl rfl k1 ?_
  refine wa_putL 24 2 dX1_copy_21 rfl wF_X1_54 rfl rfl k0 ?_
  refine wa_aload_n 25 dX1_copy_24 rfl rfl ?_
  refine wa_aload_n 26 dX1_copy_25 rfl rfl ?_
  refine wa_getI 29 3 dX1_copy_26 rfl wF_X1_58 rfl rfl k1 ?_
  refine wa_putN 32 3 dX1_copy_29 rfl wF_X1_58 rfl rfl k0 ?_
  refine wa_iconst 33 dX1_copy_32 rfl (by decide) ?_
  refine wa_istore_n 34 [(2, v0), (2, v1), (0, 0), (9, 0)] dX1_copy_33 rfl rfl rfl ?_
  exact h
set_option maxRecDepth 20000 in
theorem s_X1_copy_34 (hL : LayOK L) {v0 v1 v2 : Int} (k0 : isK L v0 (1, 0)) (k1 : isK L v1 (1, 0)) (h : ((μ v0 3) ≤ v2 → WA mX1_copy 4 (0, 0) 65 [(2, v0), (2, v1), (0, 0), (9, 0)] [] L μ Q) ∧ (¬ (μ v0 3) ≤ v2 → (0 ≤ v2 ∧ v2 < 19) ∧ TR mX2_copy 3 (0, 0) [(2, (rf L ((rf L v0 4)) v2)), (2, (rf L ((rf L v1 4)) v2))] L μ (fun r6 L7 μ8 => r6 = none ∧ L = L7 ∧ (inI (v2 + 1)) ∧ WA mX1_copy 4 (0, 0) 34 [(2, v0), (2, v1), (0, (v2 + 1)), (9, 0)] [] L μ8 Q))) : WA mX1_copy 4 (0, 0) 34 [(2, v0), (2, v1), (0, v2), (9, 0)] [] L μ Q := by
  refine wa_iload_n 35 dX1_copy_34 rfl rfl ?_
  refine wa_aload_n 36 dX1_copy_35 rfl rfl ?_
  refine wa_getI 39 3 dX1_copy_36 rfl wF_X1_58 rfl rfl k0 ?_
  refine wa_icmp_ge 42 63 dX1_copy_39 rfl (by decide) (fun q => ?_) (fun q => ?_)
  · replace h := h.1 q
    refine wa_iconst 64 dX1_copy_63 rfl (by decide) ?_
    refine wa_istore_n 65 [(2, v0), (2, v1), (0, 0), (9, 0)] dX1_copy_64 rfl rfl rfl ?_
    exact h
  · replace h := h.2 q
    refine wa_aload_n 43 dX1_copy_42 rfl rfl ?_
    have e1 : isK L (rf L v0 4) (24, 19) := lay_f hL k0 4 rfl
    refine wa_getR 46 4 dX1_copy_43 rfl wF_X1_13 rfl rfl ⟨k0, isK_pos e1⟩ ?_
    refine wa_iload_n 47 dX1_copy_46 rfl rfl ?_
    obtain ⟨c2, h⟩ := h
    have e3 : isK L (rf L ((rf L v0 4)) v2) (2, 0) := lay_e hL k0 4 rfl c2
    refine wa_aaload 48 24 dX1_copy_47 rfl ⟨by decide, by decide⟩ ⟨okA_of e1 c2, isK_pos e3⟩ ?_
    refine wa_aload_n 49 dX1_copy_48 rfl rfl ?_
    have e4 : isK L (rf L v1 4) (24, 19) := lay_f hL k1 4 rfl
    refine wa_getR 52 4 dX1_copy_49 rfl wF_X1_13 rfl rfl ⟨k1, isK_pos e4⟩ ?_
    refine wa_iload_n 53 dX1_copy_52 rfl rfl ?_
    have e5 : isK L (rf L ((rf L v1 4)) v2) (2, 0) := lay_e hL k1 4 rfl c2
    refine wa_aaload 54 24 dX1_copy_53 rfl ⟨by decide, by decide⟩ ⟨okA_of e4 c2, isK_pos e5⟩ ?_
    refine wa_callV 57 3 1 2 (av := [(2, (rf L ((rf L v1 4)) v2))]) (rest := []) (k1 := (0, 0)) (k2 := (0, 0)) cvX2_copy dX1_copy_54 rfl wM_X1_62 ⟨rfl, by decide, rfl, Nat.le_of_ble_eq_true rfl, by decide, Nat.le_of_ble_eq_true rfl, rfl, rfl⟩ rfl e3 (TR.mono h (fun r6 L7 μ8 h => ?_))
    obtain ⟨rfl, rfl, h⟩ := h
    show WA mX1_copy 4 (0, 0) 57 [(2, v0), (2, v1), (0, v2), (9, 0)] [] L μ8 Q
    obtain ⟨c9, h⟩ := h
    refine wa_iinc 60 [(2, v0), (2, v1), (0, (v2 + 1)), (9, 0)] dX1_copy_57 rfl rfl rfl c9 rfl ?_
    refine wa_goto 34 dX1_copy_60 (by decide) ?_
    exact h
set_option maxRecDepth 20000 in
theorem s_X1_copy_65 (hL : LayOK L) {v0 v1 v2 : Int} (k0 : isK L v0 (1, 0)) (k1 : isK L v1 (1, 0)) (h : (5 ≤ v2 → Q none L μ) ∧ (¬ 5 ≤ v2 → (0 ≤ v2 ∧ v2 < 5) ∧ WA mX1_copy 4 (0, 0) 84 [(2, v0), (2, v1), (0, v2), (0, 0)] [] L (up μ ((rf L v0 5)) v2 ((μ ((rf L v1 5)) v2))) Q)) : WA mX1_copy 4 (0, 0) 65 [(2, v0), (2, v1), (0, v2), (9, 0)] [] L μ Q := by
  refine wa_iload_n 66 dX1_copy_65 rfl rfl ?_
  refine wa_iconst 67 dX1_copy_66 rfl (by decide) ?_
  refine wa_icmp_ge 70 121 dX1_copy_67 rfl (by decide) (fun q => ?_) (fun q => ?_)
  · replace h := h.1 q
    exact wa_vret dX1_copy_121 rfl h
  · replace h := h.2 q
    refine wa_aload_n 71 dX1_copy_70 rfl rfl ?_
    have e1 : isK L (rf L v0 5) (20, 5) := lay_f hL k0 5 rfl
    refine wa_getR 74 5 dX1_copy_71 rfl wF_X1_17 rfl rfl ⟨k0, isK_pos e1⟩ ?_
    refine wa_iload_n 75 dX1_copy_74 rfl rfl ?_
    refine wa_aload_n 76 dX1_copy_75 rfl rfl ?_
    have e2 : isK L (rf L v1 5) (20, 5) := lay_f hL k1 5 rfl
    refine wa_getR 79 5 dX1_copy_76 rfl wF_X1_17 rfl rfl ⟨k1, isK_pos e2⟩ ?_
    refine wa_iload_n 80 dX1_copy_79 rfl rfl ?_
    obtain ⟨c3, h⟩ := h
    refine wa_iaload 81 dX1_copy_80 rfl (okA_of e2 c3) ?_
    refine wa_iastore 82 dX1_copy_81 rfl (okA_of e1 c3) ?_
    refine wa_iconst 83 dX1_copy_82 rfl (by decide) ?_
    refine wa_istore_n 84 [(2, v0), (2, v1), (0, v2), (0, 0)] dX1_copy_83 rfl rfl rfl ?_
    exact h
set_option maxRecDepth 20000 in
theorem s_X1_copy_84 (hL : LayOK L) {v0 v1 v2 v3 : Int} (k0 : isK L v0 (1, 0)) (k1 : isK L v1 (1, 0)) (h : (0 ≤ v2 ∧ v2 < 5) ∧ ((μ ((rf L v0 5)) v2) ≤ v3 → (inI (v2 + 1)) ∧ WA mX1_copy 4 (0, 0) 65 [(2, v0), (2, v1), (0, (v2 + 1)), (9, 0)] [] L μ Q) ∧ (¬ (μ ((rf L v0 5)) v2) ≤ v3 → TR mX1_held 0 (0, 0) [(2, v0), (0, v2), (0, v3)] L μ (fun r4 L5 μ6 => ∃ w7, r4 = some (2, w7) ∧ L = L5 ∧ isK L w7 (7, 0) ∧ TR mX1_held 0 (0, 0) [(2, v1), (0, v2), (0, v3)] L μ6 (fun r9 L10 μ11 => ∃ w12, r9 = some (2, w12) ∧ L = L10 ∧ isK L w12 (7, 0) ∧ TR mX7_copy 2 (0, 0) [(2, w7), (2, w12)] L μ11 (fun r14 L15 μ16 => r14 = none ∧ L = L15 ∧ (inI (v3 + 1)) ∧ WA mX1_copy 4 (0, 0) 84 [(2, v0), (2, v1), (0, v2), (0, (v3 + 1))] [] L μ16 Q))))) : WA mX1_copy 4 (0, 0) 84 [(2, v0), (2, v1), (0, v2), (0, v3)] [] L μ Q := by
  refine wa_iload_n 85 dX1_copy_84 rfl rfl ?_
  refine wa_aload_n 86 dX1_copy_85 rfl rfl ?_
  have e1 : isK L (rf L v0 5) (20, 5) := lay_f hL k0 5 rfl
  refine wa_getR 89 5 dX1_copy_86 rfl wF_X1_17 rfl rfl ⟨k0, isK_pos e1⟩ ?_
  refine wa_iload_n 90 dX1_copy_89 rfl rfl ?_
  obtain ⟨c2, h⟩ := h
  refine wa_iaload 91 dX1_copy_90 rfl (okA_of e1 c2) ?_
  refine wa_icmp_ge 94 115 dX1_copy_91 rfl (by decide) (fun q => ?_) (fun q => ?_)
  · replace h := h.1 q
    obtain ⟨c3, h⟩ := h
    refine wa_iinc 118 [(2, v0), (2, v1), (0, (v2 + 1)), (0, v3)] dX1_copy_115 rfl rfl rfl c3 rfl ?_
    refine wa_goto 65 dX1_copy_118 (by decide) ?_
    exact wa_weak [(2, v0), (2, v1), (0, (v2 + 1)), (9, 0)] ⟨Or.inl rfl, Or.inl rfl, Or.inl rfl, Or.inr rfl, trivial⟩ h
  · replace h := h.2 q
    refine wa_aload_n 95 dX1_copy_94 rfl rfl ?_
    refine wa_iload_n 96 dX1_copy_95 rfl rfl ?_
    refine wa_iload_n 97 dX1_copy_96 rfl rfl ?_
    refine wa_callV 100 0 2 1 (av := [(0, v2), (0, v3)]) (rest := []) (k1 := (0, 0)) (k2 := (0, 0)) cvX1_held dX1_copy_97 rfl wM_X1_66 ⟨rfl, by decide, rfl, Nat.le_of_ble_eq_true rfl, by decide, Nat.le_of_ble_eq_true rfl, rfl, rfl⟩ rfl k0 (TR.mono h (fun r4 L5 μ6 h => ?_))
    obtain ⟨w7, rfl, rfl, e8, h⟩ := h
    show WA mX1_copy 4 (0, 0) 100 [(2, v0), (2, v1), (0, v2), (0, v3)] [(2, w7)] L μ6 Q
    refine wa_aload_n 101 dX1_copy_100 rfl rfl ?_
    refine wa_iload_n 102 dX1_copy_101 rfl rfl ?_
    refine wa_iload_n 103 dX1_copy_102 rfl rfl ?_
    refine wa_callV 106 0 2 1 (av := [(0, v2), (0, v3)]) (rest := [(2, w7)]) (k1 := (0, 0)) (k2 := (0, 0)) cvX1_held dX1_copy_103 rfl wM_X1_66 ⟨rfl, by decide, rfl, Nat.le_of_ble_eq_true rfl, by decide, Nat.le_of_ble_eq_true rfl, rfl, rfl⟩ rfl k1 (TR.mono h (fun r9 L10 μ11 h => ?_))
    obtain ⟨w12, rfl, rfl, e13, h⟩ := h
    show WA mX1_copy 4 (0, 0) 106 [(2, v0), (2, v1), (0, v2), (0, v3)] [(2, w12), (2, w7)] L μ11 Q
    refine wa_callV 109 2 1 7 (av := [(2, w12)]) (rest := []) (k1 := (0, 0)) (k2 := (0, 0)) cvX7_copy dX1_copy_106 rfl wM_X1_70 ⟨rfl, by decide, rfl, Nat.le_of_ble_eq_true rfl, by decide, Nat.le_of_ble_eq_true rfl, rfl, rfl⟩ rfl e8 (TR.mono h (fun r14 L15 μ16 h => ?_))
    obtain ⟨rfl, rfl, h⟩ := h
    show WA mX1_copy 4 (0, 0) 109 [(2, v0), (2, v1), (0, v2), (0, v3)] [] L μ16 Q
    obtain ⟨c17, h⟩ := h
    refine wa_iinc 112 [(2, v0), (2, v1), (0, v2), (0, (v3 + 1))] dX1_copy_109 rfl rfl rfl c17 rfl ?_
    refine wa_goto 84 dX1_copy_112 (by decide) ?_
    exact h
set_option maxRecDepth 20000 in
theorem t_X1_countCuts (hL : LayOK L) {v0 v1 : Int} (k0 : isK L v0 (1, 0)) (h : WA mX1_countCuts 3 (0, 0) 4 [(2, v0), (0, v1), (0, 0), (0, 0), (9, 0), (9, 0)] [] L μ Q) : TR mX1_countCuts 3 (0, 0) [(2, v0), (0, v1)] L μ Q := by
  refine TR.of (ls := [(2, v0), (0, v1), (9, 0), (9, 0), (9, 0), (9, 0)]) (by decide) (by simp) rfl (Nat.le_of_ble_eq_true rfl) ?_
  refine wa_iconst 1 dX1_countCuts_0 rfl (by decide) ?_
  refine wa_istore_n 2 [(2, v0), (0, v1), (0, 0), (9, 0), (9, 0), (9, 0)] dX1_countCuts_1 rfl rfl rfl ?_
  refine wa_iconst 3 dX1_countCuts_2 rfl (by decide) ?_
  refine wa_istore_n 4 [(2, v0), (0, v1), (0, 0), (0, 0), (9, 0), (9, 0)] dX1_countCuts_3 rfl rfl rfl ?_
  exact h
set_option maxRecDepth 20000 in
theorem s_X1_countCuts_4 (hL : LayOK L) {v0 v1 v2 v3 : Int} (k0 : isK L v0 (1, 0)) (h : (5 ≤ v3 → Q (some (0, v2)) L μ) ∧ (¬ 5 ≤ v3 → WA mX1_countCuts 3 (0, 0) 12 [(2, v0), (0, v1), (0, v2), (0, v3), (0, 0), (9, 0)] [] L μ Q)) : WA mX1_countCuts 3 (0, 0) 4 [(2, v0), (0, v1), (0, v2), (0, v3), (9, 0), (9, 0)] [] L μ Q := by
  refine wa_iload_n 5 dX1_countCuts_4 rfl rfl ?_
  refine wa_iconst 6 dX1_countCuts_5 rfl (by decide) ?_
  refine wa_icmp_ge 9 76 dX1_countCuts_6 rfl (by decide) (fun q => ?_) (fun q => ?_)
  · replace h := h.1 q
    refine wa_iload_n 77 dX1_countCuts_76 rfl rfl ?_
    exact wa_iret dX1_countCuts_77 rfl h
  · replace h := h.2 q
    refine wa_iconst 10 dX1_countCuts_9 rfl (by decide) ?_
    refine wa_istore 12 [(2, v0), (0, v1), (0, v2), (0, v3), (0, 0), (9, 0)] dX1_countCuts_10 rfl rfl rfl ?_
    exact h
set_option maxRecDepth 20000 in
theorem s_X1_countCuts_12 (hL : LayOK L) {v0 v1 v2 v3 v4 : Int} (k0 : isK L v0 (1, 0)) (h : (0 ≤ v3 ∧ v3 < 5) ∧ ((μ ((rf L v0 5)) v3) ≤ v4 → (inI (v3 + 1)) ∧ WA mX1_countCuts 3 (0, 0) 4 [(2, v0), (0, v1), (0, v2), (0, (v3 + 1)), (9, 0), (9, 0)] [] L μ Q) ∧ (¬ (μ ((rf L v0 5)) v3) ≤ v4 → TR mX1_held 0 (0, 0) [(2, v0), (0, v3), (0, v4)] L μ (fun r4 L5 μ6 => ∃ w7, r4 = some (2, w7) ∧ L = L5 ∧ isK L w7 (7, 0) ∧ TR mX7_isEmpty 2 (0, 0) [(2, w7)] L μ6 (fun r9 L10 μ11 => ∃ w12, r9 = some (0, w12) ∧ L = L10 ∧ (¬ w12 = 0 → (inI (v4 + 1)) ∧ WA mX1_countCuts 3 (0, 0) 12 [(2, v0), (0, v1), (0, v2), (0, v3), (0, (v4 + 1)), (9, 0)] [] L μ11 Q) ∧ (w12 = 0 → TR mX1_see 1 (0, 0) [(2, v0), (2, (rf L w7 0)), (0, v2), (0, v1)] L μ11 (fun r15 L16 μ17 => ∃ w18, r15 = some (0, w18) ∧ L = L16 ∧ TR mX1_see 1 (0, 0) [(2, v0), (2, (rf L w7 1)), (0, w18), (0, v1)] L μ17 (fun r20 L21 μ22 => ∃ w23, r20 = some (0, w23) ∧ L = L21 ∧ (inI (v4 + 1)) ∧ WA mX1_countCuts 3 (0, 0) 12 [(2, v0), (0, v1), (0, w23), (0, v3), (0, (v4 + 1)), (9, 0)] [] L μ22 Q))))))) : WA mX1_countCuts 3 (0, 0) 12 [(2, v0), (0, v1), (0, v2), (0, v3), (0, v4), (9, 0)] [] L μ Q := by
  refine wa_iload 14 dX1_countCuts_12 rfl rfl ?_
  refine wa_aload_n 15 dX1_countCuts_14 rfl rfl ?_
  have e1 : isK L (rf L v0 5) (20, 5) := lay_f hL k0 5 rfl
  refine wa_getR 18 5 dX1_countCuts_15 rfl wF_X1_17 rfl rfl ⟨k0, isK_pos e1⟩ ?_
  refine wa_iload_n 19 dX1_countCuts_18 rfl rfl ?_
  obtain ⟨c2, h⟩ := h
  refine wa_iaload 20 dX1_countCuts_19 rfl (okA_of e1 c2) ?_
  refine wa_icmp_ge 23 70 dX1_countCuts_20 rfl (by decide) (fun q => ?_) (fun q => ?_)
  · replace h := h.1 q
    obtain ⟨c3, h⟩ := h
    refine wa_iinc 73 [(2, v0), (0, v1), (0, v2), (0, (v3 + 1)), (0, v4), (9, 0)] dX1_countCuts_70 rfl rfl rfl c3 rfl ?_
    refine wa_goto 4 dX1_countCuts_73 (by decide) ?_
    exact wa_weak [(2, v0), (0, v1), (0, v2), (0, (v3 + 1)), (9, 0), (9, 0)] ⟨Or.inl rfl, Or.inl rfl, Or.inl rfl, Or.inl rfl, Or.inr rfl, Or.inl rfl, trivial⟩ h
  · replace h := h.2 q
    refine wa_aload_n 24 dX1_countCuts_23 rfl rfl ?_
    refine wa_iload_n 25 dX1_countCuts_24 rfl rfl ?_
    refine wa_iload 27 dX1_countCuts_25 rfl rfl ?_
    refine wa_callV 30 0 2 1 (av := [(0, v3), (0, v4)]) (rest := []) (k1 := (0, 0)) (k2 := (0, 0)) cvX1_held dX1_countCuts_27 rfl wM_X1_66 ⟨rfl, by decide, rfl, Nat.le_of_ble_eq_true rfl, by decide, Nat.le_of_ble_eq_true rfl, rfl, rfl⟩ rfl k0 (TR.mono h (fun r4 L5 μ6 h => ?_))
    obtain ⟨w7, rfl, rfl, e8, h⟩ := h
    show WA mX1_countCuts 3 (0, 0) 30 [(2, v0), (0, v1), (0, v2), (0, v3), (0, v4), (9, 0)] [(2, w7)] L μ6 Q
    refine wa_astore 32 [(2, v0), (0, v1), (0, v2), (0, v3), (0, v4), (2, w7)] dX1_countCuts_30 rfl rfl rfl ?_
    refine wa_aload 34 dX1_countCuts_32 rfl rfl ?_
    refine wa_callV 37 2 0 7 (av := []) (rest := []) (k1 := (0, 0)) (k2 := (0, 0)) cvX7_isEmpty dX1_countCuts_34 rfl wM_X1_98 ⟨rfl, by decide, rfl, Nat.le_of_ble_eq_true rfl, by decide, Nat.le_of_ble_eq_true rfl, rfl, rfl⟩ rfl e8 (TR.mono h (fun r9 L10 μ11 h => ?_))
    obtain ⟨w12, rfl, rfl, h⟩ := h
    show WA mX1_countCuts 3 (0, 0) 37 [(2, v0), (0, v1), (0, v2), (0, v3), (0, v4), (2, w7)] [(0, w12)] L μ11 Q
    refine wa_if_ne 40 64 dX1_countCuts_37 rfl (by decide) (fun q => ?_) (fun q => ?_)
    · replace h := h.1 q
      obtain ⟨c13, h⟩ := h
      refine wa_iinc 67 [(2, v0), (0, v1), (0, v2), (0, v3), (0, (v4 + 1)), (2, w7)] dX1_countCuts_64 rfl rfl rfl c13 rfl ?_
      refine wa_goto 12 dX1_countCuts_67 (by decide) ?_
      exact wa_weak [(2, v0), (0, v1), (0, v2), (0, v3), (0, (v4 + 1)), (9, 0)] ⟨Or.inl rfl, Or.inl rfl, Or.inl rfl, Or.inl rfl, Or.inl rfl, Or.inr rfl, trivial⟩ h
    · replace h := h.2 q
      refine wa_aload_n 41 dX1_countCuts_40 rfl rfl ?_
      refine wa_aload 43 dX1_countCuts_41 rfl rfl ?_
      have e14 : isK L (rf L w7 0) (3, 0) := lay_f hL e8 0 rfl
      refine wa_getR 46 0 dX1_countCuts_43 rfl wF_X1_102 rfl rfl ⟨e8, isK_pos e14⟩ ?_
      refine wa_iload_n 47 dX1_countCuts_46 rfl rfl ?_
      refine wa_iload_n 48 dX1_countCuts_47 rfl rfl ?_
      refine wa_callV 51 1 3 1 (av := [(2, (rf L w7 0)), (0, v2), (0, v1)]) (rest := []) (k1 := (0, 0)) (k2 := (0, 0)) cvX1_see dX1_countCuts_48 rfl wM_X1_126 ⟨rfl, by decide, rfl, Nat.le_of_ble_eq_true rfl, by decide, Nat.le_of_ble_eq_true rfl, rfl, rfl⟩ rfl k0 (TR.mono h (fun r15 L16 μ17 h => ?_))
      obtain ⟨w18, rfl, rfl, h⟩ := h
      show WA mX1_countCuts 3 (0, 0) 51 [(2, v0), (0, v1), (0, v2), (0, v3), (0, v4), (2, w7)] [(0, w18)] L μ17 Q
      refine wa_istore_n 52 [(2, v0), (0, v1), (0, w18), (0, v3), (0, v4), (2, w7)] dX1_countCuts_51 rfl rfl rfl ?_
      refine wa_aload_n 53 dX1_countCuts_52 rfl rfl ?_
      refine wa_aload 55 dX1_countCuts_53 rfl rfl ?_
      have e19 : isK L (rf L w7 1) (3, 0) := lay_f hL e8 1 rfl
      refine wa_getR 58 1 dX1_countCuts_55 rfl wF_X1_105 rfl rfl ⟨e8, isK_pos e19⟩ ?_
      refine wa_iload_n 59 dX1_countCuts_58 rfl rfl ?_
      refine wa_iload_n 60 dX1_countCuts_59 rfl rfl ?_
      refine wa_callV 63 1 3 1 (av := [(2, (rf L w7 1)), (0, w18), (0, v1)]) (rest := []) (k1 := (0, 0)) (k2 := (0, 0)) cvX1_see dX1_countCuts_60 rfl wM_X1_126 ⟨rfl, by decide, rfl, Nat.le_of_ble_eq_true rfl, by decide, Nat.le_of_ble_eq_true rfl, rfl, rfl⟩ rfl k0 (TR.mono h (fun r20 L21 μ22 h => ?_))
      obtain ⟨w23, rfl, rfl, h⟩ := h
      show WA mX1_countCuts 3 (0, 0) 63 [(2, v0), (0, v1), (0, w18), (0, v3), (0, v4), (2, w7)] [(0, w23)] L μ22 Q
      refine wa_istore_n 64 [(2, v0), (0, v1), (0, w23), (0, v3), (0, v4), (2, w7)] dX1_countCuts_63 rfl rfl rfl ?_
      obtain ⟨c24, h⟩ := h
      refine wa_iinc 67 [(2, v0), (0, v1), (0, w23), (0, v3), (0, (v4 + 1)), (2, w7)] dX1_countCuts_64 rfl rfl rfl c24 rfl ?_
      refine wa_goto 12 dX1_countCuts_67 (by decide) ?_
      exact wa_weak [(2, v0), (0, v1), (0, w23), (0, v3), (0, (v4 + 1)), (9, 0)] ⟨Or.inl rfl, Or.inl rfl, Or.inl rfl, Or.inl rfl, Or.inl rfl, Or.inr rfl, trivial⟩ h
set_option maxRecDepth 20000 in
theorem t_X1_figures (hL : LayOK L) {v0 v1 : Int}  (h : WA mX1_figures 0 (0, 0) 10 [(9, 0), (0, v1), (0, 0), (0, 1), (0, v0), (0, 0)] [] L μ Q) : TR mX1_figures 0 (0, 0) [(0, v0), (0, v1)] L μ Q := by
  refine TR.of (ls := [(0, v0), (0, v1), (9, 0), (9, 0), (9, 0), (9, 0)]) (by decide) (by simp) rfl (Nat.le_of_ble_eq_true rfl) ?_
  refine wa_iconst 1 dX1_figures_0 rfl (by decide) ?_
  refine wa_istore_n 2 [(0, v0), (0, v1), (0, 0), (9, 0), (9, 0), (9, 0)] dX1_figures_1 rfl rfl rfl ?_
  refine wa_iconst 3 dX1_figures_2 rfl (by decide) ?_
  refine wa_istore_n 4 [(0, v0), (0, v1), (0, 0), (0, 1), (9, 0), (9, 0)] dX1_figures_3 rfl rfl rfl ?_
  refine wa_iload_n 5 dX1_figures_4 rfl rfl ?_
  refine wa_istore 7 [(0, v0), (0, v1), (0, 0), (0, 1), (0, v0), (9, 0)] dX1_figures_5 rfl rfl rfl ?_
  refine wa_iconst 8 dX1_figures_7 rfl (by decide) ?_
  refine wa_istore 10 [(0, v0), (0, v1), (0, 0), (0, 1), (0, v0), (0, 0)] dX1_figures_8 rfl rfl rfl ?_
  exact wa_weak [(9, 0), (0, v1), (0, 0), (0, 1), (0, v0), (0, 0)] ⟨Or.inr rfl, Or.inl rfl, Or.inl rfl, Or.inl rfl, Or.inl rfl, Or.inl rfl, trivial⟩ h
set_option maxRecDepth 20000 in
theorem s_X1_figures_10 (hL : LayOK L) {v1 v2 v3 v4 v5 : Int}  (h : (v1 ≤ v5 → Q (some (0, v2)) L μ) ∧ (¬ v1 ≤ v5 → (0 ≤ v4 ∧ 0 < v1) ∧ (inI ((v4 % v1) * v3)) ∧ (inI (v2 + ((v4 % v1) * v3))) ∧ (inI (v3 * 10)) ∧ (inI (v5 + 1)) ∧ WA mX1_figures 0 (0, 0) 10 [(9, 0), (0, v1), (0, (v2 + ((v4 % v1) * v3))), (0, (v3 * 10)), (0, (v4 / v1)), (0, (v5 + 1))] [] L μ Q)) : WA mX1_figures 0 (0, 0) 10 [(9, 0), (0, v1), (0, v2), (0, v3), (0, v4), (0, v5)] [] L μ Q := by
  refine wa_iload 12 dX1_figures_10 rfl rfl ?_
  refine wa_iload_n 13 dX1_figures_12 rfl rfl ?_
  refine wa_icmp_ge 16 42 dX1_figures_13 rfl (by decide) (fun q => ?_) (fun q => ?_)
  · replace h := h.1 q
    refine wa_iload_n 43 dX1_figures_42 rfl rfl ?_
    exact wa_iret dX1_figures_43 rfl h
  · replace h := h.2 q
    refine wa_iload_n 17 dX1_figures_16 rfl rfl ?_
    refine wa_iload 19 dX1_figures_17 rfl rfl ?_
    refine wa_iload_n 20 dX1_figures_19 rfl rfl ?_
    obtain ⟨c1, h⟩ := h
    refine wa_iremE 21 dX1_figures_20 rfl c1 ?_
    refine wa_iload_n 22 dX1_figures_21 rfl rfl ?_
    obtain ⟨c2, h⟩ := h
    refine wa_imul 23 dX1_figures_22 rfl c2 ?_
    obtain ⟨c3, h⟩ := h
    refine wa_iadd 24 dX1_figures_23 rfl c3 ?_
    refine wa_istore_n 25 [(9, 0), (0, v1), (0, (v2 + ((v4 % v1) * v3))), (0, v3), (0, v4), (0, v5)] dX1_figures_24 rfl rfl rfl ?_
    refine wa_iload 27 dX1_figures_25 rfl rfl ?_
    refine wa_iload_n 28 dX1_figures_27 rfl rfl ?_
    refine wa_idivE 29 dX1_figures_28 rfl c1 ?_
    refine wa_istore 31 [(9, 0), (0, v1), (0, (v2 + ((v4 % v1) * v3))), (0, v3), (0, (v4 / v1)), (0, v5)] dX1_figures_29 rfl rfl rfl ?_
    refine wa_iload_n 32 dX1_figures_31 rfl rfl ?_
    refine wa_bipush 34 dX1_figures_32 rfl ⟨by decide, by decide⟩ ?_
    obtain ⟨c4, h⟩ := h
    refine wa_imul 35 dX1_figures_34 rfl c4 ?_
    refine wa_istore_n 36 [(9, 0), (0, v1), (0, (v2 + ((v4 % v1) * v3))), (0, (v3 * 10)), (0, (v4 / v1)), (0, v5)] dX1_figures_35 rfl rfl rfl ?_
    obtain ⟨c5, h⟩ := h
    refine wa_iinc 39 [(9, 0), (0, v1), (0, (v2 + ((v4 % v1) * v3))), (0, (v3 * 10)), (0, (v4 / v1)), (0, (v5 + 1))] dX1_figures_36 rfl rfl rfl c5 rfl ?_
    refine wa_goto 10 dX1_figures_39 (by decide) ?_
    exact h
set_option maxRecDepth 20000 in
theorem t_X1_give (hL : LayOK L) {v0 v1 v2 v3 : Int} (k0 : isK L v0 (1, 0)) (k2 : isK L v2 (3, 0)) (k3 : isK L v3 (3, 0)) (h : (0 ≤ v1 ∧ v1 < 5) ∧ (2 ≤ (μ ((rf L v0 5)) v1) → Q none L μ) ∧ (¬ 2 ≤ (μ ((rf L v0 5)) v1) → TR mX1_held 0 (0, 0) [(2, v0), (0, v1), (0, (μ ((rf L v0 5)) v1))] L μ (fun r3 L4 μ5 => ∃ w6, r3 = some (2, w6) ∧ L = L4 ∧ isK L w6 (7, 0) ∧ TR mX7_put 1 (0, 0) [(2, w6), (2, v2), (2, v3)] L μ5 (fun r8 L9 μ10 => r8 = none ∧ L = L9 ∧ (inI ((μ10 ((rf L v0 5)) v1) + 1)) ∧ Q none L (up μ10 ((rf L v0 5)) v1 (((μ10 ((rf L v0 5)) v1) + 1))))))) : TR mX1_give 2 (0, 0) [(2, v0), (0, v1), (2, v2), (2, v3)] L μ Q := by
  refine TR.of (ls := [(2, v0), (0, v1), (2, v2), (2, v3)]) (by decide) (by simp) rfl (Nat.le_of_ble_eq_true rfl) ?_
  refine wa_aload_n 1 dX1_give_0 rfl rfl ?_
  have e1 : isK L (rf L v0 5) (20, 5) := lay_f hL k0 5 rfl
  refine wa_getR 4 5 dX1_give_1 rfl wF_X1_17 rfl rfl ⟨k0, isK_pos e1⟩ ?_
  refine wa_iload_n 5 dX1_give_4 rfl rfl ?_
  obtain ⟨c2, h⟩ := h
  refine wa_iaload 6 dX1_give_5 rfl (okA_of e1 c2) ?_
  refine wa_iconst 7 dX1_give_6 rfl (by decide) ?_
  refine wa_icmp_ge 10 36 dX1_give_7 rfl (by decide) (fun q => ?_) (fun q => ?_)
  · replace h := h.1 q
    exact wa_vret dX1_give_36 rfl h
  · replace h := h.2 q
    refine wa_aload_n 11 dX1_give_10 rfl rfl ?_
    refine wa_iload_n 12 dX1_give_11 rfl rfl ?_
    refine wa_aload_n 13 dX1_give_12 rfl rfl ?_
    refine wa_getR 16 5 dX1_give_13 rfl wF_X1_17 rfl rfl ⟨k0, isK_pos e1⟩ ?_
    refine wa_iload_n 17 dX1_give_16 rfl rfl ?_
    refine wa_iaload 18 dX1_give_17 rfl (okA_of e1 c2) ?_
    refine wa_callV 21 0 2 1 (av := [(0, v1), (0, (μ ((rf L v0 5)) v1))]) (rest := []) (k1 := (0, 0)) (k2 := (0, 0)) cvX1_held dX1_give_18 rfl wM_X1_66 ⟨rfl, by decide, rfl, Nat.le_of_ble_eq_true rfl, by decide, Nat.le_of_ble_eq_true rfl, rfl, rfl⟩ rfl k0 (TR.mono h (fun r3 L4 μ5 h => ?_))
    obtain ⟨w6, rfl, rfl, e7, h⟩ := h
    show WA mX1_give 2 (0, 0) 21 [(2, v0), (0, v1), (2, v2), (2, v3)] [(2, w6)] L μ5 Q
    refine wa_aload_n 22 dX1_give_21 rfl rfl ?_
    refine wa_aload_n 23 dX1_give_22 rfl rfl ?_
    refine wa_callV 26 1 2 7 (av := [(2, v2), (2, v3)]) (rest := []) (k1 := (0, 0)) (k2 := (0, 0)) cvX7_put dX1_give_23 rfl wM_X1_95 ⟨rfl, by decide, rfl, Nat.le_of_ble_eq_true rfl, by decide, Nat.le_of_ble_eq_true rfl, rfl, rfl⟩ rfl e7 (TR.mono h (fun r8 L9 μ10 h => ?_))
    obtain ⟨rfl, rfl, h⟩ := h
    show WA mX1_give 2 (0, 0) 26 [(2, v0), (0, v1), (2, v2), (2, v3)] [] L μ10 Q
    refine wa_aload_n 27 dX1_give_26 rfl rfl ?_
    refine wa_getR 30 5 dX1_give_27 rfl wF_X1_17 rfl rfl ⟨k0, isK_pos e1⟩ ?_
    refine wa_iload_n 31 dX1_give_30 rfl rfl ?_
    refine wa_dup2 32 dX1_give_31 rfl ⟨Or.inl rfl, Or.inr rfl⟩ ?_
    refine wa_iaload 33 dX1_give_32 rfl (okA_of e1 c2) ?_
    refine wa_iconst 34 dX1_give_33 rfl (by decide) ?_
    obtain ⟨c11, h⟩ := h
    refine wa_iadd 35 dX1_give_34 rfl c11 ?_
    refine wa_iastore 36 dX1_give_35 rfl (okA_of e1 c2) ?_
    exact wa_vret dX1_give_36 rfl h
set_option maxRecDepth 20000 in
theorem t_X1_held (hL : LayOK L) {v0 v1 v2 : Int} (k0 : isK L v0 (1, 0)) (h : (inI (v1 * 2)) ∧ (inI ((v1 * 2) + v2)) ∧ (0 ≤ ((v1 * 2) + v2) ∧ ((v1 * 2) + v2) < 10) ∧ Q (some (2, (rf L ((rf L v0 6)) (((v1 * 2) + v2))))) L μ) : TR mX1_held 0 (0, 0) [(2, v0), (0, v1), (0, v2)] L μ Q := by
  refine TR.of (ls := [(2, v0), (0, v1), (0, v2)]) (by decide) (by simp) rfl (Nat.le_of_ble_eq_true rfl) ?_
  refine wa_aload_n 1 dX1_held_0 rfl rfl ?_
  have e1 : isK L (rf L v0 6) (25, 10) := lay_f hL k0 6 rfl
  refine wa_getR 4 6 dX1_held_1 rfl wF_X1_23 rfl rfl ⟨k0, isK_pos e1⟩ ?_
  refine wa_iload_n 5 dX1_held_4 rfl rfl ?_
  refine wa_iconst 6 dX1_held_5 rfl (by decide) ?_
  obtain ⟨c2, h⟩ := h
  refine wa_imul 7 dX1_held_6 rfl c2 ?_
  refine wa_iload_n 8 dX1_held_7 rfl rfl ?_
  obtain ⟨c3, h⟩ := h
  refine wa_iadd 9 dX1_held_8 rfl c3 ?_
  obtain ⟨c4, h⟩ := h
  have e5 : isK L (rf L ((rf L v0 6)) (((v1 * 2) + v2))) (7, 0) := lay_e hL k0 6 rfl c4
  refine wa_aaload 10 25 dX1_held_9 rfl ⟨by decide, by decide⟩ ⟨okA_of e1 c4, isK_pos e5⟩ ?_
  exact wa_aret dX1_held_10 ⟨_, rfl, by first | exact Or.inl ⟨_, rfl⟩ | exact Or.inr ⟨_, rfl⟩⟩ h
set_option maxRecDepth 20000 in
theorem t_X1_holds (hL : LayOK L) {v0 v1 v2 v3 : Int} (k0 : isK L v0 (1, 0)) (k2 : isK L v2 (0, 0)) (k3 : isK L v3 (20, 16)) (h : WA mX1_holds 3 (0, 0) 6 [(2, v0), (0, v1), (2, v2), (2, v3), (1, 0), (9, 0), (0, 0), (9, 0)] [] L μ Q) : TR mX1_holds 3 (0, 0) [(2, v0), (0, v1), (2, v2), (2, v3)] L μ Q := by
  refine TR.of (ls := [(2, v0), (0, v1), (2, v2), (2, v3), (9, 0), (9, 0), (9, 0), (9, 0)]) (by decide) (by simp) rfl (Nat.le_of_ble_eq_true rfl) ?_
  refine wa_lconst 1 0 dX1_holds_0 rfl ⟨rfl, by decide⟩ ?_
  refine wa_lstore 3 [(2, v0), (0, v1), (2, v2), (2, v3), (1, 0), (9, 0), (9, 0), (9, 0)] dX1_holds_1 rfl rfl rfl ?_
  refine wa_iconst 4 dX1_holds_3 rfl (by decide) ?_
  refine wa_istore 6 [(2, v0), (0, v1), (2, v2), (2, v3), (1, 0), (9, 0), (0, 0), (9, 0)] dX1_holds_4 rfl rfl rfl ?_
  exact h
set_option maxRecDepth 20000 in
theorem s_X1_holds_6 (hL : LayOK L) {v0 v1 v2 v3 v4 v6 : Int} (k0 : isK L v0 (1, 0)) (k2 : isK L v2 (0, 0)) (k3 : isK L v3 (20, 16)) (h : (0 ≤ v1 ∧ v1 < 5) ∧ ((μ ((rf L v0 5)) v1) ≤ v6 → Q (some (1, v4)) L μ) ∧ (¬ (μ ((rf L v0 5)) v1) ≤ v6 → TR mX1_held 0 (0, 0) [(2, v0), (0, v1), (0, v6)] L μ (fun r3 L4 μ5 => ∃ w6, r3 = some (2, w6) ∧ L = L4 ∧ isK L w6 (7, 0) ∧ TR mX0_between 2 (0, 0) [(2, v2), (2, v3), (2, (rf L w6 0)), (2, (rf L w6 1)), (1, (μ5 v0 2))] L μ5 (fun r10 L11 μ12 => ∃ w13, r10 = some (1, w13) ∧ L = L11 ∧ (inL (v4 + w13)) ∧ (inI (v6 + 1)) ∧ WA mX1_holds 3 (0, 0) 6 [(2, v0), (0, v1), (2, v2), (2, v3), (1, (v4 + w13)), (9, 0), (0, (v6 + 1)), (9, 0)] [] L μ12 Q)))) : WA mX1_holds 3 (0, 0) 6 [(2, v0), (0, v1), (2, v2), (2, v3), (1, v4), (9, 0), (0, v6), (9, 0)] [] L μ Q := by
  refine wa_iload 8 dX1_holds_6 rfl rfl ?_
  refine wa_aload_n 9 dX1_holds_8 rfl rfl ?_
  have e1 : isK L (rf L v0 5) (20, 5) := lay_f hL k0 5 rfl
  refine wa_getR 12 5 dX1_holds_9 rfl wF_X1_17 rfl rfl ⟨k0, isK_pos e1⟩ ?_
  refine wa_iload_n 13 dX1_holds_12 rfl rfl ?_
  obtain ⟨c2, h⟩ := h
  refine wa_iaload 14 dX1_holds_13 rfl (okA_of e1 c2) ?_
  refine wa_icmp_ge 17 56 dX1_holds_14 rfl (by decide) (fun q => ?_) (fun q => ?_)
  · replace h := h.1 q
    refine wa_lload 58 dX1_holds_56 rfl rfl ?_
    exact wa_lret dX1_holds_58 rfl h
  · replace h := h.2 q
    refine wa_aload_n 18 dX1_holds_17 rfl rfl ?_
    refine wa_iload_n 19 dX1_holds_18 rfl rfl ?_
    refine wa_iload 21 dX1_holds_19 rfl rfl ?_
    refine wa_callV 24 0 2 1 (av := [(0, v1), (0, v6)]) (rest := []) (k1 := (0, 0)) (k2 := (0, 0)) cvX1_held dX1_holds_21 rfl wM_X1_66 ⟨rfl, by decide, rfl, Nat.le_of_ble_eq_true rfl, by decide, Nat.le_of_ble_eq_true rfl, rfl, rfl⟩ rfl k0 (TR.mono h (fun r3 L4 μ5 h => ?_))
    obtain ⟨w6, rfl, rfl, e7, h⟩ := h
    show WA mX1_holds 3 (0, 0) 24 [(2, v0), (0, v1), (2, v2), (2, v3), (1, v4), (9, 0), (0, v6), (9, 0)] [(2, w6)] L μ5 Q
    refine wa_astore 26 [(2, v0), (0, v1), (2, v2), (2, v3), (1, v4), (9, 0), (0, v6), (2, w6)] dX1_holds_24 rfl rfl rfl ?_
    refine wa_lload 28 dX1_holds_26 rfl rfl ?_
    refine wa_aload_n 29 dX1_holds_28 rfl rfl ?_
    refine wa_aload_n 30 dX1_holds_29 rfl rfl ?_
    refine wa_aload 32 dX1_holds_30 rfl rfl ?_
    have e8 : isK L (rf L w6 0) (3, 0) := lay_f hL e7 0 rfl
    refine wa_getR 35 0 dX1_holds_32 rfl wF_X1_102 rfl rfl ⟨e7, isK_pos e8⟩ ?_
    refine wa_aload 37 dX1_holds_35 rfl rfl ?_
    have e9 : isK L (rf L w6 1) (3, 0) := lay_f hL e7 1 rfl
    refine wa_getR 40 1 dX1_holds_37 rfl wF_X1_105 rfl rfl ⟨e7, isK_pos e9⟩ ?_
    refine wa_aload_n 41 dX1_holds_40 rfl rfl ?_
    refine wa_getL 44 2 dX1_holds_41 rfl wF_X1_54 rfl rfl k0 ?_
    refine wa_callV 47 2 4 0 (av := [(2, v3), (2, (rf L w6 0)), (2, (rf L w6 1)), (1, (μ5 v0 2))]) (rest := [(1, v4)]) (k1 := (0, 0)) (k2 := (0, 0)) cvX0_between dX1_holds_44 rfl wM_X1_112 ⟨rfl, by decide, rfl, Nat.le_of_ble_eq_true rfl, by decide, Nat.le_of_ble_eq_true rfl, rfl, rfl⟩ rfl k2 (TR.mono h (fun r10 L11 μ12 h => ?_))
    obtain ⟨w13, rfl, rfl, h⟩ := h
    show WA mX1_holds 3 (0, 0) 47 [(2, v0), (0, v1), (2, v2), (2, v3), (1, v4), (9, 0), (0, v6), (2, w6)] [(1, w13), (1, v4)] L μ12 Q
    obtain ⟨c14, h⟩ := h
    refine wa_ladd 48 dX1_holds_47 rfl c14 ?_
    refine wa_lstore 50 [(2, v0), (0, v1), (2, v2), (2, v3), (1, (v4 + w13)), (9, 0), (0, v6), (2, w6)] dX1_holds_48 rfl rfl rfl ?_
    obtain ⟨c15, h⟩ := h
    refine wa_iinc 53 [(2, v0), (0, v1), (2, v2), (2, v3), (1, (v4 + w13)), (9, 0), (0, (v6 + 1)), (2, w6)] dX1_holds_50 rfl rfl rfl c15 rfl ?_
    refine wa_goto 6 dX1_holds_53 (by decide) ?_
    exact wa_weak [(2, v0), (0, v1), (2, v2), (2, v3), (1, (v4 + w13)), (9, 0), (0, (v6 + 1)), (9, 0)] ⟨Or.inl rfl, Or.inl rfl, Or.inl rfl, Or.inl rfl, Or.inl rfl, Or.inl rfl, Or.inl rfl, Or.inr rfl, trivial⟩ h
set_option maxRecDepth 20000 in
theorem t_X1_leftOver (hL : LayOK L) {v0 v1 v2 : Int} (k0 : isK L v0 (1, 0)) (k1 : isK L v1 (0, 0)) (k2 : isK L v2 (20, 16)) (h : TR mX0_total 0 (0, 0) [(2, v1), (2, v2)] L μ (fun r1 L2 μ3 => ∃ w4, r1 = some (0, w4) ∧ L = L2 ∧ (inL (w4 * (μ3 v0 2))) ∧ WA mX1_leftOver 4 (0, 0) 15 [(2, v0), (2, v1), (2, v2), (1, (w4 * (μ3 v0 2))), (9, 0), (0, 0)] [] L μ3 Q)) : TR mX1_leftOver 4 (0, 0) [(2, v0), (2, v1), (2, v2)] L μ Q := by
  refine TR.of (ls := [(2, v0), (2, v1), (2, v2), (9, 0), (9, 0), (9, 0)]) (by decide) (by simp) rfl (Nat.le_of_ble_eq_true rfl) ?_
  refine wa_aload_n 1 dX1_leftOver_0 rfl rfl ?_
  refine wa_aload_n 2 dX1_leftOver_1 rfl rfl ?_
  refine wa_callV 5 0 1 0 (av := [(2, v2)]) (rest := []) (k1 := (0, 0)) (k2 := (0, 0)) cvX0_total dX1_leftOver_2 rfl wM_X1_118 ⟨rfl, by decide, rfl, Nat.le_of_ble_eq_true rfl, by decide, Nat.le_of_ble_eq_true rfl, rfl, rfl⟩ rfl k1 (TR.mono h (fun r1 L2 μ3 h => ?_))
  obtain ⟨w4, rfl, rfl, h⟩ := h
  show WA mX1_leftOver 4 (0, 0) 5 [(2, v0), (2, v1), (2, v2), (9, 0), (9, 0), (9, 0)] [(0, w4)] L μ3 Q
  refine wa_i2l 6 dX1_leftOver_5 rfl ?_
  refine wa_aload_n 7 dX1_leftOver_6 rfl rfl ?_
  refine wa_getL 10 2 dX1_leftOver_7 rfl wF_X1_54 rfl rfl k0 ?_
  obtain ⟨c5, h⟩ := h
  refine wa_lmul 11 dX1_leftOver_10 rfl c5 ?_
  refine wa_lstore_n 12 [(2, v0), (2, v1), (2, v2), (1, (w4 * (μ3 v0 2))), (9, 0), (9, 0)] dX1_leftOver_11 rfl rfl rfl ?_
  refine wa_iconst 13 dX1_leftOver_12 rfl (by decide) ?_
  refine wa_istore 15 [(2, v0), (2, v1), (2, v2), (1, (w4 * (μ3 v0 2))), (9, 0), (0, 0)] dX1_leftOver_13 rfl rfl rfl ?_
  exact h
set_option maxRecDepth 20000 in
theorem s_X1_leftOver_15 (hL : LayOK L) {v0 v1 v2 v3 v5 : Int} (k0 : isK L v0 (1, 0)) (k1 : isK L v1 (0, 0)) (k2 : isK L v2 (20, 16)) (h : (5 ≤ v5 → Q (some (1, v3)) L μ) ∧ (¬ 5 ≤ v5 → TR mX1_holds 3 (0, 0) [(2, v0), (0, v5), (2, v1), (2, v2)] L μ (fun r1 L2 μ3 => ∃ w4, r1 = some (1, w4) ∧ L = L2 ∧ (inL (v3 - w4)) ∧ (inI (v5 + 1)) ∧ WA mX1_leftOver 4 (0, 0) 15 [(2, v0), (2, v1), (2, v2), (1, (v3 - w4)), (9, 0), (0, (v5 + 1))] [] L μ3 Q))) : WA mX1_leftOver 4 (0, 0) 15 [(2, v0), (2, v1), (2, v2), (1, v3), (9, 0), (0, v5)] [] L μ Q := by
  refine wa_iload 17 dX1_leftOver_15 rfl rfl ?_
  refine wa_iconst 18 dX1_leftOver_17 rfl (by decide) ?_
  refine wa_icmp_ge 21 38 dX1_leftOver_18 rfl (by decide) (fun q => ?_) (fun q => ?_)
  · replace h := h.1 q
    refine wa_lload_n 39 dX1_leftOver_38 rfl rfl ?_
    exact wa_lret dX1_leftOver_39 rfl h
  · replace h := h.2 q
    refine wa_lload_n 22 dX1_leftOver_21 rfl rfl ?_
    refine wa_aload_n 23 dX1_leftOver_22 rfl rfl ?_
    refine wa_iload 25 dX1_leftOver_23 rfl rfl ?_
    refine wa_aload_n 26 dX1_leftOver_25 rfl rfl ?_
    refine wa_aload_n 27 dX1_leftOver_26 rfl rfl ?_
    refine wa_callV 30 3 3 1 (av := [(0, v5), (2, v1), (2, v2)]) (rest := [(1, v3)]) (k1 := (0, 0)) (k2 := (0, 0)) cvX1_holds dX1_leftOver_27 rfl wM_X1_122 ⟨rfl, by decide, rfl, Nat.le_of_ble_eq_true rfl, by decide, Nat.le_of_ble_eq_true rfl, rfl, rfl⟩ rfl k0 (TR.mono h (fun r1 L2 μ3 h => ?_))
    obtain ⟨w4, rfl, rfl, h⟩ := h
    show WA mX1_leftOver 4 (0, 0) 30 [(2, v0), (2, v1), (2, v2), (1, v3), (9, 0), (0, v5)] [(1, w4), (1, v3)] L μ3 Q
    obtain ⟨c5, h⟩ := h
    refine wa_lsub 31 dX1_leftOver_30 rfl c5 ?_
    refine wa_lstore_n 32 [(2, v0), (2, v1), (2, v2), (1, (v3 - w4)), (9, 0), (0, v5)] dX1_leftOver_31 rfl rfl rfl ?_
    obtain ⟨c6, h⟩ := h
    refine wa_iinc 35 [(2, v0), (2, v1), (2, v2), (1, (v3 - w4)), (9, 0), (0, (v5 + 1))] dX1_leftOver_32 rfl rfl rfl c6 rfl ?_
    refine wa_goto 15 dX1_leftOver_35 (by decide) ?_
    exact h
set_option maxRecDepth 20000 in
theorem t_X1_note (hL : LayOK L) {v0 v1 v2 v3 v4 : Int} (k0 : isK L v0 (1, 0)) (k3 : isK L v3 (3, 0)) (k4 : isK L v4 (3, 0)) (h : (19 ≤ (μ v0 3) → Q none L μ) ∧ (¬ 19 ≤ (μ v0 3) → (0 ≤ (μ v0 3) ∧ (μ v0 3) < 19) ∧ TR mX7_put 1 (0, 0) [(2, (rf L ((rf L ((rf L v0 4)) ((μ v0 3)))) 2)), (2, v3), (2, v4)] L (up (up μ ((rf L ((rf L v0 4)) ((μ v0 3)))) 0 v1) ((rf L ((rf L v0 4)) ((μ v0 3)))) 1 v2) (fun r5 L6 μ7 => r5 = none ∧ L = L6 ∧ (inI ((μ7 v0 3) + 1)) ∧ Q none L (up μ7 v0 3 (((μ7 v0 3) + 1)))))) : TR mX1_note 2 (0, 0) [(2, v0), (0, v1), (0, v2), (2, v3), (2, v4)] L μ Q := by
  refine TR.of (ls := [(2, v0), (0, v1), (0, v2), (2, v3), (2, v4), (9, 0)]) (by decide) (by simp) rfl (Nat.le_of_ble_eq_true rfl) ?_
  refine wa_aload_n 1 dX1_note_0 rfl rfl ?_
  refine wa_getI 4 3 dX1_note_1 rfl wF_X1_58 rfl rfl k0 ?_
  refine wa_aload_n 5 dX1_note_4 rfl rfl ?_
  have e1 : isK L (rf L v0 4) (24, 19) := lay_f hL k0 4 rfl
  refine wa_getR 8 4 dX1_note_5 rfl wF_X1_13 rfl rfl ⟨k0, isK_pos e1⟩ ?_
  refine wa_alen 9 dX1_note_8 rfl ⟨e1.1, e1.2.1, by rw [e1.2.2], by rw [e1.2.2]; decide, by decide, by decide⟩ ?_
  refine wa_icmp_ge 12 56 dX1_note_9 rfl (by decide) (fun q => ?_) (fun q => ?_)
  · replace h := h.1 q
    exact wa_vret dX1_note_56 rfl h
  · replace h := h.2 q
    refine wa_aload_n 13 dX1_note_12 rfl rfl ?_
    refine wa_getR 16 4 dX1_note_13 rfl wF_X1_13 rfl rfl ⟨k0, isK_pos e1⟩ ?_
    refine wa_aload_n 17 dX1_note_16 rfl rfl ?_
    refine wa_getI 20 3 dX1_note_17 rfl wF_X1_58 rfl rfl k0 ?_
    obtain ⟨c2, h⟩ := h
    have e3 : isK L (rf L ((rf L v0 4)) ((μ v0 3))) (2, 0) := lay_e hL k0 4 rfl c2
    refine wa_aaload 21 24 dX1_note_20 rfl ⟨by decide, by decide⟩ ⟨okA_of e1 c2, isK_pos e3⟩ ?_
    refine wa_astore 23 [(2, v0), (0, v1), (0, v2), (2, v3), (2, v4), (2, (rf L ((rf L v0 4)) ((μ v0 3))))] dX1_note_21 rfl rfl rfl ?_
    refine wa_aload 25 dX1_note_23 rfl rfl ?_
    refine wa_iload_n 26 dX1_note_25 rfl rfl ?_
    refine wa_putN 29 0 dX1_note_26 rfl wF_X1_85 rfl rfl e3 ?_
    refine wa_aload 31 dX1_note_29 rfl rfl ?_
    refine wa_iload_n 32 dX1_note_31 rfl rfl ?_
    refine wa_putN 35 1 dX1_note_32 rfl wF_X1_88 rfl rfl e3 ?_
    refine wa_aload 37 dX1_note_35 rfl rfl ?_
    have e4 : isK L (rf L ((rf L ((rf L v0 4)) ((μ v0 3)))) 2) (7, 0) := lay_f hL e3 2 rfl
    refine wa_getR 40 2 dX1_note_37 rfl wF_X1_91 rfl rfl ⟨e3, isK_pos e4⟩ ?_
    refine wa_aload_n 41 dX1_note_40 rfl rfl ?_
    refine wa_aload 43 dX1_note_41 rfl rfl ?_
    refine wa_callV 46 1 2 7 (av := [(2, v3), (2, v4)]) (rest := []) (k1 := (0, 0)) (k2 := (0, 0)) cvX7_put dX1_note_43 rfl wM_X1_95 ⟨rfl, by decide, rfl, Nat.le_of_ble_eq_true rfl, by decide, Nat.le_of_ble_eq_true rfl, rfl, rfl⟩ rfl e4 (TR.mono h (fun r5 L6 μ7 h => ?_))
    obtain ⟨rfl, rfl, h⟩ := h
    show WA mX1_note 2 (0, 0) 46 [(2, v0), (0, v1), (0, v2), (2, v3), (2, v4), (2, (rf L ((rf L v0 4)) ((μ v0 3))))] [] L μ7 Q
    refine wa_aload_n 47 dX1_note_46 rfl rfl ?_
    refine wa_dup 48 dX1_note_47 rfl (Or.inr rfl) ?_
    refine wa_getI 51 3 dX1_note_48 rfl wF_X1_58 rfl rfl k0 ?_
    refine wa_iconst 52 dX1_note_51 rfl (by decide) ?_
    obtain ⟨c8, h⟩ := h
    refine wa_iadd 53 dX1_note_52 rfl c8 ?_
    refine wa_putN 56 3 dX1_note_53 rfl wF_X1_58 rfl rfl k0 ?_
    exact wa_vret dX1_note_56 rfl h
set_option maxRecDepth 20000 in
theorem t_X1_overlaps (hL : LayOK L) {v0 v1 : Int} (k0 : isK L v0 (1, 0)) (k1 : isK L v1 (7, 0)) (h : TR mX7_isEmpty 2 (0, 0) [(2, v1)] L μ (fun r1 L2 μ3 => ∃ w4, r1 = some (0, w4) ∧ L = L2 ∧ (w4 = 0 → WA mX1_overlaps 3 (0, 0) 11 [(2, v0), (2, v1), (0, 0), (9, 0), (9, 0)] [] L μ3 Q) ∧ (¬ w4 = 0 → Q (some (0, 0)) L μ3))) : TR mX1_overlaps 3 (0, 0) [(2, v0), (2, v1)] L μ Q := by
  refine TR.of (ls := [(2, v0), (2, v1), (9, 0), (9, 0), (9, 0)]) (by decide) (by simp) rfl (Nat.le_of_ble_eq_true rfl) ?_
  refine wa_aload_n 1 dX1_overlaps_0 rfl rfl ?_
  refine wa_callV 4 2 0 7 (av := []) (rest := []) (k1 := (0, 0)) (k2 := (0, 0)) cvX7_isEmpty dX1_overlaps_1 rfl wM_X1_98 ⟨rfl, by decide, rfl, Nat.le_of_ble_eq_true rfl, by decide, Nat.le_of_ble_eq_true rfl, rfl, rfl⟩ rfl k1 (TR.mono h (fun r1 L2 μ3 h => ?_))
  obtain ⟨w4, rfl, rfl, h⟩ := h
  show WA mX1_overlaps 3 (0, 0) 4 [(2, v0), (2, v1), (9, 0), (9, 0), (9, 0)] [(0, w4)] L μ3 Q
  refine wa_if_eq 7 9 dX1_overlaps_4 rfl (by decide) (fun q => ?_) (fun q => ?_)
  · replace h := h.1 q
    refine wa_iconst 10 dX1_overlaps_9 rfl (by decide) ?_
    refine wa_istore_n 11 [(2, v0), (2, v1), (0, 0), (9, 0), (9, 0)] dX1_overlaps_10 rfl rfl rfl ?_
    exact h
  · replace h := h.2 q
    refine wa_iconst 8 dX1_overlaps_7 rfl (by decide) ?_
    exact wa_zret dX1_overlaps_8 rfl (Or.inl rfl) h
set_option maxRecDepth 20000 in
theorem s_X1_overlaps_11 (hL : LayOK L) {v0 v1 v2 : Int} (k0 : isK L v0 (1, 0)) (k1 : isK L v1 (7, 0)) (h : (5 ≤ v2 → Q (some (0, 0)) L μ) ∧ (¬ 5 ≤ v2 → WA mX1_overlaps 3 (0, 0) 18 [(2, v0), (2, v1), (0, v2), (0, 0), (9, 0)] [] L μ Q)) : WA mX1_overlaps 3 (0, 0) 11 [(2, v0), (2, v1), (0, v2), (9, 0), (9, 0)] [] L μ Q := by
  refine wa_iload_n 12 dX1_overlaps_11 rfl rfl ?_
  refine wa_iconst 13 dX1_overlaps_12 rfl (by decide) ?_
  refine wa_icmp_ge 16 88 dX1_overlaps_13 rfl (by decide) (fun q => ?_) (fun q => ?_)
  · replace h := h.1 q
    refine wa_iconst 89 dX1_overlaps_88 rfl (by decide) ?_
    exact wa_zret dX1_overlaps_89 rfl (Or.inl rfl) h
  · replace h := h.2 q
    refine wa_iconst 17 dX1_overlaps_16 rfl (by decide) ?_
    refine wa_istore_n 18 [(2, v0), (2, v1), (0, v2), (0, 0), (9, 0)] dX1_overlaps_17 rfl rfl rfl ?_
    exact h
set_option maxRecDepth 20000 in
theorem s_X1_overlaps_18 (hL : LayOK L) {v0 v1 v2 v3 : Int} (k0 : isK L v0 (1, 0)) (k1 : isK L v1 (7, 0)) (h : (0 ≤ v2 ∧ v2 < 5) ∧ ((μ ((rf L v0 5)) v2) ≤ v3 → (inI (v2 + 1)) ∧ WA mX1_overlaps 3 (0, 0) 11 [(2, v0), (2, v1), (0, (v2 + 1)), (9, 0), (9, 0)] [] L μ Q) ∧ (¬ (μ ((rf L v0 5)) v2) ≤ v3 → TR mX1_held 0 (0, 0) [(2, v0), (0, v2), (0, v3)] L μ (fun r4 L5 μ6 => ∃ w7, r4 = some (2, w7) ∧ L = L5 ∧ isK L w7 (7, 0) ∧ TR mX7_isEmpty 2 (0, 0) [(2, w7)] L μ6 (fun r9 L10 μ11 => ∃ w12, r9 = some (0, w12) ∧ L = L10 ∧ (¬ w12 = 0 → (inI (v3 + 1)) ∧ WA mX1_overlaps 3 (0, 0) 18 [(2, v0), (2, v1), (0, v2), (0, (v3 + 1)), (9, 0)] [] L μ11 Q) ∧ (w12 = 0 → TR mX3_isBelow 1 (0, 0) [(2, (rf L v1 0)), (2, (rf L w7 1))] L μ11 (fun r16 L17 μ18 => ∃ w19, r16 = some (0, w19) ∧ L = L17 ∧ (w19 = 0 → (inI (v3 + 1)) ∧ WA mX1_overlaps 3 (0, 0) 18 [(2, v0), (2, v1), (0, v2), (0, (v3 + 1)), (9, 0)] [] L μ18 Q) ∧ (¬ w19 = 0 → TR mX3_isBelow 1 (0, 0) [(2, (rf L w7 0)), (2, (rf L v1 1))] L μ18 (fun r23 L24 μ25 => ∃ w26, r23 = some (0, w26) ∧ L = L24 ∧ (w26 = 0 → (inI (v3 + 1)) ∧ WA mX1_overlaps 3 (0, 0) 18 [(2, v0), (2, v1), (0, v2), (0, (v3 + 1)), (9, 0)] [] L μ25 Q) ∧ (¬ w26 = 0 → Q (some (0, 1)) L μ25))))))))) : WA mX1_overlaps 3 (0, 0) 18 [(2, v0), (2, v1), (0, v2), (0, v3), (9, 0)] [] L μ Q := by
  refine wa_iload_n 19 dX1_overlaps_18 rfl rfl ?_
  refine wa_aload_n 20 dX1_overlaps_19 rfl rfl ?_
  have e1 : isK L (rf L v0 5) (20, 5) := lay_f hL k0 5 rfl
  refine wa_getR 23 5 dX1_overlaps_20 rfl wF_X1_17 rfl rfl ⟨k0, isK_pos e1⟩ ?_
  refine wa_iload_n 24 dX1_overlaps_23 rfl rfl ?_
  obtain ⟨c2, h⟩ := h
  refine wa_iaload 25 dX1_overlaps_24 rfl (okA_of e1 c2) ?_
  refine wa_icmp_ge 28 82 dX1_overlaps_25 rfl (by decide) (fun q => ?_) (fun q => ?_)
  · replace h := h.1 q
    obtain ⟨c3, h⟩ := h
    refine wa_iinc 85 [(2, v0), (2, v1), (0, (v2 + 1)), (0, v3), (9, 0)] dX1_overlaps_82 rfl rfl rfl c3 rfl ?_
    refine wa_goto 11 dX1_overlaps_85 (by decide) ?_
    exact wa_weak [(2, v0), (2, v1), (0, (v2 + 1)), (9, 0), (9, 0)] ⟨Or.inl rfl, Or.inl rfl, Or.inl rfl, Or.inr rfl, Or.inl rfl, trivial⟩ h
  · replace h := h.2 q
    refine wa_aload_n 29 dX1_overlaps_28 rfl rfl ?_
    refine wa_iload_n 30 dX1_overlaps_29 rfl rfl ?_
    refine wa_iload_n 31 dX1_overlaps_30 rfl rfl ?_
    refine wa_callV 34 0 2 1 (av := [(0, v2), (0, v3)]) (rest := []) (k1 := (0, 0)) (k2 := (0, 0)) cvX1_held dX1_overlaps_31 rfl wM_X1_66 ⟨rfl, by decide, rfl, Nat.le_of_ble_eq_true rfl, by decide, Nat.le_of_ble_eq_true rfl, rfl, rfl⟩ rfl k0 (TR.mono h (fun r4 L5 μ6 h => ?_))
    obtain ⟨w7, rfl, rfl, e8, h⟩ := h
    show WA mX1_overlaps 3 (0, 0) 34 [(2, v0), (2, v1), (0, v2), (0, v3), (9, 0)] [(2, w7)] L μ6 Q
    refine wa_astore 36 [(2, v0), (2, v1), (0, v2), (0, v3), (2, w7)] dX1_overlaps_34 rfl rfl rfl ?_
    refine wa_aload 38 dX1_overlaps_36 rfl rfl ?_
    refine wa_callV 41 2 0 7 (av := []) (rest := []) (k1 := (0, 0)) (k2 := (0, 0)) cvX7_isEmpty dX1_overlaps_38 rfl wM_X1_98 ⟨rfl, by decide, rfl, Nat.le_of_ble_eq_true rfl, by decide, Nat.le_of_ble_eq_true rfl, rfl, rfl⟩ rfl e8 (TR.mono h (fun r9 L10 μ11 h => ?_))
    obtain ⟨w12, rfl, rfl, h⟩ := h
    show WA mX1_overlaps 3 (0, 0) 41 [(2, v0), (2, v1), (0, v2), (0, v3), (2, w7)] [(0, w12)] L μ11 Q
    refine wa_if_ne 44 76 dX1_overlaps_41 rfl (by decide) (fun q => ?_) (fun q => ?_)
    · replace h := h.1 q
      obtain ⟨c13, h⟩ := h
      refine wa_iinc 79 [(2, v0), (2, v1), (0, v2), (0, (v3 + 1)), (2, w7)] dX1_overlaps_76 rfl rfl rfl c13 rfl ?_
      refine wa_goto 18 dX1_overlaps_79 (by decide) ?_
      exact wa_weak [(2, v0), (2, v1), (0, v2), (0, (v3 + 1)), (9, 0)] ⟨Or.inl rfl, Or.inl rfl, Or.inl rfl, Or.inl rfl, Or.inr rfl, trivial⟩ h
    · replace h := h.2 q
      refine wa_aload_n 45 dX1_overlaps_44 rfl rfl ?_
      have e14 : isK L (rf L v1 0) (3, 0) := lay_f hL k1 0 rfl
      refine wa_getR 48 0 dX1_overlaps_45 rfl wF_X1_102 rfl rfl ⟨k1, isK_pos e14⟩ ?_
      refine wa_aload 50 dX1_overlaps_48 rfl rfl ?_
      have e15 : isK L (rf L w7 1) (3, 0) := lay_f hL e8 1 rfl
      refine wa_getR 53 1 dX1_overlaps_50 rfl wF_X1_105 rfl rfl ⟨e8, isK_pos e15⟩ ?_
      refine wa_callV 56 1 1 3 (av := [(2, (rf L w7 1))]) (rest := []) (k1 := (0, 0)) (k2 := (0, 0)) cvX3_isBelow dX1_overlaps_53 rfl wM_X1_108 ⟨rfl, by decide, rfl, Nat.le_of_ble_eq_true rfl, by decide, Nat.le_of_ble_eq_true rfl, rfl, rfl⟩ rfl e14 (TR.mono h (fun r16 L17 μ18 h => ?_))
      obtain ⟨w19, rfl, rfl, h⟩ := h
      show WA mX1_overlaps 3 (0, 0) 56 [(2, v0), (2, v1), (0, v2), (0, v3), (2, w7)] [(0, w19)] L μ18 Q
      refine wa_if_eq 59 76 dX1_overlaps_56 rfl (by decide) (fun q => ?_) (fun q => ?_)
      · replace h := h.1 q
        obtain ⟨c20, h⟩ := h
        refine wa_iinc 79 [(2, v0), (2, v1), (0, v2), (0, (v3 + 1)), (2, w7)] dX1_overlaps_76 rfl rfl rfl c20 rfl ?_
        refine wa_goto 18 dX1_overlaps_79 (by decide) ?_
        exact wa_weak [(2, v0), (2, v1), (0, v2), (0, (v3 + 1)), (9, 0)] ⟨Or.inl rfl, Or.inl rfl, Or.inl rfl, Or.inl rfl, Or.inr rfl, trivial⟩ h
      · replace h := h.2 q
        refine wa_aload 61 dX1_overlaps_59 rfl rfl ?_
        have e21 : isK L (rf L w7 0) (3, 0) := lay_f hL e8 0 rfl
        refine wa_getR 64 0 dX1_overlaps_61 rfl wF_X1_102 rfl rfl ⟨e8, isK_pos e21⟩ ?_
        refine wa_aload_n 65 dX1_overlaps_64 rfl rfl ?_
        have e22 : isK L (rf L v1 1) (3, 0) := lay_f hL k1 1 rfl
        refine wa_getR 68 1 dX1_overlaps_65 rfl wF_X1_105 rfl rfl ⟨k1, isK_pos e22⟩ ?_
        refine wa_callV 71 1 1 3 (av := [(2, (rf L v1 1))]) (rest := []) (k1 := (0, 0)) (k2 := (0, 0)) cvX3_isBelow dX1_overlaps_68 rfl wM_X1_108 ⟨rfl, by decide, rfl, Nat.le_of_ble_eq_true rfl, by decide, Nat.le_of_ble_eq_true rfl, rfl, rfl⟩ rfl e21 (TR.mono h (fun r23 L24 μ25 h => ?_))
        obtain ⟨w26, rfl, rfl, h⟩ := h
        show WA mX1_overlaps 3 (0, 0) 71 [(2, v0), (2, v1), (0, v2), (0, v3), (2, w7)] [(0, w26)] L μ25 Q
        refine wa_if_eq 74 76 dX1_overlaps_71 rfl (by decide) (fun q => ?_) (fun q => ?_)
        · replace h := h.1 q
          obtain ⟨c27, h⟩ := h
          refine wa_iinc 79 [(2, v0), (2, v1), (0, v2), (0, (v3 + 1)), (2, w7)] dX1_overlaps_76 rfl rfl rfl c27 rfl ?_
          refine wa_goto 18 dX1_overlaps_79 (by decide) ?_
          exact wa_weak [(2, v0), (2, v1), (0, v2), (0, (v3 + 1)), (9, 0)] ⟨Or.inl rfl, Or.inl rfl, Or.inl rfl, Or.inl rfl, Or.inr rfl, trivial⟩ h
        · replace h := h.2 q
          refine wa_iconst 75 dX1_overlaps_74 rfl (by decide) ?_
          exact wa_zret dX1_overlaps_75 rfl (Or.inr rfl) h
set_option maxRecDepth 20000 in
theorem t_X1_see (hL : LayOK L) {v0 v1 v2 v3 : Int} (k0 : isK L v0 (1, 0)) (k1 : isK L v1 (3, 0)) (h : TR mX3_isAt 0 (0, 0) [(2, v1), (1, 0), (1, 1)] L μ (fun r1 L2 μ3 => ∃ w4, r1 = some (0, w4) ∧ L = L2 ∧ (¬ w4 = 0 → Q (some (0, v2)) L μ3) ∧ (w4 = 0 → TR mX3_isAt 0 (0, 0) [(2, v1), (1, v3), (1, 1)] L μ3 (fun r5 L6 μ7 => ∃ w8, r5 = some (0, w8) ∧ L = L6 ∧ (w8 = 0 → WA mX1_see 1 (0, 0) 24 [(2, v0), (2, v1), (0, v2), (9, 0), (0, 0)] [] L μ7 Q) ∧ (¬ w8 = 0 → Q (some (0, v2)) L μ7))))) : TR mX1_see 1 (0, 0) [(2, v0), (2, v1), (0, v2), (0, v3)] L μ Q := by
  refine TR.of (ls := [(2, v0), (2, v1), (0, v2), (0, v3), (9, 0)]) (by decide) (by simp) rfl (Nat.le_of_ble_eq_true rfl) ?_
  refine wa_aload_n 1 dX1_see_0 rfl rfl ?_
  refine wa_lconst 2 0 dX1_see_1 rfl ⟨rfl, by decide⟩ ?_
  refine wa_lconst 3 1 dX1_see_2 rfl ⟨rfl, by decide⟩ ?_
  refine wa_callV 6 0 2 3 (av := [(1, 0), (1, 1)]) (rest := []) (k1 := (0, 0)) (k2 := (0, 0)) cvX3_isAt dX1_see_3 rfl wM_X1_130 ⟨rfl, by decide, rfl, Nat.le_of_ble_eq_true rfl, by decide, Nat.le_of_ble_eq_true rfl, rfl, rfl⟩ rfl k1 (TR.mono h (fun r1 L2 μ3 h => ?_))
  obtain ⟨w4, rfl, rfl, h⟩ := h
  show WA mX1_see 1 (0, 0) 6 [(2, v0), (2, v1), (0, v2), (0, v3), (9, 0)] [(0, w4)] L μ3 Q
  refine wa_if_ne 9 19 dX1_see_6 rfl (by decide) (fun q => ?_) (fun q => ?_)
  · replace h := h.1 q
    refine wa_iload_n 20 dX1_see_19 rfl rfl ?_
    exact wa_iret dX1_see_20 rfl h
  · replace h := h.2 q
    refine wa_aload_n 10 dX1_see_9 rfl rfl ?_
    refine wa_iload_n 11 dX1_see_10 rfl rfl ?_
    refine wa_i2l 12 dX1_see_11 rfl ?_
    refine wa_lconst 13 1 dX1_see_12 rfl ⟨rfl, by decide⟩ ?_
    refine wa_callV 16 0 2 3 (av := [(1, v3), (1, 1)]) (rest := []) (k1 := (0, 0)) (k2 := (0, 0)) cvX3_isAt dX1_see_13 rfl wM_X1_130 ⟨rfl, by decide, rfl, Nat.le_of_ble_eq_true rfl, by decide, Nat.le_of_ble_eq_true rfl, rfl, rfl⟩ rfl k1 (TR.mono h (fun r5 L6 μ7 h => ?_))
    obtain ⟨w8, rfl, rfl, h⟩ := h
    show WA mX1_see 1 (0, 0) 16 [(2, v0), (2, v1), (0, v2), (0, v3), (9, 0)] [(0, w8)] L μ7 Q
    refine wa_if_eq 19 21 dX1_see_16 rfl (by decide) (fun q => ?_) (fun q => ?_)
    · replace h := h.1 q
      refine wa_iconst 22 dX1_see_21 rfl (by decide) ?_
      refine wa_istore 24 [(2, v0), (2, v1), (0, v2), (0, v3), (0, 0)] dX1_see_22 rfl rfl rfl ?_
      exact wa_weak [(2, v0), (2, v1), (0, v2), (9, 0), (0, 0)] ⟨Or.inl rfl, Or.inl rfl, Or.inl rfl, Or.inr rfl, Or.inl rfl, trivial⟩ h
    · replace h := h.2 q
      refine wa_iload_n 20 dX1_see_19 rfl rfl ?_
      exact wa_iret dX1_see_20 rfl h
set_option maxRecDepth 20000 in
theorem s_X1_see_24 (hL : LayOK L) {v0 v1 v2 v4 : Int} (k0 : isK L v0 (1, 0)) (k1 : isK L v1 (3, 0)) (h : (v2 ≤ v4 → (v2 < 20 → (0 ≤ v2 ∧ v2 < 20) ∧ TR mX3_copy 0 (0, 0) [(2, (rf L ((rf L v0 7)) v2)), (2, v1)] L μ (fun r4 L5 μ6 => r4 = none ∧ L = L5 ∧ (inI (v2 + 1)) ∧ Q (some (0, (v2 + 1))) L μ6)) ∧ (¬ v2 < 20 → Q (some (0, v2)) L μ)) ∧ (¬ v2 ≤ v4 → (0 ≤ v4 ∧ v4 < 20) ∧ TR mX3_isAt 0 (0, 0) [(2, (rf L ((rf L v0 7)) v4)), (1, (μ v1 0)), (1, (μ v1 1))] L μ (fun r11 L12 μ13 => ∃ w14, r11 = some (0, w14) ∧ L = L12 ∧ (w14 = 0 → (inI (v4 + 1)) ∧ WA mX1_see 1 (0, 0) 24 [(2, v0), (2, v1), (0, v2), (9, 0), (0, (v4 + 1))] [] L μ13 Q) ∧ (¬ w14 = 0 → Q (some (0, v2)) L μ13)))) : WA mX1_see 1 (0, 0) 24 [(2, v0), (2, v1), (0, v2), (9, 0), (0, v4)] [] L μ Q := by
  refine wa_iload 26 dX1_see_24 rfl rfl ?_
  refine wa_iload_n 27 dX1_see_26 rfl rfl ?_
  refine wa_icmp_ge 30 59 dX1_see_27 rfl (by decide) (fun q => ?_) (fun q => ?_)
  · replace h := h.1 q
    refine wa_iload_n 60 dX1_see_59 rfl rfl ?_
    refine wa_aload_n 61 dX1_see_60 rfl rfl ?_
    have e1 : isK L (rf L v0 7) (26, 20) := lay_f hL k0 7 rfl
    refine wa_getR 64 7 dX1_see_61 rfl wF_X1_29 rfl rfl ⟨k0, isK_pos e1⟩ ?_
    refine wa_alen 65 dX1_see_64 rfl ⟨e1.1, e1.2.1, by rw [e1.2.2], by rw [e1.2.2]; decide, by decide, by decide⟩ ?_
    refine wa_icmp_lt 68 70 dX1_see_65 rfl (by decide) (fun q => ?_) (fun q => ?_)
    · replace h := h.1 q
      refine wa_aload_n 71 dX1_see_70 rfl rfl ?_
      refine wa_getR 74 7 dX1_see_71 rfl wF_X1_29 rfl rfl ⟨k0, isK_pos e1⟩ ?_
      refine wa_iload_n 75 dX1_see_74 rfl rfl ?_
      obtain ⟨c2, h⟩ := h
      have e3 : isK L (rf L ((rf L v0 7)) v2) (3, 0) := lay_e hL k0 7 rfl c2
      refine wa_aaload 76 26 dX1_see_75 rfl ⟨by decide, by decide⟩ ⟨okA_of e1 c2, isK_pos e3⟩ ?_
      refine wa_aload_n 77 dX1_see_76 rfl rfl ?_
      refine wa_callV 80 0 1 3 (av := [(2, v1)]) (rest := []) (k1 := (0, 0)) (k2 := (0, 0)) cvX3_copy dX1_see_77 rfl wM_X1_134 ⟨rfl, by decide, rfl, Nat.le_of_ble_eq_true rfl, by decide, Nat.le_of_ble_eq_true rfl, rfl, rfl⟩ rfl e3 (TR.mono h (fun r4 L5 μ6 h => ?_))
      obtain ⟨rfl, rfl, h⟩ := h
      show WA mX1_see 1 (0, 0) 80 [(2, v0), (2, v1), (0, v2), (9, 0), (0, v4)] [] L μ6 Q
      refine wa_iload_n 81 dX1_see_80 rfl rfl ?_
      refine wa_iconst 82 dX1_see_81 rfl (by decide) ?_
      obtain ⟨c7, h⟩ := h
      refine wa_iadd 83 dX1_see_82 rfl c7 ?_
      exact wa_iret dX1_see_83 rfl h
    · replace h := h.2 q
      refine wa_iload_n 69 dX1_see_68 rfl rfl ?_
      exact wa_iret dX1_see_69 rfl h
  · replace h := h.2 q
    refine wa_aload_n 31 dX1_see_30 rfl rfl ?_
    have e8 : isK L (rf L v0 7) (26, 20) := lay_f hL k0 7 rfl
    refine wa_getR 34 7 dX1_see_31 rfl wF_X1_29 rfl rfl ⟨k0, isK_pos e8⟩ ?_
    refine wa_iload 36 dX1_see_34 rfl rfl ?_
    obtain ⟨c9, h⟩ := h
    have e10 : isK L (rf L ((rf L v0 7)) v4) (3, 0) := lay_e hL k0 7 rfl c9
    refine wa_aaload 37 26 dX1_see_36 rfl ⟨by decide, by decide⟩ ⟨okA_of e8 c9, isK_pos e10⟩ ?_
    refine wa_aload_n 38 dX1_see_37 rfl rfl ?_
    refine wa_getL 41 0 dX1_see_38 rfl wF_X1_82 rfl rfl k1 ?_
    refine wa_aload_n 42 dX1_see_41 rfl rfl ?_
    refine wa_getL 45 1 dX1_see_42 rfl wF_X1_73 rfl rfl k1 ?_
    refine wa_callV 48 0 2 3 (av := [(1, (μ v1 0)), (1, (μ v1 1))]) (rest := []) (k1 := (0, 0)) (k2 := (0, 0)) cvX3_isAt dX1_see_45 rfl wM_X1_130 ⟨rfl, by decide, rfl, Nat.le_of_ble_eq_true rfl, by decide, Nat.le_of_ble_eq_true rfl, rfl, rfl⟩ rfl e10 (TR.mono h (fun r11 L12 μ13 h => ?_))
    obtain ⟨w14, rfl, rfl, h⟩ := h
    show WA mX1_see 1 (0, 0) 48 [(2, v0), (2, v1), (0, v2), (9, 0), (0, v4)] [(0, w14)] L μ13 Q
    refine wa_if_eq 51 53 dX1_see_48 rfl (by decide) (fun q => ?_) (fun q => ?_)
    · replace h := h.1 q
      obtain ⟨c15, h⟩ := h
      refine wa_iinc 56 [(2, v0), (2, v1), (0, v2), (9, 0), (0, (v4 + 1))] dX1_see_53 rfl rfl rfl c15 rfl ?_
      refine wa_goto 24 dX1_see_56 (by decide) ?_
      exact h
    · replace h := h.2 q
      refine wa_iload_n 52 dX1_see_51 rfl rfl ?_
      exact wa_iret dX1_see_52 rfl h
set_option maxRecDepth 20000 in
theorem t_X1_takesIn (hL : LayOK L) {v0 v1 : Int} (k0 : isK L v0 (1, 0)) (k1 : isK L v1 (3, 0)) (h : TR mX3_put 1 (0, 0) [(2, (rf L v0 9)), (1, (μ v0 2)), (1, (μ v1 1))] L μ (fun r2 L3 μ4 => r2 = none ∧ L = L3 ∧ (1000000000 < (μ v1 1) → Q (some (0, 0)) L (up μ4 v0 1 1)) ∧ (¬ 1000000000 < (μ v1 1) → (inL ((μ4 ((rf L v0 9)) 0) * (μ v1 1))) ∧ (((μ4 ((rf L v0 9)) 0) * (μ v1 1)) ≤ 1000000000 → Q (some (0, 1)) L (up μ4 v0 2 (((μ4 ((rf L v0 9)) 0) * (μ v1 1))))) ∧ (¬ ((μ4 ((rf L v0 9)) 0) * (μ v1 1)) ≤ 1000000000 → Q (some (0, 0)) L (up μ4 v0 1 1))))) : TR mX1_takesIn 2 (0, 0) [(2, v0), (2, v1)] L μ Q := by
  refine TR.of (ls := [(2, v0), (2, v1), (9, 0), (9, 0)]) (by decide) (by simp) rfl (Nat.le_of_ble_eq_true rfl) ?_
  refine wa_aload_n 1 dX1_takesIn_0 rfl rfl ?_
  refine wa_getL 4 1 dX1_takesIn_1 rfl wF_X1_73 rfl rfl k1 ?_
  refine wa_lstore_n 5 [(2, v0), (2, v1), (1, (μ v1 1)), (9, 0)] dX1_takesIn_4 rfl rfl rfl ?_
  refine wa_aload_n 6 dX1_takesIn_5 rfl rfl ?_
  have e1 : isK L (rf L v0 9) (3, 0) := lay_f hL k0 9 rfl
  refine wa_getR 9 9 dX1_takesIn_6 rfl wF_X1_38 rfl rfl ⟨k0, isK_pos e1⟩ ?_
  refine wa_aload_n 10 dX1_takesIn_9 rfl rfl ?_
  refine wa_getL 13 2 dX1_takesIn_10 rfl wF_X1_54 rfl rfl k0 ?_
  refine wa_lload_n 14 dX1_takesIn_13 rfl rfl ?_
  refine wa_callV 17 1 2 3 (av := [(1, (μ v0 2)), (1, (μ v1 1))]) (rest := []) (k1 := (0, 0)) (k2 := (0, 0)) cvX3_put dX1_takesIn_14 rfl wM_X1_76 ⟨rfl, by decide, rfl, Nat.le_of_ble_eq_true rfl, by decide, Nat.le_of_ble_eq_true rfl, rfl, rfl⟩ rfl e1 (TR.mono h (fun r2 L3 μ4 h => ?_))
  obtain ⟨rfl, rfl, h⟩ := h
  show WA mX1_takesIn 2 (0, 0) 17 [(2, v0), (2, v1), (1, (μ v1 1)), (9, 0)] [] L μ4 Q
  refine wa_lload_n 18 dX1_takesIn_17 rfl rfl ?_
  refine wa_ldc2 21 1000000000 dX1_takesIn_18 rfl wJ_X1_80 ⟨rfl, by decide⟩ ?_
  refine wa_lc_gt 25 41 dX1_takesIn_21 dX1_takesIn_22 rfl (by decide) (fun q => ?_) (fun q => ?_)
  · replace h := h.1 q
    refine wa_aload_n 42 dX1_takesIn_41 rfl rfl ?_
    refine wa_iconst 43 dX1_takesIn_42 rfl (by decide) ?_
    refine wa_putI 46 1 dX1_takesIn_43 rfl wF_X1_51 rfl rfl k0 (Or.inr rfl) ?_
    refine wa_iconst 47 dX1_takesIn_46 rfl (by decide) ?_
    exact wa_zret dX1_takesIn_47 rfl (Or.inl rfl) h
  · replace h := h.2 q
    refine wa_aload_n 26 dX1_takesIn_25 rfl rfl ?_
    refine wa_getR 29 9 dX1_takesIn_26 rfl wF_X1_38 rfl rfl ⟨k0, isK_pos e1⟩ ?_
    refine wa_getL 32 0 dX1_takesIn_29 rfl wF_X1_82 rfl rfl e1 ?_
    refine wa_lload_n 33 dX1_takesIn_32 rfl rfl ?_
    obtain ⟨c5, h⟩ := h
    refine wa_lmul 34 dX1_takesIn_33 rfl c5 ?_
    refine wa_ldc2 37 1000000000 dX1_takesIn_34 rfl wJ_X1_80 ⟨rfl, by decide⟩ ?_
    refine wa_lc_le 41 48 dX1_takesIn_37 dX1_takesIn_38 rfl (by decide) (fun q => ?_) (fun q => ?_)
    · replace h := h.1 q
      refine wa_aload_n 49 dX1_takesIn_48 rfl rfl ?_
      refine wa_aload_n 50 dX1_takesIn_49 rfl rfl ?_
      refine wa_getR 53 9 dX1_takesIn_50 rfl wF_X1_38 rfl rfl ⟨k0, isK_pos e1⟩ ?_
      refine wa_getL 56 0 dX1_takesIn_53 rfl wF_X1_82 rfl rfl e1 ?_
      refine wa_lload_n 57 dX1_takesIn_56 rfl rfl ?_
      refine wa_lmul 58 dX1_takesIn_57 rfl c5 ?_
      refine wa_putL 61 2 dX1_takesIn_58 rfl wF_X1_54 rfl rfl k0 ?_
      refine wa_iconst 62 dX1_takesIn_61 rfl (by decide) ?_
      exact wa_zret dX1_takesIn_62 rfl (Or.inr rfl) h
    · replace h := h.2 q
      refine wa_aload_n 42 dX1_takesIn_41 rfl rfl ?_
      refine wa_iconst 43 dX1_takesIn_42 rfl (by decide) ?_
      refine wa_putI 46 1 dX1_takesIn_43 rfl wF_X1_51 rfl rfl k0 (Or.inr rfl) ?_
      refine wa_iconst 47 dX1_takesIn_46 rfl (by decide) ?_
      exact wa_zret dX1_takesIn_47 rfl (Or.inl rfl) h
set_option maxRecDepth 20000 in
theorem t_X1_together (hL : LayOK L) {v0 v1 v2 : Int} (k0 : isK L v0 (1, 0)) (h : (inI (v2 - 1)) ∧ WA mX1_together 0 (0, 0) 13 [(2, v0), (9, 0), (0, v2), (0, 0), (1, 0), (9, 0), (0, v1), (0, (v2 - 1)), (9, 0)] [] L μ Q) : TR mX1_together 0 (0, 0) [(2, v0), (0, v1), (0, v2)] L μ Q := by
  refine TR.of (ls := [(2, v0), (0, v1), (0, v2), (9, 0), (9, 0), (9, 0), (9, 0), (9, 0), (9, 0)]) (by decide) (by simp) rfl (Nat.le_of_ble_eq_true rfl) ?_
  refine wa_iconst 1 dX1_together_0 rfl (by decide) ?_
  refine wa_istore_n 2 [(2, v0), (0, v1), (0, v2), (0, 0), (9, 0), (9, 0), (9, 0), (9, 0), (9, 0)] dX1_together_1 rfl rfl rfl ?_
  refine wa_lconst 3 0 dX1_together_2 rfl ⟨rfl, by decide⟩ ?_
  refine wa_lstore 5 [(2, v0), (0, v1), (0, v2), (0, 0), (1, 0), (9, 0), (9, 0), (9, 0), (9, 0)] dX1_together_3 rfl rfl rfl ?_
  refine wa_iload_n 6 dX1_together_5 rfl rfl ?_
  refine wa_istore 8 [(2, v0), (0, v1), (0, v2), (0, 0), (1, 0), (9, 0), (0, v1), (9, 0), (9, 0)] dX1_together_6 rfl rfl rfl ?_
  refine wa_iload_n 9 dX1_together_8 rfl rfl ?_
  refine wa_iconst 10 dX1_together_9 rfl (by decide) ?_
  obtain ⟨c1, h⟩ := h
  refine wa_isub 11 dX1_together_10 rfl c1 ?_
  refine wa_istore 13 [(2, v0), (0, v1), (0, v2), (0, 0), (1, 0), (9, 0), (0, v1), (0, (v2 - 1)), (9, 0)] dX1_together_11 rfl rfl rfl ?_
  exact wa_weak [(2, v0), (9, 0), (0, v2), (0, 0), (1, 0), (9, 0), (0, v1), (0, (v2 - 1)), (9, 0)] ⟨Or.inl rfl, Or.inr rfl, Or.inl rfl, Or.inl rfl, Or.inl rfl, Or.inl rfl, Or.inl rfl, Or.inl rfl, Or.inl rfl, trivial⟩ h
set_option maxRecDepth 20000 in
theorem s_X1_together_13 (hL : LayOK L) {v0 v2 v3 v4 v6 v7 : Int} (k0 : isK L v0 (1, 0)) (h : (v7 < 0 → (inI ((bShl 1 v2) - 1)) ∧ (¬ v3 = ((bShl 1 v2) - 1) → Q (some (1, (-1))) L μ) ∧ (v3 = ((bShl 1 v2) - 1) → Q (some (1, v4)) L μ)) ∧ (¬ v7 < 0 → (0 ≤ v6 ∧ 0 < v2) ∧ (inI (v7 * 5)) ∧ (inI ((v7 * 5) + (v6 % v2))) ∧ (0 ≤ ((v7 * 5) + (v6 % v2)) ∧ ((v7 * 5) + (v6 % v2)) < 25) ∧ (inL (v4 + (μ ((rf L v0 8)) (((v7 * 5) + (v6 % v2)))))) ∧ (inI (v7 + (-1))) ∧ WA mX1_together 0 (0, 0) 13 [(2, v0), (9, 0), (0, v2), (0, (bOr v3 ((bShl 1 ((v6 % v2)))))), (1, (v4 + (μ ((rf L v0 8)) (((v7 * 5) + (v6 % v2)))))), (9, 0), (0, (v6 / v2)), (0, (v7 + (-1))), (9, 0)] [] L μ Q)) : WA mX1_together 0 (0, 0) 13 [(2, v0), (9, 0), (0, v2), (0, v3), (1, v4), (9, 0), (0, v6), (0, v7), (9, 0)] [] L μ Q := by
  refine wa_iload 15 dX1_together_13 rfl rfl ?_
  refine wa_if_lt 18 60 dX1_together_15 rfl (by decide) (fun q => ?_) (fun q => ?_)
  · replace h := h.1 q
    refine wa_iload_n 61 dX1_together_60 rfl rfl ?_
    refine wa_iconst 62 dX1_together_61 rfl (by decide) ?_
    refine wa_iload_n 63 dX1_together_62 rfl rfl ?_
    refine wa_ishl 64 dX1_together_63 rfl ?_
    refine wa_iconst 65 dX1_together_64 rfl (by decide) ?_
    obtain ⟨c1, h⟩ := h
    refine wa_isub 66 dX1_together_65 rfl c1 ?_
    refine wa_icmp_ne 69 74 dX1_together_66 rfl (by decide) (fun q => ?_) (fun q => ?_)
    · replace h := h.1 q
      refine wa_ldc2 77 (-1) dX1_together_74 rfl wJ_X1_144 ⟨rfl, by decide⟩ ?_
      exact wa_lret dX1_together_77 rfl h
    · replace h := h.2 q
      refine wa_lload 71 dX1_together_69 rfl rfl ?_
      refine wa_goto 77 dX1_together_71 (by decide) ?_
      exact wa_lret dX1_together_77 rfl h
  · replace h := h.2 q
    refine wa_iload 20 dX1_together_18 rfl rfl ?_
    refine wa_iload_n 21 dX1_together_20 rfl rfl ?_
    obtain ⟨c2, h⟩ := h
    refine wa_iremE 22 dX1_together_21 rfl c2 ?_
    refine wa_istore 24 [(2, v0), (9, 0), (0, v2), (0, v3), (1, v4), (9, 0), (0, v6), (0, v7), (0, (v6 % v2))] dX1_together_22 rfl rfl rfl ?_
    refine wa_iload 26 dX1_together_24 rfl rfl ?_
    refine wa_iload_n 27 dX1_together_26 rfl rfl ?_
    refine wa_idivE 28 dX1_together_27 rfl c2 ?_
    refine wa_istore 30 [(2, v0), (9, 0), (0, v2), (0, v3), (1, v4), (9, 0), (0, (v6 / v2)), (0, v7), (0, (v6 % v2))] dX1_together_28 rfl rfl rfl ?_
    refine wa_iload_n 31 dX1_together_30 rfl rfl ?_
    refine wa_iconst 32 dX1_together_31 rfl (by decide) ?_
    refine wa_iload 34 dX1_together_32 rfl rfl ?_
    refine wa_ishl 35 dX1_together_34 rfl ?_
    refine wa_ior 36 dX1_together_35 rfl ?_
    refine wa_istore_n 37 [(2, v0), (9, 0), (0, v2), (0, (bOr v3 ((bShl 1 ((v6 % v2)))))), (1, v4), (9, 0), (0, (v6 / v2)), (0, v7), (0, (v6 % v2))] dX1_together_36 rfl rfl rfl ?_
    refine wa_lload 39 dX1_together_37 rfl rfl ?_
    refine wa_aload_n 40 dX1_together_39 rfl rfl ?_
    have e3 : isK L (rf L v0 8) (21, 25) := lay_f hL k0 8 rfl
    refine wa_getR 43 8 dX1_together_40 rfl wF_X1_33 rfl rfl ⟨k0, isK_pos e3⟩ ?_
    refine wa_iload 45 dX1_together_43 rfl rfl ?_
    refine wa_iconst 46 dX1_together_45 rfl (by decide) ?_
    obtain ⟨c4, h⟩ := h
    refine wa_imul 47 dX1_together_46 rfl c4 ?_
    refine wa_iload 49 dX1_together_47 rfl rfl ?_
    obtain ⟨c5, h⟩ := h
    refine wa_iadd 50 dX1_together_49 rfl c5 ?_
    obtain ⟨c6, h⟩ := h
    refine wa_laload 51 dX1_together_50 rfl (okA_of e3 c6) ?_
    obtain ⟨c7, h⟩ := h
    refine wa_ladd 52 dX1_together_51 rfl c7 ?_
    refine wa_lstore 54 [(2, v0), (9, 0), (0, v2), (0, (bOr v3 ((bShl 1 ((v6 % v2)))))), (1, (v4 + (μ ((rf L v0 8)) (((v7 * 5) + (v6 % v2)))))), (9, 0), (0, (v6 / v2)), (0, v7), (0, (v6 % v2))] dX1_together_52 rfl rfl rfl ?_
    obtain ⟨c8, h⟩ := h
    refine wa_iinc 57 [(2, v0), (9, 0), (0, v2), (0, (bOr v3 ((bShl 1 ((v6 % v2)))))), (1, (v4 + (μ ((rf L v0 8)) (((v7 * 5) + (v6 % v2)))))), (9, 0), (0, (v6 / v2)), (0, (v7 + (-1))), (0, (v6 % v2))] dX1_together_54 rfl rfl rfl c8 rfl ?_
    refine wa_goto 13 dX1_together_57 (by decide) ?_
    exact wa_weak [(2, v0), (9, 0), (0, v2), (0, (bOr v3 ((bShl 1 ((v6 % v2)))))), (1, (v4 + (μ ((rf L v0 8)) (((v7 * 5) + (v6 % v2)))))), (9, 0), (0, (v6 / v2)), (0, (v7 + (-1))), (9, 0)] ⟨Or.inl rfl, Or.inl rfl, Or.inl rfl, Or.inl rfl, Or.inl rfl, Or.inl rfl, Or.inl rfl, Or.inl rfl, Or.inr rfl, trivial⟩ h
set_option maxRecDepth 20000 in
theorem t_X1_trimmedOff (hL : LayOK L) {v0 v1 v2 : Int} (k0 : isK L v0 (1, 0)) (k1 : isK L v1 (0, 0)) (k2 : isK L v2 (20, 16)) (h : WA mX1_trimmedOff 3 (0, 0) 5 [(2, v0), (2, v1), (2, v2), (1, 0), (9, 0), (0, 0)] [] L μ Q) : TR mX1_trimmedOff 3 (0, 0) [(2, v0), (2, v1), (2, v2)] L μ Q := by
  refine TR.of (ls := [(2, v0), (2, v1), (2, v2), (9, 0), (9, 0), (9, 0)]) (by decide) (by simp) rfl (Nat.le_of_ble_eq_true rfl) ?_
  refine wa_lconst 1 0 dX1_trimmedOff_0 rfl ⟨rfl, by decide⟩ ?_
  refine wa_lstore_n 2 [(2, v0), (2, v1), (2, v2), (1, 0), (9, 0), (9, 0)] dX1_trimmedOff_1 rfl rfl rfl ?_
  refine wa_iconst 3 dX1_trimmedOff_2 rfl (by decide) ?_
  refine wa_istore 5 [(2, v0), (2, v1), (2, v2), (1, 0), (9, 0), (0, 0)] dX1_trimmedOff_3 rfl rfl rfl ?_
  exact h
set_option maxRecDepth 20000 in
theorem s_X1_trimmedOff_5 (hL : LayOK L) {v0 v1 v2 v3 v5 : Int} (k0 : isK L v0 (1, 0)) (k1 : isK L v1 (0, 0)) (k2 : isK L v2 (20, 16)) (h : ((μ v0 3) ≤ v5 → Q (some (1, v3)) L μ) ∧ (¬ (μ v0 3) ≤ v5 → (0 ≤ v5 ∧ v5 < 19) ∧ (¬ (μ ((rf L ((rf L v0 4)) v5)) 0) = 1 → (inI (v5 + 1)) ∧ WA mX1_trimmedOff 3 (0, 0) 5 [(2, v0), (2, v1), (2, v2), (1, v3), (9, 0), (0, (v5 + 1))] [] L μ Q) ∧ ((μ ((rf L ((rf L v0 4)) v5)) 0) = 1 → TR mX0_between 2 (0, 0) [(2, v1), (2, v2), (2, (rf L ((rf L ((rf L ((rf L v0 4)) v5)) 2)) 0)), (2, (rf L ((rf L ((rf L ((rf L v0 4)) v5)) 2)) 1)), (1, (μ v0 2))] L μ (fun r8 L9 μ10 => ∃ w11, r8 = some (1, w11) ∧ L = L9 ∧ (inL (v3 + w11)) ∧ (inI (v5 + 1)) ∧ WA mX1_trimmedOff 3 (0, 0) 5 [(2, v0), (2, v1), (2, v2), (1, (v3 + w11)), (9, 0), (0, (v5 + 1))] [] L μ10 Q)))) : WA mX1_trimmedOff 3 (0, 0) 5 [(2, v0), (2, v1), (2, v2), (1, v3), (9, 0), (0, v5)] [] L μ Q := by
  refine wa_iload 7 dX1_trimmedOff_5 rfl rfl ?_
  refine wa_aload_n 8 dX1_trimmedOff_7 rfl rfl ?_
  refine wa_getI 11 3 dX1_trimmedOff_8 rfl wF_X1_58 rfl rfl k0 ?_
  refine wa_icmp_ge 14 72 dX1_trimmedOff_11 rfl (by decide) (fun q => ?_) (fun q => ?_)
  · replace h := h.1 q
    refine wa_lload_n 73 dX1_trimmedOff_72 rfl rfl ?_
    exact wa_lret dX1_trimmedOff_73 rfl h
  · replace h := h.2 q
    refine wa_aload_n 15 dX1_trimmedOff_14 rfl rfl ?_
    have e1 : isK L (rf L v0 4) (24, 19) := lay_f hL k0 4 rfl
    refine wa_getR 18 4 dX1_trimmedOff_15 rfl wF_X1_13 rfl rfl ⟨k0, isK_pos e1⟩ ?_
    refine wa_iload 20 dX1_trimmedOff_18 rfl rfl ?_
    obtain ⟨c2, h⟩ := h
    have e3 : isK L (rf L ((rf L v0 4)) v5) (2, 0) := lay_e hL k0 4 rfl c2
    refine wa_aaload 21 24 dX1_trimmedOff_20 rfl ⟨by decide, by decide⟩ ⟨okA_of e1 c2, isK_pos e3⟩ ?_
    refine wa_getI 24 0 dX1_trimmedOff_21 rfl wF_X1_85 rfl rfl e3 ?_
    refine wa_iconst 25 dX1_trimmedOff_24 rfl (by decide) ?_
    refine wa_icmp_ne 28 66 dX1_trimmedOff_25 rfl (by decide) (fun q => ?_) (fun q => ?_)
    · replace h := h.1 q
      obtain ⟨c4, h⟩ := h
      refine wa_iinc 69 [(2, v0), (2, v1), (2, v2), (1, v3), (9, 0), (0, (v5 + 1))] dX1_trimmedOff_66 rfl rfl rfl c4 rfl ?_
      refine wa_goto 5 dX1_trimmedOff_69 (by decide) ?_
      exact h
    · replace h := h.2 q
      refine wa_lload_n 29 dX1_trimmedOff_28 rfl rfl ?_
      refine wa_aload_n 30 dX1_trimmedOff_29 rfl rfl ?_
      refine wa_aload_n 31 dX1_trimmedOff_30 rfl rfl ?_
      refine wa_aload_n 32 dX1_trimmedOff_31 rfl rfl ?_
      refine wa_getR 35 4 dX1_trimmedOff_32 rfl wF_X1_13 rfl rfl ⟨k0, isK_pos e1⟩ ?_
      refine wa_iload 37 dX1_trimmedOff_35 rfl rfl ?_
      refine wa_aaload 38 24 dX1_trimmedOff_37 rfl ⟨by decide, by decide⟩ ⟨okA_of e1 c2, isK_pos e3⟩ ?_
      have e5 : isK L (rf L ((rf L ((rf L v0 4)) v5)) 2) (7, 0) := lay_f hL e3 2 rfl
      refine wa_getR 41 2 dX1_trimmedOff_38 rfl wF_X1_91 rfl rfl ⟨e3, isK_pos e5⟩ ?_
      have e6 : isK L (rf L ((rf L ((rf L ((rf L v0 4)) v5)) 2)) 0) (3, 0) := lay_f hL e5 0 rfl
      refine wa_getR 44 0 dX1_trimmedOff_41 rfl wF_X1_102 rfl rfl ⟨e5, isK_pos e6⟩ ?_
      refine wa_aload_n 45 dX1_trimmedOff_44 rfl rfl ?_
      refine wa_getR 48 4 dX1_trimmedOff_45 rfl wF_X1_13 rfl rfl ⟨k0, isK_pos e1⟩ ?_
      refine wa_iload 50 dX1_trimmedOff_48 rfl rfl ?_
      refine wa_aaload 51 24 dX1_trimmedOff_50 rfl ⟨by decide, by decide⟩ ⟨okA_of e1 c2, isK_pos e3⟩ ?_
      refine wa_getR 54 2 dX1_trimmedOff_51 rfl wF_X1_91 rfl rfl ⟨e3, isK_pos e5⟩ ?_
      have e7 : isK L (rf L ((rf L ((rf L ((rf L v0 4)) v5)) 2)) 1) (3, 0) := lay_f hL e5 1 rfl
      refine wa_getR 57 1 dX1_trimmedOff_54 rfl wF_X1_105 rfl rfl ⟨e5, isK_pos e7⟩ ?_
      refine wa_aload_n 58 dX1_trimmedOff_57 rfl rfl ?_
      refine wa_getL 61 2 dX1_trimmedOff_58 rfl wF_X1_54 rfl rfl k0 ?_
      refine wa_callV 64 2 4 0 (av := [(2, v2), (2, (rf L ((rf L ((rf L ((rf L v0 4)) v5)) 2)) 0)), (2, (rf L ((rf L ((rf L ((rf L v0 4)) v5)) 2)) 1)), (1, (μ v0 2))]) (rest := [(1, v3)]) (k1 := (0, 0)) (k2 := (0, 0)) cvX0_between dX1_trimmedOff_61 rfl wM_X1_112 ⟨rfl, by decide, rfl, Nat.le_of_ble_eq_true rfl, by decide, Nat.le_of_ble_eq_true rfl, rfl, rfl⟩ rfl k1 (TR.mono h (fun r8 L9 μ10 h => ?_))
      obtain ⟨w11, rfl, rfl, h⟩ := h
      show WA mX1_trimmedOff 3 (0, 0) 64 [(2, v0), (2, v1), (2, v2), (1, v3), (9, 0), (0, v5)] [(1, w11), (1, v3)] L μ10 Q
      obtain ⟨c12, h⟩ := h
      refine wa_ladd 65 dX1_trimmedOff_64 rfl c12 ?_
      refine wa_lstore_n 66 [(2, v0), (2, v1), (2, v2), (1, (v3 + w11)), (9, 0), (0, v5)] dX1_trimmedOff_65 rfl rfl rfl ?_
      obtain ⟨c13, h⟩ := h
      refine wa_iinc 69 [(2, v0), (2, v1), (2, v2), (1, (v3 + w11)), (9, 0), (0, (v5 + 1))] dX1_trimmedOff_66 rfl rfl rfl c13 rfl ?_
      refine wa_goto 5 dX1_trimmedOff_69 (by decide) ?_
      exact h
end
