/-! the reference, 3: each method from its entry and from its loops' heads: what must hold, and the run (laid by wip/whole/gen/vc.py) -/
section
variable {L : Lay} {μ : Mem} {Q : Option AV → Lay → Mem → Prop}
set_option maxRecDepth 20000 in
theorem t_X10_list (hL : LayOK L) {v0 v1 v2 : Int} (k0 : isK L v0 (10, 0)) (h : TR mX10_isList 1 (0, 0) [(0, v1)] L μ (fun r1 L2 μ3 => ∃ w4, r1 = some (0, w4) ∧ L = L2 ∧ (w4 = 0 → Q (some (0, (-1))) L μ3) ∧ (¬ w4 = 0 → (v2 ≤ 20 → (0 ≤ v2 → (0 ≤ v1 ∧ v1 < 4) ∧ WA mX10_list 2 (0, 0) 31 [(2, v0), (0, v1), (9, 0), (0, 0)] [] L (up μ3 ((rf L v0 26)) v1 v2) Q) ∧ (¬ 0 ≤ v2 → Q (some (0, (-14))) L μ3)) ∧ (¬ v2 ≤ 20 → Q (some (0, (-1))) L μ3)))) : TR mX10_list 2 (0, 0) [(2, v0), (0, v1), (0, v2)] L μ Q := by
  refine TR.of (ls := [(2, v0), (0, v1), (0, v2), (9, 0)]) (by decide) (by simp) rfl (Nat.le_of_ble_eq_true rfl) ?_
  refine wa_iload_n 1 dX10_list_0 rfl rfl ?_
  refine wa_callS 4 1 1 (av := [(0, v1)]) (rest := []) (k1 := (0, 0)) (k2 := (0, 0)) cvX10_isList dX10_list_1 rfl wM_X10_362 ⟨rfl, Nat.le_of_ble_eq_true rfl, by decide, Nat.le_of_ble_eq_true rfl, rfl, rfl⟩ rfl (TR.mono h (fun r1 L2 μ3 h => ?_))
  obtain ⟨w4, rfl, rfl, h⟩ := h
  show WA mX10_list 2 (0, 0) 4 [(2, v0), (0, v1), (0, v2), (9, 0)] [(0, w4)] L μ3 Q
  refine wa_if_eq 7 13 dX10_list_4 rfl (by decide) (fun q => ?_) (fun q => ?_)
  · replace h := h.1 q
    refine wa_iconst 14 dX10_list_13 rfl (by decide) ?_
    exact wa_iret dX10_list_14 rfl h
  · replace h := h.2 q
    refine wa_iload_n 8 dX10_list_7 rfl rfl ?_
    refine wa_bipush 10 dX10_list_8 rfl ⟨by decide, by decide⟩ ?_
    refine wa_icmp_le 13 15 dX10_list_10 rfl (by decide) (fun q => ?_) (fun q => ?_)
    · replace h := h.1 q
      refine wa_iload_n 16 dX10_list_15 rfl rfl ?_
      refine wa_if_ge 19 22 dX10_list_16 rfl (by decide) (fun q => ?_) (fun q => ?_)
      · replace h := h.1 q
        refine wa_aload_n 23 dX10_list_22 rfl rfl ?_
        have e5 : isK L (rf L v0 26) (20, 4) := lay_f hL k0 26 rfl
        refine wa_getR 26 26 dX10_list_23 rfl wF_X10_55 rfl rfl ⟨k0, isK_pos e5⟩ ?_
        refine wa_iload_n 27 dX10_list_26 rfl rfl ?_
        refine wa_iload_n 28 dX10_list_27 rfl rfl ?_
        obtain ⟨c6, h⟩ := h
        refine wa_iastore 29 dX10_list_28 rfl (okA_of e5 c6) ?_
        refine wa_iconst 30 dX10_list_29 rfl (by decide) ?_
        refine wa_istore_n 31 [(2, v0), (0, v1), (0, v2), (0, 0)] dX10_list_30 rfl rfl rfl ?_
        exact wa_weak [(2, v0), (0, v1), (9, 0), (0, 0)] ⟨Or.inl rfl, Or.inl rfl, Or.inr rfl, Or.inl rfl, trivial⟩ h
      · replace h := h.2 q
        refine wa_bipush 21 dX10_list_19 rfl ⟨by decide, by decide⟩ ?_
        exact wa_iret dX10_list_21 rfl h
    · replace h := h.2 q
      refine wa_iconst 14 dX10_list_13 rfl (by decide) ?_
      exact wa_iret dX10_list_14 rfl h
set_option maxRecDepth 20000 in
theorem s_X10_list_31 (hL : LayOK L) {v0 v1 v3 : Int} (k0 : isK L v0 (10, 0)) (h : (20 ≤ v3 → Q (some (0, 1)) L μ) ∧ (¬ 20 ≤ v3 → (inI (20 * v1)) ∧ (inI ((20 * v1) + v3)) ∧ (0 ≤ ((20 * v1) + v3) ∧ ((20 * v1) + v3) < 80) ∧ (inI (v3 + 1)) ∧ WA mX10_list 2 (0, 0) 31 [(2, v0), (0, v1), (9, 0), (0, (v3 + 1))] [] L (up μ ((rf L v0 27)) (((20 * v1) + v3)) 0) Q)) : WA mX10_list 2 (0, 0) 31 [(2, v0), (0, v1), (9, 0), (0, v3)] [] L μ Q := by
  refine wa_iload_n 32 dX10_list_31 rfl rfl ?_
  refine wa_bipush 34 dX10_list_32 rfl ⟨by decide, by decide⟩ ?_
  refine wa_icmp_ge 37 55 dX10_list_34 rfl (by decide) (fun q => ?_) (fun q => ?_)
  · replace h := h.1 q
    refine wa_iconst 56 dX10_list_55 rfl (by decide) ?_
    exact wa_iret dX10_list_56 rfl h
  · replace h := h.2 q
    refine wa_aload_n 38 dX10_list_37 rfl rfl ?_
    have e1 : isK L (rf L v0 27) (20, 80) := lay_f hL k0 27 rfl
    refine wa_getR 41 27 dX10_list_38 rfl wF_X10_58 rfl rfl ⟨k0, isK_pos e1⟩ ?_
    refine wa_bipush 43 dX10_list_41 rfl ⟨by decide, by decide⟩ ?_
    refine wa_iload_n 44 dX10_list_43 rfl rfl ?_
    obtain ⟨c2, h⟩ := h
    refine wa_imul 45 dX10_list_44 rfl c2 ?_
    refine wa_iload_n 46 dX10_list_45 rfl rfl ?_
    obtain ⟨c3, h⟩ := h
    refine wa_iadd 47 dX10_list_46 rfl c3 ?_
    refine wa_iconst 48 dX10_list_47 rfl (by decide) ?_
    obtain ⟨c4, h⟩ := h
    refine wa_iastore 49 dX10_list_48 rfl (okA_of e1 c4) ?_
    obtain ⟨c5, h⟩ := h
    refine wa_iinc 52 [(2, v0), (0, v1), (9, 0), (0, (v3 + 1))] dX10_list_49 rfl rfl rfl c5 rfl ?_
    refine wa_goto 31 dX10_list_52 (by decide) ?_
    exact h
set_option maxRecDepth 20000 in
theorem t_X10_looks (hL : LayOK L) {v0 v1 v2 v3 v5 v7 : Int} (k0 : isK L v0 (10, 0)) (h : TR mX10_ends 0 (0, 0) [(2, v0)] L μ (fun r1 L2 μ3 => ∃ w4, r1 = some (1, w4) ∧ L = L2 ∧ TR mX10_worthBetween 2 (0, 0) [(2, v0), (0, v1), (0, 1), (1, v3), (1, v5), (1, w4), (1, 1)] L μ3 (fun r5 L6 μ7 => r5 = none ∧ L = L6 ∧ (0 ≤ v7 ∧ v7 < 5) ∧ TR mX10_worthBetween 2 (0, 0) [(2, v0), (0, v1), (0, 1), (1, v3), (1, v5), (1, (μ7 ((rf L v0 13)) v7)), (1, (μ7 ((rf L v0 14)) v7))] L μ7 (fun r11 L12 μ13 => r11 = none ∧ L = L12 ∧ (inL (v2 * ((up μ13 v0 15 v7) v0 4))) ∧ TR mX10_isLess 0 (0, 0) [(1, (μ7 v0 4)), (1, (μ7 v0 5)), (1, (v2 * ((up μ13 v0 15 v7) v0 4))), (1, ((up μ13 v0 15 v7) v0 5))] L (up μ13 v0 15 v7) (fun r15 L16 μ17 => ∃ w18, r15 = some (0, w18) ∧ L = L16 ∧ (¬ w18 = 0 → (inL ((μ7 v0 5) * v2)) ∧ TR mX10_marksPoint 3 (0, 0) [(2, v0), (0, v1), (1, v3), (1, v5), (1, (μ7 v0 4)), (1, ((μ7 v0 5) * v2)), (0, 0)] L μ17 (fun r20 L21 μ22 => r20 = none ∧ L = L21 ∧ (¬ (μ22 v0 11) = 0 → Q none L (up μ22 v0 15 v1)) ∧ ((μ22 v0 11) = 0 → (0 ≤ v1 ∧ v1 < 5) ∧ TR mX10_happens 0 (0, 0) [(2, v0), (0, 1), (0, v1), (1, (μ22 ((rf L v0 13)) v1)), (1, (μ22 ((rf L v0 14)) v1)), (1, (μ22 ((rf L v0 13)) v7)), (1, (μ22 ((rf L v0 14)) v7))] L μ22 (fun r24 L25 μ26 => r24 = none ∧ L = L25 ∧ Q none L (up μ26 v0 15 v1))))) ∧ (w18 = 0 → TR mX10_happens 0 (0, 0) [(2, v0), (0, 2), (0, v1), (1, (μ17 ((rf L v0 13)) v7)), (1, (μ17 ((rf L v0 14)) v7)), (1, 0), (1, 1)] L μ17 (fun r27 L28 μ29 => r27 = none ∧ L = L28 ∧ Q none L μ29))))))) : TR mX10_looks 4 (0, 0) [(2, v0), (0, v1), (0, v2), (1, v3), (1, v5), (0, v7)] L μ Q := by
  refine TR.of (ls := [(2, v0), (0, v1), (0, v2), (1, v3), (9, 0), (1, v5), (9, 0), (0, v7), (9, 0), (9, 0), (9, 0), (9, 0)]) (by decide) (by simp) rfl (Nat.le_of_ble_eq_true rfl) ?_
  refine wa_aload_n 1 dX10_looks_0 rfl rfl ?_
  refine wa_iload_n 2 dX10_looks_1 rfl rfl ?_
  refine wa_iconst 3 dX10_looks_2 rfl (by decide) ?_
  refine wa_lload_n 4 dX10_looks_3 rfl rfl ?_
  refine wa_lload 6 dX10_looks_4 rfl rfl ?_
  refine wa_aload_n 7 dX10_looks_6 rfl rfl ?_
  refine wa_callV 10 0 0 10 (av := []) (rest := [(1, v5), (1, v3), (0, 1), (0, v1), (2, v0)]) (k1 := (0, 0)) (k2 := (0, 0)) cvX10_ends dX10_looks_7 rfl wM_X10_249 ⟨rfl, by decide, rfl, Nat.le_of_ble_eq_true rfl, by decide, Nat.le_of_ble_eq_true rfl, rfl, rfl⟩ rfl k0 (TR.mono h (fun r1 L2 μ3 h => ?_))
  obtain ⟨w4, rfl, rfl, h⟩ := h
  show WA mX10_looks 4 (0, 0) 10 [(2, v0), (0, v1), (0, v2), (1, v3), (9, 0), (1, v5), (9, 0), (0, v7), (9, 0), (9, 0), (9, 0), (9, 0)] [(1, w4), (1, v5), (1, v3), (0, 1), (0, v1), (2, v0)] L μ3 Q
  refine wa_lconst 11 1 dX10_looks_10 rfl ⟨rfl, by decide⟩ ?_
  refine wa_callV 14 2 6 10 (av := [(0, v1), (0, 1), (1, v3), (1, v5), (1, w4), (1, 1)]) (rest := []) (k1 := (0, 0)) (k2 := (0, 0)) cvX10_worthBetween dX10_looks_11 rfl wM_X10_118 ⟨rfl, by decide, rfl, Nat.le_of_ble_eq_true rfl, by decide, Nat.le_of_ble_eq_true rfl, rfl, rfl⟩ rfl k0 (TR.mono h (fun r5 L6 μ7 h => ?_))
  obtain ⟨rfl, rfl, h⟩ := h
  show WA mX10_looks 4 (0, 0) 14 [(2, v0), (0, v1), (0, v2), (1, v3), (9, 0), (1, v5), (9, 0), (0, v7), (9, 0), (9, 0), (9, 0), (9, 0)] [] L μ7 Q
  refine wa_aload_n 15 dX10_looks_14 rfl rfl ?_
  refine wa_getL 18 4 dX10_looks_15 rfl wF_X10_99 rfl rfl k0 ?_
  refine wa_lstore 20 [(2, v0), (0, v1), (0, v2), (1, v3), (9, 0), (1, v5), (9, 0), (0, v7), (1, (μ7 v0 4)), (9, 0), (9, 0), (9, 0)] dX10_looks_18 rfl rfl rfl ?_
  refine wa_aload_n 21 dX10_looks_20 rfl rfl ?_
  refine wa_getL 24 5 dX10_looks_21 rfl wF_X10_103 rfl rfl k0 ?_
  refine wa_lstore 26 [(2, v0), (0, v1), (0, v2), (1, v3), (9, 0), (1, v5), (9, 0), (0, v7), (1, (μ7 v0 4)), (9, 0), (1, (μ7 v0 5)), (9, 0)] dX10_looks_24 rfl rfl rfl ?_
  refine wa_aload_n 27 dX10_looks_26 rfl rfl ?_
  refine wa_iload_n 28 dX10_looks_27 rfl rfl ?_
  refine wa_iconst 29 dX10_looks_28 rfl (by decide) ?_
  refine wa_lload_n 30 dX10_looks_29 rfl rfl ?_
  refine wa_lload 32 dX10_looks_30 rfl rfl ?_
  refine wa_aload_n 33 dX10_looks_32 rfl rfl ?_
  have e8 : isK L (rf L v0 13) (21, 5) := lay_f hL k0 13 rfl
  refine wa_getR 36 13 dX10_looks_33 rfl wF_X10_25 rfl rfl ⟨k0, isK_pos e8⟩ ?_
  refine wa_iload 38 dX10_looks_36 rfl rfl ?_
  obtain ⟨c9, h⟩ := h
  refine wa_laload 39 dX10_looks_38 rfl (okA_of e8 c9) ?_
  refine wa_aload_n 40 dX10_looks_39 rfl rfl ?_
  have e10 : isK L (rf L v0 14) (21, 5) := lay_f hL k0 14 rfl
  refine wa_getR 43 14 dX10_looks_40 rfl wF_X10_28 rfl rfl ⟨k0, isK_pos e10⟩ ?_
  refine wa_iload 45 dX10_looks_43 rfl rfl ?_
  refine wa_laload 46 dX10_looks_45 rfl (okA_of e10 c9) ?_
  refine wa_callV 49 2 6 10 (av := [(0, v1), (0, 1), (1, v3), (1, v5), (1, (μ7 ((rf L v0 13)) v7)), (1, (μ7 ((rf L v0 14)) v7))]) (rest := []) (k1 := (0, 0)) (k2 := (0, 0)) cvX10_worthBetween dX10_looks_46 rfl wM_X10_118 ⟨rfl, by decide, rfl, Nat.le_of_ble_eq_true rfl, by decide, Nat.le_of_ble_eq_true rfl, rfl, rfl⟩ rfl k0 (TR.mono h (fun r11 L12 μ13 h => ?_))
  obtain ⟨rfl, rfl, h⟩ := h
  show WA mX10_looks 4 (0, 0) 49 [(2, v0), (0, v1), (0, v2), (1, v3), (9, 0), (1, v5), (9, 0), (0, v7), (1, (μ7 v0 4)), (9, 0), (1, (μ7 v0 5)), (9, 0)] [] L μ13 Q
  refine wa_aload_n 50 dX10_looks_49 rfl rfl ?_
  refine wa_iload 52 dX10_looks_50 rfl rfl ?_
  refine wa_putN 55 15 dX10_looks_52 rfl wF_X10_259 rfl rfl k0 ?_
  refine wa_lload 57 dX10_looks_55 rfl rfl ?_
  refine wa_lload 59 dX10_looks_57 rfl rfl ?_
  refine wa_iload_n 60 dX10_looks_59 rfl rfl ?_
  refine wa_i2l 61 dX10_looks_60 rfl ?_
  refine wa_aload_n 62 dX10_looks_61 rfl rfl ?_
  refine wa_getL 65 4 dX10_looks_62 rfl wF_X10_99 rfl rfl k0 ?_
  obtain ⟨c14, h⟩ := h
  refine wa_lmul 66 dX10_looks_65 rfl c14 ?_
  refine wa_aload_n 67 dX10_looks_66 rfl rfl ?_
  refine wa_getL 70 5 dX10_looks_67 rfl wF_X10_103 rfl rfl k0 ?_
  refine wa_callS 73 0 4 (av := [(1, (μ7 v0 4)), (1, (μ7 v0 5)), (1, (v2 * ((up μ13 v0 15 v7) v0 4))), (1, ((up μ13 v0 15 v7) v0 5))]) (rest := []) (k1 := (0, 0)) (k2 := (0, 0)) cvX10_isLess dX10_looks_70 rfl wM_X10_199 ⟨rfl, Nat.le_of_ble_eq_true rfl, by decide, Nat.le_of_ble_eq_true rfl, rfl, rfl⟩ rfl (TR.mono h (fun r15 L16 μ17 h => ?_))
  obtain ⟨w18, rfl, rfl, h⟩ := h
  show WA mX10_looks 4 (0, 0) 73 [(2, v0), (0, v1), (0, v2), (1, v3), (9, 0), (1, v5), (9, 0), (0, v7), (1, (μ7 v0 4)), (9, 0), (1, (μ7 v0 5)), (9, 0)] [(0, w18)] L μ17 Q
  refine wa_if_ne 76 99 dX10_looks_73 rfl (by decide) (fun q => ?_) (fun q => ?_)
  · replace h := h.1 q
    refine wa_aload_n 100 dX10_looks_99 rfl rfl ?_
    refine wa_iload_n 101 dX10_looks_100 rfl rfl ?_
    refine wa_lload_n 102 dX10_looks_101 rfl rfl ?_
    refine wa_lload 104 dX10_looks_102 rfl rfl ?_
    refine wa_lload 106 dX10_looks_104 rfl rfl ?_
    refine wa_lload 108 dX10_looks_106 rfl rfl ?_
    refine wa_iload_n 109 dX10_looks_108 rfl rfl ?_
    refine wa_i2l 110 dX10_looks_109 rfl ?_
    obtain ⟨c19, h⟩ := h
    refine wa_lmul 111 dX10_looks_110 rfl c19 ?_
    refine wa_iconst 112 dX10_looks_111 rfl (by decide) ?_
    refine wa_callV 115 3 6 10 (av := [(0, v1), (1, v3), (1, v5), (1, (μ7 v0 4)), (1, ((μ7 v0 5) * v2)), (0, 0)]) (rest := []) (k1 := (0, 0)) (k2 := (0, 0)) cvX10_marksPoint dX10_looks_112 rfl wM_X10_245 ⟨rfl, by decide, rfl, Nat.le_of_ble_eq_true rfl, by decide, Nat.le_of_ble_eq_true rfl, rfl, rfl⟩ rfl k0 (TR.mono h (fun r20 L21 μ22 h => ?_))
    obtain ⟨rfl, rfl, h⟩ := h
    show WA mX10_looks 4 (0, 0) 115 [(2, v0), (0, v1), (0, v2), (1, v3), (9, 0), (1, v5), (9, 0), (0, v7), (1, (μ7 v0 4)), (9, 0), (1, (μ7 v0 5)), (9, 0)] [] L μ22 Q
    refine wa_aload_n 116 dX10_looks_115 rfl rfl ?_
    refine wa_getI 119 11 dX10_looks_116 rfl wF_X10_219 rfl rfl k0 ?_
    refine wa_if_ne 122 154 dX10_looks_119 rfl (by decide) (fun q => ?_) (fun q => ?_)
    · replace h := h.1 q
      refine wa_aload_n 155 dX10_looks_154 rfl rfl ?_
      refine wa_iload_n 156 dX10_looks_155 rfl rfl ?_
      refine wa_putN 159 15 dX10_looks_156 rfl wF_X10_259 rfl rfl k0 ?_
      exact wa_vret dX10_looks_159 rfl h
    · replace h := h.2 q
      refine wa_aload_n 123 dX10_looks_122 rfl rfl ?_
      refine wa_iconst 124 dX10_looks_123 rfl (by decide) ?_
      refine wa_iload_n 125 dX10_looks_124 rfl rfl ?_
      refine wa_aload_n 126 dX10_looks_125 rfl rfl ?_
      refine wa_getR 129 13 dX10_looks_126 rfl wF_X10_25 rfl rfl ⟨k0, isK_pos e8⟩ ?_
      refine wa_iload_n 130 dX10_looks_129 rfl rfl ?_
      obtain ⟨c23, h⟩ := h
      refine wa_laload 131 dX10_looks_130 rfl (okA_of e8 c23) ?_
      refine wa_aload_n 132 dX10_looks_131 rfl rfl ?_
      refine wa_getR 135 14 dX10_looks_132 rfl wF_X10_28 rfl rfl ⟨k0, isK_pos e10⟩ ?_
      refine wa_iload_n 136 dX10_looks_135 rfl rfl ?_
      refine wa_laload 137 dX10_looks_136 rfl (okA_of e10 c23) ?_
      refine wa_aload_n 138 dX10_looks_137 rfl rfl ?_
      refine wa_getR 141 13 dX10_looks_138 rfl wF_X10_25 rfl rfl ⟨k0, isK_pos e8⟩ ?_
      refine wa_iload 143 dX10_looks_141 rfl rfl ?_
      refine wa_laload 144 dX10_looks_143 rfl (okA_of e8 c9) ?_
      refine wa_aload_n 145 dX10_looks_144 rfl rfl ?_
      refine wa_getR 148 14 dX10_looks_145 rfl wF_X10_28 rfl rfl ⟨k0, isK_pos e10⟩ ?_
      refine wa_iload 150 dX10_looks_148 rfl rfl ?_
      refine wa_laload 151 dX10_looks_150 rfl (okA_of e10 c9) ?_
      refine wa_callV 154 0 6 10 (av := [(0, 1), (0, v1), (1, (μ22 ((rf L v0 13)) v1)), (1, (μ22 ((rf L v0 14)) v1)), (1, (μ22 ((rf L v0 13)) v7)), (1, (μ22 ((rf L v0 14)) v7))]) (rest := []) (k1 := (0, 0)) (k2 := (0, 0)) cvX10_happens dX10_looks_151 rfl wM_X10_239 ⟨rfl, by decide, rfl, Nat.le_of_ble_eq_true rfl, by decide, Nat.le_of_ble_eq_true rfl, rfl, rfl⟩ rfl k0 (TR.mono h (fun r24 L25 μ26 h => ?_))
      obtain ⟨rfl, rfl, h⟩ := h
      show WA mX10_looks 4 (0, 0) 154 [(2, v0), (0, v1), (0, v2), (1, v3), (9, 0), (1, v5), (9, 0), (0, v7), (1, (μ7 v0 4)), (9, 0), (1, (μ7 v0 5)), (9, 0)] [] L μ26 Q
      refine wa_aload_n 155 dX10_looks_154 rfl rfl ?_
      refine wa_iload_n 156 dX10_looks_155 rfl rfl ?_
      refine wa_putN 159 15 dX10_looks_156 rfl wF_X10_259 rfl rfl k0 ?_
      exact wa_vret dX10_looks_159 rfl h
  · replace h := h.2 q
    refine wa_aload_n 77 dX10_looks_76 rfl rfl ?_
    refine wa_iconst 78 dX10_looks_77 rfl (by decide) ?_
    refine wa_iload_n 79 dX10_looks_78 rfl rfl ?_
    refine wa_aload_n 80 dX10_looks_79 rfl rfl ?_
    refine wa_getR 83 13 dX10_looks_80 rfl wF_X10_25 rfl rfl ⟨k0, isK_pos e8⟩ ?_
    refine wa_iload 85 dX10_looks_83 rfl rfl ?_
    refine wa_laload 86 dX10_looks_85 rfl (okA_of e8 c9) ?_
    refine wa_aload_n 87 dX10_looks_86 rfl rfl ?_
    refine wa_getR 90 14 dX10_looks_87 rfl wF_X10_28 rfl rfl ⟨k0, isK_pos e10⟩ ?_
    refine wa_iload 92 dX10_looks_90 rfl rfl ?_
    refine wa_laload 93 dX10_looks_92 rfl (okA_of e10 c9) ?_
    refine wa_lconst 94 0 dX10_looks_93 rfl ⟨rfl, by decide⟩ ?_
    refine wa_lconst 95 1 dX10_looks_94 rfl ⟨rfl, by decide⟩ ?_
    refine wa_callV 98 0 6 10 (av := [(0, 2), (0, v1), (1, (μ17 ((rf L v0 13)) v7)), (1, (μ17 ((rf L v0 14)) v7)), (1, 0), (1, 1)]) (rest := []) (k1 := (0, 0)) (k2 := (0, 0)) cvX10_happens dX10_looks_95 rfl wM_X10_239 ⟨rfl, by decide, rfl, Nat.le_of_ble_eq_true rfl, by decide, Nat.le_of_ble_eq_true rfl, rfl, rfl⟩ rfl k0 (TR.mono h (fun r27 L28 μ29 h => ?_))
    obtain ⟨rfl, rfl, h⟩ := h
    show WA mX10_looks 4 (0, 0) 98 [(2, v0), (0, v1), (0, v2), (1, v3), (9, 0), (1, v5), (9, 0), (0, v7), (1, (μ7 v0 4)), (9, 0), (1, (μ7 v0 5)), (9, 0)] [] L μ29 Q
    exact wa_vret dX10_looks_98 rfl h
set_option maxRecDepth 20000 in
theorem t_X10_mark (hL : LayOK L) {v0 v1 v2 v3 v4 v5 v6 : Int} (k0 : isK L v0 (10, 0)) (h : TR mX10_isAgent 1 (0, 0) [(2, v0), (0, v1)] L μ (fun r1 L2 μ3 => ∃ w4, r1 = some (0, w4) ∧ L = L2 ∧ (w4 = 0 → Q (some (1, (-9223372036854775808))) L μ3) ∧ (¬ w4 = 0 → TR mX10_in 0 (0, 0) [(1, v3), (1, 1), (1, 1000)] L μ3 (fun r5 L6 μ7 => ∃ w8, r5 = some (0, w8) ∧ L = L6 ∧ (w8 = 0 → Q (some (1, (-9223372036854775808))) L μ7) ∧ (¬ w8 = 0 → TR mX10_in 0 (0, 0) [(1, v5), (1, 1), (1, 20)] L μ7 (fun r9 L10 μ11 => ∃ w12, r9 = some (0, w12) ∧ L = L10 ∧ (w12 = 0 → Q (some (1, (-9223372036854775808))) L μ11) ∧ (¬ w12 = 0 → (v4 < 0 → Q (some (1, (-9223372036854775808))) L μ11) ∧ (¬ v4 < 0 → TR mX10_in 0 (0, 0) [(1, v6), (1, 0), (1, 1)] L μ11 (fun r13 L14 μ15 => ∃ w16, r13 = some (0, w16) ∧ L = L14 ∧ (w16 = 0 → Q (some (1, (-9223372036854775808))) L μ15) ∧ (¬ w16 = 0 → (v2 < 0 → Q (some (1, (-9223372036854775808))) L μ15) ∧ (¬ v2 < 0 → (inL ((μ15 ((rf L v0 0)) 0) * v3)) ∧ (v2 ≤ ((μ15 ((rf L v0 0)) 0) * v3) → TR mX10_allOf 2 (0, 0) [(2, v0), (0, v1), (0, 1)] L μ15 (fun r19 L20 μ21 => ∃ w22, r19 = some (1, w22) ∧ L = L20 ∧ (inL (w22 * v4)) ∧ TR mX10_becomes 1 (0, 0) [(2, v0), (1, (w22 * v4)), (1, v5)] L μ21 (fun r24 L25 μ26 => r24 = none ∧ L = L25 ∧ TR mX10_marks 2 (0, 0) [(2, v0), (0, v1), (1, v2), (1, v3), (1, (μ26 v0 4)), (1, (μ26 v0 5))] L μ26 (fun r27 L28 μ29 => ∃ w30, r27 = some (0, w30) ∧ L = L28 ∧ (w30 = 0 → Q (some (1, (-9223372036854775808))) L μ29) ∧ (¬ w30 = 0 → TR mX10_partOf 0 (0, 0) [(2, v0), (0, v6)] L μ29 (fun r31 L32 μ33 => ∃ w34, r31 = some (1, w34) ∧ L = L32 ∧ Q (some (1, w34)) L μ33)))))) ∧ (¬ v2 ≤ ((μ15 ((rf L v0 0)) 0) * v3) → Q (some (1, (-9223372036854775808))) L μ15)))))))))))) : TR mX10_mark 3 (0, 0) [(2, v0), (0, v1), (0, v2), (0, v3), (0, v4), (0, v5), (0, v6)] L μ Q := by
  refine TR.of (ls := [(2, v0), (0, v1), (0, v2), (0, v3), (0, v4), (0, v5), (0, v6)]) (by decide) (by simp) rfl (Nat.le_of_ble_eq_true rfl) ?_
  refine wa_aload_n 1 dX10_mark_0 rfl rfl ?_
  refine wa_iload_n 2 dX10_mark_1 rfl rfl ?_
  refine wa_callV 5 1 1 10 (av := [(0, v1)]) (rest := []) (k1 := (0, 0)) (k2 := (0, 0)) cvX10_isAgent dX10_mark_2 rfl wM_X10_79 ⟨rfl, by decide, rfl, Nat.le_of_ble_eq_true rfl, by decide, Nat.le_of_ble_eq_true rfl, rfl, rfl⟩ rfl k0 (TR.mono h (fun r1 L2 μ3 h => ?_))
  obtain ⟨w4, rfl, rfl, h⟩ := h
  show WA mX10_mark 3 (0, 0) 5 [(2, v0), (0, v1), (0, v2), (0, v3), (0, v4), (0, v5), (0, v6)] [(0, w4)] L μ3 Q
  refine wa_if_eq 8 68 dX10_mark_5 rfl (by decide) (fun q => ?_) (fun q => ?_)
  · replace h := h.1 q
    refine wa_ldc2 71 (-9223372036854775808) dX10_mark_68 rfl wJ_X10_116 ⟨rfl, by decide⟩ ?_
    exact wa_lret dX10_mark_71 rfl h
  · replace h := h.2 q
    refine wa_iload_n 9 dX10_mark_8 rfl rfl ?_
    refine wa_i2l 10 dX10_mark_9 rfl ?_
    refine wa_lconst 11 1 dX10_mark_10 rfl ⟨rfl, by decide⟩ ?_
    refine wa_ldc2 14 1000 dX10_mark_11 rfl wJ_X10_114 ⟨rfl, by decide⟩ ?_
    refine wa_callS 17 0 3 (av := [(1, v3), (1, 1), (1, 1000)]) (rest := []) (k1 := (0, 0)) (k2 := (0, 0)) cvX10_in dX10_mark_14 rfl wM_X10_65 ⟨rfl, Nat.le_of_ble_eq_true rfl, by decide, Nat.le_of_ble_eq_true rfl, rfl, rfl⟩ rfl (TR.mono h (fun r5 L6 μ7 h => ?_))
    obtain ⟨w8, rfl, rfl, h⟩ := h
    show WA mX10_mark 3 (0, 0) 17 [(2, v0), (0, v1), (0, v2), (0, v3), (0, v4), (0, v5), (0, v6)] [(0, w8)] L μ7 Q
    refine wa_if_eq 20 68 dX10_mark_17 rfl (by decide) (fun q => ?_) (fun q => ?_)
    · replace h := h.1 q
      refine wa_ldc2 71 (-9223372036854775808) dX10_mark_68 rfl wJ_X10_116 ⟨rfl, by decide⟩ ?_
      exact wa_lret dX10_mark_71 rfl h
    · replace h := h.2 q
      refine wa_iload 22 dX10_mark_20 rfl rfl ?_
      refine wa_i2l 23 dX10_mark_22 rfl ?_
      refine wa_lconst 24 1 dX10_mark_23 rfl ⟨rfl, by decide⟩ ?_
      refine wa_ldc2 27 20 dX10_mark_24 rfl wJ_X10_126 ⟨rfl, by decide⟩ ?_
      refine wa_callS 30 0 3 (av := [(1, v5), (1, 1), (1, 20)]) (rest := []) (k1 := (0, 0)) (k2 := (0, 0)) cvX10_in dX10_mark_27 rfl wM_X10_65 ⟨rfl, Nat.le_of_ble_eq_true rfl, by decide, Nat.le_of_ble_eq_true rfl, rfl, rfl⟩ rfl (TR.mono h (fun r9 L10 μ11 h => ?_))
      obtain ⟨w12, rfl, rfl, h⟩ := h
      show WA mX10_mark 3 (0, 0) 30 [(2, v0), (0, v1), (0, v2), (0, v3), (0, v4), (0, v5), (0, v6)] [(0, w12)] L μ11 Q
      refine wa_if_eq 33 68 dX10_mark_30 rfl (by decide) (fun q => ?_) (fun q => ?_)
      · replace h := h.1 q
        refine wa_ldc2 71 (-9223372036854775808) dX10_mark_68 rfl wJ_X10_116 ⟨rfl, by decide⟩ ?_
        exact wa_lret dX10_mark_71 rfl h
      · replace h := h.2 q
        refine wa_iload 35 dX10_mark_33 rfl rfl ?_
        refine wa_if_lt 38 68 dX10_mark_35 rfl (by decide) (fun q => ?_) (fun q => ?_)
        · replace h := h.1 q
          refine wa_ldc2 71 (-9223372036854775808) dX10_mark_68 rfl wJ_X10_116 ⟨rfl, by decide⟩ ?_
          exact wa_lret dX10_mark_71 rfl h
        · replace h := h.2 q
          refine wa_iload 40 dX10_mark_38 rfl rfl ?_
          refine wa_i2l 41 dX10_mark_40 rfl ?_
          refine wa_lconst 42 0 dX10_mark_41 rfl ⟨rfl, by decide⟩ ?_
          refine wa_lconst 43 1 dX10_mark_42 rfl ⟨rfl, by decide⟩ ?_
          refine wa_callS 46 0 3 (av := [(1, v6), (1, 0), (1, 1)]) (rest := []) (k1 := (0, 0)) (k2 := (0, 0)) cvX10_in dX10_mark_43 rfl wM_X10_65 ⟨rfl, Nat.le_of_ble_eq_true rfl, by decide, Nat.le_of_ble_eq_true rfl, rfl, rfl⟩ rfl (TR.mono h (fun r13 L14 μ15 h => ?_))
          obtain ⟨w16, rfl, rfl, h⟩ := h
          show WA mX10_mark 3 (0, 0) 46 [(2, v0), (0, v1), (0, v2), (0, v3), (0, v4), (0, v5), (0, v6)] [(0, w16)] L μ15 Q
          refine wa_if_eq 49 68 dX10_mark_46 rfl (by decide) (fun q => ?_) (fun q => ?_)
          · replace h := h.1 q
            refine wa_ldc2 71 (-9223372036854775808) dX10_mark_68 rfl wJ_X10_116 ⟨rfl, by decide⟩ ?_
            exact wa_lret dX10_mark_71 rfl h
          · replace h := h.2 q
            refine wa_iload_n 50 dX10_mark_49 rfl rfl ?_
            refine wa_if_lt 53 68 dX10_mark_50 rfl (by decide) (fun q => ?_) (fun q => ?_)
            · replace h := h.1 q
              refine wa_ldc2 71 (-9223372036854775808) dX10_mark_68 rfl wJ_X10_116 ⟨rfl, by decide⟩ ?_
              exact wa_lret dX10_mark_71 rfl h
            · replace h := h.2 q
              refine wa_iload_n 54 dX10_mark_53 rfl rfl ?_
              refine wa_i2l 55 dX10_mark_54 rfl ?_
              refine wa_aload_n 56 dX10_mark_55 rfl rfl ?_
              have e17 : isK L (rf L v0 0) (21, 510) := lay_f hL k0 0 rfl
              refine wa_getR 59 0 dX10_mark_56 rfl wF_X10_9 rfl rfl ⟨k0, isK_pos e17⟩ ?_
              refine wa_iconst 60 dX10_mark_59 rfl (by decide) ?_
              refine wa_laload 61 dX10_mark_60 rfl (okA_of e17 ⟨by decide, by decide⟩) ?_
              refine wa_iload_n 62 dX10_mark_61 rfl rfl ?_
              refine wa_i2l 63 dX10_mark_62 rfl ?_
              obtain ⟨c18, h⟩ := h
              refine wa_lmul 64 dX10_mark_63 rfl c18 ?_
              refine wa_lc_le 68 72 dX10_mark_64 dX10_mark_65 rfl (by decide) (fun q => ?_) (fun q => ?_)
              · replace h := h.1 q
                refine wa_aload_n 73 dX10_mark_72 rfl rfl ?_
                refine wa_aload_n 74 dX10_mark_73 rfl rfl ?_
                refine wa_iload_n 75 dX10_mark_74 rfl rfl ?_
                refine wa_iconst 76 dX10_mark_75 rfl (by decide) ?_
                refine wa_callV 79 2 2 10 (av := [(0, v1), (0, 1)]) (rest := [(2, v0)]) (k1 := (0, 0)) (k2 := (0, 0)) cvX10_allOf dX10_mark_76 rfl wM_X10_128 ⟨rfl, by decide, rfl, Nat.le_of_ble_eq_true rfl, by decide, Nat.le_of_ble_eq_true rfl, rfl, rfl⟩ rfl k0 (TR.mono h (fun r19 L20 μ21 h => ?_))
                obtain ⟨w22, rfl, rfl, h⟩ := h
                show WA mX10_mark 3 (0, 0) 79 [(2, v0), (0, v1), (0, v2), (0, v3), (0, v4), (0, v5), (0, v6)] [(1, w22), (2, v0)] L μ21 Q
                refine wa_iload 81 dX10_mark_79 rfl rfl ?_
                refine wa_i2l 82 dX10_mark_81 rfl ?_
                obtain ⟨c23, h⟩ := h
                refine wa_lmul 83 dX10_mark_82 rfl c23 ?_
                refine wa_iload 85 dX10_mark_83 rfl rfl ?_
                refine wa_i2l 86 dX10_mark_85 rfl ?_
                refine wa_callV 89 1 2 10 (av := [(1, (w22 * v4)), (1, v5)]) (rest := []) (k1 := (0, 0)) (k2 := (0, 0)) cvX10_becomes dX10_mark_86 rfl wM_X10_110 ⟨rfl, by decide, rfl, Nat.le_of_ble_eq_true rfl, by decide, Nat.le_of_ble_eq_true rfl, rfl, rfl⟩ rfl k0 (TR.mono h (fun r24 L25 μ26 h => ?_))
                obtain ⟨rfl, rfl, h⟩ := h
                show WA mX10_mark 3 (0, 0) 89 [(2, v0), (0, v1), (0, v2), (0, v3), (0, v4), (0, v5), (0, v6)] [] L μ26 Q
                refine wa_aload_n 90 dX10_mark_89 rfl rfl ?_
                refine wa_iload_n 91 dX10_mark_90 rfl rfl ?_
                refine wa_iload_n 92 dX10_mark_91 rfl rfl ?_
                refine wa_i2l 93 dX10_mark_92 rfl ?_
                refine wa_iload_n 94 dX10_mark_93 rfl rfl ?_
                refine wa_i2l 95 dX10_mark_94 rfl ?_
                refine wa_aload_n 96 dX10_mark_95 rfl rfl ?_
                refine wa_getL 99 4 dX10_mark_96 rfl wF_X10_99 rfl rfl k0 ?_
                refine wa_aload_n 100 dX10_mark_99 rfl rfl ?_
                refine wa_getL 103 5 dX10_mark_100 rfl wF_X10_103 rfl rfl k0 ?_
                refine wa_callV 106 2 5 10 (av := [(0, v1), (1, v2), (1, v3), (1, (μ26 v0 4)), (1, (μ26 v0 5))]) (rest := []) (k1 := (0, 0)) (k2 := (0, 0)) cvX10_marks dX10_mark_103 rfl wM_X10_132 ⟨rfl, by decide, rfl, Nat.le_of_ble_eq_true rfl, by decide, Nat.le_of_ble_eq_true rfl, rfl, rfl⟩ rfl k0 (TR.mono h (fun r27 L28 μ29 h => ?_))
                obtain ⟨w30, rfl, rfl, h⟩ := h
                show WA mX10_mark 3 (0, 0) 106 [(2, v0), (0, v1), (0, v2), (0, v3), (0, v4), (0, v5), (0, v6)] [(0, w30)] L μ29 Q
                refine wa_if_eq 109 118 dX10_mark_106 rfl (by decide) (fun q => ?_) (fun q => ?_)
                · replace h := h.1 q
                  refine wa_ldc2 121 (-9223372036854775808) dX10_mark_118 rfl wJ_X10_116 ⟨rfl, by decide⟩ ?_
                  exact wa_lret dX10_mark_121 rfl h
                · replace h := h.2 q
                  refine wa_aload_n 110 dX10_mark_109 rfl rfl ?_
                  refine wa_iload 112 dX10_mark_110 rfl rfl ?_
                  refine wa_callV 115 0 1 10 (av := [(0, v6)]) (rest := []) (k1 := (0, 0)) (k2 := (0, 0)) cvX10_partOf dX10_mark_112 rfl wM_X10_122 ⟨rfl, by decide, rfl, Nat.le_of_ble_eq_true rfl, by decide, Nat.le_of_ble_eq_true rfl, rfl, rfl⟩ rfl k0 (TR.mono h (fun r31 L32 μ33 h => ?_))
                  obtain ⟨w34, rfl, rfl, h⟩ := h
                  show WA mX10_mark 3 (0, 0) 115 [(2, v0), (0, v1), (0, v2), (0, v3), (0, v4), (0, v5), (0, v6)] [(1, w34)] L μ33 Q
                  refine wa_goto 121 dX10_mark_115 (by decide) ?_
                  exact wa_lret dX10_mark_121 rfl h
              · replace h := h.2 q
                refine wa_ldc2 71 (-9223372036854775808) dX10_mark_68 rfl wJ_X10_116 ⟨rfl, by decide⟩ ?_
                exact wa_lret dX10_mark_71 rfl h
set_option maxRecDepth 20000 in
theorem t_X10_marks (hL : LayOK L) {v0 v1 v2 v4 v6 v8 : Int} (k0 : isK L v0 (10, 0)) (h : (¬ v6 = 0 → TR mX10_divisor 0 (0, 0) [(1, v4), (1, v8)] L μ (fun r1 L2 μ3 => ∃ w4, r1 = some (1, w4) ∧ L = L2 ∧ (0 ≤ v4 ∧ 0 < w4) ∧ (inL ((v4 / w4) * v8)) ∧ TR mX10_aheadOf 1 (0, 0) [(2, v0), (0, v1), (0, 1), (1, v2), (1, v4)] L μ3 (fun r7 L8 μ9 => ∃ w10, r7 = some (1, w10) ∧ L = L8 ∧ (0 ≤ ((v4 / w4) * v8) ∧ 0 < v4) ∧ (inL (w10 * (((v4 / w4) * v8) / v4))) ∧ (0 ≤ ((v4 / w4) * v8) ∧ 0 < v8) ∧ (inL (v6 * (((v4 / w4) * v8) / v8))) ∧ (inL ((w10 * (((v4 / w4) * v8) / v4)) + (v6 * (((v4 / w4) * v8) / v8)))) ∧ WA mX10_marks 2 (0, 0) 63 [(2, v0), (0, v1), (9, 0), (9, 0), (9, 0), (9, 0), (9, 0), (9, 0), (9, 0), (9, 0), (1, ((v4 / w4) * v8)), (9, 0), (1, ((w10 * (((v4 / w4) * v8) / v4)) + (v6 * (((v4 / w4) * v8) / v8)))), (9, 0), (1, 0), (9, 0), (0, 0), (9, 0), (9, 0)] [] L μ9 Q))) ∧ (v6 = 0 → TR mX10_becomes 1 (0, 0) [(2, v0), (1, v2), (1, v4)] L μ (fun r16 L17 μ18 => r16 = none ∧ L = L17 ∧ Q (some (0, 1)) L μ18))) : TR mX10_marks 2 (0, 0) [(2, v0), (0, v1), (1, v2), (1, v4), (1, v6), (1, v8)] L μ Q := by
  refine TR.of (ls := [(2, v0), (0, v1), (1, v2), (9, 0), (1, v4), (9, 0), (1, v6), (9, 0), (1, v8), (9, 0), (9, 0), (9, 0), (9, 0), (9, 0), (9, 0), (9, 0), (9, 0), (9, 0), (9, 0)]) (by decide) (by simp) rfl (Nat.le_of_ble_eq_true rfl) ?_
  refine wa_lload 2 dX10_marks_0 rfl rfl ?_
  refine wa_lconst 3 0 dX10_marks_2 rfl ⟨rfl, by decide⟩ ?_
  refine wa_lc_ne 7 16 dX10_marks_3 dX10_marks_4 rfl (by decide) (fun q => ?_) (fun q => ?_)
  · replace h := h.1 q
    refine wa_lload 18 dX10_marks_16 rfl rfl ?_
    refine wa_lload 20 dX10_marks_18 rfl rfl ?_
    refine wa_lload 22 dX10_marks_20 rfl rfl ?_
    refine wa_callS 25 0 2 (av := [(1, v4), (1, v8)]) (rest := [(1, v4)]) (k1 := (0, 0)) (k2 := (0, 0)) cvX10_divisor dX10_marks_22 rfl wM_X10_95 ⟨rfl, Nat.le_of_ble_eq_true rfl, by decide, Nat.le_of_ble_eq_true rfl, rfl, rfl⟩ rfl (TR.mono h (fun r1 L2 μ3 h => ?_))
    obtain ⟨w4, rfl, rfl, h⟩ := h
    show WA mX10_marks 2 (0, 0) 25 [(2, v0), (0, v1), (1, v2), (9, 0), (1, v4), (9, 0), (1, v6), (9, 0), (1, v8), (9, 0), (9, 0), (9, 0), (9, 0), (9, 0), (9, 0), (9, 0), (9, 0), (9, 0), (9, 0)] [(1, w4), (1, v4)] L μ3 Q
    obtain ⟨c5, h⟩ := h
    refine wa_ldivE 26 dX10_marks_25 rfl c5 ?_
    refine wa_lload 28 dX10_marks_26 rfl rfl ?_
    obtain ⟨c6, h⟩ := h
    refine wa_lmul 29 dX10_marks_28 rfl c6 ?_
    refine wa_lstore 31 [(2, v0), (0, v1), (1, v2), (9, 0), (1, v4), (9, 0), (1, v6), (9, 0), (1, v8), (9, 0), (1, ((v4 / w4) * v8)), (9, 0), (9, 0), (9, 0), (9, 0), (9, 0), (9, 0), (9, 0), (9, 0)] dX10_marks_29 rfl rfl rfl ?_
    refine wa_aload_n 32 dX10_marks_31 rfl rfl ?_
    refine wa_iload_n 33 dX10_marks_32 rfl rfl ?_
    refine wa_iconst 34 dX10_marks_33 rfl (by decide) ?_
    refine wa_lload_n 35 dX10_marks_34 rfl rfl ?_
    refine wa_lload 37 dX10_marks_35 rfl rfl ?_
    refine wa_callV 40 1 4 10 (av := [(0, v1), (0, 1), (1, v2), (1, v4)]) (rest := []) (k1 := (0, 0)) (k2 := (0, 0)) cvX10_aheadOf dX10_marks_37 rfl wM_X10_106 ⟨rfl, by decide, rfl, Nat.le_of_ble_eq_true rfl, by decide, Nat.le_of_ble_eq_true rfl, rfl, rfl⟩ rfl k0 (TR.mono h (fun r7 L8 μ9 h => ?_))
    obtain ⟨w10, rfl, rfl, h⟩ := h
    show WA mX10_marks 2 (0, 0) 40 [(2, v0), (0, v1), (1, v2), (9, 0), (1, v4), (9, 0), (1, v6), (9, 0), (1, v8), (9, 0), (1, ((v4 / w4) * v8)), (9, 0), (9, 0), (9, 0), (9, 0), (9, 0), (9, 0), (9, 0), (9, 0)] [(1, w10)] L μ9 Q
    refine wa_lload 42 dX10_marks_40 rfl rfl ?_
    refine wa_lload 44 dX10_marks_42 rfl rfl ?_
    obtain ⟨c11, h⟩ := h
    refine wa_ldivE 45 dX10_marks_44 rfl c11 ?_
    obtain ⟨c12, h⟩ := h
    refine wa_lmul 46 dX10_marks_45 rfl c12 ?_
    refine wa_lload 48 dX10_marks_46 rfl rfl ?_
    refine wa_lload 50 dX10_marks_48 rfl rfl ?_
    refine wa_lload 52 dX10_marks_50 rfl rfl ?_
    obtain ⟨c13, h⟩ := h
    refine wa_ldivE 53 dX10_marks_52 rfl c13 ?_
    obtain ⟨c14, h⟩ := h
    refine wa_lmul 54 dX10_marks_53 rfl c14 ?_
    obtain ⟨c15, h⟩ := h
    refine wa_ladd 55 dX10_marks_54 rfl c15 ?_
    refine wa_lstore 57 [(2, v0), (0, v1), (1, v2), (9, 0), (1, v4), (9, 0), (1, v6), (9, 0), (1, v8), (9, 0), (1, ((v4 / w4) * v8)), (9, 0), (1, ((w10 * (((v4 / w4) * v8) / v4)) + (v6 * (((v4 / w4) * v8) / v8)))), (9, 0), (9, 0), (9, 0), (9, 0), (9, 0), (9, 0)] dX10_marks_55 rfl rfl rfl ?_
    refine wa_lconst 58 0 dX10_marks_57 rfl ⟨rfl, by decide⟩ ?_
    refine wa_lstore 60 [(2, v0), (0, v1), (1, v2), (9, 0), (1, v4), (9, 0), (1, v6), (9, 0), (1, v8), (9, 0), (1, ((v4 / w4) * v8)), (9, 0), (1, ((w10 * (((v4 / w4) * v8) / v4)) + (v6 * (((v4 / w4) * v8) / v8)))), (9, 0), (1, 0), (9, 0), (9, 0), (9, 0), (9, 0)] dX10_marks_58 rfl rfl rfl ?_
    refine wa_iconst 61 dX10_marks_60 rfl (by decide) ?_
    refine wa_istore 63 [(2, v0), (0, v1), (1, v2), (9, 0), (1, v4), (9, 0), (1, v6), (9, 0), (1, v8), (9, 0), (1, ((v4 / w4) * v8)), (9, 0), (1, ((w10 * (((v4 / w4) * v8) / v4)) + (v6 * (((v4 / w4) * v8) / v8)))), (9, 0), (1, 0), (9, 0), (0, 0), (9, 0), (9, 0)] dX10_marks_61 rfl rfl rfl ?_
    exact wa_weak [(2, v0), (0, v1), (9, 0), (9, 0), (9, 0), (9, 0), (9, 0), (9, 0), (9, 0), (9, 0), (1, ((v4 / w4) * v8)), (9, 0), (1, ((w10 * (((v4 / w4) * v8) / v4)) + (v6 * (((v4 / w4) * v8) / v8)))), (9, 0), (1, 0), (9, 0), (0, 0), (9, 0), (9, 0)] ⟨Or.inl rfl, Or.inl rfl, Or.inr rfl, Or.inl rfl, Or.inr rfl, Or.inl rfl, Or.inr rfl, Or.inl rfl, Or.inr rfl, Or.inl rfl, Or.inl rfl, Or.inl rfl, Or.inl rfl, Or.inl rfl, Or.inl rfl, Or.inl rfl, Or.inl rfl, Or.inl rfl, Or.inl rfl, trivial⟩ h
  · replace h := h.2 q
    refine wa_aload_n 8 dX10_marks_7 rfl rfl ?_
    refine wa_lload_n 9 dX10_marks_8 rfl rfl ?_
    refine wa_lload 11 dX10_marks_9 rfl rfl ?_
    refine wa_callV 14 1 2 10 (av := [(1, v2), (1, v4)]) (rest := []) (k1 := (0, 0)) (k2 := (0, 0)) cvX10_becomes dX10_marks_11 rfl wM_X10_110 ⟨rfl, by decide, rfl, Nat.le_of_ble_eq_true rfl, by decide, Nat.le_of_ble_eq_true rfl, rfl, rfl⟩ rfl k0 (TR.mono h (fun r16 L17 μ18 h => ?_))
    obtain ⟨rfl, rfl, h⟩ := h
    show WA mX10_marks 2 (0, 0) 14 [(2, v0), (0, v1), (1, v2), (9, 0), (1, v4), (9, 0), (1, v6), (9, 0), (1, v8), (9, 0), (9, 0), (9, 0), (9, 0), (9, 0), (9, 0), (9, 0), (9, 0), (9, 0), (9, 0)] [] L μ18 Q
    refine wa_iconst 15 dX10_marks_14 rfl (by decide) ?_
    exact wa_zret dX10_marks_15 rfl (Or.inr rfl) h
set_option maxRecDepth 20000 in
theorem s_X10_marks_63 (hL : LayOK L) {v0 v1 v10 v12 v14 v16 : Int} (k0 : isK L v0 (10, 0)) (h : TR mX10_strips 0 (0, 0) [(2, v0)] L μ (fun r1 L2 μ3 => ∃ w4, r1 = some (0, w4) ∧ L = L2 ∧ (w4 ≤ v16 → Q (some (0, 0)) L μ3) ∧ (¬ w4 ≤ v16 → TR mX10_worthOf 0 (0, 0) [(2, v0), (0, v1), (0, v16), (0, 1)] L μ3 (fun r5 L6 μ7 => ∃ w8, r5 = some (1, w8) ∧ L = L6 ∧ (inL (v14 * v10)) ∧ (v12 ≤ (v14 * v10) → (inL (v14 + w8)) ∧ (inI (v16 + 1)) ∧ WA mX10_marks 2 (0, 0) 63 [(2, v0), (0, v1), (9, 0), (9, 0), (9, 0), (9, 0), (9, 0), (9, 0), (9, 0), (9, 0), (1, v10), (9, 0), (1, v12), (9, 0), (1, (v14 + w8)), (9, 0), (0, (v16 + 1)), (9, 0), (9, 0)] [] L μ7 Q) ∧ (¬ v12 ≤ (v14 * v10) → (inL (v14 + w8)) ∧ (inL ((v14 + w8) * v10)) ∧ (((v14 + w8) * v10) < v12 → (inI (v16 + 1)) ∧ WA mX10_marks 2 (0, 0) 63 [(2, v0), (0, v1), (9, 0), (9, 0), (9, 0), (9, 0), (9, 0), (9, 0), (9, 0), (9, 0), (1, v10), (9, 0), (1, v12), (9, 0), (1, (v14 + w8)), (9, 0), (0, (v16 + 1)), (9, 0), (9, 0)] [] L μ7 Q) ∧ (¬ ((v14 + w8) * v10) < v12 → (inL (v16 * w8)) ∧ (inL ((v16 * w8) * v10)) ∧ (inL (((v16 * w8) * v10) + v12)) ∧ (inL ((((v16 * w8) * v10) + v12) - (v14 * v10))) ∧ (inL (w8 * v10)) ∧ TR mX10_becomes 1 (0, 0) [(2, v0), (1, ((((v16 * w8) * v10) + v12) - (v14 * v10))), (1, (w8 * v10))] L μ7 (fun r20 L21 μ22 => r20 = none ∧ L = L21 ∧ Q (some (0, 1)) L μ22))))))) : WA mX10_marks 2 (0, 0) 63 [(2, v0), (0, v1), (9, 0), (9, 0), (9, 0), (9, 0), (9, 0), (9, 0), (9, 0), (9, 0), (1, v10), (9, 0), (1, v12), (9, 0), (1, v14), (9, 0), (0, v16), (9, 0), (9, 0)] [] L μ Q := by
  refine wa_iload 65 dX10_marks_63 rfl rfl ?_
  refine wa_aload_n 66 dX10_marks_65 rfl rfl ?_
  refine wa_callV 69 0 0 10 (av := []) (rest := [(0, v16)]) (k1 := (0, 0)) (k2 := (0, 0)) cvX10_strips dX10_marks_66 rfl wM_X10_92 ⟨rfl, by decide, rfl, Nat.le_of_ble_eq_true rfl, by decide, Nat.le_of_ble_eq_true rfl, rfl, rfl⟩ rfl k0 (TR.mono h (fun r1 L2 μ3 h => ?_))
  obtain ⟨w4, rfl, rfl, h⟩ := h
  show WA mX10_marks 2 (0, 0) 69 [(2, v0), (0, v1), (9, 0), (9, 0), (9, 0), (9, 0), (9, 0), (9, 0), (9, 0), (9, 0), (1, v10), (9, 0), (1, v12), (9, 0), (1, v14), (9, 0), (0, v16), (9, 0), (9, 0)] [(0, w4), (0, v16)] L μ3 Q
  refine wa_icmp_ge 72 149 dX10_marks_69 rfl (by decide) (fun q => ?_) (fun q => ?_)
  · replace h := h.1 q
    refine wa_iconst 150 dX10_marks_149 rfl (by decide) ?_
    exact wa_zret dX10_marks_150 rfl (Or.inl rfl) h
  · replace h := h.2 q
    refine wa_aload_n 73 dX10_marks_72 rfl rfl ?_
    refine wa_iload_n 74 dX10_marks_73 rfl rfl ?_
    refine wa_iload 76 dX10_marks_74 rfl rfl ?_
    refine wa_iconst 77 dX10_marks_76 rfl (by decide) ?_
    refine wa_callV 80 0 3 10 (av := [(0, v1), (0, v16), (0, 1)]) (rest := []) (k1 := (0, 0)) (k2 := (0, 0)) cvX10_worthOf dX10_marks_77 rfl wM_X10_88 ⟨rfl, by decide, rfl, Nat.le_of_ble_eq_true rfl, by decide, Nat.le_of_ble_eq_true rfl, rfl, rfl⟩ rfl k0 (TR.mono h (fun r5 L6 μ7 h => ?_))
    obtain ⟨w8, rfl, rfl, h⟩ := h
    show WA mX10_marks 2 (0, 0) 80 [(2, v0), (0, v1), (9, 0), (9, 0), (9, 0), (9, 0), (9, 0), (9, 0), (9, 0), (9, 0), (1, v10), (9, 0), (1, v12), (9, 0), (1, v14), (9, 0), (0, v16), (9, 0), (9, 0)] [(1, w8)] L μ7 Q
    refine wa_lstore 82 [(2, v0), (0, v1), (9, 0), (9, 0), (9, 0), (9, 0), (9, 0), (9, 0), (9, 0), (9, 0), (1, v10), (9, 0), (1, v12), (9, 0), (1, v14), (9, 0), (0, v16), (1, w8), (9, 0)] dX10_marks_80 rfl rfl rfl ?_
    refine wa_lload 84 dX10_marks_82 rfl rfl ?_
    refine wa_lload 86 dX10_marks_84 rfl rfl ?_
    obtain ⟨c9, h⟩ := h
    refine wa_lmul 87 dX10_marks_86 rfl c9 ?_
    refine wa_lload 89 dX10_marks_87 rfl rfl ?_
    refine wa_lc_ge 93 136 dX10_marks_89 dX10_marks_90 rfl (by decide) (fun q => ?_) (fun q => ?_)
    · replace h := h.1 q
      refine wa_lload 138 dX10_marks_136 rfl rfl ?_
      refine wa_lload 140 dX10_marks_138 rfl rfl ?_
      obtain ⟨c10, h⟩ := h
      refine wa_ladd 141 dX10_marks_140 rfl c10 ?_
      refine wa_lstore 143 [(2, v0), (0, v1), (9, 0), (9, 0), (9, 0), (9, 0), (9, 0), (9, 0), (9, 0), (9, 0), (1, v10), (9, 0), (1, v12), (9, 0), (1, (v14 + w8)), (9, 0), (0, v16), (1, w8), (9, 0)] dX10_marks_141 rfl rfl rfl ?_
      obtain ⟨c11, h⟩ := h
      refine wa_iinc 146 [(2, v0), (0, v1), (9, 0), (9, 0), (9, 0), (9, 0), (9, 0), (9, 0), (9, 0), (9, 0), (1, v10), (9, 0), (1, v12), (9, 0), (1, (v14 + w8)), (9, 0), (0, (v16 + 1)), (1, w8), (9, 0)] dX10_marks_143 rfl rfl rfl c11 rfl ?_
      refine wa_goto 63 dX10_marks_146 (by decide) ?_
      exact wa_weak [(2, v0), (0, v1), (9, 0), (9, 0), (9, 0), (9, 0), (9, 0), (9, 0), (9, 0), (9, 0), (1, v10), (9, 0), (1, v12), (9, 0), (1, (v14 + w8)), (9, 0), (0, (v16 + 1)), (9, 0), (9, 0)] ⟨Or.inl rfl, Or.inl rfl, Or.inl rfl, Or.inl rfl, Or.inl rfl, Or.inl rfl, Or.inl rfl, Or.inl rfl, Or.inl rfl, Or.inl rfl, Or.inl rfl, Or.inl rfl, Or.inl rfl, Or.inl rfl, Or.inl rfl, Or.inl rfl, Or.inl rfl, Or.inr rfl, Or.inl rfl, trivial⟩ h
    · replace h := h.2 q
      refine wa_lload 95 dX10_marks_93 rfl rfl ?_
      refine wa_lload 97 dX10_marks_95 rfl rfl ?_
      refine wa_lload 99 dX10_marks_97 rfl rfl ?_
      obtain ⟨c12, h⟩ := h
      refine wa_ladd 100 dX10_marks_99 rfl c12 ?_
      refine wa_lload 102 dX10_marks_100 rfl rfl ?_
      obtain ⟨c13, h⟩ := h
      refine wa_lmul 103 dX10_marks_102 rfl c13 ?_
      refine wa_lc_gt 107 136 dX10_marks_103 dX10_marks_104 rfl (by decide) (fun q => ?_) (fun q => ?_)
      · replace h := h.1 q
        refine wa_lload 138 dX10_marks_136 rfl rfl ?_
        refine wa_lload 140 dX10_marks_138 rfl rfl ?_
        refine wa_ladd 141 dX10_marks_140 rfl c12 ?_
        refine wa_lstore 143 [(2, v0), (0, v1), (9, 0), (9, 0), (9, 0), (9, 0), (9, 0), (9, 0), (9, 0), (9, 0), (1, v10), (9, 0), (1, v12), (9, 0), (1, (v14 + w8)), (9, 0), (0, v16), (1, w8), (9, 0)] dX10_marks_141 rfl rfl rfl ?_
        obtain ⟨c14, h⟩ := h
        refine wa_iinc 146 [(2, v0), (0, v1), (9, 0), (9, 0), (9, 0), (9, 0), (9, 0), (9, 0), (9, 0), (9, 0), (1, v10), (9, 0), (1, v12), (9, 0), (1, (v14 + w8)), (9, 0), (0, (v16 + 1)), (1, w8), (9, 0)] dX10_marks_143 rfl rfl rfl c14 rfl ?_
        refine wa_goto 63 dX10_marks_146 (by decide) ?_
        exact wa_weak [(2, v0), (0, v1), (9, 0), (9, 0), (9, 0), (9, 0), (9, 0), (9, 0), (9, 0), (9, 0), (1, v10), (9, 0), (1, v12), (9, 0), (1, (v14 + w8)), (9, 0), (0, (v16 + 1)), (9, 0), (9, 0)] ⟨Or.inl rfl, Or.inl rfl, Or.inl rfl, Or.inl rfl, Or.inl rfl, Or.inl rfl, Or.inl rfl, Or.inl rfl, Or.inl rfl, Or.inl rfl, Or.inl rfl, Or.inl rfl, Or.inl rfl, Or.inl rfl, Or.inl rfl, Or.inl rfl, Or.inl rfl, Or.inr rfl, Or.inl rfl, trivial⟩ h
      · replace h := h.2 q
        refine wa_aload_n 108 dX10_marks_107 rfl rfl ?_
        refine wa_iload 110 dX10_marks_108 rfl rfl ?_
        refine wa_i2l 111 dX10_marks_110 rfl ?_
        refine wa_lload 113 dX10_marks_111 rfl rfl ?_
        obtain ⟨c15, h⟩ := h
        refine wa_lmul 114 dX10_marks_113 rfl c15 ?_
        refine wa_lload 116 dX10_marks_114 rfl rfl ?_
        obtain ⟨c16, h⟩ := h
        refine wa_lmul 117 dX10_marks_116 rfl c16 ?_
        refine wa_lload 119 dX10_marks_117 rfl rfl ?_
        obtain ⟨c17, h⟩ := h
        refine wa_ladd 120 dX10_marks_119 rfl c17 ?_
        refine wa_lload 122 dX10_marks_120 rfl rfl ?_
        refine wa_lload 124 dX10_marks_122 rfl rfl ?_
        refine wa_lmul 125 dX10_marks_124 rfl c9 ?_
        obtain ⟨c18, h⟩ := h
        refine wa_lsub 126 dX10_marks_125 rfl c18 ?_
        refine wa_lload 128 dX10_marks_126 rfl rfl ?_
        refine wa_lload 130 dX10_marks_128 rfl rfl ?_
        obtain ⟨c19, h⟩ := h
        refine wa_lmul 131 dX10_marks_130 rfl c19 ?_
        refine wa_callV 134 1 2 10 (av := [(1, ((((v16 * w8) * v10) + v12) - (v14 * v10))), (1, (w8 * v10))]) (rest := []) (k1 := (0, 0)) (k2 := (0, 0)) cvX10_becomes dX10_marks_131 rfl wM_X10_110 ⟨rfl, by decide, rfl, Nat.le_of_ble_eq_true rfl, by decide, Nat.le_of_ble_eq_true rfl, rfl, rfl⟩ rfl k0 (TR.mono h (fun r20 L21 μ22 h => ?_))
        obtain ⟨rfl, rfl, h⟩ := h
        show WA mX10_marks 2 (0, 0) 134 [(2, v0), (0, v1), (9, 0), (9, 0), (9, 0), (9, 0), (9, 0), (9, 0), (9, 0), (9, 0), (1, v10), (9, 0), (1, v12), (9, 0), (1, v14), (9, 0), (0, v16), (1, w8), (9, 0)] [] L μ22 Q
        refine wa_iconst 135 dX10_marks_134 rfl (by decide) ?_
        exact wa_zret dX10_marks_135 rfl (Or.inr rfl) h
set_option maxRecDepth 20000 in
theorem t_X10_marksPoint (hL : LayOK L) {v0 v1 v2 v4 v6 v8 v10 : Int} (k0 : isK L v0 (10, 0)) (h : TR mX10_marks 2 (0, 0) [(2, v0), (0, v1), (1, v2), (1, v4), (1, v6), (1, v8)] L μ (fun r1 L2 μ3 => ∃ w4, r1 = some (0, w4) ∧ L = L2 ∧ (0 ≤ v1 ∧ v1 < 5) ∧ TR mX10_unites 1 (0, 0) [(2, v0), (1, ((up (up μ3 ((rf L v0 13)) v1 ((μ3 v0 4))) ((rf L v0 14)) v1 (((up μ3 ((rf L v0 13)) v1 ((μ3 v0 4))) v0 5))) v0 5))] L (up (up μ3 ((rf L v0 13)) v1 ((μ3 v0 4))) ((rf L v0 14)) v1 (((up μ3 ((rf L v0 13)) v1 ((μ3 v0 4))) v0 5))) (fun r8 L9 μ10 => r8 = none ∧ L = L9 ∧ (v10 = 0 → Q none L μ10) ∧ (¬ v10 = 0 → (¬ (μ10 v0 11) = 0 → Q none L μ10) ∧ ((μ10 v0 11) = 0 → TR mX10_happens 0 (0, 0) [(2, v0), (0, 0), (0, v1), (1, (μ10 v0 4)), (1, (μ10 v0 5)), (1, 0), (1, 1)] L μ10 (fun r11 L12 μ13 => r11 = none ∧ L = L12 ∧ Q none L μ13)))))) : TR mX10_marksPoint 3 (0, 0) [(2, v0), (0, v1), (1, v2), (1, v4), (1, v6), (1, v8), (0, v10)] L μ Q := by
  refine TR.of (ls := [(2, v0), (0, v1), (1, v2), (9, 0), (1, v4), (9, 0), (1, v6), (9, 0), (1, v8), (9, 0), (0, v10)]) (by decide) (by simp) rfl (Nat.le_of_ble_eq_true rfl) ?_
  refine wa_aload_n 1 dX10_marksPoint_0 rfl rfl ?_
  refine wa_iload_n 2 dX10_marksPoint_1 rfl rfl ?_
  refine wa_lload_n 3 dX10_marksPoint_2 rfl rfl ?_
  refine wa_lload 5 dX10_marksPoint_3 rfl rfl ?_
  refine wa_lload 7 dX10_marksPoint_5 rfl rfl ?_
  refine wa_lload 9 dX10_marksPoint_7 rfl rfl ?_
  refine wa_callV 12 2 5 10 (av := [(0, v1), (1, v2), (1, v4), (1, v6), (1, v8)]) (rest := []) (k1 := (0, 0)) (k2 := (0, 0)) cvX10_marks dX10_marksPoint_9 rfl wM_X10_132 ⟨rfl, by decide, rfl, Nat.le_of_ble_eq_true rfl, by decide, Nat.le_of_ble_eq_true rfl, rfl, rfl⟩ rfl k0 (TR.mono h (fun r1 L2 μ3 h => ?_))
  obtain ⟨w4, rfl, rfl, h⟩ := h
  show WA mX10_marksPoint 3 (0, 0) 12 [(2, v0), (0, v1), (1, v2), (9, 0), (1, v4), (9, 0), (1, v6), (9, 0), (1, v8), (9, 0), (0, v10)] [(0, w4)] L μ3 Q
  refine wa_pop 13 dX10_marksPoint_12 rfl (Or.inl rfl) ?_
  refine wa_aload_n 14 dX10_marksPoint_13 rfl rfl ?_
  have e5 : isK L (rf L v0 13) (21, 5) := lay_f hL k0 13 rfl
  refine wa_getR 17 13 dX10_marksPoint_14 rfl wF_X10_25 rfl rfl ⟨k0, isK_pos e5⟩ ?_
  refine wa_iload_n 18 dX10_marksPoint_17 rfl rfl ?_
  refine wa_aload_n 19 dX10_marksPoint_18 rfl rfl ?_
  refine wa_getL 22 4 dX10_marksPoint_19 rfl wF_X10_99 rfl rfl k0 ?_
  obtain ⟨c6, h⟩ := h
  refine wa_lastore 23 dX10_marksPoint_22 rfl (okA_of e5 c6) ?_
  refine wa_aload_n 24 dX10_marksPoint_23 rfl rfl ?_
  have e7 : isK L (rf L v0 14) (21, 5) := lay_f hL k0 14 rfl
  refine wa_getR 27 14 dX10_marksPoint_24 rfl wF_X10_28 rfl rfl ⟨k0, isK_pos e7⟩ ?_
  refine wa_iload_n 28 dX10_marksPoint_27 rfl rfl ?_
  refine wa_aload_n 29 dX10_marksPoint_28 rfl rfl ?_
  refine wa_getL 32 5 dX10_marksPoint_29 rfl wF_X10_103 rfl rfl k0 ?_
  refine wa_lastore 33 dX10_marksPoint_32 rfl (okA_of e7 c6) ?_
  refine wa_aload_n 34 dX10_marksPoint_33 rfl rfl ?_
  refine wa_aload_n 35 dX10_marksPoint_34 rfl rfl ?_
  refine wa_getL 38 5 dX10_marksPoint_35 rfl wF_X10_103 rfl rfl k0 ?_
  refine wa_callV 41 1 1 10 (av := [(1, ((up (up μ3 ((rf L v0 13)) v1 ((μ3 v0 4))) ((rf L v0 14)) v1 (((up μ3 ((rf L v0 13)) v1 ((μ3 v0 4))) v0 5))) v0 5))]) (rest := []) (k1 := (0, 0)) (k2 := (0, 0)) cvX10_unites dX10_marksPoint_38 rfl wM_X10_232 ⟨rfl, by decide, rfl, Nat.le_of_ble_eq_true rfl, by decide, Nat.le_of_ble_eq_true rfl, rfl, rfl⟩ rfl k0 (TR.mono h (fun r8 L9 μ10 h => ?_))
  obtain ⟨rfl, rfl, h⟩ := h
  show WA mX10_marksPoint 3 (0, 0) 41 [(2, v0), (0, v1), (1, v2), (9, 0), (1, v4), (9, 0), (1, v6), (9, 0), (1, v8), (9, 0), (0, v10)] [] L μ10 Q
  refine wa_iload 43 dX10_marksPoint_41 rfl rfl ?_
  refine wa_if_eq 46 69 dX10_marksPoint_43 rfl (by decide) (fun q => ?_) (fun q => ?_)
  · replace h := h.1 q
    exact wa_vret dX10_marksPoint_69 rfl h
  · replace h := h.2 q
    refine wa_aload_n 47 dX10_marksPoint_46 rfl rfl ?_
    refine wa_getI 50 11 dX10_marksPoint_47 rfl wF_X10_219 rfl rfl k0 ?_
    refine wa_if_ne 53 69 dX10_marksPoint_50 rfl (by decide) (fun q => ?_) (fun q => ?_)
    · replace h := h.1 q
      exact wa_vret dX10_marksPoint_69 rfl h
    · replace h := h.2 q
      refine wa_aload_n 54 dX10_marksPoint_53 rfl rfl ?_
      refine wa_iconst 55 dX10_marksPoint_54 rfl (by decide) ?_
      refine wa_iload_n 56 dX10_marksPoint_55 rfl rfl ?_
      refine wa_aload_n 57 dX10_marksPoint_56 rfl rfl ?_
      refine wa_getL 60 4 dX10_marksPoint_57 rfl wF_X10_99 rfl rfl k0 ?_
      refine wa_aload_n 61 dX10_marksPoint_60 rfl rfl ?_
      refine wa_getL 64 5 dX10_marksPoint_61 rfl wF_X10_103 rfl rfl k0 ?_
      refine wa_lconst 65 0 dX10_marksPoint_64 rfl ⟨rfl, by decide⟩ ?_
      refine wa_lconst 66 1 dX10_marksPoint_65 rfl ⟨rfl, by decide⟩ ?_
      refine wa_callV 69 0 6 10 (av := [(0, 0), (0, v1), (1, (μ10 v0 4)), (1, (μ10 v0 5)), (1, 0), (1, 1)]) (rest := []) (k1 := (0, 0)) (k2 := (0, 0)) cvX10_happens dX10_marksPoint_66 rfl wM_X10_239 ⟨rfl, by decide, rfl, Nat.le_of_ble_eq_true rfl, by decide, Nat.le_of_ble_eq_true rfl, rfl, rfl⟩ rfl k0 (TR.mono h (fun r11 L12 μ13 h => ?_))
      obtain ⟨rfl, rfl, h⟩ := h
      show WA mX10_marksPoint 3 (0, 0) 69 [(2, v0), (0, v1), (1, v2), (9, 0), (1, v4), (9, 0), (1, v6), (9, 0), (1, v8), (9, 0), (0, v10)] [] L μ13 Q
      exact wa_vret dX10_marksPoint_69 rfl h
set_option maxRecDepth 20000 in
theorem t_X10_mayLie (hL : LayOK L) {v0 v1 v2 v3 : Int} (k0 : isK L v0 (10, 0)) (h : (v2 = v3 → Q (some (0, 0)) L μ) ∧ (¬ v2 = v3 → TR mX10_worthOf 0 (0, 0) [(2, v0), (0, v1), (0, v2), (0, 1)] L μ (fun r1 L2 μ3 => ∃ w4, r1 = some (1, w4) ∧ L = L2 ∧ (w4 ≤ 0 → Q (some (0, 0)) L μ3) ∧ (¬ w4 ≤ 0 → TR mX10_worthOf 0 (0, 0) [(2, v0), (0, v1), (0, v3), (0, 1)] L μ3 (fun r5 L6 μ7 => ∃ w8, r5 = some (1, w8) ∧ L = L6 ∧ (9 ≤ w8 → Q (some (0, 0)) L μ7) ∧ (¬ 9 ≤ w8 → Q (some (0, 1)) L μ7)))))) : TR mX10_mayLie 1 (0, 0) [(2, v0), (0, v1), (0, v2), (0, v3)] L μ Q := by
  refine TR.of (ls := [(2, v0), (0, v1), (0, v2), (0, v3)]) (by decide) (by simp) rfl (Nat.le_of_ble_eq_true rfl) ?_
  refine wa_iload_n 1 dX10_mayLie_0 rfl rfl ?_
  refine wa_iload_n 2 dX10_mayLie_1 rfl rfl ?_
  refine wa_icmp_eq 5 35 dX10_mayLie_2 rfl (by decide) (fun q => ?_) (fun q => ?_)
  · replace h := h.1 q
    refine wa_iconst 36 dX10_mayLie_35 rfl (by decide) ?_
    exact wa_zret dX10_mayLie_36 rfl (Or.inl rfl) h
  · replace h := h.2 q
    refine wa_aload_n 6 dX10_mayLie_5 rfl rfl ?_
    refine wa_iload_n 7 dX10_mayLie_6 rfl rfl ?_
    refine wa_iload_n 8 dX10_mayLie_7 rfl rfl ?_
    refine wa_iconst 9 dX10_mayLie_8 rfl (by decide) ?_
    refine wa_callV 12 0 3 10 (av := [(0, v1), (0, v2), (0, 1)]) (rest := []) (k1 := (0, 0)) (k2 := (0, 0)) cvX10_worthOf dX10_mayLie_9 rfl wM_X10_88 ⟨rfl, by decide, rfl, Nat.le_of_ble_eq_true rfl, by decide, Nat.le_of_ble_eq_true rfl, rfl, rfl⟩ rfl k0 (TR.mono h (fun r1 L2 μ3 h => ?_))
    obtain ⟨w4, rfl, rfl, h⟩ := h
    show WA mX10_mayLie 1 (0, 0) 12 [(2, v0), (0, v1), (0, v2), (0, v3)] [(1, w4)] L μ3 Q
    refine wa_lconst 13 0 dX10_mayLie_12 rfl ⟨rfl, by decide⟩ ?_
    refine wa_lc_le 17 35 dX10_mayLie_13 dX10_mayLie_14 rfl (by decide) (fun q => ?_) (fun q => ?_)
    · replace h := h.1 q
      refine wa_iconst 36 dX10_mayLie_35 rfl (by decide) ?_
      exact wa_zret dX10_mayLie_36 rfl (Or.inl rfl) h
    · replace h := h.2 q
      refine wa_aload_n 18 dX10_mayLie_17 rfl rfl ?_
      refine wa_iload_n 19 dX10_mayLie_18 rfl rfl ?_
      refine wa_iload_n 20 dX10_mayLie_19 rfl rfl ?_
      refine wa_iconst 21 dX10_mayLie_20 rfl (by decide) ?_
      refine wa_callV 24 0 3 10 (av := [(0, v1), (0, v3), (0, 1)]) (rest := []) (k1 := (0, 0)) (k2 := (0, 0)) cvX10_worthOf dX10_mayLie_21 rfl wM_X10_88 ⟨rfl, by decide, rfl, Nat.le_of_ble_eq_true rfl, by decide, Nat.le_of_ble_eq_true rfl, rfl, rfl⟩ rfl k0 (TR.mono h (fun r5 L6 μ7 h => ?_))
      obtain ⟨w8, rfl, rfl, h⟩ := h
      show WA mX10_mayLie 1 (0, 0) 24 [(2, v0), (0, v1), (0, v2), (0, v3)] [(1, w8)] L μ7 Q
      refine wa_ldc2 27 9 dX10_mayLie_24 rfl wJ_X10_86 ⟨rfl, by decide⟩ ?_
      refine wa_lc_ge 31 35 dX10_mayLie_27 dX10_mayLie_28 rfl (by decide) (fun q => ?_) (fun q => ?_)
      · replace h := h.1 q
        refine wa_iconst 36 dX10_mayLie_35 rfl (by decide) ?_
        exact wa_zret dX10_mayLie_36 rfl (Or.inl rfl) h
      · replace h := h.2 q
        refine wa_iconst 32 dX10_mayLie_31 rfl (by decide) ?_
        refine wa_goto 36 dX10_mayLie_32 (by decide) ?_
        exact wa_zret dX10_mayLie_36 rfl (Or.inr rfl) h
set_option maxRecDepth 20000 in
theorem t_X10_mayRow (hL : LayOK L) {v0 v1 v2 v3 : Int} (k0 : isK L v0 (10, 0)) (h : TR mX10_isAgent 1 (0, 0) [(2, v0), (0, v1)] L μ (fun r1 L2 μ3 => ∃ w4, r1 = some (0, w4) ∧ L = L2 ∧ (w4 = 0 → Q (some (0, (-1))) L μ3) ∧ (¬ w4 = 0 → TR mX10_isList 1 (0, 0) [(0, v2)] L μ3 (fun r5 L6 μ7 => ∃ w8, r5 = some (0, w8) ∧ L = L6 ∧ (¬ w8 = 0 → (0 ≤ v2 ∧ v2 < 4) ∧ (0 ≤ (μ7 ((rf L v0 26)) v2) → (0 ≤ v3 → Q (some (0, 0)) L μ7) ∧ (¬ 0 ≤ v3 → Q (some (0, (-13))) L μ7)) ∧ (¬ 0 ≤ (μ7 ((rf L v0 26)) v2) → Q (some (0, (-11))) L μ7)) ∧ (w8 = 0 → Q (some (0, (-1))) L μ7))))) : TR mX10_mayRow 2 (0, 0) [(2, v0), (0, v1), (0, v2), (0, v3)] L μ Q := by
  refine TR.of (ls := [(2, v0), (0, v1), (0, v2), (0, v3)]) (by decide) (by simp) rfl (Nat.le_of_ble_eq_true rfl) ?_
  refine wa_aload_n 1 dX10_mayRow_0 rfl rfl ?_
  refine wa_iload_n 2 dX10_mayRow_1 rfl rfl ?_
  refine wa_callV 5 1 1 10 (av := [(0, v1)]) (rest := []) (k1 := (0, 0)) (k2 := (0, 0)) cvX10_isAgent dX10_mayRow_2 rfl wM_X10_79 ⟨rfl, by decide, rfl, Nat.le_of_ble_eq_true rfl, by decide, Nat.le_of_ble_eq_true rfl, rfl, rfl⟩ rfl k0 (TR.mono h (fun r1 L2 μ3 h => ?_))
  obtain ⟨w4, rfl, rfl, h⟩ := h
  show WA mX10_mayRow 2 (0, 0) 5 [(2, v0), (0, v1), (0, v2), (0, v3)] [(0, w4)] L μ3 Q
  refine wa_if_eq 8 15 dX10_mayRow_5 rfl (by decide) (fun q => ?_) (fun q => ?_)
  · replace h := h.1 q
    refine wa_iconst 16 dX10_mayRow_15 rfl (by decide) ?_
    exact wa_iret dX10_mayRow_16 rfl h
  · replace h := h.2 q
    refine wa_iload_n 9 dX10_mayRow_8 rfl rfl ?_
    refine wa_callS 12 1 1 (av := [(0, v2)]) (rest := []) (k1 := (0, 0)) (k2 := (0, 0)) cvX10_isList dX10_mayRow_9 rfl wM_X10_362 ⟨rfl, Nat.le_of_ble_eq_true rfl, by decide, Nat.le_of_ble_eq_true rfl, rfl, rfl⟩ rfl (TR.mono h (fun r5 L6 μ7 h => ?_))
    obtain ⟨w8, rfl, rfl, h⟩ := h
    show WA mX10_mayRow 2 (0, 0) 12 [(2, v0), (0, v1), (0, v2), (0, v3)] [(0, w8)] L μ7 Q
    refine wa_if_ne 15 17 dX10_mayRow_12 rfl (by decide) (fun q => ?_) (fun q => ?_)
    · replace h := h.1 q
      refine wa_aload_n 18 dX10_mayRow_17 rfl rfl ?_
      have e9 : isK L (rf L v0 26) (20, 4) := lay_f hL k0 26 rfl
      refine wa_getR 21 26 dX10_mayRow_18 rfl wF_X10_55 rfl rfl ⟨k0, isK_pos e9⟩ ?_
      refine wa_iload_n 22 dX10_mayRow_21 rfl rfl ?_
      obtain ⟨c10, h⟩ := h
      refine wa_iaload 23 dX10_mayRow_22 rfl (okA_of e9 c10) ?_
      refine wa_if_ge 26 31 dX10_mayRow_23 rfl (by decide) (fun q => ?_) (fun q => ?_)
      · replace h := h.1 q
        refine wa_iload_n 32 dX10_mayRow_31 rfl rfl ?_
        refine wa_if_ge 35 40 dX10_mayRow_32 rfl (by decide) (fun q => ?_) (fun q => ?_)
        · replace h := h.1 q
          refine wa_iconst 41 dX10_mayRow_40 rfl (by decide) ?_
          exact wa_iret dX10_mayRow_41 rfl h
        · replace h := h.2 q
          refine wa_bipush 37 dX10_mayRow_35 rfl ⟨by decide, by decide⟩ ?_
          refine wa_goto 41 dX10_mayRow_37 (by decide) ?_
          exact wa_iret dX10_mayRow_41 rfl h
      · replace h := h.2 q
        refine wa_bipush 28 dX10_mayRow_26 rfl ⟨by decide, by decide⟩ ?_
        refine wa_goto 41 dX10_mayRow_28 (by decide) ?_
        exact wa_iret dX10_mayRow_41 rfl h
    · replace h := h.2 q
      refine wa_iconst 16 dX10_mayRow_15 rfl (by decide) ?_
      exact wa_iret dX10_mayRow_16 rfl h
set_option maxRecDepth 20000 in
theorem t_X10_mayWay (hL : LayOK L) {v0 v1 v2 : Int} (k0 : isK L v0 (10, 0)) (h : TR mX10_in 0 (0, 0) [(1, v1), (1, 0), (1, 4)] L μ (fun r1 L2 μ3 => ∃ w4, r1 = some (0, w4) ∧ L = L2 ∧ (w4 = 0 → Q (some (0, (-1))) L μ3) ∧ (¬ w4 = 0 → TR mX10_isAgent 1 (0, 0) [(2, v0), (0, v2)] L μ3 (fun r5 L6 μ7 => ∃ w8, r5 = some (0, w8) ∧ L = L6 ∧ (¬ w8 = 0 → (¬ v1 = 0 → (¬ v1 = 4 → Q (some (0, 0)) L μ7) ∧ (v1 = 4 → TR mX10_agents 0 (0, 0) [(2, v0)] L μ7 (fun r9 L10 μ11 => ∃ w12, r9 = some (0, w12) ∧ L = L10 ∧ (w12 = 3 → Q (some (0, 0)) L μ11) ∧ (¬ w12 = 3 → Q (some (0, (-5))) L μ11)))) ∧ (v1 = 0 → TR mX10_agents 0 (0, 0) [(2, v0)] L μ7 (fun r13 L14 μ15 => ∃ w16, r13 = some (0, w16) ∧ L = L14 ∧ (¬ w16 = 2 → Q (some (0, (-5))) L μ15) ∧ (w16 = 2 → (¬ v1 = 4 → Q (some (0, 0)) L μ15) ∧ (v1 = 4 → TR mX10_agents 0 (0, 0) [(2, v0)] L μ15 (fun r17 L18 μ19 => ∃ w20, r17 = some (0, w20) ∧ L = L18 ∧ (w20 = 3 → Q (some (0, 0)) L μ19) ∧ (¬ w20 = 3 → Q (some (0, (-5))) L μ19))))))) ∧ (w8 = 0 → Q (some (0, (-1))) L μ7))))) : TR mX10_mayWay 2 (0, 0) [(2, v0), (0, v1), (0, v2)] L μ Q := by
  refine TR.of (ls := [(2, v0), (0, v1), (0, v2)]) (by decide) (by simp) rfl (Nat.le_of_ble_eq_true rfl) ?_
  refine wa_iload_n 1 dX10_mayWay_0 rfl rfl ?_
  refine wa_i2l 2 dX10_mayWay_1 rfl ?_
  refine wa_lconst 3 0 dX10_mayWay_2 rfl ⟨rfl, by decide⟩ ?_
  refine wa_ldc2 6 4 dX10_mayWay_3 rfl wJ_X10_301 ⟨rfl, by decide⟩ ?_
  refine wa_callS 9 0 3 (av := [(1, v1), (1, 0), (1, 4)]) (rest := []) (k1 := (0, 0)) (k2 := (0, 0)) cvX10_in dX10_mayWay_6 rfl wM_X10_65 ⟨rfl, Nat.le_of_ble_eq_true rfl, by decide, Nat.le_of_ble_eq_true rfl, rfl, rfl⟩ rfl (TR.mono h (fun r1 L2 μ3 h => ?_))
  obtain ⟨w4, rfl, rfl, h⟩ := h
  show WA mX10_mayWay 2 (0, 0) 9 [(2, v0), (0, v1), (0, v2)] [(0, w4)] L μ3 Q
  refine wa_if_eq 12 20 dX10_mayWay_9 rfl (by decide) (fun q => ?_) (fun q => ?_)
  · replace h := h.1 q
    refine wa_iconst 21 dX10_mayWay_20 rfl (by decide) ?_
    exact wa_iret dX10_mayWay_21 rfl h
  · replace h := h.2 q
    refine wa_aload_n 13 dX10_mayWay_12 rfl rfl ?_
    refine wa_iload_n 14 dX10_mayWay_13 rfl rfl ?_
    refine wa_callV 17 1 1 10 (av := [(0, v2)]) (rest := []) (k1 := (0, 0)) (k2 := (0, 0)) cvX10_isAgent dX10_mayWay_14 rfl wM_X10_79 ⟨rfl, by decide, rfl, Nat.le_of_ble_eq_true rfl, by decide, Nat.le_of_ble_eq_true rfl, rfl, rfl⟩ rfl k0 (TR.mono h (fun r5 L6 μ7 h => ?_))
    obtain ⟨w8, rfl, rfl, h⟩ := h
    show WA mX10_mayWay 2 (0, 0) 17 [(2, v0), (0, v1), (0, v2)] [(0, w8)] L μ7 Q
    refine wa_if_ne 20 22 dX10_mayWay_17 rfl (by decide) (fun q => ?_) (fun q => ?_)
    · replace h := h.1 q
      refine wa_iload_n 23 dX10_mayWay_22 rfl rfl ?_
      refine wa_if_ne 26 34 dX10_mayWay_23 rfl (by decide) (fun q => ?_) (fun q => ?_)
      · replace h := h.1 q
        refine wa_iload_n 35 dX10_mayWay_34 rfl rfl ?_
        refine wa_iconst 36 dX10_mayWay_35 rfl (by decide) ?_
        refine wa_icmp_ne 39 52 dX10_mayWay_36 rfl (by decide) (fun q => ?_) (fun q => ?_)
        · replace h := h.1 q
          refine wa_iconst 53 dX10_mayWay_52 rfl (by decide) ?_
          exact wa_iret dX10_mayWay_53 rfl h
        · replace h := h.2 q
          refine wa_aload_n 40 dX10_mayWay_39 rfl rfl ?_
          refine wa_callV 43 0 0 10 (av := []) (rest := []) (k1 := (0, 0)) (k2 := (0, 0)) cvX10_agents dX10_mayWay_40 rfl wM_X10_75 ⟨rfl, by decide, rfl, Nat.le_of_ble_eq_true rfl, by decide, Nat.le_of_ble_eq_true rfl, rfl, rfl⟩ rfl k0 (TR.mono h (fun r9 L10 μ11 h => ?_))
          obtain ⟨w12, rfl, rfl, h⟩ := h
          show WA mX10_mayWay 2 (0, 0) 43 [(2, v0), (0, v1), (0, v2)] [(0, w12)] L μ11 Q
          refine wa_iconst 44 dX10_mayWay_43 rfl (by decide) ?_
          refine wa_icmp_eq 47 52 dX10_mayWay_44 rfl (by decide) (fun q => ?_) (fun q => ?_)
          · replace h := h.1 q
            refine wa_iconst 53 dX10_mayWay_52 rfl (by decide) ?_
            exact wa_iret dX10_mayWay_53 rfl h
          · replace h := h.2 q
            refine wa_bipush 49 dX10_mayWay_47 rfl ⟨by decide, by decide⟩ ?_
            refine wa_goto 53 dX10_mayWay_49 (by decide) ?_
            exact wa_iret dX10_mayWay_53 rfl h
      · replace h := h.2 q
        refine wa_aload_n 27 dX10_mayWay_26 rfl rfl ?_
        refine wa_callV 30 0 0 10 (av := []) (rest := []) (k1 := (0, 0)) (k2 := (0, 0)) cvX10_agents dX10_mayWay_27 rfl wM_X10_75 ⟨rfl, by decide, rfl, Nat.le_of_ble_eq_true rfl, by decide, Nat.le_of_ble_eq_true rfl, rfl, rfl⟩ rfl k0 (TR.mono h (fun r13 L14 μ15 h => ?_))
        obtain ⟨w16, rfl, rfl, h⟩ := h
        show WA mX10_mayWay 2 (0, 0) 30 [(2, v0), (0, v1), (0, v2)] [(0, w16)] L μ15 Q
        refine wa_iconst 31 dX10_mayWay_30 rfl (by decide) ?_
        refine wa_icmp_ne 34 47 dX10_mayWay_31 rfl (by decide) (fun q => ?_) (fun q => ?_)
        · replace h := h.1 q
          refine wa_bipush 49 dX10_mayWay_47 rfl ⟨by decide, by decide⟩ ?_
          refine wa_goto 53 dX10_mayWay_49 (by decide) ?_
          exact wa_iret dX10_mayWay_53 rfl h
        · replace h := h.2 q
          refine wa_iload_n 35 dX10_mayWay_34 rfl rfl ?_
          refine wa_iconst 36 dX10_mayWay_35 rfl (by decide) ?_
          refine wa_icmp_ne 39 52 dX10_mayWay_36 rfl (by decide) (fun q => ?_) (fun q => ?_)
          · replace h := h.1 q
            refine wa_iconst 53 dX10_mayWay_52 rfl (by decide) ?_
            exact wa_iret dX10_mayWay_53 rfl h
          · replace h := h.2 q
            refine wa_aload_n 40 dX10_mayWay_39 rfl rfl ?_
            refine wa_callV 43 0 0 10 (av := []) (rest := []) (k1 := (0, 0)) (k2 := (0, 0)) cvX10_agents dX10_mayWay_40 rfl wM_X10_75 ⟨rfl, by decide, rfl, Nat.le_of_ble_eq_true rfl, by decide, Nat.le_of_ble_eq_true rfl, rfl, rfl⟩ rfl k0 (TR.mono h (fun r17 L18 μ19 h => ?_))
            obtain ⟨w20, rfl, rfl, h⟩ := h
            show WA mX10_mayWay 2 (0, 0) 43 [(2, v0), (0, v1), (0, v2)] [(0, w20)] L μ19 Q
            refine wa_iconst 44 dX10_mayWay_43 rfl (by decide) ?_
            refine wa_icmp_eq 47 52 dX10_mayWay_44 rfl (by decide) (fun q => ?_) (fun q => ?_)
            · replace h := h.1 q
              refine wa_iconst 53 dX10_mayWay_52 rfl (by decide) ?_
              exact wa_iret dX10_mayWay_53 rfl h
            · replace h := h.2 q
              refine wa_bipush 49 dX10_mayWay_47 rfl ⟨by decide, by decide⟩ ?_
              refine wa_goto 53 dX10_mayWay_49 (by decide) ?_
              exact wa_iret dX10_mayWay_53 rfl h
    · replace h := h.2 q
      refine wa_iconst 21 dX10_mayWay_20 rfl (by decide) ?_
      exact wa_iret dX10_mayWay_21 rfl h
set_option maxRecDepth 20000 in
theorem t_X10_mostFor (hL : LayOK L) {v0 v1 v2 : Int} (k0 : isK L v0 (10, 0)) (h : WA mX10_mostFor 4 (0, 0) 11 [(2, v0), (0, v1), (0, v2), (0, (-1)), (1, 0), (9, 0), (1, 1), (9, 0), (0, 0)] [] L μ Q) : TR mX10_mostFor 4 (0, 0) [(2, v0), (0, v1), (0, v2)] L μ Q := by
  refine TR.of (ls := [(2, v0), (0, v1), (0, v2), (9, 0), (9, 0), (9, 0), (9, 0), (9, 0), (9, 0)]) (by decide) (by simp) rfl (Nat.le_of_ble_eq_true rfl) ?_
  refine wa_iconst 1 dX10_mostFor_0 rfl (by decide) ?_
  refine wa_istore_n 2 [(2, v0), (0, v1), (0, v2), (0, (-1)), (9, 0), (9, 0), (9, 0), (9, 0), (9, 0)] dX10_mostFor_1 rfl rfl rfl ?_
  refine wa_lconst 3 0 dX10_mostFor_2 rfl ⟨rfl, by decide⟩ ?_
  refine wa_lstore 5 [(2, v0), (0, v1), (0, v2), (0, (-1)), (1, 0), (9, 0), (9, 0), (9, 0), (9, 0)] dX10_mostFor_3 rfl rfl rfl ?_
  refine wa_lconst 6 1 dX10_mostFor_5 rfl ⟨rfl, by decide⟩ ?_
  refine wa_lstore 8 [(2, v0), (0, v1), (0, v2), (0, (-1)), (1, 0), (9, 0), (1, 1), (9, 0), (9, 0)] dX10_mostFor_6 rfl rfl rfl ?_
  refine wa_iconst 9 dX10_mostFor_8 rfl (by decide) ?_
  refine wa_istore 11 [(2, v0), (0, v1), (0, v2), (0, (-1)), (1, 0), (9, 0), (1, 1), (9, 0), (0, 0)] dX10_mostFor_9 rfl rfl rfl ?_
  exact h
set_option maxRecDepth 20000 in
theorem s_X10_mostFor_11 (hL : LayOK L) {v0 v1 v2 v3 v4 v6 v8 : Int} (k0 : isK L v0 (10, 0)) (h : (3 ≤ v8 → Q (some (0, v3)) L μ) ∧ (¬ 3 ≤ v8 → (¬ (bAnd ((bShr v2 v8)) 1) = 1 → (inI (v8 + 1)) ∧ WA mX10_mostFor 4 (0, 0) 11 [(2, v0), (0, v1), (0, v2), (0, v3), (1, v4), (9, 0), (1, v6), (9, 0), (0, (v8 + 1))] [] L μ Q) ∧ ((bAnd ((bShr v2 v8)) 1) = 1 → TR mX10_worthOfPiece 3 (0, 0) [(2, v0), (0, v1), (0, v8)] L μ (fun r2 L3 μ4 => r2 = none ∧ L = L3 ∧ (v3 < 0 → (inI (v8 + 1)) ∧ WA mX10_mostFor 4 (0, 0) 11 [(2, v0), (0, v1), (0, v2), (0, v8), (1, (μ4 v0 4)), (9, 0), (1, (μ4 v0 5)), (9, 0), (0, (v8 + 1))] [] L μ4 Q) ∧ (¬ v3 < 0 → TR mX10_isLess 0 (0, 0) [(1, v4), (1, v6), (1, (μ4 v0 4)), (1, (μ4 v0 5))] L μ4 (fun r6 L7 μ8 => ∃ w9, r6 = some (0, w9) ∧ L = L7 ∧ (w9 = 0 → (inI (v8 + 1)) ∧ WA mX10_mostFor 4 (0, 0) 11 [(2, v0), (0, v1), (0, v2), (0, v3), (1, v4), (9, 0), (1, v6), (9, 0), (0, (v8 + 1))] [] L μ8 Q) ∧ (¬ w9 = 0 → (inI (v8 + 1)) ∧ WA mX10_mostFor 4 (0, 0) 11 [(2, v0), (0, v1), (0, v2), (0, v8), (1, (μ8 v0 4)), (9, 0), (1, (μ8 v0 5)), (9, 0), (0, (v8 + 1))] [] L μ8 Q))))))) : WA mX10_mostFor 4 (0, 0) 11 [(2, v0), (0, v1), (0, v2), (0, v3), (1, v4), (9, 0), (1, v6), (9, 0), (0, v8)] [] L μ Q := by
  refine wa_iload 13 dX10_mostFor_11 rfl rfl ?_
  refine wa_iconst 14 dX10_mostFor_13 rfl (by decide) ?_
  refine wa_icmp_ge 17 77 dX10_mostFor_14 rfl (by decide) (fun q => ?_) (fun q => ?_)
  · replace h := h.1 q
    refine wa_iload_n 78 dX10_mostFor_77 rfl rfl ?_
    exact wa_iret dX10_mostFor_78 rfl h
  · replace h := h.2 q
    refine wa_iload_n 18 dX10_mostFor_17 rfl rfl ?_
    refine wa_iload 20 dX10_mostFor_18 rfl rfl ?_
    refine wa_ishr 21 dX10_mostFor_20 rfl ?_
    refine wa_iconst 22 dX10_mostFor_21 rfl (by decide) ?_
    refine wa_iand 23 dX10_mostFor_22 rfl ?_
    refine wa_iconst 24 dX10_mostFor_23 rfl (by decide) ?_
    refine wa_icmp_ne 27 71 dX10_mostFor_24 rfl (by decide) (fun q => ?_) (fun q => ?_)
    · replace h := h.1 q
      obtain ⟨c1, h⟩ := h
      refine wa_iinc 74 [(2, v0), (0, v1), (0, v2), (0, v3), (1, v4), (9, 0), (1, v6), (9, 0), (0, (v8 + 1))] dX10_mostFor_71 rfl rfl rfl c1 rfl ?_
      refine wa_goto 11 dX10_mostFor_74 (by decide) ?_
      exact h
    · replace h := h.2 q
      refine wa_aload_n 28 dX10_mostFor_27 rfl rfl ?_
      refine wa_iload_n 29 dX10_mostFor_28 rfl rfl ?_
      refine wa_iload 31 dX10_mostFor_29 rfl rfl ?_
      refine wa_callV 34 3 2 10 (av := [(0, v1), (0, v8)]) (rest := []) (k1 := (0, 0)) (k2 := (0, 0)) cvX10_worthOfPiece dX10_mostFor_31 rfl wM_X10_281 ⟨rfl, by decide, rfl, Nat.le_of_ble_eq_true rfl, by decide, Nat.le_of_ble_eq_true rfl, rfl, rfl⟩ rfl k0 (TR.mono h (fun r2 L3 μ4 h => ?_))
      obtain ⟨rfl, rfl, h⟩ := h
      show WA mX10_mostFor 4 (0, 0) 34 [(2, v0), (0, v1), (0, v2), (0, v3), (1, v4), (9, 0), (1, v6), (9, 0), (0, v8)] [] L μ4 Q
      refine wa_iload_n 35 dX10_mostFor_34 rfl rfl ?_
      refine wa_if_lt 38 56 dX10_mostFor_35 rfl (by decide) (fun q => ?_) (fun q => ?_)
      · replace h := h.1 q
        refine wa_iload 58 dX10_mostFor_56 rfl rfl ?_
        refine wa_istore_n 59 [(2, v0), (0, v1), (0, v2), (0, v8), (1, v4), (9, 0), (1, v6), (9, 0), (0, v8)] dX10_mostFor_58 rfl rfl rfl ?_
        refine wa_aload_n 60 dX10_mostFor_59 rfl rfl ?_
        refine wa_getL 63 4 dX10_mostFor_60 rfl wF_X10_99 rfl rfl k0 ?_
        refine wa_lstore 65 [(2, v0), (0, v1), (0, v2), (0, v8), (1, (μ4 v0 4)), (9, 0), (1, v6), (9, 0), (0, v8)] dX10_mostFor_63 rfl rfl rfl ?_
        refine wa_aload_n 66 dX10_mostFor_65 rfl rfl ?_
        refine wa_getL 69 5 dX10_mostFor_66 rfl wF_X10_103 rfl rfl k0 ?_
        refine wa_lstore 71 [(2, v0), (0, v1), (0, v2), (0, v8), (1, (μ4 v0 4)), (9, 0), (1, (μ4 v0 5)), (9, 0), (0, v8)] dX10_mostFor_69 rfl rfl rfl ?_
        obtain ⟨c5, h⟩ := h
        refine wa_iinc 74 [(2, v0), (0, v1), (0, v2), (0, v8), (1, (μ4 v0 4)), (9, 0), (1, (μ4 v0 5)), (9, 0), (0, (v8 + 1))] dX10_mostFor_71 rfl rfl rfl c5 rfl ?_
        refine wa_goto 11 dX10_mostFor_74 (by decide) ?_
        exact h
      · replace h := h.2 q
        refine wa_lload 40 dX10_mostFor_38 rfl rfl ?_
        refine wa_lload 42 dX10_mostFor_40 rfl rfl ?_
        refine wa_aload_n 43 dX10_mostFor_42 rfl rfl ?_
        refine wa_getL 46 4 dX10_mostFor_43 rfl wF_X10_99 rfl rfl k0 ?_
        refine wa_aload_n 47 dX10_mostFor_46 rfl rfl ?_
        refine wa_getL 50 5 dX10_mostFor_47 rfl wF_X10_103 rfl rfl k0 ?_
        refine wa_callS 53 0 4 (av := [(1, v4), (1, v6), (1, (μ4 v0 4)), (1, (μ4 v0 5))]) (rest := []) (k1 := (0, 0)) (k2 := (0, 0)) cvX10_isLess dX10_mostFor_50 rfl wM_X10_199 ⟨rfl, Nat.le_of_ble_eq_true rfl, by decide, Nat.le_of_ble_eq_true rfl, rfl, rfl⟩ rfl (TR.mono h (fun r6 L7 μ8 h => ?_))
        obtain ⟨w9, rfl, rfl, h⟩ := h
        show WA mX10_mostFor 4 (0, 0) 53 [(2, v0), (0, v1), (0, v2), (0, v3), (1, v4), (9, 0), (1, v6), (9, 0), (0, v8)] [(0, w9)] L μ8 Q
        refine wa_if_eq 56 71 dX10_mostFor_53 rfl (by decide) (fun q => ?_) (fun q => ?_)
        · replace h := h.1 q
          obtain ⟨c10, h⟩ := h
          refine wa_iinc 74 [(2, v0), (0, v1), (0, v2), (0, v3), (1, v4), (9, 0), (1, v6), (9, 0), (0, (v8 + 1))] dX10_mostFor_71 rfl rfl rfl c10 rfl ?_
          refine wa_goto 11 dX10_mostFor_74 (by decide) ?_
          exact h
        · replace h := h.2 q
          refine wa_iload 58 dX10_mostFor_56 rfl rfl ?_
          refine wa_istore_n 59 [(2, v0), (0, v1), (0, v2), (0, v8), (1, v4), (9, 0), (1, v6), (9, 0), (0, v8)] dX10_mostFor_58 rfl rfl rfl ?_
          refine wa_aload_n 60 dX10_mostFor_59 rfl rfl ?_
          refine wa_getL 63 4 dX10_mostFor_60 rfl wF_X10_99 rfl rfl k0 ?_
          refine wa_lstore 65 [(2, v0), (0, v1), (0, v2), (0, v8), (1, (μ8 v0 4)), (9, 0), (1, v6), (9, 0), (0, v8)] dX10_mostFor_63 rfl rfl rfl ?_
          refine wa_aload_n 66 dX10_mostFor_65 rfl rfl ?_
          refine wa_getL 69 5 dX10_mostFor_66 rfl wF_X10_103 rfl rfl k0 ?_
          refine wa_lstore 71 [(2, v0), (0, v1), (0, v2), (0, v8), (1, (μ8 v0 4)), (9, 0), (1, (μ8 v0 5)), (9, 0), (0, v8)] dX10_mostFor_69 rfl rfl rfl ?_
          obtain ⟨c11, h⟩ := h
          refine wa_iinc 74 [(2, v0), (0, v1), (0, v2), (0, v8), (1, (μ8 v0 4)), (9, 0), (1, (μ8 v0 5)), (9, 0), (0, (v8 + 1))] dX10_mostFor_71 rfl rfl rfl c11 rfl ?_
          refine wa_goto 11 dX10_mostFor_74 (by decide) ?_
          exact h
set_option maxRecDepth 20000 in
theorem t_X10_number (hL : LayOK L) {v0 v1 : Int} (k0 : isK L v0 (10, 0)) (h : (¬ (μ v0 9) = 0 → WA mX10_number 2 (0, 0) 27 [(2, v0), (0, v1), (0, 0), (0, 0)] [] L (up μ v0 9 1) Q) ∧ ((μ v0 9) = 0 → TR mX10_isFigure 1 (0, 0) [(2, v0)] L μ (fun r1 L2 μ3 => ∃ w4, r1 = some (0, w4) ∧ L = L2 ∧ (¬ w4 = 0 → WA mX10_number 2 (0, 0) 27 [(2, v0), (0, v1), (0, 0), (0, 0)] [] L (up μ3 v0 9 0) Q) ∧ (w4 = 0 → WA mX10_number 2 (0, 0) 27 [(2, v0), (0, v1), (0, 0), (0, 0)] [] L (up μ3 v0 9 1) Q)))) : TR mX10_number 2 (0, 0) [(2, v0), (0, v1)] L μ Q := by
  refine TR.of (ls := [(2, v0), (0, v1), (9, 0), (9, 0)]) (by decide) (by simp) rfl (Nat.le_of_ble_eq_true rfl) ?_
  refine wa_iconst 1 dX10_number_0 rfl (by decide) ?_
  refine wa_istore_n 2 [(2, v0), (0, v1), (0, 0), (9, 0)] dX10_number_1 rfl rfl rfl ?_
  refine wa_aload_n 3 dX10_number_2 rfl rfl ?_
  refine wa_aload_n 4 dX10_number_3 rfl rfl ?_
  refine wa_getI 7 9 dX10_number_4 rfl wF_X10_157 rfl rfl k0 ?_
  refine wa_if_ne 10 17 dX10_number_7 rfl (by decide) (fun q => ?_) (fun q => ?_)
  · replace h := h.1 q
    refine wa_iconst 18 dX10_number_17 rfl (by decide) ?_
    refine wa_goto 22 dX10_number_18 (by decide) ?_
    refine wa_putI 25 9 dX10_number_22 rfl wF_X10_157 rfl rfl k0 (Or.inr rfl) ?_
    refine wa_iconst 26 dX10_number_25 rfl (by decide) ?_
    refine wa_istore_n 27 [(2, v0), (0, v1), (0, 0), (0, 0)] dX10_number_26 rfl rfl rfl ?_
    exact h
  · replace h := h.2 q
    refine wa_aload_n 11 dX10_number_10 rfl rfl ?_
    refine wa_callV 14 1 0 10 (av := []) (rest := [(2, v0)]) (k1 := (0, 0)) (k2 := (0, 0)) cvX10_isFigure dX10_number_11 rfl wM_X10_168 ⟨rfl, by decide, rfl, Nat.le_of_ble_eq_true rfl, by decide, Nat.le_of_ble_eq_true rfl, rfl, rfl⟩ rfl k0 (TR.mono h (fun r1 L2 μ3 h => ?_))
    obtain ⟨w4, rfl, rfl, h⟩ := h
    show WA mX10_number 2 (0, 0) 14 [(2, v0), (0, v1), (0, 0), (9, 0)] [(0, w4), (2, v0)] L μ3 Q
    refine wa_if_ne 17 21 dX10_number_14 rfl (by decide) (fun q => ?_) (fun q => ?_)
    · replace h := h.1 q
      refine wa_iconst 22 dX10_number_21 rfl (by decide) ?_
      refine wa_putI 25 9 dX10_number_22 rfl wF_X10_157 rfl rfl k0 (Or.inl rfl) ?_
      refine wa_iconst 26 dX10_number_25 rfl (by decide) ?_
      refine wa_istore_n 27 [(2, v0), (0, v1), (0, 0), (0, 0)] dX10_number_26 rfl rfl rfl ?_
      exact h
    · replace h := h.2 q
      refine wa_iconst 18 dX10_number_17 rfl (by decide) ?_
      refine wa_goto 22 dX10_number_18 (by decide) ?_
      refine wa_putI 25 9 dX10_number_22 rfl wF_X10_157 rfl rfl k0 (Or.inr rfl) ?_
      refine wa_iconst 26 dX10_number_25 rfl (by decide) ?_
      refine wa_istore_n 27 [(2, v0), (0, v1), (0, 0), (0, 0)] dX10_number_26 rfl rfl rfl ?_
      exact h
set_option maxRecDepth 20000 in
theorem s_X10_number_27 (hL : LayOK L) {v0 v1 v2 v3 : Int} (k0 : isK L v0 (10, 0)) (h : (v1 ≤ v3 → Q (some (0, v2)) L μ) ∧ (¬ v1 ≤ v3 → TR mX10_isFigure 1 (0, 0) [(2, v0)] L μ (fun r1 L2 μ3 => ∃ w4, r1 = some (0, w4) ∧ L = L2 ∧ (w4 = 0 → Q (some (0, v2)) L μ3) ∧ (¬ w4 = 0 → (inI (10 * v2)) ∧ TR mX10_here 0 (0, 0) [(2, v0)] L μ3 (fun r6 L7 μ8 => ∃ w9, r6 = some (0, w9) ∧ L = L7 ∧ (inI ((10 * v2) + w9)) ∧ (inI (((10 * v2) + w9) - 48)) ∧ (inI ((μ8 v0 8) + 1)) ∧ (inI (v3 + 1)) ∧ WA mX10_number 2 (0, 0) 27 [(2, v0), (0, v1), (0, (((10 * v2) + w9) - 48)), (0, (v3 + 1))] [] L (up μ8 v0 8 (((μ8 v0 8) + 1))) Q))))) : WA mX10_number 2 (0, 0) 27 [(2, v0), (0, v1), (0, v2), (0, v3)] [] L μ Q := by
  refine wa_iload_n 28 dX10_number_27 rfl rfl ?_
  refine wa_iload_n 29 dX10_number_28 rfl rfl ?_
  refine wa_icmp_ge 32 68 dX10_number_29 rfl (by decide) (fun q => ?_) (fun q => ?_)
  · replace h := h.1 q
    refine wa_iload_n 69 dX10_number_68 rfl rfl ?_
    exact wa_iret dX10_number_69 rfl h
  · replace h := h.2 q
    refine wa_aload_n 33 dX10_number_32 rfl rfl ?_
    refine wa_callV 36 1 0 10 (av := []) (rest := []) (k1 := (0, 0)) (k2 := (0, 0)) cvX10_isFigure dX10_number_33 rfl wM_X10_168 ⟨rfl, by decide, rfl, Nat.le_of_ble_eq_true rfl, by decide, Nat.le_of_ble_eq_true rfl, rfl, rfl⟩ rfl k0 (TR.mono h (fun r1 L2 μ3 h => ?_))
    obtain ⟨w4, rfl, rfl, h⟩ := h
    show WA mX10_number 2 (0, 0) 36 [(2, v0), (0, v1), (0, v2), (0, v3)] [(0, w4)] L μ3 Q
    refine wa_if_eq 39 68 dX10_number_36 rfl (by decide) (fun q => ?_) (fun q => ?_)
    · replace h := h.1 q
      refine wa_iload_n 69 dX10_number_68 rfl rfl ?_
      exact wa_iret dX10_number_69 rfl h
    · replace h := h.2 q
      refine wa_bipush 41 dX10_number_39 rfl ⟨by decide, by decide⟩ ?_
      refine wa_iload_n 42 dX10_number_41 rfl rfl ?_
      obtain ⟨c5, h⟩ := h
      refine wa_imul 43 dX10_number_42 rfl c5 ?_
      refine wa_aload_n 44 dX10_number_43 rfl rfl ?_
      refine wa_callV 47 0 0 10 (av := []) (rest := [(0, (10 * v2))]) (k1 := (0, 0)) (k2 := (0, 0)) cvX10_here dX10_number_44 rfl wM_X10_161 ⟨rfl, by decide, rfl, Nat.le_of_ble_eq_true rfl, by decide, Nat.le_of_ble_eq_true rfl, rfl, rfl⟩ rfl k0 (TR.mono h (fun r6 L7 μ8 h => ?_))
      obtain ⟨w9, rfl, rfl, h⟩ := h
      show WA mX10_number 2 (0, 0) 47 [(2, v0), (0, v1), (0, v2), (0, v3)] [(0, w9), (0, (10 * v2))] L μ8 Q
      obtain ⟨c10, h⟩ := h
      refine wa_iadd 48 dX10_number_47 rfl c10 ?_
      refine wa_bipush 50 dX10_number_48 rfl ⟨by decide, by decide⟩ ?_
      obtain ⟨c11, h⟩ := h
      refine wa_isub 51 dX10_number_50 rfl c11 ?_
      refine wa_istore_n 52 [(2, v0), (0, v1), (0, (((10 * v2) + w9) - 48)), (0, v3)] dX10_number_51 rfl rfl rfl ?_
      refine wa_aload_n 53 dX10_number_52 rfl rfl ?_
      refine wa_dup 54 dX10_number_53 rfl (Or.inr rfl) ?_
      refine wa_getI 57 8 dX10_number_54 rfl wF_X10_154 rfl rfl k0 ?_
      refine wa_iconst 58 dX10_number_57 rfl (by decide) ?_
      obtain ⟨c12, h⟩ := h
      refine wa_iadd 59 dX10_number_58 rfl c12 ?_
      refine wa_putN 62 8 dX10_number_59 rfl wF_X10_154 rfl rfl k0 ?_
      obtain ⟨c13, h⟩ := h
      refine wa_iinc 65 [(2, v0), (0, v1), (0, (((10 * v2) + w9) - 48)), (0, (v3 + 1))] dX10_number_62 rfl rfl rfl c13 rfl ?_
      refine wa_goto 27 dX10_number_65 (by decide) ?_
      exact h
set_option maxRecDepth 20000 in
theorem t_X10_off (hL : LayOK L) {v0 v1 v2 v3 : Int} (k0 : isK L v0 (10, 0)) (h : TR mX10_isAgent 1 (0, 0) [(2, v0), (0, v1)] L μ (fun r1 L2 μ3 => ∃ w4, r1 = some (0, w4) ∧ L = L2 ∧ (w4 = 0 → Q (some (1, (-9223372036854775808))) L μ3) ∧ (¬ w4 = 0 → TR mX10_in 0 (0, 0) [(1, v2), (1, 0), (1, 1)] L μ3 (fun r5 L6 μ7 => ∃ w8, r5 = some (0, w8) ∧ L = L6 ∧ (w8 = 0 → Q (some (1, (-9223372036854775808))) L μ7) ∧ (¬ w8 = 0 → TR mX10_in 0 (0, 0) [(1, v3), (1, 0), (1, 1)] L μ7 (fun r9 L10 μ11 => ∃ w12, r9 = some (0, w12) ∧ L = L10 ∧ (w12 = 0 → Q (some (1, (-9223372036854775808))) L μ11) ∧ (¬ w12 = 0 → TR mX10_isDivided 0 (0, 0) [(2, v0)] L μ11 (fun r13 L14 μ15 => ∃ w16, r13 = some (0, w16) ∧ L = L14 ∧ (¬ w16 = 0 → (¬ v2 = 0 → TR mX10_allOf 2 (0, 0) [(2, v0), (0, v1), (0, 0)] L μ15 (fun r17 L18 μ19 => ∃ w20, r17 = some (1, w20) ∧ L = L18 ∧ (inL (w20 * (μ19 ((rf L v0 0)) 3))) ∧ WA mX10_off 5 (0, 0) 65 [(2, v0), (0, v1), (0, v2), (0, v3), (1, (w20 * (μ19 ((rf L v0 0)) 3))), (9, 0), (0, 0)] [] L μ19 Q)) ∧ (v2 = 0 → WA mX10_off 5 (0, 0) 65 [(2, v0), (0, v1), (0, v2), (0, v3), (1, 0), (9, 0), (0, 0)] [] L μ15 Q)) ∧ (w16 = 0 → Q (some (1, (-9223372036854775808))) L μ15))))))))) : TR mX10_off 5 (0, 0) [(2, v0), (0, v1), (0, v2), (0, v3)] L μ Q := by
  refine TR.of (ls := [(2, v0), (0, v1), (0, v2), (0, v3), (9, 0), (9, 0), (9, 0)]) (by decide) (by simp) rfl (Nat.le_of_ble_eq_true rfl) ?_
  refine wa_aload_n 1 dX10_off_0 rfl rfl ?_
  refine wa_iload_n 2 dX10_off_1 rfl rfl ?_
  refine wa_callV 5 1 1 10 (av := [(0, v1)]) (rest := []) (k1 := (0, 0)) (k2 := (0, 0)) cvX10_isAgent dX10_off_2 rfl wM_X10_79 ⟨rfl, by decide, rfl, Nat.le_of_ble_eq_true rfl, by decide, Nat.le_of_ble_eq_true rfl, rfl, rfl⟩ rfl k0 (TR.mono h (fun r1 L2 μ3 h => ?_))
  obtain ⟨w4, rfl, rfl, h⟩ := h
  show WA mX10_off 5 (0, 0) 5 [(2, v0), (0, v1), (0, v2), (0, v3), (9, 0), (9, 0), (9, 0)] [(0, w4)] L μ3 Q
  refine wa_if_eq 8 35 dX10_off_5 rfl (by decide) (fun q => ?_) (fun q => ?_)
  · replace h := h.1 q
    refine wa_ldc2 38 (-9223372036854775808) dX10_off_35 rfl wJ_X10_116 ⟨rfl, by decide⟩ ?_
    exact wa_lret dX10_off_38 rfl h
  · replace h := h.2 q
    refine wa_iload_n 9 dX10_off_8 rfl rfl ?_
    refine wa_i2l 10 dX10_off_9 rfl ?_
    refine wa_lconst 11 0 dX10_off_10 rfl ⟨rfl, by decide⟩ ?_
    refine wa_lconst 12 1 dX10_off_11 rfl ⟨rfl, by decide⟩ ?_
    refine wa_callS 15 0 3 (av := [(1, v2), (1, 0), (1, 1)]) (rest := []) (k1 := (0, 0)) (k2 := (0, 0)) cvX10_in dX10_off_12 rfl wM_X10_65 ⟨rfl, Nat.le_of_ble_eq_true rfl, by decide, Nat.le_of_ble_eq_true rfl, rfl, rfl⟩ rfl (TR.mono h (fun r5 L6 μ7 h => ?_))
    obtain ⟨w8, rfl, rfl, h⟩ := h
    show WA mX10_off 5 (0, 0) 15 [(2, v0), (0, v1), (0, v2), (0, v3), (9, 0), (9, 0), (9, 0)] [(0, w8)] L μ7 Q
    refine wa_if_eq 18 35 dX10_off_15 rfl (by decide) (fun q => ?_) (fun q => ?_)
    · replace h := h.1 q
      refine wa_ldc2 38 (-9223372036854775808) dX10_off_35 rfl wJ_X10_116 ⟨rfl, by decide⟩ ?_
      exact wa_lret dX10_off_38 rfl h
    · replace h := h.2 q
      refine wa_iload_n 19 dX10_off_18 rfl rfl ?_
      refine wa_i2l 20 dX10_off_19 rfl ?_
      refine wa_lconst 21 0 dX10_off_20 rfl ⟨rfl, by decide⟩ ?_
      refine wa_lconst 22 1 dX10_off_21 rfl ⟨rfl, by decide⟩ ?_
      refine wa_callS 25 0 3 (av := [(1, v3), (1, 0), (1, 1)]) (rest := []) (k1 := (0, 0)) (k2 := (0, 0)) cvX10_in dX10_off_22 rfl wM_X10_65 ⟨rfl, Nat.le_of_ble_eq_true rfl, by decide, Nat.le_of_ble_eq_true rfl, rfl, rfl⟩ rfl (TR.mono h (fun r9 L10 μ11 h => ?_))
      obtain ⟨w12, rfl, rfl, h⟩ := h
      show WA mX10_off 5 (0, 0) 25 [(2, v0), (0, v1), (0, v2), (0, v3), (9, 0), (9, 0), (9, 0)] [(0, w12)] L μ11 Q
      refine wa_if_eq 28 35 dX10_off_25 rfl (by decide) (fun q => ?_) (fun q => ?_)
      · replace h := h.1 q
        refine wa_ldc2 38 (-9223372036854775808) dX10_off_35 rfl wJ_X10_116 ⟨rfl, by decide⟩ ?_
        exact wa_lret dX10_off_38 rfl h
      · replace h := h.2 q
        refine wa_aload_n 29 dX10_off_28 rfl rfl ?_
        refine wa_callV 32 0 0 10 (av := []) (rest := []) (k1 := (0, 0)) (k2 := (0, 0)) cvX10_isDivided dX10_off_29 rfl wM_X10_325 ⟨rfl, by decide, rfl, Nat.le_of_ble_eq_true rfl, by decide, Nat.le_of_ble_eq_true rfl, rfl, rfl⟩ rfl k0 (TR.mono h (fun r13 L14 μ15 h => ?_))
        obtain ⟨w16, rfl, rfl, h⟩ := h
        show WA mX10_off 5 (0, 0) 32 [(2, v0), (0, v1), (0, v2), (0, v3), (9, 0), (9, 0), (9, 0)] [(0, w16)] L μ15 Q
        refine wa_if_ne 35 39 dX10_off_32 rfl (by decide) (fun q => ?_) (fun q => ?_)
        · replace h := h.1 q
          refine wa_iload_n 40 dX10_off_39 rfl rfl ?_
          refine wa_if_ne 43 47 dX10_off_40 rfl (by decide) (fun q => ?_) (fun q => ?_)
          · replace h := h.1 q
            refine wa_aload_n 48 dX10_off_47 rfl rfl ?_
            refine wa_iload_n 49 dX10_off_48 rfl rfl ?_
            refine wa_iconst 50 dX10_off_49 rfl (by decide) ?_
            refine wa_callV 53 2 2 10 (av := [(0, v1), (0, 0)]) (rest := []) (k1 := (0, 0)) (k2 := (0, 0)) cvX10_allOf dX10_off_50 rfl wM_X10_128 ⟨rfl, by decide, rfl, Nat.le_of_ble_eq_true rfl, by decide, Nat.le_of_ble_eq_true rfl, rfl, rfl⟩ rfl k0 (TR.mono h (fun r17 L18 μ19 h => ?_))
            obtain ⟨w20, rfl, rfl, h⟩ := h
            show WA mX10_off 5 (0, 0) 53 [(2, v0), (0, v1), (0, v2), (0, v3), (9, 0), (9, 0), (9, 0)] [(1, w20)] L μ19 Q
            refine wa_aload_n 54 dX10_off_53 rfl rfl ?_
            have e21 : isK L (rf L v0 0) (21, 510) := lay_f hL k0 0 rfl
            refine wa_getR 57 0 dX10_off_54 rfl wF_X10_9 rfl rfl ⟨k0, isK_pos e21⟩ ?_
            refine wa_iconst 58 dX10_off_57 rfl (by decide) ?_
            refine wa_laload 59 dX10_off_58 rfl (okA_of e21 ⟨by decide, by decide⟩) ?_
            obtain ⟨c22, h⟩ := h
            refine wa_lmul 60 dX10_off_59 rfl c22 ?_
            refine wa_lstore 62 [(2, v0), (0, v1), (0, v2), (0, v3), (1, (w20 * (μ19 ((rf L v0 0)) 3))), (9, 0), (9, 0)] dX10_off_60 rfl rfl rfl ?_
            refine wa_iconst 63 dX10_off_62 rfl (by decide) ?_
            refine wa_istore 65 [(2, v0), (0, v1), (0, v2), (0, v3), (1, (w20 * (μ19 ((rf L v0 0)) 3))), (9, 0), (0, 0)] dX10_off_63 rfl rfl rfl ?_
            exact h
          · replace h := h.2 q
            refine wa_lconst 44 0 dX10_off_43 rfl ⟨rfl, by decide⟩ ?_
            refine wa_goto 60 dX10_off_44 (by decide) ?_
            refine wa_lstore 62 [(2, v0), (0, v1), (0, v2), (0, v3), (1, 0), (9, 0), (9, 0)] dX10_off_60 rfl rfl rfl ?_
            refine wa_iconst 63 dX10_off_62 rfl (by decide) ?_
            refine wa_istore 65 [(2, v0), (0, v1), (0, v2), (0, v3), (1, 0), (9, 0), (0, 0)] dX10_off_63 rfl rfl rfl ?_
            exact h
        · replace h := h.2 q
          refine wa_ldc2 38 (-9223372036854775808) dX10_off_35 rfl wJ_X10_116 ⟨rfl, by decide⟩ ?_
          exact wa_lret dX10_off_38 rfl h
set_option maxRecDepth 20000 in
theorem s_X10_off_65 (hL : LayOK L) {v0 v1 v2 v3 v4 v6 : Int} (k0 : isK L v0 (10, 0)) (h : ((μ ((rf L v0 0)) 4) ≤ v6 → WA mX10_off 5 (0, 0) 136 [(2, v0), (0, v1), (0, v2), (0, v3), (1, v4), (9, 0), (0, 0)] [] L μ Q) ∧ (¬ (μ ((rf L v0 0)) 4) ≤ v6 → (¬ v2 = 0 → WA mX10_off 5 (0, 0) 136 [(2, v0), (0, v1), (0, v2), (0, v3), (1, v4), (9, 0), (0, 0)] [] L μ Q) ∧ (v2 = 0 → (inI (6 * v6)) ∧ (inI (210 + (6 * v6))) ∧ (0 ≤ (210 + (6 * v6)) ∧ (210 + (6 * v6)) < 510) ∧ (¬ (μ ((rf L v0 0)) ((210 + (6 * v6)))) = 1 → (inL (v4 + 0)) ∧ (inI (v6 + 1)) ∧ WA mX10_off 5 (0, 0) 65 [(2, v0), (0, v1), (0, v2), (0, v3), (1, (v4 + 0)), (9, 0), (0, (v6 + 1))] [] L μ Q) ∧ ((μ ((rf L v0 0)) ((210 + (6 * v6)))) = 1 → (inI ((210 + (6 * v6)) + 2)) ∧ TR mX10_scaled 3 (0, 0) [(2, v0), (0, v1), (0, 0), (0, ((210 + (6 * v6)) + 2))] L μ (fun r8 L9 μ10 => ∃ w11, r8 = some (1, w11) ∧ L = L9 ∧ (inL (v4 + w11)) ∧ (inI (v6 + 1)) ∧ WA mX10_off 5 (0, 0) 65 [(2, v0), (0, v1), (0, v2), (0, v3), (1, (v4 + w11)), (9, 0), (0, (v6 + 1))] [] L μ10 Q))))) : WA mX10_off 5 (0, 0) 65 [(2, v0), (0, v1), (0, v2), (0, v3), (1, v4), (9, 0), (0, v6)] [] L μ Q := by
  refine wa_iload 67 dX10_off_65 rfl rfl ?_
  refine wa_i2l 68 dX10_off_67 rfl ?_
  refine wa_aload_n 69 dX10_off_68 rfl rfl ?_
  have e1 : isK L (rf L v0 0) (21, 510) := lay_f hL k0 0 rfl
  refine wa_getR 72 0 dX10_off_69 rfl wF_X10_9 rfl rfl ⟨k0, isK_pos e1⟩ ?_
  refine wa_iconst 73 dX10_off_72 rfl (by decide) ?_
  refine wa_laload 74 dX10_off_73 rfl (okA_of e1 ⟨by decide, by decide⟩) ?_
  refine wa_lc_ge 78 133 dX10_off_74 dX10_off_75 rfl (by decide) (fun q => ?_) (fun q => ?_)
  · replace h := h.1 q
    refine wa_iconst 134 dX10_off_133 rfl (by decide) ?_
    refine wa_istore 136 [(2, v0), (0, v1), (0, v2), (0, v3), (1, v4), (9, 0), (0, 0)] dX10_off_134 rfl rfl rfl ?_
    exact h
  · replace h := h.2 q
    refine wa_iload_n 79 dX10_off_78 rfl rfl ?_
    refine wa_if_ne 82 133 dX10_off_79 rfl (by decide) (fun q => ?_) (fun q => ?_)
    · replace h := h.1 q
      refine wa_iconst 134 dX10_off_133 rfl (by decide) ?_
      refine wa_istore 136 [(2, v0), (0, v1), (0, v2), (0, v3), (1, v4), (9, 0), (0, 0)] dX10_off_134 rfl rfl rfl ?_
      exact h
    · replace h := h.2 q
      refine wa_lload 84 dX10_off_82 rfl rfl ?_
      refine wa_aload_n 85 dX10_off_84 rfl rfl ?_
      refine wa_getR 88 0 dX10_off_85 rfl wF_X10_9 rfl rfl ⟨k0, isK_pos e1⟩ ?_
      refine wa_sipush 91 dX10_off_88 rfl ⟨by decide, by decide⟩ ?_
      refine wa_bipush 93 dX10_off_91 rfl ⟨by decide, by decide⟩ ?_
      refine wa_iload 95 dX10_off_93 rfl rfl ?_
      obtain ⟨c2, h⟩ := h
      refine wa_imul 96 dX10_off_95 rfl c2 ?_
      obtain ⟨c3, h⟩ := h
      refine wa_iadd 97 dX10_off_96 rfl c3 ?_
      obtain ⟨c4, h⟩ := h
      refine wa_laload 98 dX10_off_97 rfl (okA_of e1 c4) ?_
      refine wa_lconst 99 1 dX10_off_98 rfl ⟨rfl, by decide⟩ ?_
      refine wa_lc_ne 103 123 dX10_off_99 dX10_off_100 rfl (by decide) (fun q => ?_) (fun q => ?_)
      · replace h := h.1 q
        refine wa_lconst 124 0 dX10_off_123 rfl ⟨rfl, by decide⟩ ?_
        obtain ⟨c5, h⟩ := h
        refine wa_ladd 125 dX10_off_124 rfl c5 ?_
        refine wa_lstore 127 [(2, v0), (0, v1), (0, v2), (0, v3), (1, (v4 + 0)), (9, 0), (0, v6)] dX10_off_125 rfl rfl rfl ?_
        obtain ⟨c6, h⟩ := h
        refine wa_iinc 130 [(2, v0), (0, v1), (0, v2), (0, v3), (1, (v4 + 0)), (9, 0), (0, (v6 + 1))] dX10_off_127 rfl rfl rfl c6 rfl ?_
        refine wa_goto 65 dX10_off_130 (by decide) ?_
        exact h
      · replace h := h.2 q
        refine wa_aload_n 104 dX10_off_103 rfl rfl ?_
        refine wa_iload_n 105 dX10_off_104 rfl rfl ?_
        refine wa_iconst 106 dX10_off_105 rfl (by decide) ?_
        refine wa_sipush 109 dX10_off_106 rfl ⟨by decide, by decide⟩ ?_
        refine wa_bipush 111 dX10_off_109 rfl ⟨by decide, by decide⟩ ?_
        refine wa_iload 113 dX10_off_111 rfl rfl ?_
        refine wa_imul 114 dX10_off_113 rfl c2 ?_
        refine wa_iadd 115 dX10_off_114 rfl c3 ?_
        refine wa_iconst 116 dX10_off_115 rfl (by decide) ?_
        obtain ⟨c7, h⟩ := h
        refine wa_iadd 117 dX10_off_116 rfl c7 ?_
        refine wa_callV 120 3 3 10 (av := [(0, v1), (0, 0), (0, ((210 + (6 * v6)) + 2))]) (rest := [(1, v4)]) (k1 := (0, 0)) (k2 := (0, 0)) cvX10_scaled dX10_off_117 rfl wM_X10_342 ⟨rfl, by decide, rfl, Nat.le_of_ble_eq_true rfl, by decide, Nat.le_of_ble_eq_true rfl, rfl, rfl⟩ rfl k0 (TR.mono h (fun r8 L9 μ10 h => ?_))
        obtain ⟨w11, rfl, rfl, h⟩ := h
        show WA mX10_off 5 (0, 0) 120 [(2, v0), (0, v1), (0, v2), (0, v3), (1, v4), (9, 0), (0, v6)] [(1, w11), (1, v4)] L μ10 Q
        refine wa_goto 124 dX10_off_120 (by decide) ?_
        obtain ⟨c12, h⟩ := h
        refine wa_ladd 125 dX10_off_124 rfl c12 ?_
        refine wa_lstore 127 [(2, v0), (0, v1), (0, v2), (0, v3), (1, (v4 + w11)), (9, 0), (0, v6)] dX10_off_125 rfl rfl rfl ?_
        obtain ⟨c13, h⟩ := h
        refine wa_iinc 130 [(2, v0), (0, v1), (0, v2), (0, v3), (1, (v4 + w11)), (9, 0), (0, (v6 + 1))] dX10_off_127 rfl rfl rfl c13 rfl ?_
        refine wa_goto 65 dX10_off_130 (by decide) ?_
        exact h
set_option maxRecDepth 20000 in
theorem s_X10_off_136 (hL : LayOK L) {v0 v1 v2 v3 v4 v6 : Int} (k0 : isK L v0 (10, 0)) (h : TR mX10_agents 0 (0, 0) [(2, v0)] L μ (fun r1 L2 μ3 => ∃ w4, r1 = some (0, w4) ∧ L = L2 ∧ (w4 ≤ v6 → TR mX10_becomes 1 (0, 0) [(2, v0), (1, v4), (1, (μ3 ((rf L v0 0)) 3))] L μ3 (fun r6 L7 μ8 => r6 = none ∧ L = L7 ∧ TR mX10_partOf 0 (0, 0) [(2, v0), (0, v3)] L μ8 (fun r9 L10 μ11 => ∃ w12, r9 = some (1, w12) ∧ L = L10 ∧ Q (some (1, w12)) L μ11))) ∧ (¬ w4 ≤ v6 → (¬ v2 = 1 → TR mX10_becomes 1 (0, 0) [(2, v0), (1, v4), (1, (μ3 ((rf L v0 0)) 3))] L μ3 (fun r14 L15 μ16 => r14 = none ∧ L = L15 ∧ TR mX10_partOf 0 (0, 0) [(2, v0), (0, v3)] L μ16 (fun r17 L18 μ19 => ∃ w20, r17 = some (1, w20) ∧ L = L18 ∧ Q (some (1, w20)) L μ19))) ∧ (v2 = 1 → TR mX10_worthOfShare 4 (0, 0) [(2, v0), (0, v1), (0, v6), (0, 0)] L μ3 (fun r21 L22 μ23 => ∃ w24, r21 = some (1, w24) ∧ L = L22 ∧ (inL (v4 - w24)) ∧ (inI (v6 + 1)) ∧ WA mX10_off 5 (0, 0) 136 [(2, v0), (0, v1), (0, v2), (0, v3), (1, (v4 - w24)), (9, 0), (0, (v6 + 1))] [] L μ23 Q))))) : WA mX10_off 5 (0, 0) 136 [(2, v0), (0, v1), (0, v2), (0, v3), (1, v4), (9, 0), (0, v6)] [] L μ Q := by
  refine wa_iload 138 dX10_off_136 rfl rfl ?_
  refine wa_aload_n 139 dX10_off_138 rfl rfl ?_
  refine wa_callV 142 0 0 10 (av := []) (rest := [(0, v6)]) (k1 := (0, 0)) (k2 := (0, 0)) cvX10_agents dX10_off_139 rfl wM_X10_75 ⟨rfl, by decide, rfl, Nat.le_of_ble_eq_true rfl, by decide, Nat.le_of_ble_eq_true rfl, rfl, rfl⟩ rfl k0 (TR.mono h (fun r1 L2 μ3 h => ?_))
  obtain ⟨w4, rfl, rfl, h⟩ := h
  show WA mX10_off 5 (0, 0) 142 [(2, v0), (0, v1), (0, v2), (0, v3), (1, v4), (9, 0), (0, v6)] [(0, w4), (0, v6)] L μ3 Q
  refine wa_icmp_ge 145 169 dX10_off_142 rfl (by decide) (fun q => ?_) (fun q => ?_)
  · replace h := h.1 q
    refine wa_aload_n 170 dX10_off_169 rfl rfl ?_
    refine wa_lload 172 dX10_off_170 rfl rfl ?_
    refine wa_aload_n 173 dX10_off_172 rfl rfl ?_
    have e5 : isK L (rf L v0 0) (21, 510) := lay_f hL k0 0 rfl
    refine wa_getR 176 0 dX10_off_173 rfl wF_X10_9 rfl rfl ⟨k0, isK_pos e5⟩ ?_
    refine wa_iconst 177 dX10_off_176 rfl (by decide) ?_
    refine wa_laload 178 dX10_off_177 rfl (okA_of e5 ⟨by decide, by decide⟩) ?_
    refine wa_callV 181 1 2 10 (av := [(1, v4), (1, (μ3 ((rf L v0 0)) 3))]) (rest := []) (k1 := (0, 0)) (k2 := (0, 0)) cvX10_becomes dX10_off_178 rfl wM_X10_110 ⟨rfl, by decide, rfl, Nat.le_of_ble_eq_true rfl, by decide, Nat.le_of_ble_eq_true rfl, rfl, rfl⟩ rfl k0 (TR.mono h (fun r6 L7 μ8 h => ?_))
    obtain ⟨rfl, rfl, h⟩ := h
    show WA mX10_off 5 (0, 0) 181 [(2, v0), (0, v1), (0, v2), (0, v3), (1, v4), (9, 0), (0, v6)] [] L μ8 Q
    refine wa_aload_n 182 dX10_off_181 rfl rfl ?_
    refine wa_iload_n 183 dX10_off_182 rfl rfl ?_
    refine wa_callV 186 0 1 10 (av := [(0, v3)]) (rest := []) (k1 := (0, 0)) (k2 := (0, 0)) cvX10_partOf dX10_off_183 rfl wM_X10_122 ⟨rfl, by decide, rfl, Nat.le_of_ble_eq_true rfl, by decide, Nat.le_of_ble_eq_true rfl, rfl, rfl⟩ rfl k0 (TR.mono h (fun r9 L10 μ11 h => ?_))
    obtain ⟨w12, rfl, rfl, h⟩ := h
    show WA mX10_off 5 (0, 0) 186 [(2, v0), (0, v1), (0, v2), (0, v3), (1, v4), (9, 0), (0, v6)] [(1, w12)] L μ11 Q
    exact wa_lret dX10_off_186 rfl h
  · replace h := h.2 q
    refine wa_iload_n 146 dX10_off_145 rfl rfl ?_
    refine wa_iconst 147 dX10_off_146 rfl (by decide) ?_
    refine wa_icmp_ne 150 169 dX10_off_147 rfl (by decide) (fun q => ?_) (fun q => ?_)
    · replace h := h.1 q
      refine wa_aload_n 170 dX10_off_169 rfl rfl ?_
      refine wa_lload 172 dX10_off_170 rfl rfl ?_
      refine wa_aload_n 173 dX10_off_172 rfl rfl ?_
      have e13 : isK L (rf L v0 0) (21, 510) := lay_f hL k0 0 rfl
      refine wa_getR 176 0 dX10_off_173 rfl wF_X10_9 rfl rfl ⟨k0, isK_pos e13⟩ ?_
      refine wa_iconst 177 dX10_off_176 rfl (by decide) ?_
      refine wa_laload 178 dX10_off_177 rfl (okA_of e13 ⟨by decide, by decide⟩) ?_
      refine wa_callV 181 1 2 10 (av := [(1, v4), (1, (μ3 ((rf L v0 0)) 3))]) (rest := []) (k1 := (0, 0)) (k2 := (0, 0)) cvX10_becomes dX10_off_178 rfl wM_X10_110 ⟨rfl, by decide, rfl, Nat.le_of_ble_eq_true rfl, by decide, Nat.le_of_ble_eq_true rfl, rfl, rfl⟩ rfl k0 (TR.mono h (fun r14 L15 μ16 h => ?_))
      obtain ⟨rfl, rfl, h⟩ := h
      show WA mX10_off 5 (0, 0) 181 [(2, v0), (0, v1), (0, v2), (0, v3), (1, v4), (9, 0), (0, v6)] [] L μ16 Q
      refine wa_aload_n 182 dX10_off_181 rfl rfl ?_
      refine wa_iload_n 183 dX10_off_182 rfl rfl ?_
      refine wa_callV 186 0 1 10 (av := [(0, v3)]) (rest := []) (k1 := (0, 0)) (k2 := (0, 0)) cvX10_partOf dX10_off_183 rfl wM_X10_122 ⟨rfl, by decide, rfl, Nat.le_of_ble_eq_true rfl, by decide, Nat.le_of_ble_eq_true rfl, rfl, rfl⟩ rfl k0 (TR.mono h (fun r17 L18 μ19 h => ?_))
      obtain ⟨w20, rfl, rfl, h⟩ := h
      show WA mX10_off 5 (0, 0) 186 [(2, v0), (0, v1), (0, v2), (0, v3), (1, v4), (9, 0), (0, v6)] [(1, w20)] L μ19 Q
      exact wa_lret dX10_off_186 rfl h
    · replace h := h.2 q
      refine wa_lload 152 dX10_off_150 rfl rfl ?_
      refine wa_aload_n 153 dX10_off_152 rfl rfl ?_
      refine wa_iload_n 154 dX10_off_153 rfl rfl ?_
      refine wa_iload 156 dX10_off_154 rfl rfl ?_
      refine wa_iconst 157 dX10_off_156 rfl (by decide) ?_
      refine wa_callV 160 4 3 10 (av := [(0, v1), (0, v6), (0, 0)]) (rest := [(1, v4)]) (k1 := (0, 0)) (k2 := (0, 0)) cvX10_worthOfShare dX10_off_157 rfl wM_X10_345 ⟨rfl, by decide, rfl, Nat.le_of_ble_eq_true rfl, by decide, Nat.le_of_ble_eq_true rfl, rfl, rfl⟩ rfl k0 (TR.mono h (fun r21 L22 μ23 h => ?_))
      obtain ⟨w24, rfl, rfl, h⟩ := h
      show WA mX10_off 5 (0, 0) 160 [(2, v0), (0, v1), (0, v2), (0, v3), (1, v4), (9, 0), (0, v6)] [(1, w24), (1, v4)] L μ23 Q
      obtain ⟨c25, h⟩ := h
      refine wa_lsub 161 dX10_off_160 rfl c25 ?_
      refine wa_lstore 163 [(2, v0), (0, v1), (0, v2), (0, v3), (1, (v4 - w24)), (9, 0), (0, v6)] dX10_off_161 rfl rfl rfl ?_
      obtain ⟨c26, h⟩ := h
      refine wa_iinc 166 [(2, v0), (0, v1), (0, v2), (0, v3), (1, (v4 - w24)), (9, 0), (0, (v6 + 1))] dX10_off_163 rfl rfl rfl c26 rfl ?_
      refine wa_goto 136 dX10_off_166 (by decide) ?_
      exact h
set_option maxRecDepth 20000 in
theorem t_X10_ordered (hL : LayOK L) {v0 v1 : Int} (k0 : isK L v0 (10, 0)) (h : (inI ((μ v0 12) + v1)) ∧ TR mX10_agents 0 (0, 0) [(2, v0)] L μ (fun r2 L3 μ4 => ∃ w5, r2 = some (0, w5) ∧ L = L3 ∧ (0 ≤ ((μ v0 12) + v1) ∧ 0 < w5) ∧ Q (some (0, (((μ v0 12) + v1) % w5))) L μ4)) : TR mX10_ordered 1 (0, 0) [(2, v0), (0, v1)] L μ Q := by
  refine TR.of (ls := [(2, v0), (0, v1)]) (by decide) (by simp) rfl (Nat.le_of_ble_eq_true rfl) ?_
  refine wa_aload_n 1 dX10_ordered_0 rfl rfl ?_
  refine wa_getI 4 12 dX10_ordered_1 rfl wF_X10_236 rfl rfl k0 ?_
  refine wa_iload_n 5 dX10_ordered_4 rfl rfl ?_
  obtain ⟨c1, h⟩ := h
  refine wa_iadd 6 dX10_ordered_5 rfl c1 ?_
  refine wa_aload_n 7 dX10_ordered_6 rfl rfl ?_
  refine wa_callV 10 0 0 10 (av := []) (rest := [(0, ((μ v0 12) + v1))]) (k1 := (0, 0)) (k2 := (0, 0)) cvX10_agents dX10_ordered_7 rfl wM_X10_75 ⟨rfl, by decide, rfl, Nat.le_of_ble_eq_true rfl, by decide, Nat.le_of_ble_eq_true rfl, rfl, rfl⟩ rfl k0 (TR.mono h (fun r2 L3 μ4 h => ?_))
  obtain ⟨w5, rfl, rfl, h⟩ := h
  show WA mX10_ordered 1 (0, 0) 10 [(2, v0), (0, v1)] [(0, w5), (0, ((μ v0 12) + v1))] L μ4 Q
  obtain ⟨c6, h⟩ := h
  refine wa_iremE 11 dX10_ordered_10 rfl c6 ?_
  exact wa_iret dX10_ordered_11 rfl h
set_option maxRecDepth 20000 in
theorem t_X10_pairOf (hL : LayOK L) {v0 v1 v3 v5 v7 v9 : Int} (k0 : isK L v0 (10, 0)) (h : (2 ≤ v9 → (inL (v5 * v7)) ∧ TR mX10_becomes 1 (0, 0) [(2, v0), (1, v3), (1, (v5 * v7))] L μ (fun r2 L3 μ4 => r2 = none ∧ L = L3 ∧ (0 ≤ v9) ∧ TR mX10_partOf 0 (0, 0) [(2, v0), (0, (v9 % 2))] L μ4 (fun r6 L7 μ8 => ∃ w9, r6 = some (1, w9) ∧ L = L7 ∧ Q (some (1, w9)) L μ8))) ∧ (¬ 2 ≤ v9 → TR mX10_becomes 1 (0, 0) [(2, v0), (1, v1), (1, v5)] L μ (fun r10 L11 μ12 => r10 = none ∧ L = L11 ∧ (0 ≤ v9) ∧ TR mX10_partOf 0 (0, 0) [(2, v0), (0, (v9 % 2))] L μ12 (fun r14 L15 μ16 => ∃ w17, r14 = some (1, w17) ∧ L = L15 ∧ Q (some (1, w17)) L μ16)))) : TR mX10_pairOf 2 (0, 0) [(2, v0), (1, v1), (1, v3), (1, v5), (1, v7), (0, v9)] L μ Q := by
  refine TR.of (ls := [(2, v0), (1, v1), (9, 0), (1, v3), (9, 0), (1, v5), (9, 0), (1, v7), (9, 0), (0, v9)]) (by decide) (by simp) rfl (Nat.le_of_ble_eq_true rfl) ?_
  refine wa_iload 2 dX10_pairOf_0 rfl rfl ?_
  refine wa_iconst 3 dX10_pairOf_2 rfl (by decide) ?_
  refine wa_icmp_ge 6 16 dX10_pairOf_3 rfl (by decide) (fun q => ?_) (fun q => ?_)
  · replace h := h.1 q
    refine wa_aload_n 17 dX10_pairOf_16 rfl rfl ?_
    refine wa_lload_n 18 dX10_pairOf_17 rfl rfl ?_
    refine wa_lload 20 dX10_pairOf_18 rfl rfl ?_
    refine wa_lload 22 dX10_pairOf_20 rfl rfl ?_
    obtain ⟨c1, h⟩ := h
    refine wa_lmul 23 dX10_pairOf_22 rfl c1 ?_
    refine wa_callV 26 1 2 10 (av := [(1, v3), (1, (v5 * v7))]) (rest := []) (k1 := (0, 0)) (k2 := (0, 0)) cvX10_becomes dX10_pairOf_23 rfl wM_X10_110 ⟨rfl, by decide, rfl, Nat.le_of_ble_eq_true rfl, by decide, Nat.le_of_ble_eq_true rfl, rfl, rfl⟩ rfl k0 (TR.mono h (fun r2 L3 μ4 h => ?_))
    obtain ⟨rfl, rfl, h⟩ := h
    show WA mX10_pairOf 2 (0, 0) 26 [(2, v0), (1, v1), (9, 0), (1, v3), (9, 0), (1, v5), (9, 0), (1, v7), (9, 0), (0, v9)] [] L μ4 Q
    refine wa_aload_n 27 dX10_pairOf_26 rfl rfl ?_
    refine wa_iload 29 dX10_pairOf_27 rfl rfl ?_
    refine wa_iconst 30 dX10_pairOf_29 rfl (by decide) ?_
    obtain ⟨c5, h⟩ := h
    refine wa_iremE 31 dX10_pairOf_30 rfl ⟨c5, by decide⟩ ?_
    refine wa_callV 34 0 1 10 (av := [(0, (v9 % 2))]) (rest := []) (k1 := (0, 0)) (k2 := (0, 0)) cvX10_partOf dX10_pairOf_31 rfl wM_X10_122 ⟨rfl, by decide, rfl, Nat.le_of_ble_eq_true rfl, by decide, Nat.le_of_ble_eq_true rfl, rfl, rfl⟩ rfl k0 (TR.mono h (fun r6 L7 μ8 h => ?_))
    obtain ⟨w9, rfl, rfl, h⟩ := h
    show WA mX10_pairOf 2 (0, 0) 34 [(2, v0), (1, v1), (9, 0), (1, v3), (9, 0), (1, v5), (9, 0), (1, v7), (9, 0), (0, v9)] [(1, w9)] L μ8 Q
    exact wa_lret dX10_pairOf_34 rfl h
  · replace h := h.2 q
    refine wa_aload_n 7 dX10_pairOf_6 rfl rfl ?_
    refine wa_lload_n 8 dX10_pairOf_7 rfl rfl ?_
    refine wa_lload 10 dX10_pairOf_8 rfl rfl ?_
    refine wa_callV 13 1 2 10 (av := [(1, v1), (1, v5)]) (rest := []) (k1 := (0, 0)) (k2 := (0, 0)) cvX10_becomes dX10_pairOf_10 rfl wM_X10_110 ⟨rfl, by decide, rfl, Nat.le_of_ble_eq_true rfl, by decide, Nat.le_of_ble_eq_true rfl, rfl, rfl⟩ rfl k0 (TR.mono h (fun r10 L11 μ12 h => ?_))
    obtain ⟨rfl, rfl, h⟩ := h
    show WA mX10_pairOf 2 (0, 0) 13 [(2, v0), (1, v1), (9, 0), (1, v3), (9, 0), (1, v5), (9, 0), (1, v7), (9, 0), (0, v9)] [] L μ12 Q
    refine wa_goto 26 dX10_pairOf_13 (by decide) ?_
    refine wa_aload_n 27 dX10_pairOf_26 rfl rfl ?_
    refine wa_iload 29 dX10_pairOf_27 rfl rfl ?_
    refine wa_iconst 30 dX10_pairOf_29 rfl (by decide) ?_
    obtain ⟨c13, h⟩ := h
    refine wa_iremE 31 dX10_pairOf_30 rfl ⟨c13, by decide⟩ ?_
    refine wa_callV 34 0 1 10 (av := [(0, (v9 % 2))]) (rest := []) (k1 := (0, 0)) (k2 := (0, 0)) cvX10_partOf dX10_pairOf_31 rfl wM_X10_122 ⟨rfl, by decide, rfl, Nat.le_of_ble_eq_true rfl, by decide, Nat.le_of_ble_eq_true rfl, rfl, rfl⟩ rfl k0 (TR.mono h (fun r14 L15 μ16 h => ?_))
    obtain ⟨w17, rfl, rfl, h⟩ := h
    show WA mX10_pairOf 2 (0, 0) 34 [(2, v0), (1, v1), (9, 0), (1, v3), (9, 0), (1, v5), (9, 0), (1, v7), (9, 0), (0, v9)] [(1, w17)] L μ16 Q
    exact wa_lret dX10_pairOf_34 rfl h
set_option maxRecDepth 20000 in
theorem t_X10_paper (hL : LayOK L) {v0 v1 : Int} (k0 : isK L v0 (10, 0)) (h : ((-1) ≤ v1 → (¬ v1 = (-1) → ((μ v0 21) ≤ v1 → Q (some (0, (-2))) L μ) ∧ (¬ (μ v0 21) ≤ v1 → (0 ≤ v1 ∧ v1 < 4000) ∧ Q (some (0, (μ ((rf L v0 20)) v1))) L μ)) ∧ (v1 = (-1) → Q (some (0, (μ v0 21))) L μ)) ∧ (¬ (-1) ≤ v1 → Q (some (0, (-1))) L μ)) : TR mX10_paper 0 (0, 0) [(2, v0), (0, v1)] L μ Q := by
  refine TR.of (ls := [(2, v0), (0, v1)]) (by decide) (by simp) rfl (Nat.le_of_ble_eq_true rfl) ?_
  refine wa_iload_n 1 dX10_paper_0 rfl rfl ?_
  refine wa_iconst 2 dX10_paper_1 rfl (by decide) ?_
  refine wa_icmp_ge 5 7 dX10_paper_2 rfl (by decide) (fun q => ?_) (fun q => ?_)
  · replace h := h.1 q
    refine wa_iload_n 8 dX10_paper_7 rfl rfl ?_
    refine wa_iconst 9 dX10_paper_8 rfl (by decide) ?_
    refine wa_icmp_ne 12 19 dX10_paper_9 rfl (by decide) (fun q => ?_) (fun q => ?_)
    · replace h := h.1 q
      refine wa_iload_n 20 dX10_paper_19 rfl rfl ?_
      refine wa_aload_n 21 dX10_paper_20 rfl rfl ?_
      refine wa_getI 24 21 dX10_paper_21 rfl wF_X10_328 rfl rfl k0 ?_
      refine wa_icmp_ge 27 36 dX10_paper_24 rfl (by decide) (fun q => ?_) (fun q => ?_)
      · replace h := h.1 q
        refine wa_bipush 38 dX10_paper_36 rfl ⟨by decide, by decide⟩ ?_
        exact wa_iret dX10_paper_38 rfl h
      · replace h := h.2 q
        refine wa_aload_n 28 dX10_paper_27 rfl rfl ?_
        have e1 : isK L (rf L v0 20) (20, 4000) := lay_f hL k0 20 rfl
        refine wa_getR 31 20 dX10_paper_28 rfl wF_X10_40 rfl rfl ⟨k0, isK_pos e1⟩ ?_
        refine wa_iload_n 32 dX10_paper_31 rfl rfl ?_
        obtain ⟨c2, h⟩ := h
        refine wa_iaload 33 dX10_paper_32 rfl (okA_of e1 c2) ?_
        refine wa_goto 38 dX10_paper_33 (by decide) ?_
        exact wa_iret dX10_paper_38 rfl h
    · replace h := h.2 q
      refine wa_aload_n 13 dX10_paper_12 rfl rfl ?_
      refine wa_getI 16 21 dX10_paper_13 rfl wF_X10_328 rfl rfl k0 ?_
      refine wa_goto 38 dX10_paper_16 (by decide) ?_
      exact wa_iret dX10_paper_38 rfl h
  · replace h := h.2 q
    refine wa_iconst 6 dX10_paper_5 rfl (by decide) ?_
    exact wa_iret dX10_paper_6 rfl h
set_option maxRecDepth 20000 in
theorem t_X10_partOf (hL : LayOK L) {v0 v1 : Int} (k0 : isK L v0 (10, 0)) (h : (¬ v1 = 0 → Q (some (1, (μ v0 5))) L μ) ∧ (v1 = 0 → Q (some (1, (μ v0 4))) L μ)) : TR mX10_partOf 0 (0, 0) [(2, v0), (0, v1)] L μ Q := by
  refine TR.of (ls := [(2, v0), (0, v1)]) (by decide) (by simp) rfl (Nat.le_of_ble_eq_true rfl) ?_
  refine wa_iload_n 1 dX10_partOf_0 rfl rfl ?_
  refine wa_if_ne 4 11 dX10_partOf_1 rfl (by decide) (fun q => ?_) (fun q => ?_)
  · replace h := h.1 q
    refine wa_aload_n 12 dX10_partOf_11 rfl rfl ?_
    refine wa_getL 15 5 dX10_partOf_12 rfl wF_X10_103 rfl rfl k0 ?_
    exact wa_lret dX10_partOf_15 rfl h
  · replace h := h.2 q
    refine wa_aload_n 5 dX10_partOf_4 rfl rfl ?_
    refine wa_getL 8 4 dX10_partOf_5 rfl wF_X10_99 rfl rfl k0 ?_
    refine wa_goto 15 dX10_partOf_8 (by decide) ?_
    exact wa_lret dX10_partOf_15 rfl h
set_option maxRecDepth 20000 in
theorem t_X10_parts (hL : LayOK L) {v0 v1 v2 v4 v6 v8 : Int} (k0 : isK L v0 (10, 0)) (h : TR mX10_countOf 0 (0, 0) [(0, v1)] L μ (fun r1 L2 μ3 => ∃ w4, r1 = some (0, w4) ∧ L = L2 ∧ WA mX10_parts 4 (0, 0) 9 [(2, v0), (0, v1), (1, v2), (9, 0), (1, v4), (9, 0), (1, v6), (9, 0), (1, v8), (9, 0), (0, w4), (0, 0), (9, 0), (9, 0)] [] L μ3 Q)) : TR mX10_parts 4 (0, 0) [(2, v0), (0, v1), (1, v2), (1, v4), (1, v6), (1, v8)] L μ Q := by
  refine TR.of (ls := [(2, v0), (0, v1), (1, v2), (9, 0), (1, v4), (9, 0), (1, v6), (9, 0), (1, v8), (9, 0), (9, 0), (9, 0), (9, 0), (9, 0)]) (by decide) (by simp) rfl (Nat.le_of_ble_eq_true rfl) ?_
  refine wa_iload_n 1 dX10_parts_0 rfl rfl ?_
  refine wa_callS 4 0 1 (av := [(0, v1)]) (rest := []) (k1 := (0, 0)) (k2 := (0, 0)) cvX10_countOf dX10_parts_1 rfl wM_X10_269 ⟨rfl, Nat.le_of_ble_eq_true rfl, by decide, Nat.le_of_ble_eq_true rfl, rfl, rfl⟩ rfl (TR.mono h (fun r1 L2 μ3 h => ?_))
  obtain ⟨w4, rfl, rfl, h⟩ := h
  show WA mX10_parts 4 (0, 0) 4 [(2, v0), (0, v1), (1, v2), (9, 0), (1, v4), (9, 0), (1, v6), (9, 0), (1, v8), (9, 0), (9, 0), (9, 0), (9, 0), (9, 0)] [(0, w4)] L μ3 Q
  refine wa_istore 6 [(2, v0), (0, v1), (1, v2), (9, 0), (1, v4), (9, 0), (1, v6), (9, 0), (1, v8), (9, 0), (0, w4), (9, 0), (9, 0), (9, 0)] dX10_parts_4 rfl rfl rfl ?_
  refine wa_iconst 7 dX10_parts_6 rfl (by decide) ?_
  refine wa_istore 9 [(2, v0), (0, v1), (1, v2), (9, 0), (1, v4), (9, 0), (1, v6), (9, 0), (1, v8), (9, 0), (0, w4), (0, 0), (9, 0), (9, 0)] dX10_parts_7 rfl rfl rfl ?_
  exact h
set_option maxRecDepth 20000 in
theorem s_X10_parts_9 (hL : LayOK L) {v0 v1 v2 v4 v6 v8 v10 v11 : Int} (k0 : isK L v0 (10, 0)) (h : TR mX10_agents 0 (0, 0) [(2, v0)] L μ (fun r1 L2 μ3 => ∃ w4, r1 = some (0, w4) ∧ L = L2 ∧ (w4 ≤ v11 → ((μ3 v0 11) = 0 → WA mX10_parts 4 (0, 0) 120 [(2, v0), (0, v1), (1, v2), (9, 0), (1, v4), (9, 0), (1, v6), (9, 0), (1, v8), (9, 0), (0, v10), (0, v1), (0, (-1)), (0, 0)] [] L μ3 Q) ∧ (¬ (μ3 v0 11) = 0 → Q none L μ3)) ∧ (¬ w4 ≤ v11 → (¬ (μ3 v0 11) = 0 → ((μ3 v0 11) = 0 → WA mX10_parts 4 (0, 0) 120 [(2, v0), (0, v1), (1, v2), (9, 0), (1, v4), (9, 0), (1, v6), (9, 0), (1, v8), (9, 0), (0, v10), (0, v1), (0, (-1)), (0, 0)] [] L μ3 Q) ∧ (¬ (μ3 v0 11) = 0 → Q none L μ3)) ∧ ((μ3 v0 11) = 0 → TR mX10_ordered 1 (0, 0) [(2, v0), (0, v11)] L μ3 (fun r5 L6 μ7 => ∃ w8, r5 = some (0, w8) ∧ L = L6 ∧ (¬ (bAnd ((bShr v1 w8)) 1) = 1 → (inI (v11 + 1)) ∧ WA mX10_parts 4 (0, 0) 9 [(2, v0), (0, v1), (1, v2), (9, 0), (1, v4), (9, 0), (1, v6), (9, 0), (1, v8), (9, 0), (0, v10), (0, (v11 + 1)), (9, 0), (9, 0)] [] L μ7 Q) ∧ ((bAnd ((bShr v1 w8)) 1) = 1 → TR mX10_worthBetween 2 (0, 0) [(2, v0), (0, w8), (0, 1), (1, v2), (1, v4), (1, v6), (1, v8)] L μ7 (fun r10 L11 μ12 => r10 = none ∧ L = L11 ∧ (0 ≤ v10) ∧ (inL ((μ12 v0 4) * (v10 / 2))) ∧ (inL ((μ12 v0 5) * v10)) ∧ TR mX10_becomes 1 (0, 0) [(2, v0), (1, ((μ12 v0 4) * (v10 / 2))), (1, ((μ12 v0 5) * v10))] L μ12 (fun r16 L17 μ18 => r16 = none ∧ L = L17 ∧ TR mX10_marksPoint 3 (0, 0) [(2, v0), (0, w8), (1, v2), (1, v4), (1, (μ18 v0 4)), (1, (μ18 v0 5)), (0, 1)] L μ18 (fun r19 L20 μ21 => r19 = none ∧ L = L20 ∧ (inI (v11 + 1)) ∧ WA mX10_parts 4 (0, 0) 9 [(2, v0), (0, v1), (1, v2), (9, 0), (1, v4), (9, 0), (1, v6), (9, 0), (1, v8), (9, 0), (0, v10), (0, (v11 + 1)), (9, 0), (9, 0)] [] L μ21 Q))))))))) : WA mX10_parts 4 (0, 0) 9 [(2, v0), (0, v1), (1, v2), (9, 0), (1, v4), (9, 0), (1, v6), (9, 0), (1, v8), (9, 0), (0, v10), (0, v11), (9, 0), (9, 0)] [] L μ Q := by
  refine wa_iload 11 dX10_parts_9 rfl rfl ?_
  refine wa_aload_n 12 dX10_parts_11 rfl rfl ?_
  refine wa_callV 15 0 0 10 (av := []) (rest := [(0, v11)]) (k1 := (0, 0)) (k2 := (0, 0)) cvX10_agents dX10_parts_12 rfl wM_X10_75 ⟨rfl, by decide, rfl, Nat.le_of_ble_eq_true rfl, by decide, Nat.le_of_ble_eq_true rfl, rfl, rfl⟩ rfl k0 (TR.mono h (fun r1 L2 μ3 h => ?_))
  obtain ⟨w4, rfl, rfl, h⟩ := h
  show WA mX10_parts 4 (0, 0) 15 [(2, v0), (0, v1), (1, v2), (9, 0), (1, v4), (9, 0), (1, v6), (9, 0), (1, v8), (9, 0), (0, v10), (0, v11), (9, 0), (9, 0)] [(0, w4), (0, v11)] L μ3 Q
  refine wa_icmp_ge 18 103 dX10_parts_15 rfl (by decide) (fun q => ?_) (fun q => ?_)
  · replace h := h.1 q
    refine wa_aload_n 104 dX10_parts_103 rfl rfl ?_
    refine wa_getI 107 11 dX10_parts_104 rfl wF_X10_219 rfl rfl k0 ?_
    refine wa_if_eq 110 111 dX10_parts_107 rfl (by decide) (fun q => ?_) (fun q => ?_)
    · replace h := h.1 q
      refine wa_iload_n 112 dX10_parts_111 rfl rfl ?_
      refine wa_istore 114 [(2, v0), (0, v1), (1, v2), (9, 0), (1, v4), (9, 0), (1, v6), (9, 0), (1, v8), (9, 0), (0, v10), (0, v1), (9, 0), (9, 0)] dX10_parts_112 rfl rfl rfl ?_
      refine wa_iconst 115 dX10_parts_114 rfl (by decide) ?_
      refine wa_istore 117 [(2, v0), (0, v1), (1, v2), (9, 0), (1, v4), (9, 0), (1, v6), (9, 0), (1, v8), (9, 0), (0, v10), (0, v1), (0, (-1)), (9, 0)] dX10_parts_115 rfl rfl rfl ?_
      refine wa_iconst 118 dX10_parts_117 rfl (by decide) ?_
      refine wa_istore 120 [(2, v0), (0, v1), (1, v2), (9, 0), (1, v4), (9, 0), (1, v6), (9, 0), (1, v8), (9, 0), (0, v10), (0, v1), (0, (-1)), (0, 0)] dX10_parts_118 rfl rfl rfl ?_
      exact h
    · replace h := h.2 q
      exact wa_vret dX10_parts_110 rfl h
  · replace h := h.2 q
    refine wa_aload_n 19 dX10_parts_18 rfl rfl ?_
    refine wa_getI 22 11 dX10_parts_19 rfl wF_X10_219 rfl rfl k0 ?_
    refine wa_if_ne 25 103 dX10_parts_22 rfl (by decide) (fun q => ?_) (fun q => ?_)
    · replace h := h.1 q
      refine wa_aload_n 104 dX10_parts_103 rfl rfl ?_
      refine wa_getI 107 11 dX10_parts_104 rfl wF_X10_219 rfl rfl k0 ?_
      refine wa_if_eq 110 111 dX10_parts_107 rfl (by decide) (fun q => ?_) (fun q => ?_)
      · replace h := h.1 q
        refine wa_iload_n 112 dX10_parts_111 rfl rfl ?_
        refine wa_istore 114 [(2, v0), (0, v1), (1, v2), (9, 0), (1, v4), (9, 0), (1, v6), (9, 0), (1, v8), (9, 0), (0, v10), (0, v1), (9, 0), (9, 0)] dX10_parts_112 rfl rfl rfl ?_
        refine wa_iconst 115 dX10_parts_114 rfl (by decide) ?_
        refine wa_istore 117 [(2, v0), (0, v1), (1, v2), (9, 0), (1, v4), (9, 0), (1, v6), (9, 0), (1, v8), (9, 0), (0, v10), (0, v1), (0, (-1)), (9, 0)] dX10_parts_115 rfl rfl rfl ?_
        refine wa_iconst 118 dX10_parts_117 rfl (by decide) ?_
        refine wa_istore 120 [(2, v0), (0, v1), (1, v2), (9, 0), (1, v4), (9, 0), (1, v6), (9, 0), (1, v8), (9, 0), (0, v10), (0, v1), (0, (-1)), (0, 0)] dX10_parts_118 rfl rfl rfl ?_
        exact h
      · replace h := h.2 q
        exact wa_vret dX10_parts_110 rfl h
    · replace h := h.2 q
      refine wa_aload_n 26 dX10_parts_25 rfl rfl ?_
      refine wa_iload 28 dX10_parts_26 rfl rfl ?_
      refine wa_callV 31 1 1 10 (av := [(0, v11)]) (rest := []) (k1 := (0, 0)) (k2 := (0, 0)) cvX10_ordered dX10_parts_28 rfl wM_X10_242 ⟨rfl, by decide, rfl, Nat.le_of_ble_eq_true rfl, by decide, Nat.le_of_ble_eq_true rfl, rfl, rfl⟩ rfl k0 (TR.mono h (fun r5 L6 μ7 h => ?_))
      obtain ⟨w8, rfl, rfl, h⟩ := h
      show WA mX10_parts 4 (0, 0) 31 [(2, v0), (0, v1), (1, v2), (9, 0), (1, v4), (9, 0), (1, v6), (9, 0), (1, v8), (9, 0), (0, v10), (0, v11), (9, 0), (9, 0)] [(0, w8)] L μ7 Q
      refine wa_istore 33 [(2, v0), (0, v1), (1, v2), (9, 0), (1, v4), (9, 0), (1, v6), (9, 0), (1, v8), (9, 0), (0, v10), (0, v11), (0, w8), (9, 0)] dX10_parts_31 rfl rfl rfl ?_
      refine wa_iload_n 34 dX10_parts_33 rfl rfl ?_
      refine wa_iload 36 dX10_parts_34 rfl rfl ?_
      refine wa_ishr 37 dX10_parts_36 rfl ?_
      refine wa_iconst 38 dX10_parts_37 rfl (by decide) ?_
      refine wa_iand 39 dX10_parts_38 rfl ?_
      refine wa_iconst 40 dX10_parts_39 rfl (by decide) ?_
      refine wa_icmp_ne 43 97 dX10_parts_40 rfl (by decide) (fun q => ?_) (fun q => ?_)
      · replace h := h.1 q
        obtain ⟨c9, h⟩ := h
        refine wa_iinc 100 [(2, v0), (0, v1), (1, v2), (9, 0), (1, v4), (9, 0), (1, v6), (9, 0), (1, v8), (9, 0), (0, v10), (0, (v11 + 1)), (0, w8), (9, 0)] dX10_parts_97 rfl rfl rfl c9 rfl ?_
        refine wa_goto 9 dX10_parts_100 (by decide) ?_
        exact wa_weak [(2, v0), (0, v1), (1, v2), (9, 0), (1, v4), (9, 0), (1, v6), (9, 0), (1, v8), (9, 0), (0, v10), (0, (v11 + 1)), (9, 0), (9, 0)] ⟨Or.inl rfl, Or.inl rfl, Or.inl rfl, Or.inl rfl, Or.inl rfl, Or.inl rfl, Or.inl rfl, Or.inl rfl, Or.inl rfl, Or.inl rfl, Or.inl rfl, Or.inl rfl, Or.inr rfl, Or.inl rfl, trivial⟩ h
      · replace h := h.2 q
        refine wa_aload_n 44 dX10_parts_43 rfl rfl ?_
        refine wa_iload 46 dX10_parts_44 rfl rfl ?_
        refine wa_iconst 47 dX10_parts_46 rfl (by decide) ?_
        refine wa_lload_n 48 dX10_parts_47 rfl rfl ?_
        refine wa_lload 50 dX10_parts_48 rfl rfl ?_
        refine wa_lload 52 dX10_parts_50 rfl rfl ?_
        refine wa_lload 54 dX10_parts_52 rfl rfl ?_
        refine wa_callV 57 2 6 10 (av := [(0, w8), (0, 1), (1, v2), (1, v4), (1, v6), (1, v8)]) (rest := []) (k1 := (0, 0)) (k2 := (0, 0)) cvX10_worthBetween dX10_parts_54 rfl wM_X10_118 ⟨rfl, by decide, rfl, Nat.le_of_ble_eq_true rfl, by decide, Nat.le_of_ble_eq_true rfl, rfl, rfl⟩ rfl k0 (TR.mono h (fun r10 L11 μ12 h => ?_))
        obtain ⟨rfl, rfl, h⟩ := h
        show WA mX10_parts 4 (0, 0) 57 [(2, v0), (0, v1), (1, v2), (9, 0), (1, v4), (9, 0), (1, v6), (9, 0), (1, v8), (9, 0), (0, v10), (0, v11), (0, w8), (9, 0)] [] L μ12 Q
        refine wa_aload_n 58 dX10_parts_57 rfl rfl ?_
        refine wa_aload_n 59 dX10_parts_58 rfl rfl ?_
        refine wa_getL 62 4 dX10_parts_59 rfl wF_X10_99 rfl rfl k0 ?_
        refine wa_iload 64 dX10_parts_62 rfl rfl ?_
        refine wa_iconst 65 dX10_parts_64 rfl (by decide) ?_
        obtain ⟨c13, h⟩ := h
        refine wa_idivE 66 dX10_parts_65 rfl ⟨c13, by decide⟩ ?_
        refine wa_i2l 67 dX10_parts_66 rfl ?_
        obtain ⟨c14, h⟩ := h
        refine wa_lmul 68 dX10_parts_67 rfl c14 ?_
        refine wa_aload_n 69 dX10_parts_68 rfl rfl ?_
        refine wa_getL 72 5 dX10_parts_69 rfl wF_X10_103 rfl rfl k0 ?_
        refine wa_iload 74 dX10_parts_72 rfl rfl ?_
        refine wa_i2l 75 dX10_parts_74 rfl ?_
        obtain ⟨c15, h⟩ := h
        refine wa_lmul 76 dX10_parts_75 rfl c15 ?_
        refine wa_callV 79 1 2 10 (av := [(1, ((μ12 v0 4) * (v10 / 2))), (1, ((μ12 v0 5) * v10))]) (rest := []) (k1 := (0, 0)) (k2 := (0, 0)) cvX10_becomes dX10_parts_76 rfl wM_X10_110 ⟨rfl, by decide, rfl, Nat.le_of_ble_eq_true rfl, by decide, Nat.le_of_ble_eq_true rfl, rfl, rfl⟩ rfl k0 (TR.mono h (fun r16 L17 μ18 h => ?_))
        obtain ⟨rfl, rfl, h⟩ := h
        show WA mX10_parts 4 (0, 0) 79 [(2, v0), (0, v1), (1, v2), (9, 0), (1, v4), (9, 0), (1, v6), (9, 0), (1, v8), (9, 0), (0, v10), (0, v11), (0, w8), (9, 0)] [] L μ18 Q
        refine wa_aload_n 80 dX10_parts_79 rfl rfl ?_
        refine wa_iload 82 dX10_parts_80 rfl rfl ?_
        refine wa_lload_n 83 dX10_parts_82 rfl rfl ?_
        refine wa_lload 85 dX10_parts_83 rfl rfl ?_
        refine wa_aload_n 86 dX10_parts_85 rfl rfl ?_
        refine wa_getL 89 4 dX10_parts_86 rfl wF_X10_99 rfl rfl k0 ?_
        refine wa_aload_n 90 dX10_parts_89 rfl rfl ?_
        refine wa_getL 93 5 dX10_parts_90 rfl wF_X10_103 rfl rfl k0 ?_
        refine wa_iconst 94 dX10_parts_93 rfl (by decide) ?_
        refine wa_callV 97 3 6 10 (av := [(0, w8), (1, v2), (1, v4), (1, (μ18 v0 4)), (1, (μ18 v0 5)), (0, 1)]) (rest := []) (k1 := (0, 0)) (k2 := (0, 0)) cvX10_marksPoint dX10_parts_94 rfl wM_X10_245 ⟨rfl, by decide, rfl, Nat.le_of_ble_eq_true rfl, by decide, Nat.le_of_ble_eq_true rfl, rfl, rfl⟩ rfl k0 (TR.mono h (fun r19 L20 μ21 h => ?_))
        obtain ⟨rfl, rfl, h⟩ := h
        show WA mX10_parts 4 (0, 0) 97 [(2, v0), (0, v1), (1, v2), (9, 0), (1, v4), (9, 0), (1, v6), (9, 0), (1, v8), (9, 0), (0, v10), (0, v11), (0, w8), (9, 0)] [] L μ21 Q
        obtain ⟨c22, h⟩ := h
        refine wa_iinc 100 [(2, v0), (0, v1), (1, v2), (9, 0), (1, v4), (9, 0), (1, v6), (9, 0), (1, v8), (9, 0), (0, v10), (0, (v11 + 1)), (0, w8), (9, 0)] dX10_parts_97 rfl rfl rfl c22 rfl ?_
        refine wa_goto 9 dX10_parts_100 (by decide) ?_
        exact wa_weak [(2, v0), (0, v1), (1, v2), (9, 0), (1, v4), (9, 0), (1, v6), (9, 0), (1, v8), (9, 0), (0, v10), (0, (v11 + 1)), (9, 0), (9, 0)] ⟨Or.inl rfl, Or.inl rfl, Or.inl rfl, Or.inl rfl, Or.inl rfl, Or.inl rfl, Or.inl rfl, Or.inl rfl, Or.inl rfl, Or.inl rfl, Or.inl rfl, Or.inl rfl, Or.inr rfl, Or.inl rfl, trivial⟩ h
set_option maxRecDepth 20000 in
theorem s_X10_parts_120 (hL : LayOK L) {v0 v1 v2 v4 v6 v8 v10 v11 v12 v13 : Int} (k0 : isK L v0 (10, 0)) (h : (0 ≤ v10) ∧ ((v10 / 2) ≤ v13 → (0 ≤ v12 ∧ v12 < 5) ∧ TR mX10_lays 0 (0, 0) [(2, v0), (0, v11), (1, (μ ((rf L v0 13)) v12)), (1, (μ ((rf L v0 14)) v12)), (1, v6), (1, v8)] L μ (fun r5 L6 μ7 => r5 = none ∧ L = L6 ∧ TR mX10_lays 0 (0, 0) [(2, v0), (0, (bAnd v1 ((bXor v11 ((-1)))))), (1, v2), (1, v4), (1, (μ7 ((rf L v0 13)) v12)), (1, (μ7 ((rf L v0 14)) v12))] L μ7 (fun r8 L9 μ10 => r8 = none ∧ L = L9 ∧ Q none L μ10))) ∧ (¬ (v10 / 2) ≤ v13 → TR mX10_leastOf 2 (0, 0) [(2, v0), (0, v11)] L μ (fun r11 L12 μ13 => ∃ w14, r11 = some (0, w14) ∧ L = L12 ∧ (inI (v13 + 1)) ∧ WA mX10_parts 4 (0, 0) 120 [(2, v0), (0, v1), (1, v2), (9, 0), (1, v4), (9, 0), (1, v6), (9, 0), (1, v8), (9, 0), (0, v10), (0, (bAnd v11 ((bXor ((bShl 1 w14)) ((-1)))))), (0, w14), (0, (v13 + 1))] [] L μ13 Q))) : WA mX10_parts 4 (0, 0) 120 [(2, v0), (0, v1), (1, v2), (9, 0), (1, v4), (9, 0), (1, v6), (9, 0), (1, v8), (9, 0), (0, v10), (0, v11), (0, v12), (0, v13)] [] L μ Q := by
  refine wa_iload 122 dX10_parts_120 rfl rfl ?_
  refine wa_iload 124 dX10_parts_122 rfl rfl ?_
  refine wa_iconst 125 dX10_parts_124 rfl (by decide) ?_
  obtain ⟨c1, h⟩ := h
  refine wa_idivE 126 dX10_parts_125 rfl ⟨c1, by decide⟩ ?_
  refine wa_icmp_ge 129 154 dX10_parts_126 rfl (by decide) (fun q => ?_) (fun q => ?_)
  · replace h := h.1 q
    refine wa_aload_n 155 dX10_parts_154 rfl rfl ?_
    refine wa_iload 157 dX10_parts_155 rfl rfl ?_
    refine wa_aload_n 158 dX10_parts_157 rfl rfl ?_
    have e2 : isK L (rf L v0 13) (21, 5) := lay_f hL k0 13 rfl
    refine wa_getR 161 13 dX10_parts_158 rfl wF_X10_25 rfl rfl ⟨k0, isK_pos e2⟩ ?_
    refine wa_iload 163 dX10_parts_161 rfl rfl ?_
    obtain ⟨c3, h⟩ := h
    refine wa_laload 164 dX10_parts_163 rfl (okA_of e2 c3) ?_
    refine wa_aload_n 165 dX10_parts_164 rfl rfl ?_
    have e4 : isK L (rf L v0 14) (21, 5) := lay_f hL k0 14 rfl
    refine wa_getR 168 14 dX10_parts_165 rfl wF_X10_28 rfl rfl ⟨k0, isK_pos e4⟩ ?_
    refine wa_iload 170 dX10_parts_168 rfl rfl ?_
    refine wa_laload 171 dX10_parts_170 rfl (okA_of e4 c3) ?_
    refine wa_lload 173 dX10_parts_171 rfl rfl ?_
    refine wa_lload 175 dX10_parts_173 rfl rfl ?_
    refine wa_callV 178 0 5 10 (av := [(0, v11), (1, (μ ((rf L v0 13)) v12)), (1, (μ ((rf L v0 14)) v12)), (1, v6), (1, v8)]) (rest := []) (k1 := (0, 0)) (k2 := (0, 0)) cvX10_lays dX10_parts_175 rfl wM_X10_275 ⟨rfl, by decide, rfl, Nat.le_of_ble_eq_true rfl, by decide, Nat.le_of_ble_eq_true rfl, rfl, rfl⟩ rfl k0 (TR.mono h (fun r5 L6 μ7 h => ?_))
    obtain ⟨rfl, rfl, h⟩ := h
    show WA mX10_parts 4 (0, 0) 178 [(2, v0), (0, v1), (1, v2), (9, 0), (1, v4), (9, 0), (1, v6), (9, 0), (1, v8), (9, 0), (0, v10), (0, v11), (0, v12), (0, v13)] [] L μ7 Q
    refine wa_aload_n 179 dX10_parts_178 rfl rfl ?_
    refine wa_iload_n 180 dX10_parts_179 rfl rfl ?_
    refine wa_iload 182 dX10_parts_180 rfl rfl ?_
    refine wa_iconst 183 dX10_parts_182 rfl (by decide) ?_
    refine wa_ixor 184 dX10_parts_183 rfl ?_
    refine wa_iand 185 dX10_parts_184 rfl ?_
    refine wa_lload_n 186 dX10_parts_185 rfl rfl ?_
    refine wa_lload 188 dX10_parts_186 rfl rfl ?_
    refine wa_aload_n 189 dX10_parts_188 rfl rfl ?_
    refine wa_getR 192 13 dX10_parts_189 rfl wF_X10_25 rfl rfl ⟨k0, isK_pos e2⟩ ?_
    refine wa_iload 194 dX10_parts_192 rfl rfl ?_
    refine wa_laload 195 dX10_parts_194 rfl (okA_of e2 c3) ?_
    refine wa_aload_n 196 dX10_parts_195 rfl rfl ?_
    refine wa_getR 199 14 dX10_parts_196 rfl wF_X10_28 rfl rfl ⟨k0, isK_pos e4⟩ ?_
    refine wa_iload 201 dX10_parts_199 rfl rfl ?_
    refine wa_laload 202 dX10_parts_201 rfl (okA_of e4 c3) ?_
    refine wa_callV 205 0 5 10 (av := [(0, (bAnd v1 ((bXor v11 ((-1)))))), (1, v2), (1, v4), (1, (μ7 ((rf L v0 13)) v12)), (1, (μ7 ((rf L v0 14)) v12))]) (rest := []) (k1 := (0, 0)) (k2 := (0, 0)) cvX10_lays dX10_parts_202 rfl wM_X10_275 ⟨rfl, by decide, rfl, Nat.le_of_ble_eq_true rfl, by decide, Nat.le_of_ble_eq_true rfl, rfl, rfl⟩ rfl k0 (TR.mono h (fun r8 L9 μ10 h => ?_))
    obtain ⟨rfl, rfl, h⟩ := h
    show WA mX10_parts 4 (0, 0) 205 [(2, v0), (0, v1), (1, v2), (9, 0), (1, v4), (9, 0), (1, v6), (9, 0), (1, v8), (9, 0), (0, v10), (0, v11), (0, v12), (0, v13)] [] L μ10 Q
    exact wa_vret dX10_parts_205 rfl h
  · replace h := h.2 q
    refine wa_aload_n 130 dX10_parts_129 rfl rfl ?_
    refine wa_iload 132 dX10_parts_130 rfl rfl ?_
    refine wa_callV 135 2 1 10 (av := [(0, v11)]) (rest := []) (k1 := (0, 0)) (k2 := (0, 0)) cvX10_leastOf dX10_parts_132 rfl wM_X10_272 ⟨rfl, by decide, rfl, Nat.le_of_ble_eq_true rfl, by decide, Nat.le_of_ble_eq_true rfl, rfl, rfl⟩ rfl k0 (TR.mono h (fun r11 L12 μ13 h => ?_))
    obtain ⟨w14, rfl, rfl, h⟩ := h
    show WA mX10_parts 4 (0, 0) 135 [(2, v0), (0, v1), (1, v2), (9, 0), (1, v4), (9, 0), (1, v6), (9, 0), (1, v8), (9, 0), (0, v10), (0, v11), (0, v12), (0, v13)] [(0, w14)] L μ13 Q
    refine wa_istore 137 [(2, v0), (0, v1), (1, v2), (9, 0), (1, v4), (9, 0), (1, v6), (9, 0), (1, v8), (9, 0), (0, v10), (0, v11), (0, w14), (0, v13)] dX10_parts_135 rfl rfl rfl ?_
    refine wa_iload 139 dX10_parts_137 rfl rfl ?_
    refine wa_iconst 140 dX10_parts_139 rfl (by decide) ?_
    refine wa_iload 142 dX10_parts_140 rfl rfl ?_
    refine wa_ishl 143 dX10_parts_142 rfl ?_
    refine wa_iconst 144 dX10_parts_143 rfl (by decide) ?_
    refine wa_ixor 145 dX10_parts_144 rfl ?_
    refine wa_iand 146 dX10_parts_145 rfl ?_
    refine wa_istore 148 [(2, v0), (0, v1), (1, v2), (9, 0), (1, v4), (9, 0), (1, v6), (9, 0), (1, v8), (9, 0), (0, v10), (0, (bAnd v11 ((bXor ((bShl 1 w14)) ((-1)))))), (0, w14), (0, v13)] dX10_parts_146 rfl rfl rfl ?_
    obtain ⟨c15, h⟩ := h
    refine wa_iinc 151 [(2, v0), (0, v1), (1, v2), (9, 0), (1, v4), (9, 0), (1, v6), (9, 0), (1, v8), (9, 0), (0, v10), (0, (bAnd v11 ((bXor ((bShl 1 w14)) ((-1)))))), (0, w14), (0, (v13 + 1))] dX10_parts_148 rfl rfl rfl c15 rfl ?_
    refine wa_goto 120 dX10_parts_151 (by decide) ?_
    exact h
set_option maxRecDepth 20000 in
theorem t_X10_pieces (hL : LayOK L) {v0 v1 v2 v4 v6 v8 : Int} (k0 : isK L v0 (10, 0)) (h : (inI (4 * v1)) ∧ (0 ≤ (4 * v1) ∧ (4 * v1) < 12) ∧ (inI ((4 * v1) + 1)) ∧ (0 ≤ ((4 * v1) + 1) ∧ ((4 * v1) + 1) < 12) ∧ (inI ((4 * v1) + 2)) ∧ (0 ≤ ((4 * v1) + 2) ∧ ((4 * v1) + 2) < 12) ∧ (inI ((4 * v1) + 3)) ∧ (0 ≤ ((4 * v1) + 3) ∧ ((4 * v1) + 3) < 12) ∧ Q none L (up (up (up (up μ ((rf L v0 19)) ((4 * v1)) v2) ((rf L v0 19)) (((4 * v1) + 1)) v4) ((rf L v0 19)) (((4 * v1) + 2)) v6) ((rf L v0 19)) (((4 * v1) + 3)) v8)) : TR mX10_pieces 0 (0, 0) [(2, v0), (0, v1), (1, v2), (1, v4), (1, v6), (1, v8)] L μ Q := by
  refine TR.of (ls := [(2, v0), (0, v1), (1, v2), (9, 0), (1, v4), (9, 0), (1, v6), (9, 0), (1, v8), (9, 0)]) (by decide) (by simp) rfl (Nat.le_of_ble_eq_true rfl) ?_
  refine wa_aload_n 1 dX10_pieces_0 rfl rfl ?_
  have e1 : isK L (rf L v0 19) (21, 12) := lay_f hL k0 19 rfl
  refine wa_getR 4 19 dX10_pieces_1 rfl wF_X10_37 rfl rfl ⟨k0, isK_pos e1⟩ ?_
  refine wa_iconst 5 dX10_pieces_4 rfl (by decide) ?_
  refine wa_iload_n 6 dX10_pieces_5 rfl rfl ?_
  obtain ⟨c2, h⟩ := h
  refine wa_imul 7 dX10_pieces_6 rfl c2 ?_
  refine wa_lload_n 8 dX10_pieces_7 rfl rfl ?_
  obtain ⟨c3, h⟩ := h
  refine wa_lastore 9 dX10_pieces_8 rfl (okA_of e1 c3) ?_
  refine wa_aload_n 10 dX10_pieces_9 rfl rfl ?_
  refine wa_getR 13 19 dX10_pieces_10 rfl wF_X10_37 rfl rfl ⟨k0, isK_pos e1⟩ ?_
  refine wa_iconst 14 dX10_pieces_13 rfl (by decide) ?_
  refine wa_iload_n 15 dX10_pieces_14 rfl rfl ?_
  refine wa_imul 16 dX10_pieces_15 rfl c2 ?_
  refine wa_iconst 17 dX10_pieces_16 rfl (by decide) ?_
  obtain ⟨c4, h⟩ := h
  refine wa_iadd 18 dX10_pieces_17 rfl c4 ?_
  refine wa_lload 20 dX10_pieces_18 rfl rfl ?_
  obtain ⟨c5, h⟩ := h
  refine wa_lastore 21 dX10_pieces_20 rfl (okA_of e1 c5) ?_
  refine wa_aload_n 22 dX10_pieces_21 rfl rfl ?_
  refine wa_getR 25 19 dX10_pieces_22 rfl wF_X10_37 rfl rfl ⟨k0, isK_pos e1⟩ ?_
  refine wa_iconst 26 dX10_pieces_25 rfl (by decide) ?_
  refine wa_iload_n 27 dX10_pieces_26 rfl rfl ?_
  refine wa_imul 28 dX10_pieces_27 rfl c2 ?_
  refine wa_iconst 29 dX10_pieces_28 rfl (by decide) ?_
  obtain ⟨c6, h⟩ := h
  refine wa_iadd 30 dX10_pieces_29 rfl c6 ?_
  refine wa_lload 32 dX10_pieces_30 rfl rfl ?_
  obtain ⟨c7, h⟩ := h
  refine wa_lastore 33 dX10_pieces_32 rfl (okA_of e1 c7) ?_
  refine wa_aload_n 34 dX10_pieces_33 rfl rfl ?_
  refine wa_getR 37 19 dX10_pieces_34 rfl wF_X10_37 rfl rfl ⟨k0, isK_pos e1⟩ ?_
  refine wa_iconst 38 dX10_pieces_37 rfl (by decide) ?_
  refine wa_iload_n 39 dX10_pieces_38 rfl rfl ?_
  refine wa_imul 40 dX10_pieces_39 rfl c2 ?_
  refine wa_iconst 41 dX10_pieces_40 rfl (by decide) ?_
  obtain ⟨c8, h⟩ := h
  refine wa_iadd 42 dX10_pieces_41 rfl c8 ?_
  refine wa_lload 44 dX10_pieces_42 rfl rfl ?_
  obtain ⟨c9, h⟩ := h
  refine wa_lastore 45 dX10_pieces_44 rfl (okA_of e1 c9) ?_
  exact wa_vret dX10_pieces_45 rfl h
set_option maxRecDepth 20000 in
theorem t_X10_prints (hL : LayOK L) {v0 v1 : Int} (k0 : isK L v0 (10, 0)) (h : (0 ≤ (μ v0 21) ∧ (μ v0 21) < 4000) ∧ (inI (((up μ ((rf L v0 20)) ((μ v0 21)) v1) v0 21) + 1)) ∧ Q none L (up (up μ ((rf L v0 20)) ((μ v0 21)) v1) v0 21 ((((up μ ((rf L v0 20)) ((μ v0 21)) v1) v0 21) + 1)))) : TR mX10_prints 0 (0, 0) [(2, v0), (0, v1)] L μ Q := by
  refine TR.of (ls := [(2, v0), (0, v1)]) (by decide) (by simp) rfl (Nat.le_of_ble_eq_true rfl) ?_
  refine wa_aload_n 1 dX10_prints_0 rfl rfl ?_
  have e1 : isK L (rf L v0 20) (20, 4000) := lay_f hL k0 20 rfl
  refine wa_getR 4 20 dX10_prints_1 rfl wF_X10_40 rfl rfl ⟨k0, isK_pos e1⟩ ?_
  refine wa_aload_n 5 dX10_prints_4 rfl rfl ?_
  refine wa_getI 8 21 dX10_prints_5 rfl wF_X10_328 rfl rfl k0 ?_
  refine wa_iload_n 9 dX10_prints_8 rfl rfl ?_
  obtain ⟨c2, h⟩ := h
  refine wa_iastore 10 dX10_prints_9 rfl (okA_of e1 c2) ?_
  refine wa_aload_n 11 dX10_prints_10 rfl rfl ?_
  refine wa_dup 12 dX10_prints_11 rfl (Or.inr rfl) ?_
  refine wa_getI 15 21 dX10_prints_12 rfl wF_X10_328 rfl rfl k0 ?_
  refine wa_iconst 16 dX10_prints_15 rfl (by decide) ?_
  obtain ⟨c3, h⟩ := h
  refine wa_iadd 17 dX10_prints_16 rfl c3 ?_
  refine wa_putN 20 21 dX10_prints_17 rfl wF_X10_328 rfl rfl k0 ?_
  exact wa_vret dX10_prints_20 rfl h
set_option maxRecDepth 20000 in
theorem t_X10_printsNumber (hL : LayOK L) {v0 v1 : Int} (k0 : isK L v0 (10, 0)) (h : WA mX10_printsNumber 1 (0, 0) 5 [(2, v0), (9, 0), (9, 0), (0, 0), (1, v1), (9, 0)] [] L μ Q) : TR mX10_printsNumber 1 (0, 0) [(2, v0), (1, v1)] L μ Q := by
  refine TR.of (ls := [(2, v0), (1, v1), (9, 0), (9, 0), (9, 0), (9, 0)]) (by decide) (by simp) rfl (Nat.le_of_ble_eq_true rfl) ?_
  refine wa_iconst 1 dX10_printsNumber_0 rfl (by decide) ?_
  refine wa_istore_n 2 [(2, v0), (1, v1), (9, 0), (0, 0), (9, 0), (9, 0)] dX10_printsNumber_1 rfl rfl rfl ?_
  refine wa_lload_n 3 dX10_printsNumber_2 rfl rfl ?_
  refine wa_lstore 5 [(2, v0), (1, v1), (9, 0), (0, 0), (1, v1), (9, 0)] dX10_printsNumber_3 rfl rfl rfl ?_
  exact wa_weak [(2, v0), (9, 0), (9, 0), (0, 0), (1, v1), (9, 0)] ⟨Or.inl rfl, Or.inr rfl, Or.inl rfl, Or.inl rfl, Or.inl rfl, Or.inl rfl, trivial⟩ h
set_option maxRecDepth 20000 in
theorem s_X10_printsNumber_5 (hL : LayOK L) {v0 v3 v4 : Int} (k0 : isK L v0 (10, 0)) (h : (v3 = 0 → (0 ≤ v4) ∧ (inI ((v4 % 10))) ∧ (0 ≤ v3 ∧ v3 < 20) ∧ (inI (v3 + 1)) ∧ WA mX10_printsNumber 1 (0, 0) 5 [(2, v0), (9, 0), (9, 0), (0, (v3 + 1)), (1, (v4 / 10)), (9, 0)] [] L (up μ ((rf L v0 22)) v3 ((v4 % 10))) Q) ∧ (¬ v3 = 0 → (v4 ≤ 0 → WA mX10_printsNumber 1 (0, 0) 43 [(2, v0), (9, 0), (9, 0), (0, v3), (9, 0), (9, 0)] [] L μ Q) ∧ (¬ v4 ≤ 0 → (0 ≤ v4) ∧ (inI ((v4 % 10))) ∧ (0 ≤ v3 ∧ v3 < 20) ∧ (inI (v3 + 1)) ∧ WA mX10_printsNumber 1 (0, 0) 5 [(2, v0), (9, 0), (9, 0), (0, (v3 + 1)), (1, (v4 / 10)), (9, 0)] [] L (up μ ((rf L v0 22)) v3 ((v4 % 10))) Q))) : WA mX10_printsNumber 1 (0, 0) 5 [(2, v0), (9, 0), (9, 0), (0, v3), (1, v4), (9, 0)] [] L μ Q := by
  refine wa_iload_n 6 dX10_printsNumber_5 rfl rfl ?_
  refine wa_if_eq 9 16 dX10_printsNumber_6 rfl (by decide) (fun q => ?_) (fun q => ?_)
  · replace h := h.1 q
    refine wa_aload_n 17 dX10_printsNumber_16 rfl rfl ?_
    have e1 : isK L (rf L v0 22) (20, 20) := lay_f hL k0 22 rfl
    refine wa_getR 20 22 dX10_printsNumber_17 rfl wF_X10_43 rfl rfl ⟨k0, isK_pos e1⟩ ?_
    refine wa_iload_n 21 dX10_printsNumber_20 rfl rfl ?_
    refine wa_lload 23 dX10_printsNumber_21 rfl rfl ?_
    refine wa_ldc2 26 10 dX10_printsNumber_23 rfl wJ_X10_331 ⟨rfl, by decide⟩ ?_
    obtain ⟨c2, h⟩ := h
    refine wa_lremE 27 dX10_printsNumber_26 rfl ⟨c2, by decide⟩ ?_
    obtain ⟨c3, h⟩ := h
    refine wa_l2i 28 dX10_printsNumber_27 rfl c3 ?_
    obtain ⟨c4, h⟩ := h
    refine wa_iastore 29 dX10_printsNumber_28 rfl (okA_of e1 c4) ?_
    refine wa_lload 31 dX10_printsNumber_29 rfl rfl ?_
    refine wa_ldc2 34 10 dX10_printsNumber_31 rfl wJ_X10_331 ⟨rfl, by decide⟩ ?_
    refine wa_ldivE 35 dX10_printsNumber_34 rfl ⟨c2, by decide⟩ ?_
    refine wa_lstore 37 [(2, v0), (9, 0), (9, 0), (0, v3), (1, (v4 / 10)), (9, 0)] dX10_printsNumber_35 rfl rfl rfl ?_
    obtain ⟨c5, h⟩ := h
    refine wa_iinc 40 [(2, v0), (9, 0), (9, 0), (0, (v3 + 1)), (1, (v4 / 10)), (9, 0)] dX10_printsNumber_37 rfl rfl rfl c5 rfl ?_
    refine wa_goto 5 dX10_printsNumber_40 (by decide) ?_
    exact h
  · replace h := h.2 q
    refine wa_lload 11 dX10_printsNumber_9 rfl rfl ?_
    refine wa_lconst 12 0 dX10_printsNumber_11 rfl ⟨rfl, by decide⟩ ?_
    refine wa_lc_le 16 43 dX10_printsNumber_12 dX10_printsNumber_13 rfl (by decide) (fun q => ?_) (fun q => ?_)
    · replace h := h.1 q
      exact wa_weak [(2, v0), (9, 0), (9, 0), (0, v3), (9, 0), (9, 0)] ⟨Or.inl rfl, Or.inl rfl, Or.inl rfl, Or.inl rfl, Or.inr rfl, Or.inl rfl, trivial⟩ h
    · replace h := h.2 q
      refine wa_aload_n 17 dX10_printsNumber_16 rfl rfl ?_
      have e6 : isK L (rf L v0 22) (20, 20) := lay_f hL k0 22 rfl
      refine wa_getR 20 22 dX10_printsNumber_17 rfl wF_X10_43 rfl rfl ⟨k0, isK_pos e6⟩ ?_
      refine wa_iload_n 21 dX10_printsNumber_20 rfl rfl ?_
      refine wa_lload 23 dX10_printsNumber_21 rfl rfl ?_
      refine wa_ldc2 26 10 dX10_printsNumber_23 rfl wJ_X10_331 ⟨rfl, by decide⟩ ?_
      obtain ⟨c7, h⟩ := h
      refine wa_lremE 27 dX10_printsNumber_26 rfl ⟨c7, by decide⟩ ?_
      obtain ⟨c8, h⟩ := h
      refine wa_l2i 28 dX10_printsNumber_27 rfl c8 ?_
      obtain ⟨c9, h⟩ := h
      refine wa_iastore 29 dX10_printsNumber_28 rfl (okA_of e6 c9) ?_
      refine wa_lload 31 dX10_printsNumber_29 rfl rfl ?_
      refine wa_ldc2 34 10 dX10_printsNumber_31 rfl wJ_X10_331 ⟨rfl, by decide⟩ ?_
      refine wa_ldivE 35 dX10_printsNumber_34 rfl ⟨c7, by decide⟩ ?_
      refine wa_lstore 37 [(2, v0), (9, 0), (9, 0), (0, v3), (1, (v4 / 10)), (9, 0)] dX10_printsNumber_35 rfl rfl rfl ?_
      obtain ⟨c10, h⟩ := h
      refine wa_iinc 40 [(2, v0), (9, 0), (9, 0), (0, (v3 + 1)), (1, (v4 / 10)), (9, 0)] dX10_printsNumber_37 rfl rfl rfl c10 rfl ?_
      refine wa_goto 5 dX10_printsNumber_40 (by decide) ?_
      exact h
set_option maxRecDepth 20000 in
theorem s_X10_printsNumber_43 (hL : LayOK L) {v0 v3 : Int} (k0 : isK L v0 (10, 0)) (h : (v3 ≤ 0 → Q none L μ) ∧ (¬ v3 ≤ 0 → (inI (v3 + (-1))) ∧ (0 ≤ (v3 + (-1)) ∧ (v3 + (-1)) < 20) ∧ (inI (48 + (μ ((rf L v0 22)) ((v3 + (-1)))))) ∧ TR mX10_prints 0 (0, 0) [(2, v0), (0, (48 + (μ ((rf L v0 22)) ((v3 + (-1))))))] L μ (fun r5 L6 μ7 => r5 = none ∧ L = L6 ∧ WA mX10_printsNumber 1 (0, 0) 43 [(2, v0), (9, 0), (9, 0), (0, (v3 + (-1))), (9, 0), (9, 0)] [] L μ7 Q))) : WA mX10_printsNumber 1 (0, 0) 43 [(2, v0), (9, 0), (9, 0), (0, v3), (9, 0), (9, 0)] [] L μ Q := by
  refine wa_iload_n 44 dX10_printsNumber_43 rfl rfl ?_
  refine wa_if_le 47 66 dX10_printsNumber_44 rfl (by decide) (fun q => ?_) (fun q => ?_)
  · replace h := h.1 q
    exact wa_vret dX10_printsNumber_66 rfl h
  · replace h := h.2 q
    obtain ⟨c1, h⟩ := h
    refine wa_iinc 50 [(2, v0), (9, 0), (9, 0), (0, (v3 + (-1))), (9, 0), (9, 0)] dX10_printsNumber_47 rfl rfl rfl c1 rfl ?_
    refine wa_aload_n 51 dX10_printsNumber_50 rfl rfl ?_
    refine wa_bipush 53 dX10_printsNumber_51 rfl ⟨by decide, by decide⟩ ?_
    refine wa_aload_n 54 dX10_printsNumber_53 rfl rfl ?_
    have e2 : isK L (rf L v0 22) (20, 20) := lay_f hL k0 22 rfl
    refine wa_getR 57 22 dX10_printsNumber_54 rfl wF_X10_43 rfl rfl ⟨k0, isK_pos e2⟩ ?_
    refine wa_iload_n 58 dX10_printsNumber_57 rfl rfl ?_
    obtain ⟨c3, h⟩ := h
    refine wa_iaload 59 dX10_printsNumber_58 rfl (okA_of e2 c3) ?_
    obtain ⟨c4, h⟩ := h
    refine wa_iadd 60 dX10_printsNumber_59 rfl c4 ?_
    refine wa_callV 63 0 1 10 (av := [(0, (48 + (μ ((rf L v0 22)) ((v3 + (-1))))))]) (rest := []) (k1 := (0, 0)) (k2 := (0, 0)) cvX10_prints dX10_printsNumber_60 rfl wM_X10_333 ⟨rfl, by decide, rfl, Nat.le_of_ble_eq_true rfl, by decide, Nat.le_of_ble_eq_true rfl, rfl, rfl⟩ rfl k0 (TR.mono h (fun r5 L6 μ7 h => ?_))
    obtain ⟨rfl, rfl, h⟩ := h
    show WA mX10_printsNumber 1 (0, 0) 63 [(2, v0), (9, 0), (9, 0), (0, (v3 + (-1))), (9, 0), (9, 0)] [] L μ7 Q
    refine wa_goto 43 dX10_printsNumber_63 (by decide) ?_
    exact h
set_option maxRecDepth 20000 in
theorem t_X10_printsPoint (hL : LayOK L) {v0 v1 : Int} (k0 : isK L v0 (10, 0)) (h : (0 ≤ v1 ∧ v1 < 510) ∧ TR mX10_printsNumber 1 (0, 0) [(2, v0), (1, (μ ((rf L v0 0)) v1))] L μ (fun r3 L4 μ5 => r3 = none ∧ L = L4 ∧ (inI (v1 + 1)) ∧ (0 ≤ (v1 + 1) ∧ (v1 + 1) < 510) ∧ ((μ5 ((rf L v0 0)) ((v1 + 1))) = 1 → Q none L μ5) ∧ (¬ (μ5 ((rf L v0 0)) ((v1 + 1))) = 1 → TR mX10_prints 0 (0, 0) [(2, v0), (0, 47)] L μ5 (fun r8 L9 μ10 => r8 = none ∧ L = L9 ∧ TR mX10_printsNumber 1 (0, 0) [(2, v0), (1, (μ10 ((rf L v0 0)) ((v1 + 1))))] L μ10 (fun r11 L12 μ13 => r11 = none ∧ L = L12 ∧ Q none L μ13))))) : TR mX10_printsPoint 2 (0, 0) [(2, v0), (0, v1)] L μ Q := by
  refine TR.of (ls := [(2, v0), (0, v1)]) (by decide) (by simp) rfl (Nat.le_of_ble_eq_true rfl) ?_
  refine wa_aload_n 1 dX10_printsPoint_0 rfl rfl ?_
  refine wa_aload_n 2 dX10_printsPoint_1 rfl rfl ?_
  have e1 : isK L (rf L v0 0) (21, 510) := lay_f hL k0 0 rfl
  refine wa_getR 5 0 dX10_printsPoint_2 rfl wF_X10_9 rfl rfl ⟨k0, isK_pos e1⟩ ?_
  refine wa_iload_n 6 dX10_printsPoint_5 rfl rfl ?_
  obtain ⟨c2, h⟩ := h
  refine wa_laload 7 dX10_printsPoint_6 rfl (okA_of e1 c2) ?_
  refine wa_callV 10 1 1 10 (av := [(1, (μ ((rf L v0 0)) v1))]) (rest := []) (k1 := (0, 0)) (k2 := (0, 0)) cvX10_printsNumber dX10_printsPoint_7 rfl wM_X10_336 ⟨rfl, by decide, rfl, Nat.le_of_ble_eq_true rfl, by decide, Nat.le_of_ble_eq_true rfl, rfl, rfl⟩ rfl k0 (TR.mono h (fun r3 L4 μ5 h => ?_))
  obtain ⟨rfl, rfl, h⟩ := h
  show WA mX10_printsPoint 2 (0, 0) 10 [(2, v0), (0, v1)] [] L μ5 Q
  refine wa_aload_n 11 dX10_printsPoint_10 rfl rfl ?_
  refine wa_getR 14 0 dX10_printsPoint_11 rfl wF_X10_9 rfl rfl ⟨k0, isK_pos e1⟩ ?_
  refine wa_iload_n 15 dX10_printsPoint_14 rfl rfl ?_
  refine wa_iconst 16 dX10_printsPoint_15 rfl (by decide) ?_
  obtain ⟨c6, h⟩ := h
  refine wa_iadd 17 dX10_printsPoint_16 rfl c6 ?_
  obtain ⟨c7, h⟩ := h
  refine wa_laload 18 dX10_printsPoint_17 rfl (okA_of e1 c7) ?_
  refine wa_lconst 19 1 dX10_printsPoint_18 rfl ⟨rfl, by decide⟩ ?_
  refine wa_lc_eq 23 41 dX10_printsPoint_19 dX10_printsPoint_20 rfl (by decide) (fun q => ?_) (fun q => ?_)
  · replace h := h.1 q
    exact wa_vret dX10_printsPoint_41 rfl h
  · replace h := h.2 q
    refine wa_aload_n 24 dX10_printsPoint_23 rfl rfl ?_
    refine wa_bipush 26 dX10_printsPoint_24 rfl ⟨by decide, by decide⟩ ?_
    refine wa_callV 29 0 1 10 (av := [(0, 47)]) (rest := []) (k1 := (0, 0)) (k2 := (0, 0)) cvX10_prints dX10_printsPoint_26 rfl wM_X10_333 ⟨rfl, by decide, rfl, Nat.le_of_ble_eq_true rfl, by decide, Nat.le_of_ble_eq_true rfl, rfl, rfl⟩ rfl k0 (TR.mono h (fun r8 L9 μ10 h => ?_))
    obtain ⟨rfl, rfl, h⟩ := h
    show WA mX10_printsPoint 2 (0, 0) 29 [(2, v0), (0, v1)] [] L μ10 Q
    refine wa_aload_n 30 dX10_printsPoint_29 rfl rfl ?_
    refine wa_aload_n 31 dX10_printsPoint_30 rfl rfl ?_
    refine wa_getR 34 0 dX10_printsPoint_31 rfl wF_X10_9 rfl rfl ⟨k0, isK_pos e1⟩ ?_
    refine wa_iload_n 35 dX10_printsPoint_34 rfl rfl ?_
    refine wa_iconst 36 dX10_printsPoint_35 rfl (by decide) ?_
    refine wa_iadd 37 dX10_printsPoint_36 rfl c6 ?_
    refine wa_laload 38 dX10_printsPoint_37 rfl (okA_of e1 c7) ?_
    refine wa_callV 41 1 1 10 (av := [(1, (μ10 ((rf L v0 0)) ((v1 + 1))))]) (rest := []) (k1 := (0, 0)) (k2 := (0, 0)) cvX10_printsNumber dX10_printsPoint_38 rfl wM_X10_336 ⟨rfl, by decide, rfl, Nat.le_of_ble_eq_true rfl, by decide, Nat.le_of_ble_eq_true rfl, rfl, rfl⟩ rfl k0 (TR.mono h (fun r11 L12 μ13 h => ?_))
    obtain ⟨rfl, rfl, h⟩ := h
    show WA mX10_printsPoint 2 (0, 0) 41 [(2, v0), (0, v1)] [] L μ13 Q
    exact wa_vret dX10_printsPoint_41 rfl h
set_option maxRecDepth 20000 in
theorem t_X10_prints_ (hL : LayOK L) {v0 : Int} (k0 : isK L v0 (10, 0)) (h : TR mX10_isDivided 0 (0, 0) [(2, v0)] L μ (fun r1 L2 μ3 => ∃ w4, r1 = some (0, w4) ∧ L = L2 ∧ (¬ w4 = 0 → WA mX10_prints_ 3 (0, 0) 17 [(2, v0), (0, 0), (9, 0), (9, 0)] [] L (up μ3 v0 21 0) Q) ∧ (w4 = 0 → Q (some (0, (-5))) L μ3))) : TR mX10_prints_ 3 (0, 0) [(2, v0)] L μ Q := by
  refine TR.of (ls := [(2, v0), (9, 0), (9, 0), (9, 0)]) (by decide) (by simp) rfl (Nat.le_of_ble_eq_true rfl) ?_
  refine wa_aload_n 1 dX10_prints__0 rfl rfl ?_
  refine wa_callV 4 0 0 10 (av := []) (rest := []) (k1 := (0, 0)) (k2 := (0, 0)) cvX10_isDivided dX10_prints__1 rfl wM_X10_325 ⟨rfl, by decide, rfl, Nat.le_of_ble_eq_true rfl, by decide, Nat.le_of_ble_eq_true rfl, rfl, rfl⟩ rfl k0 (TR.mono h (fun r1 L2 μ3 h => ?_))
  obtain ⟨w4, rfl, rfl, h⟩ := h
  show WA mX10_prints_ 3 (0, 0) 4 [(2, v0), (9, 0), (9, 0), (9, 0)] [(0, w4)] L μ3 Q
  refine wa_if_ne 7 10 dX10_prints__4 rfl (by decide) (fun q => ?_) (fun q => ?_)
  · replace h := h.1 q
    refine wa_aload_n 11 dX10_prints__10 rfl rfl ?_
    refine wa_iconst 12 dX10_prints__11 rfl (by decide) ?_
    refine wa_putN 15 21 dX10_prints__12 rfl wF_X10_328 rfl rfl k0 ?_
    refine wa_iconst 16 dX10_prints__15 rfl (by decide) ?_
    refine wa_istore_n 17 [(2, v0), (0, 0), (9, 0), (9, 0)] dX10_prints__16 rfl rfl rfl ?_
    exact h
  · replace h := h.2 q
    refine wa_bipush 9 dX10_prints__7 rfl ⟨by decide, by decide⟩ ?_
    exact wa_iret dX10_prints__9 rfl h
set_option maxRecDepth 20000 in
theorem s_X10_prints__17 (hL : LayOK L) {v0 v1 : Int} (k0 : isK L v0 (10, 0)) (h : ((μ ((rf L v0 0)) 4) ≤ v1 → Q (some (0, (μ v0 21))) L μ) ∧ (¬ (μ ((rf L v0 0)) 4) ≤ v1 → (inI (6 * v1)) ∧ (inI (210 + (6 * v1))) ∧ (0 ≤ (210 + (6 * v1)) ∧ (210 + (6 * v1)) < 510) ∧ (inI ((μ ((rf L v0 0)) ((210 + (6 * v1)))))) ∧ (¬ (μ ((rf L v0 0)) ((210 + (6 * v1)))) = 0 → (¬ (μ ((rf L v0 0)) ((210 + (6 * v1)))) = 1 → (¬ (μ ((rf L v0 0)) ((210 + (6 * v1)))) = 2 → WA mX10_prints_ 3 (0, 0) 78 [(2, v0), (0, v1), (0, (210 + (6 * v1))), (0, (μ ((rf L v0 0)) ((210 + (6 * v1)))))] [(0, 103), (2, v0)] L μ Q) ∧ ((μ ((rf L v0 0)) ((210 + (6 * v1)))) = 2 → WA mX10_prints_ 3 (0, 0) 78 [(2, v0), (0, v1), (0, (210 + (6 * v1))), (0, (μ ((rf L v0 0)) ((210 + (6 * v1)))))] [(0, 112), (2, v0)] L μ Q)) ∧ ((μ ((rf L v0 0)) ((210 + (6 * v1)))) = 1 → WA mX10_prints_ 3 (0, 0) 78 [(2, v0), (0, v1), (0, (210 + (6 * v1))), (0, (μ ((rf L v0 0)) ((210 + (6 * v1)))))] [(0, 116), (2, v0)] L μ Q)) ∧ ((μ ((rf L v0 0)) ((210 + (6 * v1)))) = 0 → WA mX10_prints_ 3 (0, 0) 78 [(2, v0), (0, v1), (0, (210 + (6 * v1))), (0, (μ ((rf L v0 0)) ((210 + (6 * v1)))))] [(0, 109), (2, v0)] L μ Q))) : WA mX10_prints_ 3 (0, 0) 17 [(2, v0), (0, v1), (9, 0), (9, 0)] [] L μ Q := by
  refine wa_iload_n 18 dX10_prints__17 rfl rfl ?_
  refine wa_i2l 19 dX10_prints__18 rfl ?_
  refine wa_aload_n 20 dX10_prints__19 rfl rfl ?_
  have e1 : isK L (rf L v0 0) (21, 510) := lay_f hL k0 0 rfl
  refine wa_getR 23 0 dX10_prints__20 rfl wF_X10_9 rfl rfl ⟨k0, isK_pos e1⟩ ?_
  refine wa_iconst 24 dX10_prints__23 rfl (by decide) ?_
  refine wa_laload 25 dX10_prints__24 rfl (okA_of e1 ⟨by decide, by decide⟩) ?_
  refine wa_lc_ge 29 141 dX10_prints__25 dX10_prints__26 rfl (by decide) (fun q => ?_) (fun q => ?_)
  · replace h := h.1 q
    refine wa_aload_n 142 dX10_prints__141 rfl rfl ?_
    refine wa_getI 145 21 dX10_prints__142 rfl wF_X10_328 rfl rfl k0 ?_
    exact wa_iret dX10_prints__145 rfl h
  · replace h := h.2 q
    refine wa_sipush 32 dX10_prints__29 rfl ⟨by decide, by decide⟩ ?_
    refine wa_bipush 34 dX10_prints__32 rfl ⟨by decide, by decide⟩ ?_
    refine wa_iload_n 35 dX10_prints__34 rfl rfl ?_
    obtain ⟨c2, h⟩ := h
    refine wa_imul 36 dX10_prints__35 rfl c2 ?_
    obtain ⟨c3, h⟩ := h
    refine wa_iadd 37 dX10_prints__36 rfl c3 ?_
    refine wa_istore_n 38 [(2, v0), (0, v1), (0, (210 + (6 * v1))), (9, 0)] dX10_prints__37 rfl rfl rfl ?_
    refine wa_aload_n 39 dX10_prints__38 rfl rfl ?_
    refine wa_getR 42 0 dX10_prints__39 rfl wF_X10_9 rfl rfl ⟨k0, isK_pos e1⟩ ?_
    refine wa_iload_n 43 dX10_prints__42 rfl rfl ?_
    obtain ⟨c4, h⟩ := h
    refine wa_laload 44 dX10_prints__43 rfl (okA_of e1 c4) ?_
    obtain ⟨c5, h⟩ := h
    refine wa_l2i 45 dX10_prints__44 rfl c5 ?_
    refine wa_istore_n 46 [(2, v0), (0, v1), (0, (210 + (6 * v1))), (0, (μ ((rf L v0 0)) ((210 + (6 * v1)))))] dX10_prints__45 rfl rfl rfl ?_
    refine wa_aload_n 47 dX10_prints__46 rfl rfl ?_
    refine wa_iload_n 48 dX10_prints__47 rfl rfl ?_
    refine wa_if_ne 51 56 dX10_prints__48 rfl (by decide) (fun q => ?_) (fun q => ?_)
    · replace h := h.1 q
      refine wa_iload_n 57 dX10_prints__56 rfl rfl ?_
      refine wa_iconst 58 dX10_prints__57 rfl (by decide) ?_
      refine wa_icmp_ne 61 66 dX10_prints__58 rfl (by decide) (fun q => ?_) (fun q => ?_)
      · replace h := h.1 q
        refine wa_iload_n 67 dX10_prints__66 rfl rfl ?_
        refine wa_iconst 68 dX10_prints__67 rfl (by decide) ?_
        refine wa_icmp_ne 71 76 dX10_prints__68 rfl (by decide) (fun q => ?_) (fun q => ?_)
        · replace h := h.1 q
          refine wa_bipush 78 dX10_prints__76 rfl ⟨by decide, by decide⟩ ?_
          exact h
        · replace h := h.2 q
          refine wa_bipush 73 dX10_prints__71 rfl ⟨by decide, by decide⟩ ?_
          refine wa_goto 78 dX10_prints__73 (by decide) ?_
          exact h
      · replace h := h.2 q
        refine wa_bipush 63 dX10_prints__61 rfl ⟨by decide, by decide⟩ ?_
        refine wa_goto 78 dX10_prints__63 (by decide) ?_
        exact h
    · replace h := h.2 q
      refine wa_bipush 53 dX10_prints__51 rfl ⟨by decide, by decide⟩ ?_
      refine wa_goto 78 dX10_prints__53 (by decide) ?_
      exact h
set_option maxRecDepth 20000 in
theorem s_X10_prints__78 (hL : LayOK L) {v0 v1 v2 v3 s0 s1 : Int} (k0 : isK L v0 (10, 0)) (ks0 : isK L s0 (10, 0)) (h : TR mX10_prints 0 (0, 0) [(2, s0), (0, s1)] L μ (fun r1 L2 μ3 => r1 = none ∧ L = L2 ∧ (inI (v2 + 1)) ∧ (0 ≤ (v2 + 1) ∧ (v2 + 1) < 510) ∧ TR mX10_printsNumber 1 (0, 0) [(2, v0), (1, (μ3 ((rf L v0 0)) ((v2 + 1))))] L μ3 (fun r7 L8 μ9 => r7 = none ∧ L = L8 ∧ (v3 = 2 → (¬ v3 = 3 → TR mX10_prints 0 (0, 0) [(2, v0), (0, 59)] L μ9 (fun r10 L11 μ12 => r10 = none ∧ L = L11 ∧ (inI (v1 + 1)) ∧ WA mX10_prints_ 3 (0, 0) 17 [(2, v0), (0, (v1 + 1)), (9, 0), (9, 0)] [] L μ12 Q)) ∧ (v3 = 3 → TR mX10_prints 0 (0, 0) [(2, v0), (0, 45)] L μ9 (fun r14 L15 μ16 => r14 = none ∧ L = L15 ∧ (inI (v2 + 4)) ∧ TR mX10_printsPoint 2 (0, 0) [(2, v0), (0, (v2 + 4))] L μ16 (fun r18 L19 μ20 => r18 = none ∧ L = L19 ∧ TR mX10_prints 0 (0, 0) [(2, v0), (0, 59)] L μ20 (fun r21 L22 μ23 => r21 = none ∧ L = L22 ∧ (inI (v1 + 1)) ∧ WA mX10_prints_ 3 (0, 0) 17 [(2, v0), (0, (v1 + 1)), (9, 0), (9, 0)] [] L μ23 Q))))) ∧ (¬ v3 = 2 → TR mX10_prints 0 (0, 0) [(2, v0), (0, 32)] L μ9 (fun r25 L26 μ27 => r25 = none ∧ L = L26 ∧ (inI (v2 + 2)) ∧ TR mX10_printsPoint 2 (0, 0) [(2, v0), (0, (v2 + 2))] L μ27 (fun r29 L30 μ31 => r29 = none ∧ L = L30 ∧ (¬ v3 = 3 → TR mX10_prints 0 (0, 0) [(2, v0), (0, 59)] L μ31 (fun r32 L33 μ34 => r32 = none ∧ L = L33 ∧ (inI (v1 + 1)) ∧ WA mX10_prints_ 3 (0, 0) 17 [(2, v0), (0, (v1 + 1)), (9, 0), (9, 0)] [] L μ34 Q)) ∧ (v3 = 3 → TR mX10_prints 0 (0, 0) [(2, v0), (0, 45)] L μ31 (fun r36 L37 μ38 => r36 = none ∧ L = L37 ∧ (inI (v2 + 4)) ∧ TR mX10_printsPoint 2 (0, 0) [(2, v0), (0, (v2 + 4))] L μ38 (fun r40 L41 μ42 => r40 = none ∧ L = L41 ∧ TR mX10_prints 0 (0, 0) [(2, v0), (0, 59)] L μ42 (fun r43 L44 μ45 => r43 = none ∧ L = L44 ∧ (inI (v1 + 1)) ∧ WA mX10_prints_ 3 (0, 0) 17 [(2, v0), (0, (v1 + 1)), (9, 0), (9, 0)] [] L μ45 Q)))))))))) : WA mX10_prints_ 3 (0, 0) 78 [(2, v0), (0, v1), (0, v2), (0, v3)] [(0, s1), (2, s0)] L μ Q := by
  refine wa_callV 81 0 1 10 (av := [(0, s1)]) (rest := []) (k1 := (0, 0)) (k2 := (0, 0)) cvX10_prints dX10_prints__78 rfl wM_X10_333 ⟨rfl, by decide, rfl, Nat.le_of_ble_eq_true rfl, by decide, Nat.le_of_ble_eq_true rfl, rfl, rfl⟩ rfl ks0 (TR.mono h (fun r1 L2 μ3 h => ?_))
  obtain ⟨rfl, rfl, h⟩ := h
  show WA mX10_prints_ 3 (0, 0) 81 [(2, v0), (0, v1), (0, v2), (0, v3)] [] L μ3 Q
  refine wa_aload_n 82 dX10_prints__81 rfl rfl ?_
  refine wa_aload_n 83 dX10_prints__82 rfl rfl ?_
  have e4 : isK L (rf L v0 0) (21, 510) := lay_f hL k0 0 rfl
  refine wa_getR 86 0 dX10_prints__83 rfl wF_X10_9 rfl rfl ⟨k0, isK_pos e4⟩ ?_
  refine wa_iload_n 87 dX10_prints__86 rfl rfl ?_
  refine wa_iconst 88 dX10_prints__87 rfl (by decide) ?_
  obtain ⟨c5, h⟩ := h
  refine wa_iadd 89 dX10_prints__88 rfl c5 ?_
  obtain ⟨c6, h⟩ := h
  refine wa_laload 90 dX10_prints__89 rfl (okA_of e4 c6) ?_
  refine wa_callV 93 1 1 10 (av := [(1, (μ3 ((rf L v0 0)) ((v2 + 1))))]) (rest := []) (k1 := (0, 0)) (k2 := (0, 0)) cvX10_printsNumber dX10_prints__90 rfl wM_X10_336 ⟨rfl, by decide, rfl, Nat.le_of_ble_eq_true rfl, by decide, Nat.le_of_ble_eq_true rfl, rfl, rfl⟩ rfl k0 (TR.mono h (fun r7 L8 μ9 h => ?_))
  obtain ⟨rfl, rfl, h⟩ := h
  show WA mX10_prints_ 3 (0, 0) 93 [(2, v0), (0, v1), (0, v2), (0, v3)] [] L μ9 Q
  refine wa_iload_n 94 dX10_prints__93 rfl rfl ?_
  refine wa_iconst 95 dX10_prints__94 rfl (by decide) ?_
  refine wa_icmp_eq 98 111 dX10_prints__95 rfl (by decide) (fun q => ?_) (fun q => ?_)
  · replace h := h.1 q
    refine wa_iload_n 112 dX10_prints__111 rfl rfl ?_
    refine wa_iconst 113 dX10_prints__112 rfl (by decide) ?_
    refine wa_icmp_ne 116 129 dX10_prints__113 rfl (by decide) (fun q => ?_) (fun q => ?_)
    · replace h := h.1 q
      refine wa_aload_n 130 dX10_prints__129 rfl rfl ?_
      refine wa_bipush 132 dX10_prints__130 rfl ⟨by decide, by decide⟩ ?_
      refine wa_callV 135 0 1 10 (av := [(0, 59)]) (rest := []) (k1 := (0, 0)) (k2 := (0, 0)) cvX10_prints dX10_prints__132 rfl wM_X10_333 ⟨rfl, by decide, rfl, Nat.le_of_ble_eq_true rfl, by decide, Nat.le_of_ble_eq_true rfl, rfl, rfl⟩ rfl k0 (TR.mono h (fun r10 L11 μ12 h => ?_))
      obtain ⟨rfl, rfl, h⟩ := h
      show WA mX10_prints_ 3 (0, 0) 135 [(2, v0), (0, v1), (0, v2), (0, v3)] [] L μ12 Q
      obtain ⟨c13, h⟩ := h
      refine wa_iinc 138 [(2, v0), (0, (v1 + 1)), (0, v2), (0, v3)] dX10_prints__135 rfl rfl rfl c13 rfl ?_
      refine wa_goto 17 dX10_prints__138 (by decide) ?_
      exact wa_weak [(2, v0), (0, (v1 + 1)), (9, 0), (9, 0)] ⟨Or.inl rfl, Or.inl rfl, Or.inr rfl, Or.inr rfl, trivial⟩ h
    · replace h := h.2 q
      refine wa_aload_n 117 dX10_prints__116 rfl rfl ?_
      refine wa_bipush 119 dX10_prints__117 rfl ⟨by decide, by decide⟩ ?_
      refine wa_callV 122 0 1 10 (av := [(0, 45)]) (rest := []) (k1 := (0, 0)) (k2 := (0, 0)) cvX10_prints dX10_prints__119 rfl wM_X10_333 ⟨rfl, by decide, rfl, Nat.le_of_ble_eq_true rfl, by decide, Nat.le_of_ble_eq_true rfl, rfl, rfl⟩ rfl k0 (TR.mono h (fun r14 L15 μ16 h => ?_))
      obtain ⟨rfl, rfl, h⟩ := h
      show WA mX10_prints_ 3 (0, 0) 122 [(2, v0), (0, v1), (0, v2), (0, v3)] [] L μ16 Q
      refine wa_aload_n 123 dX10_prints__122 rfl rfl ?_
      refine wa_iload_n 124 dX10_prints__123 rfl rfl ?_
      refine wa_iconst 125 dX10_prints__124 rfl (by decide) ?_
      obtain ⟨c17, h⟩ := h
      refine wa_iadd 126 dX10_prints__125 rfl c17 ?_
      refine wa_callV 129 2 1 10 (av := [(0, (v2 + 4))]) (rest := []) (k1 := (0, 0)) (k2 := (0, 0)) cvX10_printsPoint dX10_prints__126 rfl wM_X10_339 ⟨rfl, by decide, rfl, Nat.le_of_ble_eq_true rfl, by decide, Nat.le_of_ble_eq_true rfl, rfl, rfl⟩ rfl k0 (TR.mono h (fun r18 L19 μ20 h => ?_))
      obtain ⟨rfl, rfl, h⟩ := h
      show WA mX10_prints_ 3 (0, 0) 129 [(2, v0), (0, v1), (0, v2), (0, v3)] [] L μ20 Q
      refine wa_aload_n 130 dX10_prints__129 rfl rfl ?_
      refine wa_bipush 132 dX10_prints__130 rfl ⟨by decide, by decide⟩ ?_
      refine wa_callV 135 0 1 10 (av := [(0, 59)]) (rest := []) (k1 := (0, 0)) (k2 := (0, 0)) cvX10_prints dX10_prints__132 rfl wM_X10_333 ⟨rfl, by decide, rfl, Nat.le_of_ble_eq_true rfl, by decide, Nat.le_of_ble_eq_true rfl, rfl, rfl⟩ rfl k0 (TR.mono h (fun r21 L22 μ23 h => ?_))
      obtain ⟨rfl, rfl, h⟩ := h
      show WA mX10_prints_ 3 (0, 0) 135 [(2, v0), (0, v1), (0, v2), (0, v3)] [] L μ23 Q
      obtain ⟨c24, h⟩ := h
      refine wa_iinc 138 [(2, v0), (0, (v1 + 1)), (0, v2), (0, v3)] dX10_prints__135 rfl rfl rfl c24 rfl ?_
      refine wa_goto 17 dX10_prints__138 (by decide) ?_
      exact wa_weak [(2, v0), (0, (v1 + 1)), (9, 0), (9, 0)] ⟨Or.inl rfl, Or.inl rfl, Or.inr rfl, Or.inr rfl, trivial⟩ h
  · replace h := h.2 q
    refine wa_aload_n 99 dX10_prints__98 rfl rfl ?_
    refine wa_bipush 101 dX10_prints__99 rfl ⟨by decide, by decide⟩ ?_
    refine wa_callV 104 0 1 10 (av := [(0, 32)]) (rest := []) (k1 := (0, 0)) (k2 := (0, 0)) cvX10_prints dX10_prints__101 rfl wM_X10_333 ⟨rfl, by decide, rfl, Nat.le_of_ble_eq_true rfl, by decide, Nat.le_of_ble_eq_true rfl, rfl, rfl⟩ rfl k0 (TR.mono h (fun r25 L26 μ27 h => ?_))
    obtain ⟨rfl, rfl, h⟩ := h
    show WA mX10_prints_ 3 (0, 0) 104 [(2, v0), (0, v1), (0, v2), (0, v3)] [] L μ27 Q
    refine wa_aload_n 105 dX10_prints__104 rfl rfl ?_
    refine wa_iload_n 106 dX10_prints__105 rfl rfl ?_
    refine wa_iconst 107 dX10_prints__106 rfl (by decide) ?_
    obtain ⟨c28, h⟩ := h
    refine wa_iadd 108 dX10_prints__107 rfl c28 ?_
    refine wa_callV 111 2 1 10 (av := [(0, (v2 + 2))]) (rest := []) (k1 := (0, 0)) (k2 := (0, 0)) cvX10_printsPoint dX10_prints__108 rfl wM_X10_339 ⟨rfl, by decide, rfl, Nat.le_of_ble_eq_true rfl, by decide, Nat.le_of_ble_eq_true rfl, rfl, rfl⟩ rfl k0 (TR.mono h (fun r29 L30 μ31 h => ?_))
    obtain ⟨rfl, rfl, h⟩ := h
    show WA mX10_prints_ 3 (0, 0) 111 [(2, v0), (0, v1), (0, v2), (0, v3)] [] L μ31 Q
    refine wa_iload_n 112 dX10_prints__111 rfl rfl ?_
    refine wa_iconst 113 dX10_prints__112 rfl (by decide) ?_
    refine wa_icmp_ne 116 129 dX10_prints__113 rfl (by decide) (fun q => ?_) (fun q => ?_)
    · replace h := h.1 q
      refine wa_aload_n 130 dX10_prints__129 rfl rfl ?_
      refine wa_bipush 132 dX10_prints__130 rfl ⟨by decide, by decide⟩ ?_
      refine wa_callV 135 0 1 10 (av := [(0, 59)]) (rest := []) (k1 := (0, 0)) (k2 := (0, 0)) cvX10_prints dX10_prints__132 rfl wM_X10_333 ⟨rfl, by decide, rfl, Nat.le_of_ble_eq_true rfl, by decide, Nat.le_of_ble_eq_true rfl, rfl, rfl⟩ rfl k0 (TR.mono h (fun r32 L33 μ34 h => ?_))
      obtain ⟨rfl, rfl, h⟩ := h
      show WA mX10_prints_ 3 (0, 0) 135 [(2, v0), (0, v1), (0, v2), (0, v3)] [] L μ34 Q
      obtain ⟨c35, h⟩ := h
      refine wa_iinc 138 [(2, v0), (0, (v1 + 1)), (0, v2), (0, v3)] dX10_prints__135 rfl rfl rfl c35 rfl ?_
      refine wa_goto 17 dX10_prints__138 (by decide) ?_
      exact wa_weak [(2, v0), (0, (v1 + 1)), (9, 0), (9, 0)] ⟨Or.inl rfl, Or.inl rfl, Or.inr rfl, Or.inr rfl, trivial⟩ h
    · replace h := h.2 q
      refine wa_aload_n 117 dX10_prints__116 rfl rfl ?_
      refine wa_bipush 119 dX10_prints__117 rfl ⟨by decide, by decide⟩ ?_
      refine wa_callV 122 0 1 10 (av := [(0, 45)]) (rest := []) (k1 := (0, 0)) (k2 := (0, 0)) cvX10_prints dX10_prints__119 rfl wM_X10_333 ⟨rfl, by decide, rfl, Nat.le_of_ble_eq_true rfl, by decide, Nat.le_of_ble_eq_true rfl, rfl, rfl⟩ rfl k0 (TR.mono h (fun r36 L37 μ38 h => ?_))
      obtain ⟨rfl, rfl, h⟩ := h
      show WA mX10_prints_ 3 (0, 0) 122 [(2, v0), (0, v1), (0, v2), (0, v3)] [] L μ38 Q
      refine wa_aload_n 123 dX10_prints__122 rfl rfl ?_
      refine wa_iload_n 124 dX10_prints__123 rfl rfl ?_
      refine wa_iconst 125 dX10_prints__124 rfl (by decide) ?_
      obtain ⟨c39, h⟩ := h
      refine wa_iadd 126 dX10_prints__125 rfl c39 ?_
      refine wa_callV 129 2 1 10 (av := [(0, (v2 + 4))]) (rest := []) (k1 := (0, 0)) (k2 := (0, 0)) cvX10_printsPoint dX10_prints__126 rfl wM_X10_339 ⟨rfl, by decide, rfl, Nat.le_of_ble_eq_true rfl, by decide, Nat.le_of_ble_eq_true rfl, rfl, rfl⟩ rfl k0 (TR.mono h (fun r40 L41 μ42 h => ?_))
      obtain ⟨rfl, rfl, h⟩ := h
      show WA mX10_prints_ 3 (0, 0) 129 [(2, v0), (0, v1), (0, v2), (0, v3)] [] L μ42 Q
      refine wa_aload_n 130 dX10_prints__129 rfl rfl ?_
      refine wa_bipush 132 dX10_prints__130 rfl ⟨by decide, by decide⟩ ?_
      refine wa_callV 135 0 1 10 (av := [(0, 59)]) (rest := []) (k1 := (0, 0)) (k2 := (0, 0)) cvX10_prints dX10_prints__132 rfl wM_X10_333 ⟨rfl, by decide, rfl, Nat.le_of_ble_eq_true rfl, by decide, Nat.le_of_ble_eq_true rfl, rfl, rfl⟩ rfl k0 (TR.mono h (fun r43 L44 μ45 h => ?_))
      obtain ⟨rfl, rfl, h⟩ := h
      show WA mX10_prints_ 3 (0, 0) 135 [(2, v0), (0, v1), (0, v2), (0, v3)] [] L μ45 Q
      obtain ⟨c46, h⟩ := h
      refine wa_iinc 138 [(2, v0), (0, (v1 + 1)), (0, v2), (0, v3)] dX10_prints__135 rfl rfl rfl c46 rfl ?_
      refine wa_goto 17 dX10_prints__138 (by decide) ?_
      exact wa_weak [(2, v0), (0, (v1 + 1)), (9, 0), (9, 0)] ⟨Or.inl rfl, Or.inl rfl, Or.inr rfl, Or.inr rfl, trivial⟩ h
set_option maxRecDepth 20000 in
theorem t_X10_readPoint (hL : LayOK L) {v0 : Int} (k0 : isK L v0 (10, 0)) (h : TR mX10_number 2 (0, 0) [(2, v0), (0, 2)] L μ (fun r1 L2 μ3 => ∃ w4, r1 = some (0, w4) ∧ L = L2 ∧ TR mX10_goesOn 1 (0, 0) [(2, v0), (0, 47)] L μ3 (fun r5 L6 μ7 => ∃ w8, r5 = some (0, w8) ∧ L = L6 ∧ (w8 = 0 → WA mX10_readPoint 3 (0, 0) 58 [(2, v0), (0, (μ v0 8)), (1, w4), (9, 0), (1, 1), (9, 0), (9, 0)] [] L μ7 Q) ∧ (¬ w8 = 0 → TR mX10_number 2 (0, 0) [(2, v0), (0, 3)] L μ7 (fun r9 L10 μ11 => ∃ w12, r9 = some (0, w12) ∧ L = L10 ∧ (¬ (μ11 v0 9) = 0 → WA mX10_readPoint 3 (0, 0) 58 [(2, v0), (0, (μ v0 8)), (1, w4), (9, 0), (1, w12), (9, 0), (9, 0)] [] L μ11 Q) ∧ ((μ11 v0 9) = 0 → (¬ w12 = 0 → WA mX10_readPoint 3 (0, 0) 58 [(2, v0), (0, (μ v0 8)), (1, w4), (9, 0), (1, w12), (9, 0), (9, 0)] [] L μ11 Q) ∧ (w12 = 0 → TR mX10_badAt 0 (0, 0) [(2, v0), (0, (μ7 v0 8))] L μ11 (fun r13 L14 μ15 => r13 = none ∧ L = L14 ∧ WA mX10_readPoint 3 (0, 0) 58 [(2, v0), (0, (μ v0 8)), (1, w4), (9, 0), (1, w12), (9, 0), (9, 0)] [] L μ15 Q)))))))) : TR mX10_readPoint 3 (0, 0) [(2, v0)] L μ Q := by
  refine TR.of (ls := [(2, v0), (9, 0), (9, 0), (9, 0), (9, 0), (9, 0), (9, 0)]) (by decide) (by simp) rfl (Nat.le_of_ble_eq_true rfl) ?_
  refine wa_aload_n 1 dX10_readPoint_0 rfl rfl ?_
  refine wa_getI 4 8 dX10_readPoint_1 rfl wF_X10_154 rfl rfl k0 ?_
  refine wa_istore_n 5 [(2, v0), (0, (μ v0 8)), (9, 0), (9, 0), (9, 0), (9, 0), (9, 0)] dX10_readPoint_4 rfl rfl rfl ?_
  refine wa_aload_n 6 dX10_readPoint_5 rfl rfl ?_
  refine wa_iconst 7 dX10_readPoint_6 rfl (by decide) ?_
  refine wa_callV 10 2 1 10 (av := [(0, 2)]) (rest := []) (k1 := (0, 0)) (k2 := (0, 0)) cvX10_number dX10_readPoint_7 rfl wM_X10_172 ⟨rfl, by decide, rfl, Nat.le_of_ble_eq_true rfl, by decide, Nat.le_of_ble_eq_true rfl, rfl, rfl⟩ rfl k0 (TR.mono h (fun r1 L2 μ3 h => ?_))
  obtain ⟨w4, rfl, rfl, h⟩ := h
  show WA mX10_readPoint 3 (0, 0) 10 [(2, v0), (0, (μ v0 8)), (9, 0), (9, 0), (9, 0), (9, 0), (9, 0)] [(0, w4)] L μ3 Q
  refine wa_i2l 11 dX10_readPoint_10 rfl ?_
  refine wa_lstore_n 12 [(2, v0), (0, (μ v0 8)), (1, w4), (9, 0), (9, 0), (9, 0), (9, 0)] dX10_readPoint_11 rfl rfl rfl ?_
  refine wa_lconst 13 1 dX10_readPoint_12 rfl ⟨rfl, by decide⟩ ?_
  refine wa_lstore 15 [(2, v0), (0, (μ v0 8)), (1, w4), (9, 0), (1, 1), (9, 0), (9, 0)] dX10_readPoint_13 rfl rfl rfl ?_
  refine wa_aload_n 16 dX10_readPoint_15 rfl rfl ?_
  refine wa_bipush 18 dX10_readPoint_16 rfl ⟨by decide, by decide⟩ ?_
  refine wa_callV 21 1 1 10 (av := [(0, 47)]) (rest := []) (k1 := (0, 0)) (k2 := (0, 0)) cvX10_goesOn dX10_readPoint_18 rfl wM_X10_186 ⟨rfl, by decide, rfl, Nat.le_of_ble_eq_true rfl, by decide, Nat.le_of_ble_eq_true rfl, rfl, rfl⟩ rfl k0 (TR.mono h (fun r5 L6 μ7 h => ?_))
  obtain ⟨w8, rfl, rfl, h⟩ := h
  show WA mX10_readPoint 3 (0, 0) 21 [(2, v0), (0, (μ v0 8)), (1, w4), (9, 0), (1, 1), (9, 0), (9, 0)] [(0, w8)] L μ7 Q
  refine wa_if_eq 24 58 dX10_readPoint_21 rfl (by decide) (fun q => ?_) (fun q => ?_)
  · replace h := h.1 q
    exact h
  · replace h := h.2 q
    refine wa_aload_n 25 dX10_readPoint_24 rfl rfl ?_
    refine wa_getI 28 8 dX10_readPoint_25 rfl wF_X10_154 rfl rfl k0 ?_
    refine wa_istore 30 [(2, v0), (0, (μ v0 8)), (1, w4), (9, 0), (1, 1), (9, 0), (0, (μ7 v0 8))] dX10_readPoint_28 rfl rfl rfl ?_
    refine wa_aload_n 31 dX10_readPoint_30 rfl rfl ?_
    refine wa_iconst 32 dX10_readPoint_31 rfl (by decide) ?_
    refine wa_callV 35 2 1 10 (av := [(0, 3)]) (rest := []) (k1 := (0, 0)) (k2 := (0, 0)) cvX10_number dX10_readPoint_32 rfl wM_X10_172 ⟨rfl, by decide, rfl, Nat.le_of_ble_eq_true rfl, by decide, Nat.le_of_ble_eq_true rfl, rfl, rfl⟩ rfl k0 (TR.mono h (fun r9 L10 μ11 h => ?_))
    obtain ⟨w12, rfl, rfl, h⟩ := h
    show WA mX10_readPoint 3 (0, 0) 35 [(2, v0), (0, (μ v0 8)), (1, w4), (9, 0), (1, 1), (9, 0), (0, (μ7 v0 8))] [(0, w12)] L μ11 Q
    refine wa_i2l 36 dX10_readPoint_35 rfl ?_
    refine wa_lstore 38 [(2, v0), (0, (μ v0 8)), (1, w4), (9, 0), (1, w12), (9, 0), (0, (μ7 v0 8))] dX10_readPoint_36 rfl rfl rfl ?_
    refine wa_aload_n 39 dX10_readPoint_38 rfl rfl ?_
    refine wa_getI 42 9 dX10_readPoint_39 rfl wF_X10_157 rfl rfl k0 ?_
    refine wa_if_ne 45 58 dX10_readPoint_42 rfl (by decide) (fun q => ?_) (fun q => ?_)
    · replace h := h.1 q
      exact wa_weak [(2, v0), (0, (μ v0 8)), (1, w4), (9, 0), (1, w12), (9, 0), (9, 0)] ⟨Or.inl rfl, Or.inl rfl, Or.inl rfl, Or.inl rfl, Or.inl rfl, Or.inl rfl, Or.inr rfl, trivial⟩ h
    · replace h := h.2 q
      refine wa_lload 47 dX10_readPoint_45 rfl rfl ?_
      refine wa_lconst 48 0 dX10_readPoint_47 rfl ⟨rfl, by decide⟩ ?_
      refine wa_lc_ne 52 58 dX10_readPoint_48 dX10_readPoint_49 rfl (by decide) (fun q => ?_) (fun q => ?_)
      · replace h := h.1 q
        exact wa_weak [(2, v0), (0, (μ v0 8)), (1, w4), (9, 0), (1, w12), (9, 0), (9, 0)] ⟨Or.inl rfl, Or.inl rfl, Or.inl rfl, Or.inl rfl, Or.inl rfl, Or.inl rfl, Or.inr rfl, trivial⟩ h
      · replace h := h.2 q
        refine wa_aload_n 53 dX10_readPoint_52 rfl rfl ?_
        refine wa_iload 55 dX10_readPoint_53 rfl rfl ?_
        refine wa_callV 58 0 1 10 (av := [(0, (μ7 v0 8))]) (rest := []) (k1 := (0, 0)) (k2 := (0, 0)) cvX10_badAt dX10_readPoint_55 rfl wM_X10_176 ⟨rfl, by decide, rfl, Nat.le_of_ble_eq_true rfl, by decide, Nat.le_of_ble_eq_true rfl, rfl, rfl⟩ rfl k0 (TR.mono h (fun r13 L14 μ15 h => ?_))
        obtain ⟨rfl, rfl, h⟩ := h
        show WA mX10_readPoint 3 (0, 0) 58 [(2, v0), (0, (μ v0 8)), (1, w4), (9, 0), (1, w12), (9, 0), (0, (μ7 v0 8))] [] L μ15 Q
        exact wa_weak [(2, v0), (0, (μ v0 8)), (1, w4), (9, 0), (1, w12), (9, 0), (9, 0)] ⟨Or.inl rfl, Or.inl rfl, Or.inl rfl, Or.inl rfl, Or.inl rfl, Or.inl rfl, Or.inr rfl, trivial⟩ h
set_option maxRecDepth 20000 in
theorem s_X10_readPoint_58 (hL : LayOK L) {v0 v1 v2 v4 : Int} (k0 : isK L v0 (10, 0)) (h : (¬ (μ v0 9) = 0 → (¬ (μ v0 9) = 0 → Q none L μ) ∧ ((μ v0 9) = 0 → TR mX10_becomes 1 (0, 0) [(2, v0), (1, v2), (1, v4)] L μ (fun r1 L2 μ3 => r1 = none ∧ L = L2 ∧ Q none L μ3))) ∧ ((μ v0 9) = 0 → (inL ((μ ((rf L v0 0)) 0) * v4)) ∧ (v2 ≤ ((μ ((rf L v0 0)) 0) * v4) → (¬ (μ v0 9) = 0 → Q none L μ) ∧ ((μ v0 9) = 0 → TR mX10_becomes 1 (0, 0) [(2, v0), (1, v2), (1, v4)] L μ (fun r6 L7 μ8 => r6 = none ∧ L = L7 ∧ Q none L μ8))) ∧ (¬ v2 ≤ ((μ ((rf L v0 0)) 0) * v4) → TR mX10_badAt 0 (0, 0) [(2, v0), (0, v1)] L μ (fun r9 L10 μ11 => r9 = none ∧ L = L10 ∧ (¬ (μ11 v0 9) = 0 → Q none L μ11) ∧ ((μ11 v0 9) = 0 → TR mX10_becomes 1 (0, 0) [(2, v0), (1, v2), (1, v4)] L μ11 (fun r12 L13 μ14 => r12 = none ∧ L = L13 ∧ Q none L μ14)))))) : WA mX10_readPoint 3 (0, 0) 58 [(2, v0), (0, v1), (1, v2), (9, 0), (1, v4), (9, 0), (9, 0)] [] L μ Q := by
  refine wa_aload_n 59 dX10_readPoint_58 rfl rfl ?_
  refine wa_getI 62 9 dX10_readPoint_59 rfl wF_X10_157 rfl rfl k0 ?_
  refine wa_if_ne 65 84 dX10_readPoint_62 rfl (by decide) (fun q => ?_) (fun q => ?_)
  · replace h := h.1 q
    refine wa_aload_n 85 dX10_readPoint_84 rfl rfl ?_
    refine wa_getI 88 9 dX10_readPoint_85 rfl wF_X10_157 rfl rfl k0 ?_
    refine wa_if_ne 91 98 dX10_readPoint_88 rfl (by decide) (fun q => ?_) (fun q => ?_)
    · replace h := h.1 q
      exact wa_vret dX10_readPoint_98 rfl h
    · replace h := h.2 q
      refine wa_aload_n 92 dX10_readPoint_91 rfl rfl ?_
      refine wa_lload_n 93 dX10_readPoint_92 rfl rfl ?_
      refine wa_lload 95 dX10_readPoint_93 rfl rfl ?_
      refine wa_callV 98 1 2 10 (av := [(1, v2), (1, v4)]) (rest := []) (k1 := (0, 0)) (k2 := (0, 0)) cvX10_becomes dX10_readPoint_95 rfl wM_X10_110 ⟨rfl, by decide, rfl, Nat.le_of_ble_eq_true rfl, by decide, Nat.le_of_ble_eq_true rfl, rfl, rfl⟩ rfl k0 (TR.mono h (fun r1 L2 μ3 h => ?_))
      obtain ⟨rfl, rfl, h⟩ := h
      show WA mX10_readPoint 3 (0, 0) 98 [(2, v0), (0, v1), (1, v2), (9, 0), (1, v4), (9, 0), (9, 0)] [] L μ3 Q
      exact wa_vret dX10_readPoint_98 rfl h
  · replace h := h.2 q
    refine wa_lload_n 66 dX10_readPoint_65 rfl rfl ?_
    refine wa_aload_n 67 dX10_readPoint_66 rfl rfl ?_
    have e4 : isK L (rf L v0 0) (21, 510) := lay_f hL k0 0 rfl
    refine wa_getR 70 0 dX10_readPoint_67 rfl wF_X10_9 rfl rfl ⟨k0, isK_pos e4⟩ ?_
    refine wa_iconst 71 dX10_readPoint_70 rfl (by decide) ?_
    refine wa_laload 72 dX10_readPoint_71 rfl (okA_of e4 ⟨by decide, by decide⟩) ?_
    refine wa_lload 74 dX10_readPoint_72 rfl rfl ?_
    obtain ⟨c5, h⟩ := h
    refine wa_lmul 75 dX10_readPoint_74 rfl c5 ?_
    refine wa_lc_le 79 84 dX10_readPoint_75 dX10_readPoint_76 rfl (by decide) (fun q => ?_) (fun q => ?_)
    · replace h := h.1 q
      refine wa_aload_n 85 dX10_readPoint_84 rfl rfl ?_
      refine wa_getI 88 9 dX10_readPoint_85 rfl wF_X10_157 rfl rfl k0 ?_
      refine wa_if_ne 91 98 dX10_readPoint_88 rfl (by decide) (fun q => ?_) (fun q => ?_)
      · replace h := h.1 q
        exact wa_vret dX10_readPoint_98 rfl h
      · replace h := h.2 q
        refine wa_aload_n 92 dX10_readPoint_91 rfl rfl ?_
        refine wa_lload_n 93 dX10_readPoint_92 rfl rfl ?_
        refine wa_lload 95 dX10_readPoint_93 rfl rfl ?_
        refine wa_callV 98 1 2 10 (av := [(1, v2), (1, v4)]) (rest := []) (k1 := (0, 0)) (k2 := (0, 0)) cvX10_becomes dX10_readPoint_95 rfl wM_X10_110 ⟨rfl, by decide, rfl, Nat.le_of_ble_eq_true rfl, by decide, Nat.le_of_ble_eq_true rfl, rfl, rfl⟩ rfl k0 (TR.mono h (fun r6 L7 μ8 h => ?_))
        obtain ⟨rfl, rfl, h⟩ := h
        show WA mX10_readPoint 3 (0, 0) 98 [(2, v0), (0, v1), (1, v2), (9, 0), (1, v4), (9, 0), (9, 0)] [] L μ8 Q
        exact wa_vret dX10_readPoint_98 rfl h
    · replace h := h.2 q
      refine wa_aload_n 80 dX10_readPoint_79 rfl rfl ?_
      refine wa_iload_n 81 dX10_readPoint_80 rfl rfl ?_
      refine wa_callV 84 0 1 10 (av := [(0, v1)]) (rest := []) (k1 := (0, 0)) (k2 := (0, 0)) cvX10_badAt dX10_readPoint_81 rfl wM_X10_176 ⟨rfl, by decide, rfl, Nat.le_of_ble_eq_true rfl, by decide, Nat.le_of_ble_eq_true rfl, rfl, rfl⟩ rfl k0 (TR.mono h (fun r9 L10 μ11 h => ?_))
      obtain ⟨rfl, rfl, h⟩ := h
      show WA mX10_readPoint 3 (0, 0) 84 [(2, v0), (0, v1), (1, v2), (9, 0), (1, v4), (9, 0), (9, 0)] [] L μ11 Q
      refine wa_aload_n 85 dX10_readPoint_84 rfl rfl ?_
      refine wa_getI 88 9 dX10_readPoint_85 rfl wF_X10_157 rfl rfl k0 ?_
      refine wa_if_ne 91 98 dX10_readPoint_88 rfl (by decide) (fun q => ?_) (fun q => ?_)
      · replace h := h.1 q
        exact wa_vret dX10_readPoint_98 rfl h
      · replace h := h.2 q
        refine wa_aload_n 92 dX10_readPoint_91 rfl rfl ?_
        refine wa_lload_n 93 dX10_readPoint_92 rfl rfl ?_
        refine wa_lload 95 dX10_readPoint_93 rfl rfl ?_
        refine wa_callV 98 1 2 10 (av := [(1, v2), (1, v4)]) (rest := []) (k1 := (0, 0)) (k2 := (0, 0)) cvX10_becomes dX10_readPoint_95 rfl wM_X10_110 ⟨rfl, by decide, rfl, Nat.le_of_ble_eq_true rfl, by decide, Nat.le_of_ble_eq_true rfl, rfl, rfl⟩ rfl k0 (TR.mono h (fun r12 L13 μ14 h => ?_))
        obtain ⟨rfl, rfl, h⟩ := h
        show WA mX10_readPoint 3 (0, 0) 98 [(2, v0), (0, v1), (1, v2), (9, 0), (1, v4), (9, 0), (9, 0)] [] L μ14 Q
        exact wa_vret dX10_readPoint_98 rfl h
set_option maxRecDepth 20000 in
theorem t_X10_readShare (hL : LayOK L) {v0 : Int} (k0 : isK L v0 (10, 0)) (h : TR mX10_agentHere 3 (0, 0) [(2, v0)] L μ (fun r1 L2 μ3 => ∃ w4, r1 = some (0, w4) ∧ L = L2 ∧ (¬ (μ3 v0 9) = 0 → WA mX10_readShare 5 (0, 0) 34 [(2, v0), (9, 0), (0, w4)] [] L μ3 Q) ∧ ((μ3 v0 9) = 0 → (¬ (bAnd ((bShr ((μ3 v0 10)) w4)) 1) = 1 → WA mX10_readShare 5 (0, 0) 34 [(2, v0), (9, 0), (0, w4)] [] L μ3 Q) ∧ ((bAnd ((bShr ((μ3 v0 10)) w4)) 1) = 1 → TR mX10_badAt 0 (0, 0) [(2, v0), (0, (μ v0 8))] L μ3 (fun r5 L6 μ7 => r5 = none ∧ L = L6 ∧ WA mX10_readShare 5 (0, 0) 34 [(2, v0), (9, 0), (0, w4)] [] L μ7 Q))))) : TR mX10_readShare 5 (0, 0) [(2, v0)] L μ Q := by
  refine TR.of (ls := [(2, v0), (9, 0), (9, 0)]) (by decide) (by simp) rfl (Nat.le_of_ble_eq_true rfl) ?_
  refine wa_aload_n 1 dX10_readShare_0 rfl rfl ?_
  refine wa_getI 4 8 dX10_readShare_1 rfl wF_X10_154 rfl rfl k0 ?_
  refine wa_istore_n 5 [(2, v0), (0, (μ v0 8)), (9, 0)] dX10_readShare_4 rfl rfl rfl ?_
  refine wa_aload_n 6 dX10_readShare_5 rfl rfl ?_
  refine wa_callV 9 3 0 10 (av := []) (rest := []) (k1 := (0, 0)) (k2 := (0, 0)) cvX10_agentHere dX10_readShare_6 rfl wM_X10_180 ⟨rfl, by decide, rfl, Nat.le_of_ble_eq_true rfl, by decide, Nat.le_of_ble_eq_true rfl, rfl, rfl⟩ rfl k0 (TR.mono h (fun r1 L2 μ3 h => ?_))
  obtain ⟨w4, rfl, rfl, h⟩ := h
  show WA mX10_readShare 5 (0, 0) 9 [(2, v0), (0, (μ v0 8)), (9, 0)] [(0, w4)] L μ3 Q
  refine wa_istore_n 10 [(2, v0), (0, (μ v0 8)), (0, w4)] dX10_readShare_9 rfl rfl rfl ?_
  refine wa_aload_n 11 dX10_readShare_10 rfl rfl ?_
  refine wa_getI 14 9 dX10_readShare_11 rfl wF_X10_157 rfl rfl k0 ?_
  refine wa_if_ne 17 34 dX10_readShare_14 rfl (by decide) (fun q => ?_) (fun q => ?_)
  · replace h := h.1 q
    exact wa_weak [(2, v0), (9, 0), (0, w4)] ⟨Or.inl rfl, Or.inr rfl, Or.inl rfl, trivial⟩ h
  · replace h := h.2 q
    refine wa_aload_n 18 dX10_readShare_17 rfl rfl ?_
    refine wa_getI 21 10 dX10_readShare_18 rfl wF_X10_213 rfl rfl k0 ?_
    refine wa_iload_n 22 dX10_readShare_21 rfl rfl ?_
    refine wa_ishr 23 dX10_readShare_22 rfl ?_
    refine wa_iconst 24 dX10_readShare_23 rfl (by decide) ?_
    refine wa_iand 25 dX10_readShare_24 rfl ?_
    refine wa_iconst 26 dX10_readShare_25 rfl (by decide) ?_
    refine wa_icmp_ne 29 34 dX10_readShare_26 rfl (by decide) (fun q => ?_) (fun q => ?_)
    · replace h := h.1 q
      exact wa_weak [(2, v0), (9, 0), (0, w4)] ⟨Or.inl rfl, Or.inr rfl, Or.inl rfl, trivial⟩ h
    · replace h := h.2 q
      refine wa_aload_n 30 dX10_readShare_29 rfl rfl ?_
      refine wa_iload_n 31 dX10_readShare_30 rfl rfl ?_
      refine wa_callV 34 0 1 10 (av := [(0, (μ v0 8))]) (rest := []) (k1 := (0, 0)) (k2 := (0, 0)) cvX10_badAt dX10_readShare_31 rfl wM_X10_176 ⟨rfl, by decide, rfl, Nat.le_of_ble_eq_true rfl, by decide, Nat.le_of_ble_eq_true rfl, rfl, rfl⟩ rfl k0 (TR.mono h (fun r5 L6 μ7 h => ?_))
      obtain ⟨rfl, rfl, h⟩ := h
      show WA mX10_readShare 5 (0, 0) 34 [(2, v0), (0, (μ v0 8)), (0, w4)] [] L μ7 Q
      exact wa_weak [(2, v0), (9, 0), (0, w4)] ⟨Or.inl rfl, Or.inr rfl, Or.inl rfl, trivial⟩ h
set_option maxRecDepth 20000 in
theorem s_X10_readShare_34 (hL : LayOK L) {v0 v2 : Int} (k0 : isK L v0 (10, 0)) (h : TR mX10_wants 1 (0, 0) [(2, v0), (0, 61)] L (up μ v0 10 ((bOr ((μ v0 10)) ((bShl 1 v2))))) (fun r1 L2 μ3 => r1 = none ∧ L = L2 ∧ TR mX10_readSpan 4 (0, 0) [(2, v0), (0, v2)] L μ3 (fun r4 L5 μ6 => r4 = none ∧ L = L5 ∧ TR mX10_goesOn 1 (0, 0) [(2, v0), (0, 44)] L μ6 (fun r7 L8 μ9 => ∃ w10, r7 = some (0, w10) ∧ L = L8 ∧ (w10 = 0 → Q none L μ9) ∧ (¬ w10 = 0 → TR mX10_readSpan 4 (0, 0) [(2, v0), (0, v2)] L μ9 (fun r11 L12 μ13 => r11 = none ∧ L = L12 ∧ Q none L μ13)))))) : WA mX10_readShare 5 (0, 0) 34 [(2, v0), (9, 0), (0, v2)] [] L μ Q := by
  refine wa_aload_n 35 dX10_readShare_34 rfl rfl ?_
  refine wa_dup 36 dX10_readShare_35 rfl (Or.inr rfl) ?_
  refine wa_getI 39 10 dX10_readShare_36 rfl wF_X10_213 rfl rfl k0 ?_
  refine wa_iconst 40 dX10_readShare_39 rfl (by decide) ?_
  refine wa_iload_n 41 dX10_readShare_40 rfl rfl ?_
  refine wa_ishl 42 dX10_readShare_41 rfl ?_
  refine wa_ior 43 dX10_readShare_42 rfl ?_
  refine wa_putN 46 10 dX10_readShare_43 rfl wF_X10_213 rfl rfl k0 ?_
  refine wa_aload_n 47 dX10_readShare_46 rfl rfl ?_
  refine wa_bipush 49 dX10_readShare_47 rfl ⟨by decide, by decide⟩ ?_
  refine wa_callV 52 1 1 10 (av := [(0, 61)]) (rest := []) (k1 := (0, 0)) (k2 := (0, 0)) cvX10_wants dX10_readShare_49 rfl wM_X10_183 ⟨rfl, by decide, rfl, Nat.le_of_ble_eq_true rfl, by decide, Nat.le_of_ble_eq_true rfl, rfl, rfl⟩ rfl k0 (TR.mono h (fun r1 L2 μ3 h => ?_))
  obtain ⟨rfl, rfl, h⟩ := h
  show WA mX10_readShare 5 (0, 0) 52 [(2, v0), (9, 0), (0, v2)] [] L μ3 Q
  refine wa_aload_n 53 dX10_readShare_52 rfl rfl ?_
  refine wa_iload_n 54 dX10_readShare_53 rfl rfl ?_
  refine wa_callV 57 4 1 10 (av := [(0, v2)]) (rest := []) (k1 := (0, 0)) (k2 := (0, 0)) cvX10_readSpan dX10_readShare_54 rfl wM_X10_216 ⟨rfl, by decide, rfl, Nat.le_of_ble_eq_true rfl, by decide, Nat.le_of_ble_eq_true rfl, rfl, rfl⟩ rfl k0 (TR.mono h (fun r4 L5 μ6 h => ?_))
  obtain ⟨rfl, rfl, h⟩ := h
  show WA mX10_readShare 5 (0, 0) 57 [(2, v0), (9, 0), (0, v2)] [] L μ6 Q
  refine wa_aload_n 58 dX10_readShare_57 rfl rfl ?_
  refine wa_bipush 60 dX10_readShare_58 rfl ⟨by decide, by decide⟩ ?_
  refine wa_callV 63 1 1 10 (av := [(0, 44)]) (rest := []) (k1 := (0, 0)) (k2 := (0, 0)) cvX10_goesOn dX10_readShare_60 rfl wM_X10_186 ⟨rfl, by decide, rfl, Nat.le_of_ble_eq_true rfl, by decide, Nat.le_of_ble_eq_true rfl, rfl, rfl⟩ rfl k0 (TR.mono h (fun r7 L8 μ9 h => ?_))
  obtain ⟨w10, rfl, rfl, h⟩ := h
  show WA mX10_readShare 5 (0, 0) 63 [(2, v0), (9, 0), (0, v2)] [(0, w10)] L μ9 Q
  refine wa_if_eq 66 71 dX10_readShare_63 rfl (by decide) (fun q => ?_) (fun q => ?_)
  · replace h := h.1 q
    exact wa_vret dX10_readShare_71 rfl h
  · replace h := h.2 q
    refine wa_aload_n 67 dX10_readShare_66 rfl rfl ?_
    refine wa_iload_n 68 dX10_readShare_67 rfl rfl ?_
    refine wa_callV 71 4 1 10 (av := [(0, v2)]) (rest := []) (k1 := (0, 0)) (k2 := (0, 0)) cvX10_readSpan dX10_readShare_68 rfl wM_X10_216 ⟨rfl, by decide, rfl, Nat.le_of_ble_eq_true rfl, by decide, Nat.le_of_ble_eq_true rfl, rfl, rfl⟩ rfl k0 (TR.mono h (fun r11 L12 μ13 h => ?_))
    obtain ⟨rfl, rfl, h⟩ := h
    show WA mX10_readShare 5 (0, 0) 71 [(2, v0), (9, 0), (0, v2)] [] L μ13 Q
    exact wa_vret dX10_readShare_71 rfl h
set_option maxRecDepth 20000 in
theorem t_X10_readSpan (hL : LayOK L) {v0 v1 : Int} (k0 : isK L v0 (10, 0)) (h : TR mX10_readPoint 3 (0, 0) [(2, v0)] L μ (fun r1 L2 μ3 => r1 = none ∧ L = L2 ∧ TR mX10_wants 1 (0, 0) [(2, v0), (0, 45)] L μ3 (fun r4 L5 μ6 => r4 = none ∧ L = L5 ∧ TR mX10_readPoint 3 (0, 0) [(2, v0)] L μ6 (fun r7 L8 μ9 => r7 = none ∧ L = L8 ∧ (¬ (μ9 v0 9) = 0 → WA mX10_readSpan 4 (0, 0) 66 [(2, v0), (0, v1), (0, (μ v0 8)), (1, (μ3 v0 4)), (9, 0), (1, (μ3 v0 5)), (9, 0), (9, 0), (9, 0)] [] L μ9 Q) ∧ ((μ9 v0 9) = 0 → TR mX10_isLess 0 (0, 0) [(1, (μ9 v0 4)), (1, (μ9 v0 5)), (1, (μ3 v0 4)), (1, (μ3 v0 5))] L μ9 (fun r10 L11 μ12 => ∃ w13, r10 = some (0, w13) ∧ L = L11 ∧ (w13 = 0 → WA mX10_readSpan 4 (0, 0) 66 [(2, v0), (0, v1), (0, (μ v0 8)), (1, (μ3 v0 4)), (9, 0), (1, (μ3 v0 5)), (9, 0), (9, 0), (9, 0)] [] L μ12 Q) ∧ (¬ w13 = 0 → TR mX10_badAt 0 (0, 0) [(2, v0), (0, (μ6 v0 8))] L μ12 (fun r14 L15 μ16 => r14 = none ∧ L = L15 ∧ WA mX10_readSpan 4 (0, 0) 66 [(2, v0), (0, v1), (0, (μ v0 8)), (1, (μ3 v0 4)), (9, 0), (1, (μ3 v0 5)), (9, 0), (9, 0), (9, 0)] [] L μ16 Q)))))))) : TR mX10_readSpan 4 (0, 0) [(2, v0), (0, v1)] L μ Q := by
  refine TR.of (ls := [(2, v0), (0, v1), (9, 0), (9, 0), (9, 0), (9, 0), (9, 0), (9, 0), (9, 0)]) (by decide) (by simp) rfl (Nat.le_of_ble_eq_true rfl) ?_
  refine wa_aload_n 1 dX10_readSpan_0 rfl rfl ?_
  refine wa_getI 4 8 dX10_readSpan_1 rfl wF_X10_154 rfl rfl k0 ?_
  refine wa_istore_n 5 [(2, v0), (0, v1), (0, (μ v0 8)), (9, 0), (9, 0), (9, 0), (9, 0), (9, 0), (9, 0)] dX10_readSpan_4 rfl rfl rfl ?_
  refine wa_aload_n 6 dX10_readSpan_5 rfl rfl ?_
  refine wa_callV 9 3 0 10 (av := []) (rest := []) (k1 := (0, 0)) (k2 := (0, 0)) cvX10_readPoint dX10_readSpan_6 rfl wM_X10_203 ⟨rfl, by decide, rfl, Nat.le_of_ble_eq_true rfl, by decide, Nat.le_of_ble_eq_true rfl, rfl, rfl⟩ rfl k0 (TR.mono h (fun r1 L2 μ3 h => ?_))
  obtain ⟨rfl, rfl, h⟩ := h
  show WA mX10_readSpan 4 (0, 0) 9 [(2, v0), (0, v1), (0, (μ v0 8)), (9, 0), (9, 0), (9, 0), (9, 0), (9, 0), (9, 0)] [] L μ3 Q
  refine wa_aload_n 10 dX10_readSpan_9 rfl rfl ?_
  refine wa_getL 13 4 dX10_readSpan_10 rfl wF_X10_99 rfl rfl k0 ?_
  refine wa_lstore_n 14 [(2, v0), (0, v1), (0, (μ v0 8)), (1, (μ3 v0 4)), (9, 0), (9, 0), (9, 0), (9, 0), (9, 0)] dX10_readSpan_13 rfl rfl rfl ?_
  refine wa_aload_n 15 dX10_readSpan_14 rfl rfl ?_
  refine wa_getL 18 5 dX10_readSpan_15 rfl wF_X10_103 rfl rfl k0 ?_
  refine wa_lstore 20 [(2, v0), (0, v1), (0, (μ v0 8)), (1, (μ3 v0 4)), (9, 0), (1, (μ3 v0 5)), (9, 0), (9, 0), (9, 0)] dX10_readSpan_18 rfl rfl rfl ?_
  refine wa_aload_n 21 dX10_readSpan_20 rfl rfl ?_
  refine wa_bipush 23 dX10_readSpan_21 rfl ⟨by decide, by decide⟩ ?_
  refine wa_callV 26 1 1 10 (av := [(0, 45)]) (rest := []) (k1 := (0, 0)) (k2 := (0, 0)) cvX10_wants dX10_readSpan_23 rfl wM_X10_183 ⟨rfl, by decide, rfl, Nat.le_of_ble_eq_true rfl, by decide, Nat.le_of_ble_eq_true rfl, rfl, rfl⟩ rfl k0 (TR.mono h (fun r4 L5 μ6 h => ?_))
  obtain ⟨rfl, rfl, h⟩ := h
  show WA mX10_readSpan 4 (0, 0) 26 [(2, v0), (0, v1), (0, (μ v0 8)), (1, (μ3 v0 4)), (9, 0), (1, (μ3 v0 5)), (9, 0), (9, 0), (9, 0)] [] L μ6 Q
  refine wa_aload_n 27 dX10_readSpan_26 rfl rfl ?_
  refine wa_getI 30 8 dX10_readSpan_27 rfl wF_X10_154 rfl rfl k0 ?_
  refine wa_istore 32 [(2, v0), (0, v1), (0, (μ v0 8)), (1, (μ3 v0 4)), (9, 0), (1, (μ3 v0 5)), (9, 0), (0, (μ6 v0 8)), (9, 0)] dX10_readSpan_30 rfl rfl rfl ?_
  refine wa_aload_n 33 dX10_readSpan_32 rfl rfl ?_
  refine wa_callV 36 3 0 10 (av := []) (rest := []) (k1 := (0, 0)) (k2 := (0, 0)) cvX10_readPoint dX10_readSpan_33 rfl wM_X10_203 ⟨rfl, by decide, rfl, Nat.le_of_ble_eq_true rfl, by decide, Nat.le_of_ble_eq_true rfl, rfl, rfl⟩ rfl k0 (TR.mono h (fun r7 L8 μ9 h => ?_))
  obtain ⟨rfl, rfl, h⟩ := h
  show WA mX10_readSpan 4 (0, 0) 36 [(2, v0), (0, v1), (0, (μ v0 8)), (1, (μ3 v0 4)), (9, 0), (1, (μ3 v0 5)), (9, 0), (0, (μ6 v0 8)), (9, 0)] [] L μ9 Q
  refine wa_aload_n 37 dX10_readSpan_36 rfl rfl ?_
  refine wa_getI 40 9 dX10_readSpan_37 rfl wF_X10_157 rfl rfl k0 ?_
  refine wa_if_ne 43 66 dX10_readSpan_40 rfl (by decide) (fun q => ?_) (fun q => ?_)
  · replace h := h.1 q
    exact wa_weak [(2, v0), (0, v1), (0, (μ v0 8)), (1, (μ3 v0 4)), (9, 0), (1, (μ3 v0 5)), (9, 0), (9, 0), (9, 0)] ⟨Or.inl rfl, Or.inl rfl, Or.inl rfl, Or.inl rfl, Or.inl rfl, Or.inl rfl, Or.inl rfl, Or.inr rfl, Or.inl rfl, trivial⟩ h
  · replace h := h.2 q
    refine wa_aload_n 44 dX10_readSpan_43 rfl rfl ?_
    refine wa_getL 47 4 dX10_readSpan_44 rfl wF_X10_99 rfl rfl k0 ?_
    refine wa_aload_n 48 dX10_readSpan_47 rfl rfl ?_
    refine wa_getL 51 5 dX10_readSpan_48 rfl wF_X10_103 rfl rfl k0 ?_
    refine wa_lload_n 52 dX10_readSpan_51 rfl rfl ?_
    refine wa_lload 54 dX10_readSpan_52 rfl rfl ?_
    refine wa_callS 57 0 4 (av := [(1, (μ9 v0 4)), (1, (μ9 v0 5)), (1, (μ3 v0 4)), (1, (μ3 v0 5))]) (rest := []) (k1 := (0, 0)) (k2 := (0, 0)) cvX10_isLess dX10_readSpan_54 rfl wM_X10_199 ⟨rfl, Nat.le_of_ble_eq_true rfl, by decide, Nat.le_of_ble_eq_true rfl, rfl, rfl⟩ rfl (TR.mono h (fun r10 L11 μ12 h => ?_))
    obtain ⟨w13, rfl, rfl, h⟩ := h
    show WA mX10_readSpan 4 (0, 0) 57 [(2, v0), (0, v1), (0, (μ v0 8)), (1, (μ3 v0 4)), (9, 0), (1, (μ3 v0 5)), (9, 0), (0, (μ6 v0 8)), (9, 0)] [(0, w13)] L μ12 Q
    refine wa_if_eq 60 66 dX10_readSpan_57 rfl (by decide) (fun q => ?_) (fun q => ?_)
    · replace h := h.1 q
      exact wa_weak [(2, v0), (0, v1), (0, (μ v0 8)), (1, (μ3 v0 4)), (9, 0), (1, (μ3 v0 5)), (9, 0), (9, 0), (9, 0)] ⟨Or.inl rfl, Or.inl rfl, Or.inl rfl, Or.inl rfl, Or.inl rfl, Or.inl rfl, Or.inl rfl, Or.inr rfl, Or.inl rfl, trivial⟩ h
    · replace h := h.2 q
      refine wa_aload_n 61 dX10_readSpan_60 rfl rfl ?_
      refine wa_iload 63 dX10_readSpan_61 rfl rfl ?_
      refine wa_callV 66 0 1 10 (av := [(0, (μ6 v0 8))]) (rest := []) (k1 := (0, 0)) (k2 := (0, 0)) cvX10_badAt dX10_readSpan_63 rfl wM_X10_176 ⟨rfl, by decide, rfl, Nat.le_of_ble_eq_true rfl, by decide, Nat.le_of_ble_eq_true rfl, rfl, rfl⟩ rfl k0 (TR.mono h (fun r14 L15 μ16 h => ?_))
      obtain ⟨rfl, rfl, h⟩ := h
      show WA mX10_readSpan 4 (0, 0) 66 [(2, v0), (0, v1), (0, (μ v0 8)), (1, (μ3 v0 4)), (9, 0), (1, (μ3 v0 5)), (9, 0), (0, (μ6 v0 8)), (9, 0)] [] L μ16 Q
      exact wa_weak [(2, v0), (0, v1), (0, (μ v0 8)), (1, (μ3 v0 4)), (9, 0), (1, (μ3 v0 5)), (9, 0), (9, 0), (9, 0)] ⟨Or.inl rfl, Or.inl rfl, Or.inl rfl, Or.inl rfl, Or.inl rfl, Or.inl rfl, Or.inl rfl, Or.inr rfl, Or.inl rfl, trivial⟩ h
set_option maxRecDepth 20000 in
theorem s_X10_readSpan_66 (hL : LayOK L) {v0 v1 v2 v3 v5 : Int} (k0 : isK L v0 (10, 0)) (h : (¬ (μ v0 9) = 0 → WA mX10_readSpan 4 (0, 0) 97 [(2, v0), (0, v1), (0, v2), (1, v3), (9, 0), (1, v5), (9, 0), (9, 0), (9, 0)] [(0, 0)] L μ Q) ∧ ((μ v0 9) = 0 → (¬ (μ v0 4) = v3 → WA mX10_readSpan 4 (0, 0) 97 [(2, v0), (0, v1), (0, v2), (1, v3), (9, 0), (1, v5), (9, 0), (9, 0), (9, 0)] [(0, 0)] L μ Q) ∧ ((μ v0 4) = v3 → (¬ (μ v0 5) = v5 → WA mX10_readSpan 4 (0, 0) 97 [(2, v0), (0, v1), (0, v2), (1, v3), (9, 0), (1, v5), (9, 0), (9, 0), (9, 0)] [(0, 0)] L μ Q) ∧ ((μ v0 5) = v5 → WA mX10_readSpan 4 (0, 0) 97 [(2, v0), (0, v1), (0, v2), (1, v3), (9, 0), (1, v5), (9, 0), (9, 0), (9, 0)] [(0, 1)] L μ Q)))) : WA mX10_readSpan 4 (0, 0) 66 [(2, v0), (0, v1), (0, v2), (1, v3), (9, 0), (1, v5), (9, 0), (9, 0), (9, 0)] [] L μ Q := by
  refine wa_aload_n 67 dX10_readSpan_66 rfl rfl ?_
  refine wa_getI 70 9 dX10_readSpan_67 rfl wF_X10_157 rfl rfl k0 ?_
  refine wa_if_ne 73 96 dX10_readSpan_70 rfl (by decide) (fun q => ?_) (fun q => ?_)
  · replace h := h.1 q
    refine wa_iconst 97 dX10_readSpan_96 rfl (by decide) ?_
    exact h
  · replace h := h.2 q
    refine wa_aload_n 74 dX10_readSpan_73 rfl rfl ?_
    refine wa_getL 77 4 dX10_readSpan_74 rfl wF_X10_99 rfl rfl k0 ?_
    refine wa_lload_n 78 dX10_readSpan_77 rfl rfl ?_
    refine wa_lc_ne 82 96 dX10_readSpan_78 dX10_readSpan_79 rfl (by decide) (fun q => ?_) (fun q => ?_)
    · replace h := h.1 q
      refine wa_iconst 97 dX10_readSpan_96 rfl (by decide) ?_
      exact h
    · replace h := h.2 q
      refine wa_aload_n 83 dX10_readSpan_82 rfl rfl ?_
      refine wa_getL 86 5 dX10_readSpan_83 rfl wF_X10_103 rfl rfl k0 ?_
      refine wa_lload 88 dX10_readSpan_86 rfl rfl ?_
      refine wa_lc_ne 92 96 dX10_readSpan_88 dX10_readSpan_89 rfl (by decide) (fun q => ?_) (fun q => ?_)
      · replace h := h.1 q
        refine wa_iconst 97 dX10_readSpan_96 rfl (by decide) ?_
        exact h
      · replace h := h.2 q
        refine wa_iconst 93 dX10_readSpan_92 rfl (by decide) ?_
        refine wa_goto 97 dX10_readSpan_93 (by decide) ?_
        exact h
set_option maxRecDepth 20000 in
theorem s_X10_readSpan_97 (hL : LayOK L) {v0 v1 v2 v3 v5 s0 : Int} (k0 : isK L v0 (10, 0)) (h : (¬ (μ v0 9) = 0 → WA mX10_readSpan 4 (0, 0) 134 [(2, v0), (0, v1), (9, 0), (1, v3), (9, 0), (1, v5), (9, 0), (9, 0), (9, 0)] [] L μ Q) ∧ ((μ v0 9) = 0 → (¬ s0 = 0 → WA mX10_readSpan 4 (0, 0) 134 [(2, v0), (0, v1), (9, 0), (1, v3), (9, 0), (1, v5), (9, 0), (9, 0), (9, 0)] [] L μ Q) ∧ (s0 = 0 → TR mX10_areApart 1 (0, 0) [(2, v0), (1, v3), (1, v5), (1, (μ v0 4)), (1, (μ v0 5))] L μ (fun r1 L2 μ3 => ∃ w4, r1 = some (0, w4) ∧ L = L2 ∧ (¬ w4 = 0 → WA mX10_readSpan 4 (0, 0) 134 [(2, v0), (0, v1), (9, 0), (1, v3), (9, 0), (1, v5), (9, 0), (9, 0), (9, 0)] [] L μ3 Q) ∧ (w4 = 0 → TR mX10_badAt 0 (0, 0) [(2, v0), (0, v2)] L μ3 (fun r5 L6 μ7 => r5 = none ∧ L = L6 ∧ WA mX10_readSpan 4 (0, 0) 134 [(2, v0), (0, v1), (9, 0), (1, v3), (9, 0), (1, v5), (9, 0), (9, 0), (9, 0)] [] L μ7 Q)))))) : WA mX10_readSpan 4 (0, 0) 97 [(2, v0), (0, v1), (0, v2), (1, v3), (9, 0), (1, v5), (9, 0), (9, 0), (9, 0)] [(0, s0)] L μ Q := by
  refine wa_istore 99 [(2, v0), (0, v1), (0, v2), (1, v3), (9, 0), (1, v5), (9, 0), (9, 0), (0, s0)] dX10_readSpan_97 rfl rfl rfl ?_
  refine wa_aload_n 100 dX10_readSpan_99 rfl rfl ?_
  refine wa_getI 103 9 dX10_readSpan_100 rfl wF_X10_157 rfl rfl k0 ?_
  refine wa_if_ne 106 134 dX10_readSpan_103 rfl (by decide) (fun q => ?_) (fun q => ?_)
  · replace h := h.1 q
    exact wa_weak [(2, v0), (0, v1), (9, 0), (1, v3), (9, 0), (1, v5), (9, 0), (9, 0), (9, 0)] ⟨Or.inl rfl, Or.inl rfl, Or.inr rfl, Or.inl rfl, Or.inl rfl, Or.inl rfl, Or.inl rfl, Or.inl rfl, Or.inr rfl, trivial⟩ h
  · replace h := h.2 q
    refine wa_iload 108 dX10_readSpan_106 rfl rfl ?_
    refine wa_if_ne 111 134 dX10_readSpan_108 rfl (by decide) (fun q => ?_) (fun q => ?_)
    · replace h := h.1 q
      exact wa_weak [(2, v0), (0, v1), (9, 0), (1, v3), (9, 0), (1, v5), (9, 0), (9, 0), (9, 0)] ⟨Or.inl rfl, Or.inl rfl, Or.inr rfl, Or.inl rfl, Or.inl rfl, Or.inl rfl, Or.inl rfl, Or.inl rfl, Or.inr rfl, trivial⟩ h
    · replace h := h.2 q
      refine wa_aload_n 112 dX10_readSpan_111 rfl rfl ?_
      refine wa_lload_n 113 dX10_readSpan_112 rfl rfl ?_
      refine wa_lload 115 dX10_readSpan_113 rfl rfl ?_
      refine wa_aload_n 116 dX10_readSpan_115 rfl rfl ?_
      refine wa_getL 119 4 dX10_readSpan_116 rfl wF_X10_99 rfl rfl k0 ?_
      refine wa_aload_n 120 dX10_readSpan_119 rfl rfl ?_
      refine wa_getL 123 5 dX10_readSpan_120 rfl wF_X10_103 rfl rfl k0 ?_
      refine wa_callV 126 1 4 10 (av := [(1, v3), (1, v5), (1, (μ v0 4)), (1, (μ v0 5))]) (rest := []) (k1 := (0, 0)) (k2 := (0, 0)) cvX10_areApart dX10_readSpan_123 rfl wM_X10_206 ⟨rfl, by decide, rfl, Nat.le_of_ble_eq_true rfl, by decide, Nat.le_of_ble_eq_true rfl, rfl, rfl⟩ rfl k0 (TR.mono h (fun r1 L2 μ3 h => ?_))
      obtain ⟨w4, rfl, rfl, h⟩ := h
      show WA mX10_readSpan 4 (0, 0) 126 [(2, v0), (0, v1), (0, v2), (1, v3), (9, 0), (1, v5), (9, 0), (9, 0), (0, s0)] [(0, w4)] L μ3 Q
      refine wa_if_ne 129 134 dX10_readSpan_126 rfl (by decide) (fun q => ?_) (fun q => ?_)
      · replace h := h.1 q
        exact wa_weak [(2, v0), (0, v1), (9, 0), (1, v3), (9, 0), (1, v5), (9, 0), (9, 0), (9, 0)] ⟨Or.inl rfl, Or.inl rfl, Or.inr rfl, Or.inl rfl, Or.inl rfl, Or.inl rfl, Or.inl rfl, Or.inl rfl, Or.inr rfl, trivial⟩ h
      · replace h := h.2 q
        refine wa_aload_n 130 dX10_readSpan_129 rfl rfl ?_
        refine wa_iload_n 131 dX10_readSpan_130 rfl rfl ?_
        refine wa_callV 134 0 1 10 (av := [(0, v2)]) (rest := []) (k1 := (0, 0)) (k2 := (0, 0)) cvX10_badAt dX10_readSpan_131 rfl wM_X10_176 ⟨rfl, by decide, rfl, Nat.le_of_ble_eq_true rfl, by decide, Nat.le_of_ble_eq_true rfl, rfl, rfl⟩ rfl k0 (TR.mono h (fun r5 L6 μ7 h => ?_))
        obtain ⟨rfl, rfl, h⟩ := h
        show WA mX10_readSpan 4 (0, 0) 134 [(2, v0), (0, v1), (0, v2), (1, v3), (9, 0), (1, v5), (9, 0), (9, 0), (0, s0)] [] L μ7 Q
        exact wa_weak [(2, v0), (0, v1), (9, 0), (1, v3), (9, 0), (1, v5), (9, 0), (9, 0), (9, 0)] ⟨Or.inl rfl, Or.inl rfl, Or.inr rfl, Or.inl rfl, Or.inl rfl, Or.inl rfl, Or.inl rfl, Or.inl rfl, Or.inr rfl, trivial⟩ h
set_option maxRecDepth 20000 in
theorem s_X10_readSpan_134 (hL : LayOK L) {v0 v1 v3 v5 : Int} (k0 : isK L v0 (10, 0)) (h : (¬ (μ v0 9) = 0 → Q none L μ) ∧ ((μ v0 9) = 0 → TR mX10_adds 0 (0, 0) [(2, v0), (0, v1), (1, v3), (1, v5), (1, (μ v0 4)), (1, (μ v0 5))] L μ (fun r1 L2 μ3 => r1 = none ∧ L = L2 ∧ Q none L μ3))) : WA mX10_readSpan 4 (0, 0) 134 [(2, v0), (0, v1), (9, 0), (1, v3), (9, 0), (1, v5), (9, 0), (9, 0), (9, 0)] [] L μ Q := by
  refine wa_aload_n 135 dX10_readSpan_134 rfl rfl ?_
  refine wa_getI 138 9 dX10_readSpan_135 rfl wF_X10_157 rfl rfl k0 ?_
  refine wa_if_ne 141 157 dX10_readSpan_138 rfl (by decide) (fun q => ?_) (fun q => ?_)
  · replace h := h.1 q
    exact wa_vret dX10_readSpan_157 rfl h
  · replace h := h.2 q
    refine wa_aload_n 142 dX10_readSpan_141 rfl rfl ?_
    refine wa_iload_n 143 dX10_readSpan_142 rfl rfl ?_
    refine wa_lload_n 144 dX10_readSpan_143 rfl rfl ?_
    refine wa_lload 146 dX10_readSpan_144 rfl rfl ?_
    refine wa_aload_n 147 dX10_readSpan_146 rfl rfl ?_
    refine wa_getL 150 4 dX10_readSpan_147 rfl wF_X10_99 rfl rfl k0 ?_
    refine wa_aload_n 151 dX10_readSpan_150 rfl rfl ?_
    refine wa_getL 154 5 dX10_readSpan_151 rfl wF_X10_103 rfl rfl k0 ?_
    refine wa_callV 157 0 5 10 (av := [(0, v1), (1, v3), (1, v5), (1, (μ v0 4)), (1, (μ v0 5))]) (rest := []) (k1 := (0, 0)) (k2 := (0, 0)) cvX10_adds dX10_readSpan_154 rfl wM_X10_209 ⟨rfl, by decide, rfl, Nat.le_of_ble_eq_true rfl, by decide, Nat.le_of_ble_eq_true rfl, rfl, rfl⟩ rfl k0 (TR.mono h (fun r1 L2 μ3 h => ?_))
    obtain ⟨rfl, rfl, h⟩ := h
    show WA mX10_readSpan 4 (0, 0) 157 [(2, v0), (0, v1), (9, 0), (1, v3), (9, 0), (1, v5), (9, 0), (9, 0), (9, 0)] [] L μ3 Q
    exact wa_vret dX10_readSpan_157 rfl h
set_option maxRecDepth 20000 in
theorem t_X10_readWorths (hL : LayOK L) {v0 : Int} (k0 : isK L v0 (10, 0)) (h : TR mX10_here 0 (0, 0) [(2, v0)] L μ (fun r1 L2 μ3 => ∃ w4, r1 = some (0, w4) ∧ L = L2 ∧ (¬ w4 = 119 → WA mX10_readWorths 4 (0, 0) 14 [(2, v0), (9, 0), (9, 0), (9, 0), (9, 0), (9, 0)] [(0, 0)] L μ3 Q) ∧ (w4 = 119 → WA mX10_readWorths 4 (0, 0) 14 [(2, v0), (9, 0), (9, 0), (9, 0), (9, 0), (9, 0)] [(0, 1)] L μ3 Q))) : TR mX10_readWorths 4 (0, 0) [(2, v0)] L μ Q := by
  refine TR.of (ls := [(2, v0), (9, 0), (9, 0), (9, 0), (9, 0), (9, 0)]) (by decide) (by simp) rfl (Nat.le_of_ble_eq_true rfl) ?_
  refine wa_aload_n 1 dX10_readWorths_0 rfl rfl ?_
  refine wa_callV 4 0 0 10 (av := []) (rest := []) (k1 := (0, 0)) (k2 := (0, 0)) cvX10_here dX10_readWorths_1 rfl wM_X10_161 ⟨rfl, by decide, rfl, Nat.le_of_ble_eq_true rfl, by decide, Nat.le_of_ble_eq_true rfl, rfl, rfl⟩ rfl k0 (TR.mono h (fun r1 L2 μ3 h => ?_))
  obtain ⟨w4, rfl, rfl, h⟩ := h
  show WA mX10_readWorths 4 (0, 0) 4 [(2, v0), (9, 0), (9, 0), (9, 0), (9, 0), (9, 0)] [(0, w4)] L μ3 Q
  refine wa_bipush 6 dX10_readWorths_4 rfl ⟨by decide, by decide⟩ ?_
  refine wa_icmp_ne 9 13 dX10_readWorths_6 rfl (by decide) (fun q => ?_) (fun q => ?_)
  · replace h := h.1 q
    refine wa_iconst 14 dX10_readWorths_13 rfl (by decide) ?_
    exact h
  · replace h := h.2 q
    refine wa_iconst 10 dX10_readWorths_9 rfl (by decide) ?_
    refine wa_goto 14 dX10_readWorths_10 (by decide) ?_
    exact h
set_option maxRecDepth 20000 in
theorem s_X10_readWorths_14 (hL : LayOK L) {v0 s0 : Int} (k0 : isK L v0 (10, 0)) (h : TR mX10_here 0 (0, 0) [(2, v0)] L μ (fun r1 L2 μ3 => ∃ w4, r1 = some (0, w4) ∧ L = L2 ∧ (w4 = 119 → (inI ((μ3 v0 8) + 1)) ∧ TR mX10_agentHere 3 (0, 0) [(2, v0)] L (up μ3 v0 8 (((μ3 v0 8) + 1))) (fun r6 L7 μ8 => ∃ w9, r6 = some (0, w9) ∧ L = L7 ∧ TR mX10_wants 1 (0, 0) [(2, v0), (0, 58)] L μ8 (fun r10 L11 μ12 => r10 = none ∧ L = L11 ∧ WA mX10_readWorths 4 (0, 0) 68 [(2, v0), (0, s0), (0, w9), (0, 0), (0, 1), (9, 0)] [] L μ12 Q))) ∧ (¬ w4 = 119 → TR mX10_here 0 (0, 0) [(2, v0)] L μ3 (fun r13 L14 μ15 => ∃ w16, r13 = some (0, w16) ∧ L = L14 ∧ (w16 = 116 → (inI ((μ15 v0 8) + 1)) ∧ TR mX10_agentHere 3 (0, 0) [(2, v0)] L (up μ15 v0 8 (((μ15 v0 8) + 1))) (fun r18 L19 μ20 => ∃ w21, r18 = some (0, w21) ∧ L = L19 ∧ TR mX10_wants 1 (0, 0) [(2, v0), (0, 58)] L μ20 (fun r22 L23 μ24 => r22 = none ∧ L = L23 ∧ WA mX10_readWorths 4 (0, 0) 68 [(2, v0), (0, s0), (0, w21), (0, 0), (0, 1), (9, 0)] [] L μ24 Q))) ∧ (¬ w16 = 116 → TR mX10_badAt 0 (0, 0) [(2, v0), (0, (μ15 v0 8))] L μ15 (fun r25 L26 μ27 => r25 = none ∧ L = L26 ∧ Q none L μ27)))))) : WA mX10_readWorths 4 (0, 0) 14 [(2, v0), (9, 0), (9, 0), (9, 0), (9, 0), (9, 0)] [(0, s0)] L μ Q := by
  refine wa_istore_n 15 [(2, v0), (0, s0), (9, 0), (9, 0), (9, 0), (9, 0)] dX10_readWorths_14 rfl rfl rfl ?_
  refine wa_aload_n 16 dX10_readWorths_15 rfl rfl ?_
  refine wa_callV 19 0 0 10 (av := []) (rest := []) (k1 := (0, 0)) (k2 := (0, 0)) cvX10_here dX10_readWorths_16 rfl wM_X10_161 ⟨rfl, by decide, rfl, Nat.le_of_ble_eq_true rfl, by decide, Nat.le_of_ble_eq_true rfl, rfl, rfl⟩ rfl k0 (TR.mono h (fun r1 L2 μ3 h => ?_))
  obtain ⟨w4, rfl, rfl, h⟩ := h
  show WA mX10_readWorths 4 (0, 0) 19 [(2, v0), (0, s0), (9, 0), (9, 0), (9, 0), (9, 0)] [(0, w4)] L μ3 Q
  refine wa_bipush 21 dX10_readWorths_19 rfl ⟨by decide, by decide⟩ ?_
  refine wa_icmp_eq 24 42 dX10_readWorths_21 rfl (by decide) (fun q => ?_) (fun q => ?_)
  · replace h := h.1 q
    refine wa_aload_n 43 dX10_readWorths_42 rfl rfl ?_
    refine wa_dup 44 dX10_readWorths_43 rfl (Or.inr rfl) ?_
    refine wa_getI 47 8 dX10_readWorths_44 rfl wF_X10_154 rfl rfl k0 ?_
    refine wa_iconst 48 dX10_readWorths_47 rfl (by decide) ?_
    obtain ⟨c5, h⟩ := h
    refine wa_iadd 49 dX10_readWorths_48 rfl c5 ?_
    refine wa_putN 52 8 dX10_readWorths_49 rfl wF_X10_154 rfl rfl k0 ?_
    refine wa_aload_n 53 dX10_readWorths_52 rfl rfl ?_
    refine wa_callV 56 3 0 10 (av := []) (rest := []) (k1 := (0, 0)) (k2 := (0, 0)) cvX10_agentHere dX10_readWorths_53 rfl wM_X10_180 ⟨rfl, by decide, rfl, Nat.le_of_ble_eq_true rfl, by decide, Nat.le_of_ble_eq_true rfl, rfl, rfl⟩ rfl k0 (TR.mono h (fun r6 L7 μ8 h => ?_))
    obtain ⟨w9, rfl, rfl, h⟩ := h
    show WA mX10_readWorths 4 (0, 0) 56 [(2, v0), (0, s0), (9, 0), (9, 0), (9, 0), (9, 0)] [(0, w9)] L μ8 Q
    refine wa_istore_n 57 [(2, v0), (0, s0), (0, w9), (9, 0), (9, 0), (9, 0)] dX10_readWorths_56 rfl rfl rfl ?_
    refine wa_aload_n 58 dX10_readWorths_57 rfl rfl ?_
    refine wa_bipush 60 dX10_readWorths_58 rfl ⟨by decide, by decide⟩ ?_
    refine wa_callV 63 1 1 10 (av := [(0, 58)]) (rest := []) (k1 := (0, 0)) (k2 := (0, 0)) cvX10_wants dX10_readWorths_60 rfl wM_X10_183 ⟨rfl, by decide, rfl, Nat.le_of_ble_eq_true rfl, by decide, Nat.le_of_ble_eq_true rfl, rfl, rfl⟩ rfl k0 (TR.mono h (fun r10 L11 μ12 h => ?_))
    obtain ⟨rfl, rfl, h⟩ := h
    show WA mX10_readWorths 4 (0, 0) 63 [(2, v0), (0, s0), (0, w9), (9, 0), (9, 0), (9, 0)] [] L μ12 Q
    refine wa_iconst 64 dX10_readWorths_63 rfl (by decide) ?_
    refine wa_istore_n 65 [(2, v0), (0, s0), (0, w9), (0, 0), (9, 0), (9, 0)] dX10_readWorths_64 rfl rfl rfl ?_
    refine wa_iconst 66 dX10_readWorths_65 rfl (by decide) ?_
    refine wa_istore 68 [(2, v0), (0, s0), (0, w9), (0, 0), (0, 1), (9, 0)] dX10_readWorths_66 rfl rfl rfl ?_
    exact h
  · replace h := h.2 q
    refine wa_aload_n 25 dX10_readWorths_24 rfl rfl ?_
    refine wa_callV 28 0 0 10 (av := []) (rest := []) (k1 := (0, 0)) (k2 := (0, 0)) cvX10_here dX10_readWorths_25 rfl wM_X10_161 ⟨rfl, by decide, rfl, Nat.le_of_ble_eq_true rfl, by decide, Nat.le_of_ble_eq_true rfl, rfl, rfl⟩ rfl k0 (TR.mono h (fun r13 L14 μ15 h => ?_))
    obtain ⟨w16, rfl, rfl, h⟩ := h
    show WA mX10_readWorths 4 (0, 0) 28 [(2, v0), (0, s0), (9, 0), (9, 0), (9, 0), (9, 0)] [(0, w16)] L μ15 Q
    refine wa_bipush 30 dX10_readWorths_28 rfl ⟨by decide, by decide⟩ ?_
    refine wa_icmp_eq 33 42 dX10_readWorths_30 rfl (by decide) (fun q => ?_) (fun q => ?_)
    · replace h := h.1 q
      refine wa_aload_n 43 dX10_readWorths_42 rfl rfl ?_
      refine wa_dup 44 dX10_readWorths_43 rfl (Or.inr rfl) ?_
      refine wa_getI 47 8 dX10_readWorths_44 rfl wF_X10_154 rfl rfl k0 ?_
      refine wa_iconst 48 dX10_readWorths_47 rfl (by decide) ?_
      obtain ⟨c17, h⟩ := h
      refine wa_iadd 49 dX10_readWorths_48 rfl c17 ?_
      refine wa_putN 52 8 dX10_readWorths_49 rfl wF_X10_154 rfl rfl k0 ?_
      refine wa_aload_n 53 dX10_readWorths_52 rfl rfl ?_
      refine wa_callV 56 3 0 10 (av := []) (rest := []) (k1 := (0, 0)) (k2 := (0, 0)) cvX10_agentHere dX10_readWorths_53 rfl wM_X10_180 ⟨rfl, by decide, rfl, Nat.le_of_ble_eq_true rfl, by decide, Nat.le_of_ble_eq_true rfl, rfl, rfl⟩ rfl k0 (TR.mono h (fun r18 L19 μ20 h => ?_))
      obtain ⟨w21, rfl, rfl, h⟩ := h
      show WA mX10_readWorths 4 (0, 0) 56 [(2, v0), (0, s0), (9, 0), (9, 0), (9, 0), (9, 0)] [(0, w21)] L μ20 Q
      refine wa_istore_n 57 [(2, v0), (0, s0), (0, w21), (9, 0), (9, 0), (9, 0)] dX10_readWorths_56 rfl rfl rfl ?_
      refine wa_aload_n 58 dX10_readWorths_57 rfl rfl ?_
      refine wa_bipush 60 dX10_readWorths_58 rfl ⟨by decide, by decide⟩ ?_
      refine wa_callV 63 1 1 10 (av := [(0, 58)]) (rest := []) (k1 := (0, 0)) (k2 := (0, 0)) cvX10_wants dX10_readWorths_60 rfl wM_X10_183 ⟨rfl, by decide, rfl, Nat.le_of_ble_eq_true rfl, by decide, Nat.le_of_ble_eq_true rfl, rfl, rfl⟩ rfl k0 (TR.mono h (fun r22 L23 μ24 h => ?_))
      obtain ⟨rfl, rfl, h⟩ := h
      show WA mX10_readWorths 4 (0, 0) 63 [(2, v0), (0, s0), (0, w21), (9, 0), (9, 0), (9, 0)] [] L μ24 Q
      refine wa_iconst 64 dX10_readWorths_63 rfl (by decide) ?_
      refine wa_istore_n 65 [(2, v0), (0, s0), (0, w21), (0, 0), (9, 0), (9, 0)] dX10_readWorths_64 rfl rfl rfl ?_
      refine wa_iconst 66 dX10_readWorths_65 rfl (by decide) ?_
      refine wa_istore 68 [(2, v0), (0, s0), (0, w21), (0, 0), (0, 1), (9, 0)] dX10_readWorths_66 rfl rfl rfl ?_
      exact h
    · replace h := h.2 q
      refine wa_aload_n 34 dX10_readWorths_33 rfl rfl ?_
      refine wa_aload_n 35 dX10_readWorths_34 rfl rfl ?_
      refine wa_getI 38 8 dX10_readWorths_35 rfl wF_X10_154 rfl rfl k0 ?_
      refine wa_callV 41 0 1 10 (av := [(0, (μ15 v0 8))]) (rest := []) (k1 := (0, 0)) (k2 := (0, 0)) cvX10_badAt dX10_readWorths_38 rfl wM_X10_176 ⟨rfl, by decide, rfl, Nat.le_of_ble_eq_true rfl, by decide, Nat.le_of_ble_eq_true rfl, rfl, rfl⟩ rfl k0 (TR.mono h (fun r25 L26 μ27 h => ?_))
      obtain ⟨rfl, rfl, h⟩ := h
      show WA mX10_readWorths 4 (0, 0) 41 [(2, v0), (0, s0), (9, 0), (9, 0), (9, 0), (9, 0)] [] L μ27 Q
      exact wa_vret dX10_readWorths_41 rfl h
set_option maxRecDepth 20000 in
theorem s_X10_readWorths_68 (hL : LayOK L) {v0 v1 v2 v3 v4 : Int} (k0 : isK L v0 (10, 0)) (h : (v4 = 0 → Q none L μ) ∧ (¬ v4 = 0 → TR mX10_isFigure 1 (0, 0) [(2, v0)] L μ (fun r1 L2 μ3 => ∃ w4, r1 = some (0, w4) ∧ L = L2 ∧ (w4 = 0 → WA mX10_readWorths 4 (0, 0) 96 [(2, v0), (0, v1), (0, v2), (0, v3), (9, 0), (9, 0)] [] L μ3 Q) ∧ (¬ w4 = 0 → TR mX10_strips 0 (0, 0) [(2, v0)] L μ3 (fun r5 L6 μ7 => ∃ w8, r5 = some (0, w8) ∧ L = L6 ∧ (v3 < w8 → WA mX10_readWorths 4 (0, 0) 96 [(2, v0), (0, v1), (0, v2), (0, v3), (9, 0), (9, 0)] [] L μ7 Q) ∧ (¬ v3 < w8 → TR mX10_badAt 0 (0, 0) [(2, v0), (0, (μ7 v0 8))] L μ7 (fun r9 L10 μ11 => r9 = none ∧ L = L10 ∧ WA mX10_readWorths 4 (0, 0) 96 [(2, v0), (0, v1), (0, v2), (0, v3), (9, 0), (9, 0)] [] L μ11 Q))))))) : WA mX10_readWorths 4 (0, 0) 68 [(2, v0), (0, v1), (0, v2), (0, v3), (0, v4), (9, 0)] [] L μ Q := by
  refine wa_iload 70 dX10_readWorths_68 rfl rfl ?_
  refine wa_if_eq 73 166 dX10_readWorths_70 rfl (by decide) (fun q => ?_) (fun q => ?_)
  · replace h := h.1 q
    exact wa_vret dX10_readWorths_166 rfl h
  · replace h := h.2 q
    refine wa_aload_n 74 dX10_readWorths_73 rfl rfl ?_
    refine wa_callV 77 1 0 10 (av := []) (rest := []) (k1 := (0, 0)) (k2 := (0, 0)) cvX10_isFigure dX10_readWorths_74 rfl wM_X10_168 ⟨rfl, by decide, rfl, Nat.le_of_ble_eq_true rfl, by decide, Nat.le_of_ble_eq_true rfl, rfl, rfl⟩ rfl k0 (TR.mono h (fun r1 L2 μ3 h => ?_))
    obtain ⟨w4, rfl, rfl, h⟩ := h
    show WA mX10_readWorths 4 (0, 0) 77 [(2, v0), (0, v1), (0, v2), (0, v3), (0, v4), (9, 0)] [(0, w4)] L μ3 Q
    refine wa_if_eq 80 96 dX10_readWorths_77 rfl (by decide) (fun q => ?_) (fun q => ?_)
    · replace h := h.1 q
      exact wa_weak [(2, v0), (0, v1), (0, v2), (0, v3), (9, 0), (9, 0)] ⟨Or.inl rfl, Or.inl rfl, Or.inl rfl, Or.inl rfl, Or.inr rfl, Or.inl rfl, trivial⟩ h
    · replace h := h.2 q
      refine wa_iload_n 81 dX10_readWorths_80 rfl rfl ?_
      refine wa_aload_n 82 dX10_readWorths_81 rfl rfl ?_
      refine wa_callV 85 0 0 10 (av := []) (rest := [(0, v3)]) (k1 := (0, 0)) (k2 := (0, 0)) cvX10_strips dX10_readWorths_82 rfl wM_X10_92 ⟨rfl, by decide, rfl, Nat.le_of_ble_eq_true rfl, by decide, Nat.le_of_ble_eq_true rfl, rfl, rfl⟩ rfl k0 (TR.mono h (fun r5 L6 μ7 h => ?_))
      obtain ⟨w8, rfl, rfl, h⟩ := h
      show WA mX10_readWorths 4 (0, 0) 85 [(2, v0), (0, v1), (0, v2), (0, v3), (0, v4), (9, 0)] [(0, w8), (0, v3)] L μ7 Q
      refine wa_icmp_lt 88 96 dX10_readWorths_85 rfl (by decide) (fun q => ?_) (fun q => ?_)
      · replace h := h.1 q
        exact wa_weak [(2, v0), (0, v1), (0, v2), (0, v3), (9, 0), (9, 0)] ⟨Or.inl rfl, Or.inl rfl, Or.inl rfl, Or.inl rfl, Or.inr rfl, Or.inl rfl, trivial⟩ h
      · replace h := h.2 q
        refine wa_aload_n 89 dX10_readWorths_88 rfl rfl ?_
        refine wa_aload_n 90 dX10_readWorths_89 rfl rfl ?_
        refine wa_getI 93 8 dX10_readWorths_90 rfl wF_X10_154 rfl rfl k0 ?_
        refine wa_callV 96 0 1 10 (av := [(0, (μ7 v0 8))]) (rest := []) (k1 := (0, 0)) (k2 := (0, 0)) cvX10_badAt dX10_readWorths_93 rfl wM_X10_176 ⟨rfl, by decide, rfl, Nat.le_of_ble_eq_true rfl, by decide, Nat.le_of_ble_eq_true rfl, rfl, rfl⟩ rfl k0 (TR.mono h (fun r9 L10 μ11 h => ?_))
        obtain ⟨rfl, rfl, h⟩ := h
        show WA mX10_readWorths 4 (0, 0) 96 [(2, v0), (0, v1), (0, v2), (0, v3), (0, v4), (9, 0)] [] L μ11 Q
        exact wa_weak [(2, v0), (0, v1), (0, v2), (0, v3), (9, 0), (9, 0)] ⟨Or.inl rfl, Or.inl rfl, Or.inl rfl, Or.inl rfl, Or.inr rfl, Or.inl rfl, trivial⟩ h
set_option maxRecDepth 20000 in
theorem s_X10_readWorths_96 (hL : LayOK L) {v0 v1 v2 v3 : Int} (k0 : isK L v0 (10, 0)) (h : TR mX10_number 2 (0, 0) [(2, v0), (0, 1)] L μ (fun r1 L2 μ3 => ∃ w4, r1 = some (0, w4) ∧ L = L2 ∧ (¬ (μ3 v0 9) = 0 → (inI (v3 + 1)) ∧ TR mX10_goesOn 1 (0, 0) [(2, v0), (0, 44)] L μ3 (fun r6 L7 μ8 => ∃ w9, r6 = some (0, w9) ∧ L = L7 ∧ WA mX10_readWorths 4 (0, 0) 68 [(2, v0), (0, v1), (0, v2), (0, (v3 + 1)), (0, w9), (9, 0)] [] L μ8 Q)) ∧ ((μ3 v0 9) = 0 → (inI (16 * v2)) ∧ (inI (85 + (16 * v2))) ∧ (inI ((85 + (16 * v2)) + v3)) ∧ (0 ≤ ((85 + (16 * v2)) + v3) ∧ ((85 + (16 * v2)) + v3) < 510) ∧ (v1 = 0 → (inI (v3 + 1)) ∧ TR mX10_goesOn 1 (0, 0) [(2, v0), (0, 44)] L (up (up μ3 ((rf L v0 0)) (((85 + (16 * v2)) + v3)) w4) ((rf L v0 0)) (((85 + (16 * v2)) + v3)) w4) (fun r16 L17 μ18 => ∃ w19, r16 = some (0, w19) ∧ L = L17 ∧ WA mX10_readWorths 4 (0, 0) 68 [(2, v0), (0, v1), (0, v2), (0, (v3 + 1)), (0, w19), (9, 0)] [] L μ18 Q)) ∧ (¬ v1 = 0 → (inI (5 + (16 * v2))) ∧ (inI ((5 + (16 * v2)) + v3)) ∧ (0 ≤ ((5 + (16 * v2)) + v3) ∧ ((5 + (16 * v2)) + v3) < 510) ∧ (inI (v3 + 1)) ∧ TR mX10_goesOn 1 (0, 0) [(2, v0), (0, 44)] L (up (up μ3 ((rf L v0 0)) (((85 + (16 * v2)) + v3)) w4) ((rf L v0 0)) (((5 + (16 * v2)) + v3)) w4) (fun r24 L25 μ26 => ∃ w27, r24 = some (0, w27) ∧ L = L25 ∧ WA mX10_readWorths 4 (0, 0) 68 [(2, v0), (0, v1), (0, v2), (0, (v3 + 1)), (0, w27), (9, 0)] [] L μ26 Q))))) : WA mX10_readWorths 4 (0, 0) 96 [(2, v0), (0, v1), (0, v2), (0, v3), (9, 0), (9, 0)] [] L μ Q := by
  refine wa_aload_n 97 dX10_readWorths_96 rfl rfl ?_
  refine wa_iconst 98 dX10_readWorths_97 rfl (by decide) ?_
  refine wa_callV 101 2 1 10 (av := [(0, 1)]) (rest := []) (k1 := (0, 0)) (k2 := (0, 0)) cvX10_number dX10_readWorths_98 rfl wM_X10_172 ⟨rfl, by decide, rfl, Nat.le_of_ble_eq_true rfl, by decide, Nat.le_of_ble_eq_true rfl, rfl, rfl⟩ rfl k0 (TR.mono h (fun r1 L2 μ3 h => ?_))
  obtain ⟨w4, rfl, rfl, h⟩ := h
  show WA mX10_readWorths 4 (0, 0) 101 [(2, v0), (0, v1), (0, v2), (0, v3), (9, 0), (9, 0)] [(0, w4)] L μ3 Q
  refine wa_istore 103 [(2, v0), (0, v1), (0, v2), (0, v3), (9, 0), (0, w4)] dX10_readWorths_101 rfl rfl rfl ?_
  refine wa_aload_n 104 dX10_readWorths_103 rfl rfl ?_
  refine wa_getI 107 9 dX10_readWorths_104 rfl wF_X10_157 rfl rfl k0 ?_
  refine wa_if_ne 110 152 dX10_readWorths_107 rfl (by decide) (fun q => ?_) (fun q => ?_)
  · replace h := h.1 q
    obtain ⟨c5, h⟩ := h
    refine wa_iinc 155 [(2, v0), (0, v1), (0, v2), (0, (v3 + 1)), (9, 0), (0, w4)] dX10_readWorths_152 rfl rfl rfl c5 rfl ?_
    refine wa_aload_n 156 dX10_readWorths_155 rfl rfl ?_
    refine wa_bipush 158 dX10_readWorths_156 rfl ⟨by decide, by decide⟩ ?_
    refine wa_callV 161 1 1 10 (av := [(0, 44)]) (rest := []) (k1 := (0, 0)) (k2 := (0, 0)) cvX10_goesOn dX10_readWorths_158 rfl wM_X10_186 ⟨rfl, by decide, rfl, Nat.le_of_ble_eq_true rfl, by decide, Nat.le_of_ble_eq_true rfl, rfl, rfl⟩ rfl k0 (TR.mono h (fun r6 L7 μ8 h => ?_))
    obtain ⟨w9, rfl, rfl, h⟩ := h
    show WA mX10_readWorths 4 (0, 0) 161 [(2, v0), (0, v1), (0, v2), (0, (v3 + 1)), (9, 0), (0, w4)] [(0, w9)] L μ8 Q
    refine wa_istore 163 [(2, v0), (0, v1), (0, v2), (0, (v3 + 1)), (0, w9), (0, w4)] dX10_readWorths_161 rfl rfl rfl ?_
    refine wa_goto 68 dX10_readWorths_163 (by decide) ?_
    exact wa_weak [(2, v0), (0, v1), (0, v2), (0, (v3 + 1)), (0, w9), (9, 0)] ⟨Or.inl rfl, Or.inl rfl, Or.inl rfl, Or.inl rfl, Or.inl rfl, Or.inr rfl, trivial⟩ h
  · replace h := h.2 q
    refine wa_aload_n 111 dX10_readWorths_110 rfl rfl ?_
    have e10 : isK L (rf L v0 0) (21, 510) := lay_f hL k0 0 rfl
    refine wa_getR 114 0 dX10_readWorths_111 rfl wF_X10_9 rfl rfl ⟨k0, isK_pos e10⟩ ?_
    refine wa_bipush 116 dX10_readWorths_114 rfl ⟨by decide, by decide⟩ ?_
    refine wa_bipush 118 dX10_readWorths_116 rfl ⟨by decide, by decide⟩ ?_
    refine wa_iload_n 119 dX10_readWorths_118 rfl rfl ?_
    obtain ⟨c11, h⟩ := h
    refine wa_imul 120 dX10_readWorths_119 rfl c11 ?_
    obtain ⟨c12, h⟩ := h
    refine wa_iadd 121 dX10_readWorths_120 rfl c12 ?_
    refine wa_iload_n 122 dX10_readWorths_121 rfl rfl ?_
    obtain ⟨c13, h⟩ := h
    refine wa_iadd 123 dX10_readWorths_122 rfl c13 ?_
    refine wa_iload 125 dX10_readWorths_123 rfl rfl ?_
    refine wa_i2l 126 dX10_readWorths_125 rfl ?_
    obtain ⟨c14, h⟩ := h
    refine wa_lastore 127 dX10_readWorths_126 rfl (okA_of e10 c14) ?_
    refine wa_aload_n 128 dX10_readWorths_127 rfl rfl ?_
    refine wa_getR 131 0 dX10_readWorths_128 rfl wF_X10_9 rfl rfl ⟨k0, isK_pos e10⟩ ?_
    refine wa_iload_n 132 dX10_readWorths_131 rfl rfl ?_
    refine wa_if_eq 135 139 dX10_readWorths_132 rfl (by decide) (fun q => ?_) (fun q => ?_)
    · replace h := h.1 q
      refine wa_bipush 141 dX10_readWorths_139 rfl ⟨by decide, by decide⟩ ?_
      refine wa_bipush 143 dX10_readWorths_141 rfl ⟨by decide, by decide⟩ ?_
      refine wa_iload_n 144 dX10_readWorths_143 rfl rfl ?_
      refine wa_imul 145 dX10_readWorths_144 rfl c11 ?_
      refine wa_iadd 146 dX10_readWorths_145 rfl c12 ?_
      refine wa_iload_n 147 dX10_readWorths_146 rfl rfl ?_
      refine wa_iadd 148 dX10_readWorths_147 rfl c13 ?_
      refine wa_iload 150 dX10_readWorths_148 rfl rfl ?_
      refine wa_i2l 151 dX10_readWorths_150 rfl ?_
      refine wa_lastore 152 dX10_readWorths_151 rfl (okA_of e10 c14) ?_
      obtain ⟨c15, h⟩ := h
      refine wa_iinc 155 [(2, v0), (0, v1), (0, v2), (0, (v3 + 1)), (9, 0), (0, w4)] dX10_readWorths_152 rfl rfl rfl c15 rfl ?_
      refine wa_aload_n 156 dX10_readWorths_155 rfl rfl ?_
      refine wa_bipush 158 dX10_readWorths_156 rfl ⟨by decide, by decide⟩ ?_
      refine wa_callV 161 1 1 10 (av := [(0, 44)]) (rest := []) (k1 := (0, 0)) (k2 := (0, 0)) cvX10_goesOn dX10_readWorths_158 rfl wM_X10_186 ⟨rfl, by decide, rfl, Nat.le_of_ble_eq_true rfl, by decide, Nat.le_of_ble_eq_true rfl, rfl, rfl⟩ rfl k0 (TR.mono h (fun r16 L17 μ18 h => ?_))
      obtain ⟨w19, rfl, rfl, h⟩ := h
      show WA mX10_readWorths 4 (0, 0) 161 [(2, v0), (0, v1), (0, v2), (0, (v3 + 1)), (9, 0), (0, w4)] [(0, w19)] L μ18 Q
      refine wa_istore 163 [(2, v0), (0, v1), (0, v2), (0, (v3 + 1)), (0, w19), (0, w4)] dX10_readWorths_161 rfl rfl rfl ?_
      refine wa_goto 68 dX10_readWorths_163 (by decide) ?_
      exact wa_weak [(2, v0), (0, v1), (0, v2), (0, (v3 + 1)), (0, w19), (9, 0)] ⟨Or.inl rfl, Or.inl rfl, Or.inl rfl, Or.inl rfl, Or.inl rfl, Or.inr rfl, trivial⟩ h
    · replace h := h.2 q
      refine wa_iconst 136 dX10_readWorths_135 rfl (by decide) ?_
      refine wa_goto 141 dX10_readWorths_136 (by decide) ?_
      refine wa_bipush 143 dX10_readWorths_141 rfl ⟨by decide, by decide⟩ ?_
      refine wa_iload_n 144 dX10_readWorths_143 rfl rfl ?_
      refine wa_imul 145 dX10_readWorths_144 rfl c11 ?_
      obtain ⟨c20, h⟩ := h
      refine wa_iadd 146 dX10_readWorths_145 rfl c20 ?_
      refine wa_iload_n 147 dX10_readWorths_146 rfl rfl ?_
      obtain ⟨c21, h⟩ := h
      refine wa_iadd 148 dX10_readWorths_147 rfl c21 ?_
      refine wa_iload 150 dX10_readWorths_148 rfl rfl ?_
      refine wa_i2l 151 dX10_readWorths_150 rfl ?_
      obtain ⟨c22, h⟩ := h
      refine wa_lastore 152 dX10_readWorths_151 rfl (okA_of e10 c22) ?_
      obtain ⟨c23, h⟩ := h
      refine wa_iinc 155 [(2, v0), (0, v1), (0, v2), (0, (v3 + 1)), (9, 0), (0, w4)] dX10_readWorths_152 rfl rfl rfl c23 rfl ?_
      refine wa_aload_n 156 dX10_readWorths_155 rfl rfl ?_
      refine wa_bipush 158 dX10_readWorths_156 rfl ⟨by decide, by decide⟩ ?_
      refine wa_callV 161 1 1 10 (av := [(0, 44)]) (rest := []) (k1 := (0, 0)) (k2 := (0, 0)) cvX10_goesOn dX10_readWorths_158 rfl wM_X10_186 ⟨rfl, by decide, rfl, Nat.le_of_ble_eq_true rfl, by decide, Nat.le_of_ble_eq_true rfl, rfl, rfl⟩ rfl k0 (TR.mono h (fun r24 L25 μ26 h => ?_))
      obtain ⟨w27, rfl, rfl, h⟩ := h
      show WA mX10_readWorths 4 (0, 0) 161 [(2, v0), (0, v1), (0, v2), (0, (v3 + 1)), (9, 0), (0, w4)] [(0, w27)] L μ26 Q
      refine wa_istore 163 [(2, v0), (0, v1), (0, v2), (0, (v3 + 1)), (0, w27), (0, w4)] dX10_readWorths_161 rfl rfl rfl ?_
      refine wa_goto 68 dX10_readWorths_163 (by decide) ?_
      exact wa_weak [(2, v0), (0, v1), (0, v2), (0, (v3 + 1)), (0, w27), (9, 0)] ⟨Or.inl rfl, Or.inl rfl, Or.inl rfl, Or.inl rfl, Or.inl rfl, Or.inr rfl, trivial⟩ h
set_option maxRecDepth 20000 in
theorem t_X10_scaled (hL : LayOK L) {v0 v1 v2 v3 : Int} (k0 : isK L v0 (10, 0)) (h : (0 ≤ v3 ∧ v3 < 510) ∧ (inI (v3 + 1)) ∧ (0 ≤ (v3 + 1) ∧ (v3 + 1) < 510) ∧ (inI (v3 + 2)) ∧ (0 ≤ (v3 + 2) ∧ (v3 + 2) < 510) ∧ (inI (v3 + 3)) ∧ (0 ≤ (v3 + 3) ∧ (v3 + 3) < 510) ∧ TR mX10_worthBetween 2 (0, 0) [(2, v0), (0, v1), (0, v2), (1, (μ ((rf L v0 0)) v3)), (1, (μ ((rf L v0 0)) ((v3 + 1)))), (1, (μ ((rf L v0 0)) ((v3 + 2)))), (1, (μ ((rf L v0 0)) ((v3 + 3))))] L μ (fun r9 L10 μ11 => r9 = none ∧ L = L10 ∧ (0 ≤ (μ11 ((rf L v0 0)) 3) ∧ 0 < (μ11 v0 5)) ∧ (inL ((μ11 v0 4) * ((μ11 ((rf L v0 0)) 3) / (μ11 v0 5)))) ∧ Q (some (1, ((μ11 v0 4) * ((μ11 ((rf L v0 0)) 3) / (μ11 v0 5))))) L μ11)) : TR mX10_scaled 3 (0, 0) [(2, v0), (0, v1), (0, v2), (0, v3)] L μ Q := by
  refine TR.of (ls := [(2, v0), (0, v1), (0, v2), (0, v3)]) (by decide) (by simp) rfl (Nat.le_of_ble_eq_true rfl) ?_
  refine wa_aload_n 1 dX10_scaled_0 rfl rfl ?_
  refine wa_iload_n 2 dX10_scaled_1 rfl rfl ?_
  refine wa_iload_n 3 dX10_scaled_2 rfl rfl ?_
  refine wa_aload_n 4 dX10_scaled_3 rfl rfl ?_
  have e1 : isK L (rf L v0 0) (21, 510) := lay_f hL k0 0 rfl
  refine wa_getR 7 0 dX10_scaled_4 rfl wF_X10_9 rfl rfl ⟨k0, isK_pos e1⟩ ?_
  refine wa_iload_n 8 dX10_scaled_7 rfl rfl ?_
  obtain ⟨c2, h⟩ := h
  refine wa_laload 9 dX10_scaled_8 rfl (okA_of e1 c2) ?_
  refine wa_aload_n 10 dX10_scaled_9 rfl rfl ?_
  refine wa_getR 13 0 dX10_scaled_10 rfl wF_X10_9 rfl rfl ⟨k0, isK_pos e1⟩ ?_
  refine wa_iload_n 14 dX10_scaled_13 rfl rfl ?_
  refine wa_iconst 15 dX10_scaled_14 rfl (by decide) ?_
  obtain ⟨c3, h⟩ := h
  refine wa_iadd 16 dX10_scaled_15 rfl c3 ?_
  obtain ⟨c4, h⟩ := h
  refine wa_laload 17 dX10_scaled_16 rfl (okA_of e1 c4) ?_
  refine wa_aload_n 18 dX10_scaled_17 rfl rfl ?_
  refine wa_getR 21 0 dX10_scaled_18 rfl wF_X10_9 rfl rfl ⟨k0, isK_pos e1⟩ ?_
  refine wa_iload_n 22 dX10_scaled_21 rfl rfl ?_
  refine wa_iconst 23 dX10_scaled_22 rfl (by decide) ?_
  obtain ⟨c5, h⟩ := h
  refine wa_iadd 24 dX10_scaled_23 rfl c5 ?_
  obtain ⟨c6, h⟩ := h
  refine wa_laload 25 dX10_scaled_24 rfl (okA_of e1 c6) ?_
  refine wa_aload_n 26 dX10_scaled_25 rfl rfl ?_
  refine wa_getR 29 0 dX10_scaled_26 rfl wF_X10_9 rfl rfl ⟨k0, isK_pos e1⟩ ?_
  refine wa_iload_n 30 dX10_scaled_29 rfl rfl ?_
  refine wa_iconst 31 dX10_scaled_30 rfl (by decide) ?_
  obtain ⟨c7, h⟩ := h
  refine wa_iadd 32 dX10_scaled_31 rfl c7 ?_
  obtain ⟨c8, h⟩ := h
  refine wa_laload 33 dX10_scaled_32 rfl (okA_of e1 c8) ?_
  refine wa_callV 36 2 6 10 (av := [(0, v1), (0, v2), (1, (μ ((rf L v0 0)) v3)), (1, (μ ((rf L v0 0)) ((v3 + 1)))), (1, (μ ((rf L v0 0)) ((v3 + 2)))), (1, (μ ((rf L v0 0)) ((v3 + 3))))]) (rest := []) (k1 := (0, 0)) (k2 := (0, 0)) cvX10_worthBetween dX10_scaled_33 rfl wM_X10_118 ⟨rfl, by decide, rfl, Nat.le_of_ble_eq_true rfl, by decide, Nat.le_of_ble_eq_true rfl, rfl, rfl⟩ rfl k0 (TR.mono h (fun r9 L10 μ11 h => ?_))
  obtain ⟨rfl, rfl, h⟩ := h
  show WA mX10_scaled 3 (0, 0) 36 [(2, v0), (0, v1), (0, v2), (0, v3)] [] L μ11 Q
  refine wa_aload_n 37 dX10_scaled_36 rfl rfl ?_
  refine wa_getL 40 4 dX10_scaled_37 rfl wF_X10_99 rfl rfl k0 ?_
  refine wa_aload_n 41 dX10_scaled_40 rfl rfl ?_
  refine wa_getR 44 0 dX10_scaled_41 rfl wF_X10_9 rfl rfl ⟨k0, isK_pos e1⟩ ?_
  refine wa_iconst 45 dX10_scaled_44 rfl (by decide) ?_
  refine wa_laload 46 dX10_scaled_45 rfl (okA_of e1 ⟨by decide, by decide⟩) ?_
  refine wa_aload_n 47 dX10_scaled_46 rfl rfl ?_
  refine wa_getL 50 5 dX10_scaled_47 rfl wF_X10_103 rfl rfl k0 ?_
  obtain ⟨c12, h⟩ := h
  refine wa_ldivE 51 dX10_scaled_50 rfl c12 ?_
  obtain ⟨c13, h⟩ := h
  refine wa_lmul 52 dX10_scaled_51 rfl c13 ?_
  exact wa_lret dX10_scaled_52 rfl h
end
