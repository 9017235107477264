/-! the reference, 1: each method from its entry and from its loops' heads: what must hold, and the run (laid by wip/whole/gen/vc.py) -/
section
variable {L : Lay} {μ : Mem} {Q : Option AV → Lay → Mem → Prop}
set_option maxRecDepth 20000 in
theorem t_X10_adds (hL : LayOK L) {v0 v1 v2 v4 v6 v8 : Int} (k0 : isK L v0 (10, 0)) (h : (inI (8 * v1)) ∧ (inI (170 + (8 * v1))) ∧ (inI (165 + v1)) ∧ (0 ≤ (165 + v1) ∧ (165 + v1) < 510) ∧ (inI ((μ ((rf L v0 0)) ((165 + v1))))) ∧ (inI (4 * (μ ((rf L v0 0)) ((165 + v1))))) ∧ (inI ((170 + (8 * v1)) + (4 * (μ ((rf L v0 0)) ((165 + v1)))))) ∧ (0 ≤ ((170 + (8 * v1)) + (4 * (μ ((rf L v0 0)) ((165 + v1))))) ∧ ((170 + (8 * v1)) + (4 * (μ ((rf L v0 0)) ((165 + v1))))) < 510) ∧ (inI (((170 + (8 * v1)) + (4 * (μ ((rf L v0 0)) ((165 + v1))))) + 1)) ∧ (0 ≤ (((170 + (8 * v1)) + (4 * (μ ((rf L v0 0)) ((165 + v1))))) + 1) ∧ (((170 + (8 * v1)) + (4 * (μ ((rf L v0 0)) ((165 + v1))))) + 1) < 510) ∧ (inI (((170 + (8 * v1)) + (4 * (μ ((rf L v0 0)) ((165 + v1))))) + 2)) ∧ (0 ≤ (((170 + (8 * v1)) + (4 * (μ ((rf L v0 0)) ((165 + v1))))) + 2) ∧ (((170 + (8 * v1)) + (4 * (μ ((rf L v0 0)) ((165 + v1))))) + 2) < 510) ∧ (inI (((170 + (8 * v1)) + (4 * (μ ((rf L v0 0)) ((165 + v1))))) + 3)) ∧ (0 ≤ (((170 + (8 * v1)) + (4 * (μ ((rf L v0 0)) ((165 + v1))))) + 3) ∧ (((170 + (8 * v1)) + (4 * (μ ((rf L v0 0)) ((165 + v1))))) + 3) < 510) ∧ (inL (((up (up (up (up μ ((rf L v0 0)) (((170 + (8 * v1)) + (4 * (μ ((rf L v0 0)) ((165 + v1)))))) v2) ((rf L v0 0)) ((((170 + (8 * v1)) + (4 * (μ ((rf L v0 0)) ((165 + v1))))) + 1)) v4) ((rf L v0 0)) ((((170 + (8 * v1)) + (4 * (μ ((rf L v0 0)) ((165 + v1))))) + 2)) v6) ((rf L v0 0)) ((((170 + (8 * v1)) + (4 * (μ ((rf L v0 0)) ((165 + v1))))) + 3)) v8) ((rf L v0 0)) ((165 + v1))) + 1)) ∧ Q none L (up (up (up (up (up μ ((rf L v0 0)) (((170 + (8 * v1)) + (4 * (μ ((rf L v0 0)) ((165 + v1)))))) v2) ((rf L v0 0)) ((((170 + (8 * v1)) + (4 * (μ ((rf L v0 0)) ((165 + v1))))) + 1)) v4) ((rf L v0 0)) ((((170 + (8 * v1)) + (4 * (μ ((rf L v0 0)) ((165 + v1))))) + 2)) v6) ((rf L v0 0)) ((((170 + (8 * v1)) + (4 * (μ ((rf L v0 0)) ((165 + v1))))) + 3)) v8) ((rf L v0 0)) ((165 + v1)) ((((up (up (up (up μ ((rf L v0 0)) (((170 + (8 * v1)) + (4 * (μ ((rf L v0 0)) ((165 + v1)))))) v2) ((rf L v0 0)) ((((170 + (8 * v1)) + (4 * (μ ((rf L v0 0)) ((165 + v1))))) + 1)) v4) ((rf L v0 0)) ((((170 + (8 * v1)) + (4 * (μ ((rf L v0 0)) ((165 + v1))))) + 2)) v6) ((rf L v0 0)) ((((170 + (8 * v1)) + (4 * (μ ((rf L v0 0)) ((165 + v1))))) + 3)) v8) ((rf L v0 0)) ((165 + v1))) + 1)))) : TR mX10_adds 0 (0, 0) [(2, v0), (0, v1), (1, v2), (1, v4), (1, v6), (1, v8)] L μ Q := by
  refine TR.of (ls := [(2, v0), (0, v1), (1, v2), (9, 0), (1, v4), (9, 0), (1, v6), (9, 0), (1, v8), (9, 0), (9, 0)]) (by decide) (by simp) rfl (Nat.le_of_ble_eq_true rfl) ?_
  refine wa_sipush 3 dX10_adds_0 rfl ⟨by decide, by decide⟩ ?_
  refine wa_bipush 5 dX10_adds_3 rfl ⟨by decide, by decide⟩ ?_
  refine wa_iload_n 6 dX10_adds_5 rfl rfl ?_
  obtain ⟨c1, h⟩ := h
  refine wa_imul 7 dX10_adds_6 rfl c1 ?_
  obtain ⟨c2, h⟩ := h
  refine wa_iadd 8 dX10_adds_7 rfl c2 ?_
  refine wa_iconst 9 dX10_adds_8 rfl (by decide) ?_
  refine wa_aload_n 10 dX10_adds_9 rfl rfl ?_
  have e3 : isK L (rf L v0 0) (21, 510) := lay_f hL k0 0 rfl
  refine wa_getR 13 0 dX10_adds_10 rfl wF_X10_9 rfl rfl ⟨k0, isK_pos e3⟩ ?_
  refine wa_sipush 16 dX10_adds_13 rfl ⟨by decide, by decide⟩ ?_
  refine wa_iload_n 17 dX10_adds_16 rfl rfl ?_
  obtain ⟨c4, h⟩ := h
  refine wa_iadd 18 dX10_adds_17 rfl c4 ?_
  obtain ⟨c5, h⟩ := h
  refine wa_laload 19 dX10_adds_18 rfl (okA_of e3 c5) ?_
  obtain ⟨c6, h⟩ := h
  refine wa_l2i 20 dX10_adds_19 rfl c6 ?_
  obtain ⟨c7, h⟩ := h
  refine wa_imul 21 dX10_adds_20 rfl c7 ?_
  obtain ⟨c8, h⟩ := h
  refine wa_iadd 22 dX10_adds_21 rfl c8 ?_
  refine wa_istore 24 [(2, v0), (0, v1), (1, v2), (9, 0), (1, v4), (9, 0), (1, v6), (9, 0), (1, v8), (9, 0), (0, ((170 + (8 * v1)) + (4 * (μ ((rf L v0 0)) ((165 + v1))))))] dX10_adds_22 rfl rfl rfl ?_
  refine wa_aload_n 25 dX10_adds_24 rfl rfl ?_
  refine wa_getR 28 0 dX10_adds_25 rfl wF_X10_9 rfl rfl ⟨k0, isK_pos e3⟩ ?_
  refine wa_iload 30 dX10_adds_28 rfl rfl ?_
  refine wa_lload_n 31 dX10_adds_30 rfl rfl ?_
  obtain ⟨c9, h⟩ := h
  refine wa_lastore 32 dX10_adds_31 rfl (okA_of e3 c9) ?_
  refine wa_aload_n 33 dX10_adds_32 rfl rfl ?_
  refine wa_getR 36 0 dX10_adds_33 rfl wF_X10_9 rfl rfl ⟨k0, isK_pos e3⟩ ?_
  refine wa_iload 38 dX10_adds_36 rfl rfl ?_
  refine wa_iconst 39 dX10_adds_38 rfl (by decide) ?_
  obtain ⟨c10, h⟩ := h
  refine wa_iadd 40 dX10_adds_39 rfl c10 ?_
  refine wa_lload 42 dX10_adds_40 rfl rfl ?_
  obtain ⟨c11, h⟩ := h
  refine wa_lastore 43 dX10_adds_42 rfl (okA_of e3 c11) ?_
  refine wa_aload_n 44 dX10_adds_43 rfl rfl ?_
  refine wa_getR 47 0 dX10_adds_44 rfl wF_X10_9 rfl rfl ⟨k0, isK_pos e3⟩ ?_
  refine wa_iload 49 dX10_adds_47 rfl rfl ?_
  refine wa_iconst 50 dX10_adds_49 rfl (by decide) ?_
  obtain ⟨c12, h⟩ := h
  refine wa_iadd 51 dX10_adds_50 rfl c12 ?_
  refine wa_lload 53 dX10_adds_51 rfl rfl ?_
  obtain ⟨c13, h⟩ := h
  refine wa_lastore 54 dX10_adds_53 rfl (okA_of e3 c13) ?_
  refine wa_aload_n 55 dX10_adds_54 rfl rfl ?_
  refine wa_getR 58 0 dX10_adds_55 rfl wF_X10_9 rfl rfl ⟨k0, isK_pos e3⟩ ?_
  refine wa_iload 60 dX10_adds_58 rfl rfl ?_
  refine wa_iconst 61 dX10_adds_60 rfl (by decide) ?_
  obtain ⟨c14, h⟩ := h
  refine wa_iadd 62 dX10_adds_61 rfl c14 ?_
  refine wa_lload 64 dX10_adds_62 rfl rfl ?_
  obtain ⟨c15, h⟩ := h
  refine wa_lastore 65 dX10_adds_64 rfl (okA_of e3 c15) ?_
  refine wa_aload_n 66 dX10_adds_65 rfl rfl ?_
  refine wa_getR 69 0 dX10_adds_66 rfl wF_X10_9 rfl rfl ⟨k0, isK_pos e3⟩ ?_
  refine wa_sipush 72 dX10_adds_69 rfl ⟨by decide, by decide⟩ ?_
  refine wa_iload_n 73 dX10_adds_72 rfl rfl ?_
  refine wa_iadd 74 dX10_adds_73 rfl c4 ?_
  refine wa_dup2 75 dX10_adds_74 rfl ⟨Or.inl rfl, Or.inr rfl⟩ ?_
  refine wa_laload 76 dX10_adds_75 rfl (okA_of e3 c5) ?_
  refine wa_lconst 77 1 dX10_adds_76 rfl ⟨rfl, by decide⟩ ?_
  obtain ⟨c16, h⟩ := h
  refine wa_ladd 78 dX10_adds_77 rfl c16 ?_
  refine wa_lastore 79 dX10_adds_78 rfl (okA_of e3 c5) ?_
  exact wa_vret dX10_adds_79 rfl h
set_option maxRecDepth 20000 in
theorem t_X10_agentHere (hL : LayOK L) {v0 : Int} (k0 : isK L v0 (10, 0)) (h : TR mX10_number 2 (0, 0) [(2, v0), (0, 1)] L μ (fun r1 L2 μ3 => ∃ w4, r1 = some (0, w4) ∧ L = L2 ∧ (¬ (μ3 v0 9) = 0 → ((μ3 v0 9) = 0 → Q (some (0, w4)) L μ3) ∧ (¬ (μ3 v0 9) = 0 → Q (some (0, 0)) L μ3)) ∧ ((μ3 v0 9) = 0 → TR mX10_isAgent 1 (0, 0) [(2, v0), (0, w4)] L μ3 (fun r5 L6 μ7 => ∃ w8, r5 = some (0, w8) ∧ L = L6 ∧ (¬ w8 = 0 → ((μ7 v0 9) = 0 → Q (some (0, w4)) L μ7) ∧ (¬ (μ7 v0 9) = 0 → Q (some (0, 0)) L μ7)) ∧ (w8 = 0 → TR mX10_badAt 0 (0, 0) [(2, v0), (0, (μ v0 8))] L μ7 (fun r9 L10 μ11 => r9 = none ∧ L = L10 ∧ ((μ11 v0 9) = 0 → Q (some (0, w4)) L μ11) ∧ (¬ (μ11 v0 9) = 0 → Q (some (0, 0)) L μ11))))))) : TR mX10_agentHere 3 (0, 0) [(2, v0)] L μ Q := by
  refine TR.of (ls := [(2, v0), (9, 0), (9, 0)]) (by decide) (by simp) rfl (Nat.le_of_ble_eq_true rfl) ?_
  refine wa_aload_n 1 dX10_agentHere_0 rfl rfl ?_
  refine wa_getI 4 8 dX10_agentHere_1 rfl wF_X10_154 rfl rfl k0 ?_
  refine wa_istore_n 5 [(2, v0), (0, (μ v0 8)), (9, 0)] dX10_agentHere_4 rfl rfl rfl ?_
  refine wa_aload_n 6 dX10_agentHere_5 rfl rfl ?_
  refine wa_iconst 7 dX10_agentHere_6 rfl (by decide) ?_
  refine wa_callV 10 2 1 10 (av := [(0, 1)]) (rest := []) (k1 := (0, 0)) (k2 := (0, 0)) cvX10_number dX10_agentHere_7 rfl wM_X10_172 ⟨rfl, by decide, rfl, Nat.le_of_ble_eq_true rfl, by decide, Nat.le_of_ble_eq_true rfl, rfl, rfl⟩ rfl k0 (TR.mono h (fun r1 L2 μ3 h => ?_))
  obtain ⟨w4, rfl, rfl, h⟩ := h
  show WA mX10_agentHere 3 (0, 0) 10 [(2, v0), (0, (μ v0 8)), (9, 0)] [(0, w4)] L μ3 Q
  refine wa_istore_n 11 [(2, v0), (0, (μ v0 8)), (0, w4)] dX10_agentHere_10 rfl rfl rfl ?_
  refine wa_aload_n 12 dX10_agentHere_11 rfl rfl ?_
  refine wa_getI 15 9 dX10_agentHere_12 rfl wF_X10_157 rfl rfl k0 ?_
  refine wa_if_ne 18 31 dX10_agentHere_15 rfl (by decide) (fun q => ?_) (fun q => ?_)
  · replace h := h.1 q
    refine wa_aload_n 32 dX10_agentHere_31 rfl rfl ?_
    refine wa_getI 35 9 dX10_agentHere_32 rfl wF_X10_157 rfl rfl k0 ?_
    refine wa_if_eq 38 42 dX10_agentHere_35 rfl (by decide) (fun q => ?_) (fun q => ?_)
    · replace h := h.1 q
      refine wa_iload_n 43 dX10_agentHere_42 rfl rfl ?_
      exact wa_iret dX10_agentHere_43 rfl h
    · replace h := h.2 q
      refine wa_iconst 39 dX10_agentHere_38 rfl (by decide) ?_
      refine wa_goto 43 dX10_agentHere_39 (by decide) ?_
      exact wa_iret dX10_agentHere_43 rfl h
  · replace h := h.2 q
    refine wa_aload_n 19 dX10_agentHere_18 rfl rfl ?_
    refine wa_iload_n 20 dX10_agentHere_19 rfl rfl ?_
    refine wa_callV 23 1 1 10 (av := [(0, w4)]) (rest := []) (k1 := (0, 0)) (k2 := (0, 0)) cvX10_isAgent dX10_agentHere_20 rfl wM_X10_79 ⟨rfl, by decide, rfl, Nat.le_of_ble_eq_true rfl, by decide, Nat.le_of_ble_eq_true rfl, rfl, rfl⟩ rfl k0 (TR.mono h (fun r5 L6 μ7 h => ?_))
    obtain ⟨w8, rfl, rfl, h⟩ := h
    show WA mX10_agentHere 3 (0, 0) 23 [(2, v0), (0, (μ v0 8)), (0, w4)] [(0, w8)] L μ7 Q
    refine wa_if_ne 26 31 dX10_agentHere_23 rfl (by decide) (fun q => ?_) (fun q => ?_)
    · replace h := h.1 q
      refine wa_aload_n 32 dX10_agentHere_31 rfl rfl ?_
      refine wa_getI 35 9 dX10_agentHere_32 rfl wF_X10_157 rfl rfl k0 ?_
      refine wa_if_eq 38 42 dX10_agentHere_35 rfl (by decide) (fun q => ?_) (fun q => ?_)
      · replace h := h.1 q
        refine wa_iload_n 43 dX10_agentHere_42 rfl rfl ?_
        exact wa_iret dX10_agentHere_43 rfl h
      · replace h := h.2 q
        refine wa_iconst 39 dX10_agentHere_38 rfl (by decide) ?_
        refine wa_goto 43 dX10_agentHere_39 (by decide) ?_
        exact wa_iret dX10_agentHere_43 rfl h
    · replace h := h.2 q
      refine wa_aload_n 27 dX10_agentHere_26 rfl rfl ?_
      refine wa_iload_n 28 dX10_agentHere_27 rfl rfl ?_
      refine wa_callV 31 0 1 10 (av := [(0, (μ v0 8))]) (rest := []) (k1 := (0, 0)) (k2 := (0, 0)) cvX10_badAt dX10_agentHere_28 rfl wM_X10_176 ⟨rfl, by decide, rfl, Nat.le_of_ble_eq_true rfl, by decide, Nat.le_of_ble_eq_true rfl, rfl, rfl⟩ rfl k0 (TR.mono h (fun r9 L10 μ11 h => ?_))
      obtain ⟨rfl, rfl, h⟩ := h
      show WA mX10_agentHere 3 (0, 0) 31 [(2, v0), (0, (μ v0 8)), (0, w4)] [] L μ11 Q
      refine wa_aload_n 32 dX10_agentHere_31 rfl rfl ?_
      refine wa_getI 35 9 dX10_agentHere_32 rfl wF_X10_157 rfl rfl k0 ?_
      refine wa_if_eq 38 42 dX10_agentHere_35 rfl (by decide) (fun q => ?_) (fun q => ?_)
      · replace h := h.1 q
        refine wa_iload_n 43 dX10_agentHere_42 rfl rfl ?_
        exact wa_iret dX10_agentHere_43 rfl h
      · replace h := h.2 q
        refine wa_iconst 39 dX10_agentHere_38 rfl (by decide) ?_
        refine wa_goto 43 dX10_agentHere_39 (by decide) ?_
        exact wa_iret dX10_agentHere_43 rfl h
set_option maxRecDepth 20000 in
theorem t_X10_agents (hL : LayOK L) {v0 : Int} (k0 : isK L v0 (10, 0)) (h : (inI ((μ ((rf L v0 0)) 1))) ∧ Q (some (0, (μ ((rf L v0 0)) 1))) L μ) : TR mX10_agents 0 (0, 0) [(2, v0)] L μ Q := by
  refine TR.of (ls := [(2, v0)]) (by decide) (by simp) rfl (Nat.le_of_ble_eq_true rfl) ?_
  refine wa_aload_n 1 dX10_agents_0 rfl rfl ?_
  have e1 : isK L (rf L v0 0) (21, 510) := lay_f hL k0 0 rfl
  refine wa_getR 4 0 dX10_agents_1 rfl wF_X10_9 rfl rfl ⟨k0, isK_pos e1⟩ ?_
  refine wa_iconst 5 dX10_agents_4 rfl (by decide) ?_
  refine wa_laload 6 dX10_agents_5 rfl (okA_of e1 ⟨by decide, by decide⟩) ?_
  obtain ⟨c2, h⟩ := h
  refine wa_l2i 7 dX10_agents_6 rfl c2 ?_
  exact wa_iret dX10_agents_7 rfl h
set_option maxRecDepth 20000 in
theorem t_X10_aheadOf (hL : LayOK L) {v0 v1 v2 v3 v5 : Int} (k0 : isK L v0 (10, 0)) (h : (0 ≤ v3 ∧ 0 < v5) ∧ (inI ((v3 / v5))) ∧ WA mX10_aheadOf 1 (0, 0) 13 [(2, v0), (0, v1), (0, v2), (1, v3), (9, 0), (1, v5), (9, 0), (0, (v3 / v5)), (1, 0), (9, 0), (0, 0)] [] L μ Q) : TR mX10_aheadOf 1 (0, 0) [(2, v0), (0, v1), (0, v2), (1, v3), (1, v5)] L μ Q := by
  refine TR.of (ls := [(2, v0), (0, v1), (0, v2), (1, v3), (9, 0), (1, v5), (9, 0), (9, 0), (9, 0), (9, 0), (9, 0)]) (by decide) (by simp) rfl (Nat.le_of_ble_eq_true rfl) ?_
  refine wa_lload_n 1 dX10_aheadOf_0 rfl rfl ?_
  refine wa_lload 3 dX10_aheadOf_1 rfl rfl ?_
  obtain ⟨c1, h⟩ := h
  refine wa_ldivE 4 dX10_aheadOf_3 rfl c1 ?_
  obtain ⟨c2, h⟩ := h
  refine wa_l2i 5 dX10_aheadOf_4 rfl c2 ?_
  refine wa_istore 7 [(2, v0), (0, v1), (0, v2), (1, v3), (9, 0), (1, v5), (9, 0), (0, (v3 / v5)), (9, 0), (9, 0), (9, 0)] dX10_aheadOf_5 rfl rfl rfl ?_
  refine wa_lconst 8 0 dX10_aheadOf_7 rfl ⟨rfl, by decide⟩ ?_
  refine wa_lstore 10 [(2, v0), (0, v1), (0, v2), (1, v3), (9, 0), (1, v5), (9, 0), (0, (v3 / v5)), (1, 0), (9, 0), (9, 0)] dX10_aheadOf_8 rfl rfl rfl ?_
  refine wa_iconst 11 dX10_aheadOf_10 rfl (by decide) ?_
  refine wa_istore 13 [(2, v0), (0, v1), (0, v2), (1, v3), (9, 0), (1, v5), (9, 0), (0, (v3 / v5)), (1, 0), (9, 0), (0, 0)] dX10_aheadOf_11 rfl rfl rfl ?_
  exact h
set_option maxRecDepth 20000 in
theorem s_X10_aheadOf_13 (hL : LayOK L) {v0 v1 v2 v3 v5 v7 v8 v10 : Int} (k0 : isK L v0 (10, 0)) (h : (v7 ≤ v10 → TR mX10_strips 0 (0, 0) [(2, v0)] L μ (fun r1 L2 μ3 => ∃ w4, r1 = some (0, w4) ∧ L = L2 ∧ (w4 ≤ v7 → (inL (v8 + 0)) ∧ Q (some (1, (v8 + 0))) L μ3) ∧ (¬ w4 ≤ v7 → TR mX10_worthOf 0 (0, 0) [(2, v0), (0, v1), (0, v7), (0, v2)] L μ3 (fun r6 L7 μ8 => ∃ w9, r6 = some (1, w9) ∧ L = L7 ∧ (0 ≤ v3 ∧ 0 < v5) ∧ (inL (w9 * (v3 % v5))) ∧ (inL (v8 + (w9 * (v3 % v5)))) ∧ Q (some (1, (v8 + (w9 * (v3 % v5))))) L μ8)))) ∧ (¬ v7 ≤ v10 → TR mX10_worthOf 0 (0, 0) [(2, v0), (0, v1), (0, v10), (0, v2)] L μ (fun r13 L14 μ15 => ∃ w16, r13 = some (1, w16) ∧ L = L14 ∧ (inL (w16 * v5)) ∧ (inL (v8 + (w16 * v5))) ∧ (inI (v10 + 1)) ∧ WA mX10_aheadOf 1 (0, 0) 13 [(2, v0), (0, v1), (0, v2), (1, v3), (9, 0), (1, v5), (9, 0), (0, v7), (1, (v8 + (w16 * v5))), (9, 0), (0, (v10 + 1))] [] L μ15 Q))) : WA mX10_aheadOf 1 (0, 0) 13 [(2, v0), (0, v1), (0, v2), (1, v3), (9, 0), (1, v5), (9, 0), (0, v7), (1, v8), (9, 0), (0, v10)] [] L μ Q := by
  refine wa_iload 15 dX10_aheadOf_13 rfl rfl ?_
  refine wa_iload 17 dX10_aheadOf_15 rfl rfl ?_
  refine wa_icmp_ge 20 42 dX10_aheadOf_17 rfl (by decide) (fun q => ?_) (fun q => ?_)
  · replace h := h.1 q
    refine wa_lload 44 dX10_aheadOf_42 rfl rfl ?_
    refine wa_iload 46 dX10_aheadOf_44 rfl rfl ?_
    refine wa_aload_n 47 dX10_aheadOf_46 rfl rfl ?_
    refine wa_callV 50 0 0 10 (av := []) (rest := [(0, v7), (1, v8)]) (k1 := (0, 0)) (k2 := (0, 0)) cvX10_strips dX10_aheadOf_47 rfl wM_X10_92 ⟨rfl, by decide, rfl, Nat.le_of_ble_eq_true rfl, by decide, Nat.le_of_ble_eq_true rfl, rfl, rfl⟩ rfl k0 (TR.mono h (fun r1 L2 μ3 h => ?_))
    obtain ⟨w4, rfl, rfl, h⟩ := h
    show WA mX10_aheadOf 1 (0, 0) 50 [(2, v0), (0, v1), (0, v2), (1, v3), (9, 0), (1, v5), (9, 0), (0, v7), (1, v8), (9, 0), (0, v10)] [(0, w4), (0, v7), (1, v8)] L μ3 Q
    refine wa_icmp_ge 53 69 dX10_aheadOf_50 rfl (by decide) (fun q => ?_) (fun q => ?_)
    · replace h := h.1 q
      refine wa_lconst 70 0 dX10_aheadOf_69 rfl ⟨rfl, by decide⟩ ?_
      obtain ⟨c5, h⟩ := h
      refine wa_ladd 71 dX10_aheadOf_70 rfl c5 ?_
      exact wa_lret dX10_aheadOf_71 rfl h
    · replace h := h.2 q
      refine wa_aload_n 54 dX10_aheadOf_53 rfl rfl ?_
      refine wa_iload_n 55 dX10_aheadOf_54 rfl rfl ?_
      refine wa_iload 57 dX10_aheadOf_55 rfl rfl ?_
      refine wa_iload_n 58 dX10_aheadOf_57 rfl rfl ?_
      refine wa_callV 61 0 3 10 (av := [(0, v1), (0, v7), (0, v2)]) (rest := [(1, v8)]) (k1 := (0, 0)) (k2 := (0, 0)) cvX10_worthOf dX10_aheadOf_58 rfl wM_X10_88 ⟨rfl, by decide, rfl, Nat.le_of_ble_eq_true rfl, by decide, Nat.le_of_ble_eq_true rfl, rfl, rfl⟩ rfl k0 (TR.mono h (fun r6 L7 μ8 h => ?_))
      obtain ⟨w9, rfl, rfl, h⟩ := h
      show WA mX10_aheadOf 1 (0, 0) 61 [(2, v0), (0, v1), (0, v2), (1, v3), (9, 0), (1, v5), (9, 0), (0, v7), (1, v8), (9, 0), (0, v10)] [(1, w9), (1, v8)] L μ8 Q
      refine wa_lload_n 62 dX10_aheadOf_61 rfl rfl ?_
      refine wa_lload 64 dX10_aheadOf_62 rfl rfl ?_
      obtain ⟨c10, h⟩ := h
      refine wa_lremE 65 dX10_aheadOf_64 rfl c10 ?_
      obtain ⟨c11, h⟩ := h
      refine wa_lmul 66 dX10_aheadOf_65 rfl c11 ?_
      refine wa_goto 70 dX10_aheadOf_66 (by decide) ?_
      obtain ⟨c12, h⟩ := h
      refine wa_ladd 71 dX10_aheadOf_70 rfl c12 ?_
      exact wa_lret dX10_aheadOf_71 rfl h
  · replace h := h.2 q
    refine wa_lload 22 dX10_aheadOf_20 rfl rfl ?_
    refine wa_aload_n 23 dX10_aheadOf_22 rfl rfl ?_
    refine wa_iload_n 24 dX10_aheadOf_23 rfl rfl ?_
    refine wa_iload 26 dX10_aheadOf_24 rfl rfl ?_
    refine wa_iload_n 27 dX10_aheadOf_26 rfl rfl ?_
    refine wa_callV 30 0 3 10 (av := [(0, v1), (0, v10), (0, v2)]) (rest := [(1, v8)]) (k1 := (0, 0)) (k2 := (0, 0)) cvX10_worthOf dX10_aheadOf_27 rfl wM_X10_88 ⟨rfl, by decide, rfl, Nat.le_of_ble_eq_true rfl, by decide, Nat.le_of_ble_eq_true rfl, rfl, rfl⟩ rfl k0 (TR.mono h (fun r13 L14 μ15 h => ?_))
    obtain ⟨w16, rfl, rfl, h⟩ := h
    show WA mX10_aheadOf 1 (0, 0) 30 [(2, v0), (0, v1), (0, v2), (1, v3), (9, 0), (1, v5), (9, 0), (0, v7), (1, v8), (9, 0), (0, v10)] [(1, w16), (1, v8)] L μ15 Q
    refine wa_lload 32 dX10_aheadOf_30 rfl rfl ?_
    obtain ⟨c17, h⟩ := h
    refine wa_lmul 33 dX10_aheadOf_32 rfl c17 ?_
    obtain ⟨c18, h⟩ := h
    refine wa_ladd 34 dX10_aheadOf_33 rfl c18 ?_
    refine wa_lstore 36 [(2, v0), (0, v1), (0, v2), (1, v3), (9, 0), (1, v5), (9, 0), (0, v7), (1, (v8 + (w16 * v5))), (9, 0), (0, v10)] dX10_aheadOf_34 rfl rfl rfl ?_
    obtain ⟨c19, h⟩ := h
    refine wa_iinc 39 [(2, v0), (0, v1), (0, v2), (1, v3), (9, 0), (1, v5), (9, 0), (0, v7), (1, (v8 + (w16 * v5))), (9, 0), (0, (v10 + 1))] dX10_aheadOf_36 rfl rfl rfl c19 rfl ?_
    refine wa_goto 13 dX10_aheadOf_39 (by decide) ?_
    exact h
set_option maxRecDepth 20000 in
theorem t_X10_allOf (hL : LayOK L) {v0 v1 v2 : Int} (k0 : isK L v0 (10, 0)) (h : TR mX10_strips 0 (0, 0) [(2, v0)] L μ (fun r1 L2 μ3 => ∃ w4, r1 = some (0, w4) ∧ L = L2 ∧ TR mX10_aheadOf 1 (0, 0) [(2, v0), (0, v1), (0, v2), (1, w4), (1, 1)] L μ3 (fun r5 L6 μ7 => ∃ w8, r5 = some (1, w8) ∧ L = L6 ∧ Q (some (1, w8)) L μ7))) : TR mX10_allOf 2 (0, 0) [(2, v0), (0, v1), (0, v2)] L μ Q := by
  refine TR.of (ls := [(2, v0), (0, v1), (0, v2)]) (by decide) (by simp) rfl (Nat.le_of_ble_eq_true rfl) ?_
  refine wa_aload_n 1 dX10_allOf_0 rfl rfl ?_
  refine wa_iload_n 2 dX10_allOf_1 rfl rfl ?_
  refine wa_iload_n 3 dX10_allOf_2 rfl rfl ?_
  refine wa_aload_n 4 dX10_allOf_3 rfl rfl ?_
  refine wa_callV 7 0 0 10 (av := []) (rest := [(0, v2), (0, v1), (2, v0)]) (k1 := (0, 0)) (k2 := (0, 0)) cvX10_strips dX10_allOf_4 rfl wM_X10_92 ⟨rfl, by decide, rfl, Nat.le_of_ble_eq_true rfl, by decide, Nat.le_of_ble_eq_true rfl, rfl, rfl⟩ rfl k0 (TR.mono h (fun r1 L2 μ3 h => ?_))
  obtain ⟨w4, rfl, rfl, h⟩ := h
  show WA mX10_allOf 2 (0, 0) 7 [(2, v0), (0, v1), (0, v2)] [(0, w4), (0, v2), (0, v1), (2, v0)] L μ3 Q
  refine wa_i2l 8 dX10_allOf_7 rfl ?_
  refine wa_lconst 9 1 dX10_allOf_8 rfl ⟨rfl, by decide⟩ ?_
  refine wa_callV 12 1 4 10 (av := [(0, v1), (0, v2), (1, w4), (1, 1)]) (rest := []) (k1 := (0, 0)) (k2 := (0, 0)) cvX10_aheadOf dX10_allOf_9 rfl wM_X10_106 ⟨rfl, by decide, rfl, Nat.le_of_ble_eq_true rfl, by decide, Nat.le_of_ble_eq_true rfl, rfl, rfl⟩ rfl k0 (TR.mono h (fun r5 L6 μ7 h => ?_))
  obtain ⟨w8, rfl, rfl, h⟩ := h
  show WA mX10_allOf 2 (0, 0) 12 [(2, v0), (0, v1), (0, v2)] [(1, w8)] L μ7 Q
  exact wa_lret dX10_allOf_12 rfl h
set_option maxRecDepth 20000 in
theorem t_X10_areApart (hL : LayOK L) {v0 v1 v3 v5 v7 : Int} (k0 : isK L v0 (10, 0)) (h : WA mX10_areApart 1 (0, 0) 3 [(2, v0), (1, v1), (9, 0), (1, v3), (9, 0), (1, v5), (9, 0), (1, v7), (9, 0), (0, 0), (9, 0), (9, 0), (9, 0), (9, 0)] [] L μ Q) : TR mX10_areApart 1 (0, 0) [(2, v0), (1, v1), (1, v3), (1, v5), (1, v7)] L μ Q := by
  refine TR.of (ls := [(2, v0), (1, v1), (9, 0), (1, v3), (9, 0), (1, v5), (9, 0), (1, v7), (9, 0), (9, 0), (9, 0), (9, 0), (9, 0), (9, 0)]) (by decide) (by simp) rfl (Nat.le_of_ble_eq_true rfl) ?_
  refine wa_iconst 1 dX10_areApart_0 rfl (by decide) ?_
  refine wa_istore 3 [(2, v0), (1, v1), (9, 0), (1, v3), (9, 0), (1, v5), (9, 0), (1, v7), (9, 0), (0, 0), (9, 0), (9, 0), (9, 0), (9, 0)] dX10_areApart_1 rfl rfl rfl ?_
  exact h
set_option maxRecDepth 20000 in
theorem s_X10_areApart_3 (hL : LayOK L) {v0 v1 v3 v5 v7 v9 : Int} (k0 : isK L v0 (10, 0)) (h : TR mX10_agents 0 (0, 0) [(2, v0)] L μ (fun r1 L2 μ3 => ∃ w4, r1 = some (0, w4) ∧ L = L2 ∧ (w4 ≤ v9 → Q (some (0, 1)) L μ3) ∧ (¬ w4 ≤ v9 → WA mX10_areApart 1 (0, 0) 15 [(2, v0), (1, v1), (9, 0), (1, v3), (9, 0), (1, v5), (9, 0), (1, v7), (9, 0), (0, v9), (0, 0), (9, 0), (9, 0), (9, 0)] [] L μ3 Q))) : WA mX10_areApart 1 (0, 0) 3 [(2, v0), (1, v1), (9, 0), (1, v3), (9, 0), (1, v5), (9, 0), (1, v7), (9, 0), (0, v9), (9, 0), (9, 0), (9, 0), (9, 0)] [] L μ Q := by
  refine wa_iload 5 dX10_areApart_3 rfl rfl ?_
  refine wa_aload_n 6 dX10_areApart_5 rfl rfl ?_
  refine wa_callV 9 0 0 10 (av := []) (rest := [(0, v9)]) (k1 := (0, 0)) (k2 := (0, 0)) cvX10_agents dX10_areApart_6 rfl wM_X10_75 ⟨rfl, by decide, rfl, Nat.le_of_ble_eq_true rfl, by decide, Nat.le_of_ble_eq_true rfl, rfl, rfl⟩ rfl k0 (TR.mono h (fun r1 L2 μ3 h => ?_))
  obtain ⟨w4, rfl, rfl, h⟩ := h
  show WA mX10_areApart 1 (0, 0) 9 [(2, v0), (1, v1), (9, 0), (1, v3), (9, 0), (1, v5), (9, 0), (1, v7), (9, 0), (0, v9), (9, 0), (9, 0), (9, 0), (9, 0)] [(0, w4), (0, v9)] L μ3 Q
  refine wa_icmp_ge 12 179 dX10_areApart_9 rfl (by decide) (fun q => ?_) (fun q => ?_)
  · replace h := h.1 q
    refine wa_iconst 180 dX10_areApart_179 rfl (by decide) ?_
    exact wa_zret dX10_areApart_180 rfl (Or.inr rfl) h
  · replace h := h.2 q
    refine wa_iconst 13 dX10_areApart_12 rfl (by decide) ?_
    refine wa_istore 15 [(2, v0), (1, v1), (9, 0), (1, v3), (9, 0), (1, v5), (9, 0), (1, v7), (9, 0), (0, v9), (0, 0), (9, 0), (9, 0), (9, 0)] dX10_areApart_13 rfl rfl rfl ?_
    exact h
set_option maxRecDepth 20000 in
theorem s_X10_areApart_15 (hL : LayOK L) {v0 v1 v3 v5 v7 v9 v10 : Int} (k0 : isK L v0 (10, 0)) (h : (inI (165 + v9)) ∧ (0 ≤ (165 + v9) ∧ (165 + v9) < 510) ∧ ((μ ((rf L v0 0)) ((165 + v9))) ≤ v10 → (inI (v9 + 1)) ∧ WA mX10_areApart 1 (0, 0) 3 [(2, v0), (1, v1), (9, 0), (1, v3), (9, 0), (1, v5), (9, 0), (1, v7), (9, 0), (0, (v9 + 1)), (9, 0), (9, 0), (9, 0), (9, 0)] [] L μ Q) ∧ (¬ (μ ((rf L v0 0)) ((165 + v9))) ≤ v10 → (inI (8 * v9)) ∧ (inI (170 + (8 * v9))) ∧ (inI (4 * v10)) ∧ (inI ((170 + (8 * v9)) + (4 * v10))) ∧ (0 ≤ ((170 + (8 * v9)) + (4 * v10)) ∧ ((170 + (8 * v9)) + (4 * v10)) < 510) ∧ (inI (((170 + (8 * v9)) + (4 * v10)) + 3)) ∧ (0 ≤ (((170 + (8 * v9)) + (4 * v10)) + 3) ∧ (((170 + (8 * v9)) + (4 * v10)) + 3) < 510) ∧ (inL ((μ ((rf L v0 0)) (((170 + (8 * v9)) + (4 * v10)))) * (μ ((rf L v0 0)) ((((170 + (8 * v9)) + (4 * v10)) + 3))))) ∧ (inI (((170 + (8 * v9)) + (4 * v10)) + 2)) ∧ (0 ≤ (((170 + (8 * v9)) + (4 * v10)) + 2) ∧ (((170 + (8 * v9)) + (4 * v10)) + 2) < 510) ∧ (inI (((170 + (8 * v9)) + (4 * v10)) + 1)) ∧ (0 ≤ (((170 + (8 * v9)) + (4 * v10)) + 1) ∧ (((170 + (8 * v9)) + (4 * v10)) + 1) < 510) ∧ (inL ((μ ((rf L v0 0)) ((((170 + (8 * v9)) + (4 * v10)) + 2))) * (μ ((rf L v0 0)) ((((170 + (8 * v9)) + (4 * v10)) + 1))))) ∧ (¬ ((μ ((rf L v0 0)) (((170 + (8 * v9)) + (4 * v10)))) * (μ ((rf L v0 0)) ((((170 + (8 * v9)) + (4 * v10)) + 3)))) = ((μ ((rf L v0 0)) ((((170 + (8 * v9)) + (4 * v10)) + 2))) * (μ ((rf L v0 0)) ((((170 + (8 * v9)) + (4 * v10)) + 1)))) → WA mX10_areApart 1 (0, 0) 94 [(2, v0), (1, v1), (9, 0), (1, v3), (9, 0), (1, v5), (9, 0), (1, v7), (9, 0), (0, v9), (0, v10), (0, ((170 + (8 * v9)) + (4 * v10))), (9, 0), (9, 0)] [(0, 0)] L μ Q) ∧ (((μ ((rf L v0 0)) (((170 + (8 * v9)) + (4 * v10)))) * (μ ((rf L v0 0)) ((((170 + (8 * v9)) + (4 * v10)) + 3)))) = ((μ ((rf L v0 0)) ((((170 + (8 * v9)) + (4 * v10)) + 2))) * (μ ((rf L v0 0)) ((((170 + (8 * v9)) + (4 * v10)) + 1)))) → WA mX10_areApart 1 (0, 0) 94 [(2, v0), (1, v1), (9, 0), (1, v3), (9, 0), (1, v5), (9, 0), (1, v7), (9, 0), (0, v9), (0, v10), (0, ((170 + (8 * v9)) + (4 * v10))), (9, 0), (9, 0)] [(0, 1)] L μ Q))) : WA mX10_areApart 1 (0, 0) 15 [(2, v0), (1, v1), (9, 0), (1, v3), (9, 0), (1, v5), (9, 0), (1, v7), (9, 0), (0, v9), (0, v10), (9, 0), (9, 0), (9, 0)] [] L μ Q := by
  refine wa_iload 17 dX10_areApart_15 rfl rfl ?_
  refine wa_i2l 18 dX10_areApart_17 rfl ?_
  refine wa_aload_n 19 dX10_areApart_18 rfl rfl ?_
  have e1 : isK L (rf L v0 0) (21, 510) := lay_f hL k0 0 rfl
  refine wa_getR 22 0 dX10_areApart_19 rfl wF_X10_9 rfl rfl ⟨k0, isK_pos e1⟩ ?_
  refine wa_sipush 25 dX10_areApart_22 rfl ⟨by decide, by decide⟩ ?_
  refine wa_iload 27 dX10_areApart_25 rfl rfl ?_
  obtain ⟨c2, h⟩ := h
  refine wa_iadd 28 dX10_areApart_27 rfl c2 ?_
  obtain ⟨c3, h⟩ := h
  refine wa_laload 29 dX10_areApart_28 rfl (okA_of e1 c3) ?_
  refine wa_lc_ge 33 173 dX10_areApart_29 dX10_areApart_30 rfl (by decide) (fun q => ?_) (fun q => ?_)
  · replace h := h.1 q
    obtain ⟨c4, h⟩ := h
    refine wa_iinc 176 [(2, v0), (1, v1), (9, 0), (1, v3), (9, 0), (1, v5), (9, 0), (1, v7), (9, 0), (0, (v9 + 1)), (0, v10), (9, 0), (9, 0), (9, 0)] dX10_areApart_173 rfl rfl rfl c4 rfl ?_
    refine wa_goto 3 dX10_areApart_176 (by decide) ?_
    exact wa_weak [(2, v0), (1, v1), (9, 0), (1, v3), (9, 0), (1, v5), (9, 0), (1, v7), (9, 0), (0, (v9 + 1)), (9, 0), (9, 0), (9, 0), (9, 0)] ⟨Or.inl rfl, Or.inl rfl, Or.inl rfl, Or.inl rfl, Or.inl rfl, Or.inl rfl, Or.inl rfl, Or.inl rfl, Or.inl rfl, Or.inl rfl, Or.inr rfl, Or.inl rfl, Or.inl rfl, Or.inl rfl, trivial⟩ h
  · replace h := h.2 q
    refine wa_sipush 36 dX10_areApart_33 rfl ⟨by decide, by decide⟩ ?_
    refine wa_bipush 38 dX10_areApart_36 rfl ⟨by decide, by decide⟩ ?_
    refine wa_iload 40 dX10_areApart_38 rfl rfl ?_
    obtain ⟨c5, h⟩ := h
    refine wa_imul 41 dX10_areApart_40 rfl c5 ?_
    obtain ⟨c6, h⟩ := h
    refine wa_iadd 42 dX10_areApart_41 rfl c6 ?_
    refine wa_iconst 43 dX10_areApart_42 rfl (by decide) ?_
    refine wa_iload 45 dX10_areApart_43 rfl rfl ?_
    obtain ⟨c7, h⟩ := h
    refine wa_imul 46 dX10_areApart_45 rfl c7 ?_
    obtain ⟨c8, h⟩ := h
    refine wa_iadd 47 dX10_areApart_46 rfl c8 ?_
    refine wa_istore 49 [(2, v0), (1, v1), (9, 0), (1, v3), (9, 0), (1, v5), (9, 0), (1, v7), (9, 0), (0, v9), (0, v10), (0, ((170 + (8 * v9)) + (4 * v10))), (9, 0), (9, 0)] dX10_areApart_47 rfl rfl rfl ?_
    refine wa_aload_n 50 dX10_areApart_49 rfl rfl ?_
    refine wa_getR 53 0 dX10_areApart_50 rfl wF_X10_9 rfl rfl ⟨k0, isK_pos e1⟩ ?_
    refine wa_iload 55 dX10_areApart_53 rfl rfl ?_
    obtain ⟨c9, h⟩ := h
    refine wa_laload 56 dX10_areApart_55 rfl (okA_of e1 c9) ?_
    refine wa_aload_n 57 dX10_areApart_56 rfl rfl ?_
    refine wa_getR 60 0 dX10_areApart_57 rfl wF_X10_9 rfl rfl ⟨k0, isK_pos e1⟩ ?_
    refine wa_iload 62 dX10_areApart_60 rfl rfl ?_
    refine wa_iconst 63 dX10_areApart_62 rfl (by decide) ?_
    obtain ⟨c10, h⟩ := h
    refine wa_iadd 64 dX10_areApart_63 rfl c10 ?_
    obtain ⟨c11, h⟩ := h
    refine wa_laload 65 dX10_areApart_64 rfl (okA_of e1 c11) ?_
    obtain ⟨c12, h⟩ := h
    refine wa_lmul 66 dX10_areApart_65 rfl c12 ?_
    refine wa_aload_n 67 dX10_areApart_66 rfl rfl ?_
    refine wa_getR 70 0 dX10_areApart_67 rfl wF_X10_9 rfl rfl ⟨k0, isK_pos e1⟩ ?_
    refine wa_iload 72 dX10_areApart_70 rfl rfl ?_
    refine wa_iconst 73 dX10_areApart_72 rfl (by decide) ?_
    obtain ⟨c13, h⟩ := h
    refine wa_iadd 74 dX10_areApart_73 rfl c13 ?_
    obtain ⟨c14, h⟩ := h
    refine wa_laload 75 dX10_areApart_74 rfl (okA_of e1 c14) ?_
    refine wa_aload_n 76 dX10_areApart_75 rfl rfl ?_
    refine wa_getR 79 0 dX10_areApart_76 rfl wF_X10_9 rfl rfl ⟨k0, isK_pos e1⟩ ?_
    refine wa_iload 81 dX10_areApart_79 rfl rfl ?_
    refine wa_iconst 82 dX10_areApart_81 rfl (by decide) ?_
    obtain ⟨c15, h⟩ := h
    refine wa_iadd 83 dX10_areApart_82 rfl c15 ?_
    obtain ⟨c16, h⟩ := h
    refine wa_laload 84 dX10_areApart_83 rfl (okA_of e1 c16) ?_
    obtain ⟨c17, h⟩ := h
    refine wa_lmul 85 dX10_areApart_84 rfl c17 ?_
    refine wa_lc_ne 89 93 dX10_areApart_85 dX10_areApart_86 rfl (by decide) (fun q => ?_) (fun q => ?_)
    · replace h := h.1 q
      refine wa_iconst 94 dX10_areApart_93 rfl (by decide) ?_
      exact h
    · replace h := h.2 q
      refine wa_iconst 90 dX10_areApart_89 rfl (by decide) ?_
      refine wa_goto 94 dX10_areApart_90 (by decide) ?_
      exact h
set_option maxRecDepth 20000 in
theorem s_X10_areApart_94 (hL : LayOK L) {v0 v1 v3 v5 v7 v9 v10 v11 s0 : Int} (k0 : isK L v0 (10, 0)) (h : (0 ≤ v11 ∧ v11 < 510) ∧ (inI (v11 + 1)) ∧ (0 ≤ (v11 + 1) ∧ (v11 + 1) < 510) ∧ TR mX10_isLess 0 (0, 0) [(1, (μ ((rf L v0 0)) v11)), (1, (μ ((rf L v0 0)) ((v11 + 1)))), (1, v5), (1, v7)] L μ (fun r5 L6 μ7 => ∃ w8, r5 = some (0, w8) ∧ L = L6 ∧ (w8 = 0 → (¬ s0 = 0 → (inI (v10 + 1)) ∧ WA mX10_areApart 1 (0, 0) 15 [(2, v0), (1, v1), (9, 0), (1, v3), (9, 0), (1, v5), (9, 0), (1, v7), (9, 0), (0, v9), (0, (v10 + 1)), (9, 0), (9, 0), (9, 0)] [] L μ7 Q) ∧ (s0 = 0 → (inI (v10 + 1)) ∧ WA mX10_areApart 1 (0, 0) 15 [(2, v0), (1, v1), (9, 0), (1, v3), (9, 0), (1, v5), (9, 0), (1, v7), (9, 0), (0, v9), (0, (v10 + 1)), (9, 0), (9, 0), (9, 0)] [] L μ7 Q)) ∧ (¬ w8 = 0 → (inI (v11 + 2)) ∧ (0 ≤ (v11 + 2) ∧ (v11 + 2) < 510) ∧ (inI (v11 + 3)) ∧ (0 ≤ (v11 + 3) ∧ (v11 + 3) < 510) ∧ TR mX10_isLess 0 (0, 0) [(1, v1), (1, v3), (1, (μ7 ((rf L v0 0)) ((v11 + 2)))), (1, (μ7 ((rf L v0 0)) ((v11 + 3))))] L μ7 (fun r15 L16 μ17 => ∃ w18, r15 = some (0, w18) ∧ L = L16 ∧ (w18 = 0 → (¬ s0 = 0 → (inI (v10 + 1)) ∧ WA mX10_areApart 1 (0, 0) 15 [(2, v0), (1, v1), (9, 0), (1, v3), (9, 0), (1, v5), (9, 0), (1, v7), (9, 0), (0, v9), (0, (v10 + 1)), (9, 0), (9, 0), (9, 0)] [] L μ17 Q) ∧ (s0 = 0 → (inI (v10 + 1)) ∧ WA mX10_areApart 1 (0, 0) 15 [(2, v0), (1, v1), (9, 0), (1, v3), (9, 0), (1, v5), (9, 0), (1, v7), (9, 0), (0, v9), (0, (v10 + 1)), (9, 0), (9, 0), (9, 0)] [] L μ17 Q)) ∧ (¬ w18 = 0 → (¬ s0 = 0 → (inI (v10 + 1)) ∧ WA mX10_areApart 1 (0, 0) 15 [(2, v0), (1, v1), (9, 0), (1, v3), (9, 0), (1, v5), (9, 0), (1, v7), (9, 0), (0, v9), (0, (v10 + 1)), (9, 0), (9, 0), (9, 0)] [] L μ17 Q) ∧ (s0 = 0 → Q (some (0, 0)) L μ17)))))) : WA mX10_areApart 1 (0, 0) 94 [(2, v0), (1, v1), (9, 0), (1, v3), (9, 0), (1, v5), (9, 0), (1, v7), (9, 0), (0, v9), (0, v10), (0, v11), (9, 0), (9, 0)] [(0, s0)] L μ Q := by
  refine wa_istore 96 [(2, v0), (1, v1), (9, 0), (1, v3), (9, 0), (1, v5), (9, 0), (1, v7), (9, 0), (0, v9), (0, v10), (0, v11), (0, s0), (9, 0)] dX10_areApart_94 rfl rfl rfl ?_
  refine wa_aload_n 97 dX10_areApart_96 rfl rfl ?_
  have e1 : isK L (rf L v0 0) (21, 510) := lay_f hL k0 0 rfl
  refine wa_getR 100 0 dX10_areApart_97 rfl wF_X10_9 rfl rfl ⟨k0, isK_pos e1⟩ ?_
  refine wa_iload 102 dX10_areApart_100 rfl rfl ?_
  obtain ⟨c2, h⟩ := h
  refine wa_laload 103 dX10_areApart_102 rfl (okA_of e1 c2) ?_
  refine wa_aload_n 104 dX10_areApart_103 rfl rfl ?_
  refine wa_getR 107 0 dX10_areApart_104 rfl wF_X10_9 rfl rfl ⟨k0, isK_pos e1⟩ ?_
  refine wa_iload 109 dX10_areApart_107 rfl rfl ?_
  refine wa_iconst 110 dX10_areApart_109 rfl (by decide) ?_
  obtain ⟨c3, h⟩ := h
  refine wa_iadd 111 dX10_areApart_110 rfl c3 ?_
  obtain ⟨c4, h⟩ := h
  refine wa_laload 112 dX10_areApart_111 rfl (okA_of e1 c4) ?_
  refine wa_lload 114 dX10_areApart_112 rfl rfl ?_
  refine wa_lload 116 dX10_areApart_114 rfl rfl ?_
  refine wa_callS 119 0 4 (av := [(1, (μ ((rf L v0 0)) v11)), (1, (μ ((rf L v0 0)) ((v11 + 1)))), (1, v5), (1, v7)]) (rest := []) (k1 := (0, 0)) (k2 := (0, 0)) cvX10_isLess dX10_areApart_116 rfl wM_X10_199 ⟨rfl, Nat.le_of_ble_eq_true rfl, by decide, Nat.le_of_ble_eq_true rfl, rfl, rfl⟩ rfl (TR.mono h (fun r5 L6 μ7 h => ?_))
  obtain ⟨w8, rfl, rfl, h⟩ := h
  show WA mX10_areApart 1 (0, 0) 119 [(2, v0), (1, v1), (9, 0), (1, v3), (9, 0), (1, v5), (9, 0), (1, v7), (9, 0), (0, v9), (0, v10), (0, v11), (0, s0), (9, 0)] [(0, w8)] L μ7 Q
  refine wa_if_eq 122 152 dX10_areApart_119 rfl (by decide) (fun q => ?_) (fun q => ?_)
  · replace h := h.1 q
    refine wa_iconst 153 dX10_areApart_152 rfl (by decide) ?_
    refine wa_istore 155 [(2, v0), (1, v1), (9, 0), (1, v3), (9, 0), (1, v5), (9, 0), (1, v7), (9, 0), (0, v9), (0, v10), (0, v11), (0, s0), (0, 0)] dX10_areApart_153 rfl rfl rfl ?_
    refine wa_iload 157 dX10_areApart_155 rfl rfl ?_
    refine wa_if_ne 160 167 dX10_areApart_157 rfl (by decide) (fun q => ?_) (fun q => ?_)
    · replace h := h.1 q
      obtain ⟨c9, h⟩ := h
      refine wa_iinc 170 [(2, v0), (1, v1), (9, 0), (1, v3), (9, 0), (1, v5), (9, 0), (1, v7), (9, 0), (0, v9), (0, (v10 + 1)), (0, v11), (0, s0), (0, 0)] dX10_areApart_167 rfl rfl rfl c9 rfl ?_
      refine wa_goto 15 dX10_areApart_170 (by decide) ?_
      exact wa_weak [(2, v0), (1, v1), (9, 0), (1, v3), (9, 0), (1, v5), (9, 0), (1, v7), (9, 0), (0, v9), (0, (v10 + 1)), (9, 0), (9, 0), (9, 0)] ⟨Or.inl rfl, Or.inl rfl, Or.inl rfl, Or.inl rfl, Or.inl rfl, Or.inl rfl, Or.inl rfl, Or.inl rfl, Or.inl rfl, Or.inl rfl, Or.inl rfl, Or.inr rfl, Or.inr rfl, Or.inr rfl, trivial⟩ h
    · replace h := h.2 q
      refine wa_iload 162 dX10_areApart_160 rfl rfl ?_
      refine wa_if_eq 165 167 dX10_areApart_162 rfl (by decide) (fun q => ?_) (fun q => ?_)
      · skip
        obtain ⟨c10, h⟩ := h
        refine wa_iinc 170 [(2, v0), (1, v1), (9, 0), (1, v3), (9, 0), (1, v5), (9, 0), (1, v7), (9, 0), (0, v9), (0, (v10 + 1)), (0, v11), (0, s0), (0, 0)] dX10_areApart_167 rfl rfl rfl c10 rfl ?_
        refine wa_goto 15 dX10_areApart_170 (by decide) ?_
        exact wa_weak [(2, v0), (1, v1), (9, 0), (1, v3), (9, 0), (1, v5), (9, 0), (1, v7), (9, 0), (0, v9), (0, (v10 + 1)), (9, 0), (9, 0), (9, 0)] ⟨Or.inl rfl, Or.inl rfl, Or.inl rfl, Or.inl rfl, Or.inl rfl, Or.inl rfl, Or.inl rfl, Or.inl rfl, Or.inl rfl, Or.inl rfl, Or.inl rfl, Or.inr rfl, Or.inr rfl, Or.inr rfl, trivial⟩ h
      · exact absurd q (by decide)
  · replace h := h.2 q
    refine wa_lload_n 123 dX10_areApart_122 rfl rfl ?_
    refine wa_lload_n 124 dX10_areApart_123 rfl rfl ?_
    refine wa_aload_n 125 dX10_areApart_124 rfl rfl ?_
    refine wa_getR 128 0 dX10_areApart_125 rfl wF_X10_9 rfl rfl ⟨k0, isK_pos e1⟩ ?_
    refine wa_iload 130 dX10_areApart_128 rfl rfl ?_
    refine wa_iconst 131 dX10_areApart_130 rfl (by decide) ?_
    obtain ⟨c11, h⟩ := h
    refine wa_iadd 132 dX10_areApart_131 rfl c11 ?_
    obtain ⟨c12, h⟩ := h
    refine wa_laload 133 dX10_areApart_132 rfl (okA_of e1 c12) ?_
    refine wa_aload_n 134 dX10_areApart_133 rfl rfl ?_
    refine wa_getR 137 0 dX10_areApart_134 rfl wF_X10_9 rfl rfl ⟨k0, isK_pos e1⟩ ?_
    refine wa_iload 139 dX10_areApart_137 rfl rfl ?_
    refine wa_iconst 140 dX10_areApart_139 rfl (by decide) ?_
    obtain ⟨c13, h⟩ := h
    refine wa_iadd 141 dX10_areApart_140 rfl c13 ?_
    obtain ⟨c14, h⟩ := h
    refine wa_laload 142 dX10_areApart_141 rfl (okA_of e1 c14) ?_
    refine wa_callS 145 0 4 (av := [(1, v1), (1, v3), (1, (μ7 ((rf L v0 0)) ((v11 + 2)))), (1, (μ7 ((rf L v0 0)) ((v11 + 3))))]) (rest := []) (k1 := (0, 0)) (k2 := (0, 0)) cvX10_isLess dX10_areApart_142 rfl wM_X10_199 ⟨rfl, Nat.le_of_ble_eq_true rfl, by decide, Nat.le_of_ble_eq_true rfl, rfl, rfl⟩ rfl (TR.mono h (fun r15 L16 μ17 h => ?_))
    obtain ⟨w18, rfl, rfl, h⟩ := h
    show WA mX10_areApart 1 (0, 0) 145 [(2, v0), (1, v1), (9, 0), (1, v3), (9, 0), (1, v5), (9, 0), (1, v7), (9, 0), (0, v9), (0, v10), (0, v11), (0, s0), (9, 0)] [(0, w18)] L μ17 Q
    refine wa_if_eq 148 152 dX10_areApart_145 rfl (by decide) (fun q => ?_) (fun q => ?_)
    · replace h := h.1 q
      refine wa_iconst 153 dX10_areApart_152 rfl (by decide) ?_
      refine wa_istore 155 [(2, v0), (1, v1), (9, 0), (1, v3), (9, 0), (1, v5), (9, 0), (1, v7), (9, 0), (0, v9), (0, v10), (0, v11), (0, s0), (0, 0)] dX10_areApart_153 rfl rfl rfl ?_
      refine wa_iload 157 dX10_areApart_155 rfl rfl ?_
      refine wa_if_ne 160 167 dX10_areApart_157 rfl (by decide) (fun q => ?_) (fun q => ?_)
      · replace h := h.1 q
        obtain ⟨c19, h⟩ := h
        refine wa_iinc 170 [(2, v0), (1, v1), (9, 0), (1, v3), (9, 0), (1, v5), (9, 0), (1, v7), (9, 0), (0, v9), (0, (v10 + 1)), (0, v11), (0, s0), (0, 0)] dX10_areApart_167 rfl rfl rfl c19 rfl ?_
        refine wa_goto 15 dX10_areApart_170 (by decide) ?_
        exact wa_weak [(2, v0), (1, v1), (9, 0), (1, v3), (9, 0), (1, v5), (9, 0), (1, v7), (9, 0), (0, v9), (0, (v10 + 1)), (9, 0), (9, 0), (9, 0)] ⟨Or.inl rfl, Or.inl rfl, Or.inl rfl, Or.inl rfl, Or.inl rfl, Or.inl rfl, Or.inl rfl, Or.inl rfl, Or.inl rfl, Or.inl rfl, Or.inl rfl, Or.inr rfl, Or.inr rfl, Or.inr rfl, trivial⟩ h
      · replace h := h.2 q
        refine wa_iload 162 dX10_areApart_160 rfl rfl ?_
        refine wa_if_eq 165 167 dX10_areApart_162 rfl (by decide) (fun q => ?_) (fun q => ?_)
        · skip
          obtain ⟨c20, h⟩ := h
          refine wa_iinc 170 [(2, v0), (1, v1), (9, 0), (1, v3), (9, 0), (1, v5), (9, 0), (1, v7), (9, 0), (0, v9), (0, (v10 + 1)), (0, v11), (0, s0), (0, 0)] dX10_areApart_167 rfl rfl rfl c20 rfl ?_
          refine wa_goto 15 dX10_areApart_170 (by decide) ?_
          exact wa_weak [(2, v0), (1, v1), (9, 0), (1, v3), (9, 0), (1, v5), (9, 0), (1, v7), (9, 0), (0, v9), (0, (v10 + 1)), (9, 0), (9, 0), (9, 0)] ⟨Or.inl rfl, Or.inl rfl, Or.inl rfl, Or.inl rfl, Or.inl rfl, Or.inl rfl, Or.inl rfl, Or.inl rfl, Or.inl rfl, Or.inl rfl, Or.inl rfl, Or.inr rfl, Or.inr rfl, Or.inr rfl, trivial⟩ h
        · exact absurd q (by decide)
    · replace h := h.2 q
      refine wa_iconst 149 dX10_areApart_148 rfl (by decide) ?_
      refine wa_goto 153 dX10_areApart_149 (by decide) ?_
      refine wa_istore 155 [(2, v0), (1, v1), (9, 0), (1, v3), (9, 0), (1, v5), (9, 0), (1, v7), (9, 0), (0, v9), (0, v10), (0, v11), (0, s0), (0, 1)] dX10_areApart_153 rfl rfl rfl ?_
      refine wa_iload 157 dX10_areApart_155 rfl rfl ?_
      refine wa_if_ne 160 167 dX10_areApart_157 rfl (by decide) (fun q => ?_) (fun q => ?_)
      · replace h := h.1 q
        obtain ⟨c21, h⟩ := h
        refine wa_iinc 170 [(2, v0), (1, v1), (9, 0), (1, v3), (9, 0), (1, v5), (9, 0), (1, v7), (9, 0), (0, v9), (0, (v10 + 1)), (0, v11), (0, s0), (0, 1)] dX10_areApart_167 rfl rfl rfl c21 rfl ?_
        refine wa_goto 15 dX10_areApart_170 (by decide) ?_
        exact wa_weak [(2, v0), (1, v1), (9, 0), (1, v3), (9, 0), (1, v5), (9, 0), (1, v7), (9, 0), (0, v9), (0, (v10 + 1)), (9, 0), (9, 0), (9, 0)] ⟨Or.inl rfl, Or.inl rfl, Or.inl rfl, Or.inl rfl, Or.inl rfl, Or.inl rfl, Or.inl rfl, Or.inl rfl, Or.inl rfl, Or.inl rfl, Or.inl rfl, Or.inr rfl, Or.inr rfl, Or.inr rfl, trivial⟩ h
      · replace h := h.2 q
        refine wa_iload 162 dX10_areApart_160 rfl rfl ?_
        refine wa_if_eq 165 167 dX10_areApart_162 rfl (by decide) (fun q => ?_) (fun q => ?_)
        · exact absurd q (by decide)
        · skip
          refine wa_iconst 166 dX10_areApart_165 rfl (by decide) ?_
          exact wa_zret dX10_areApart_166 rfl (Or.inl rfl) h
set_option maxRecDepth 20000 in
theorem t_X10_back (hL : LayOK L) {v0 : Int} (k0 : isK L v0 (10, 0)) (h : (¬ (μ v0 3) = 0 → TR mX10_copies 0 (0, 0) [(2, (rf L v0 2)), (2, (rf L v0 0))] L μ (fun r3 L4 μ5 => r3 = none ∧ L = L4 ∧ TR mX10_agents 0 (0, 0) [(2, v0)] L μ5 (fun r6 L7 μ8 => ∃ w9, r6 = some (0, w9) ∧ L = L7 ∧ Q (some (0, w9)) L μ8))) ∧ ((μ v0 3) = 0 → Q (some (0, (-5))) L μ)) : TR mX10_back 1 (0, 0) [(2, v0)] L μ Q := by
  refine TR.of (ls := [(2, v0)]) (by decide) (by simp) rfl (Nat.le_of_ble_eq_true rfl) ?_
  refine wa_aload_n 1 dX10_back_0 rfl rfl ?_
  refine wa_getI 4 3 dX10_back_1 rfl wF_X10_369 rfl rfl k0 ?_
  refine wa_if_ne 7 10 dX10_back_4 rfl (by decide) (fun q => ?_) (fun q => ?_)
  · replace h := h.1 q
    refine wa_aload_n 11 dX10_back_10 rfl rfl ?_
    have e1 : isK L (rf L v0 2) (21, 510) := lay_f hL k0 2 rfl
    refine wa_getR 14 2 dX10_back_11 rfl wF_X10_18 rfl rfl ⟨k0, isK_pos e1⟩ ?_
    refine wa_aload_n 15 dX10_back_14 rfl rfl ?_
    have e2 : isK L (rf L v0 0) (21, 510) := lay_f hL k0 0 rfl
    refine wa_getR 18 0 dX10_back_15 rfl wF_X10_9 rfl rfl ⟨k0, isK_pos e2⟩ ?_
    refine wa_callS 21 0 2 (av := [(2, (rf L v0 2)), (2, (rf L v0 0))]) (rest := []) (k1 := (0, 0)) (k2 := (0, 0)) cvX10_copies dX10_back_18 rfl wM_X10_189 ⟨rfl, Nat.le_of_ble_eq_true rfl, by decide, Nat.le_of_ble_eq_true rfl, rfl, rfl⟩ rfl (TR.mono h (fun r3 L4 μ5 h => ?_))
    obtain ⟨rfl, rfl, h⟩ := h
    show WA mX10_back 1 (0, 0) 21 [(2, v0)] [] L μ5 Q
    refine wa_aload_n 22 dX10_back_21 rfl rfl ?_
    refine wa_callV 25 0 0 10 (av := []) (rest := []) (k1 := (0, 0)) (k2 := (0, 0)) cvX10_agents dX10_back_22 rfl wM_X10_75 ⟨rfl, by decide, rfl, Nat.le_of_ble_eq_true rfl, by decide, Nat.le_of_ble_eq_true rfl, rfl, rfl⟩ rfl k0 (TR.mono h (fun r6 L7 μ8 h => ?_))
    obtain ⟨w9, rfl, rfl, h⟩ := h
    show WA mX10_back 1 (0, 0) 25 [(2, v0)] [(0, w9)] L μ8 Q
    exact wa_iret dX10_back_25 rfl h
  · replace h := h.2 q
    refine wa_bipush 9 dX10_back_7 rfl ⟨by decide, by decide⟩ ?_
    exact wa_iret dX10_back_9 rfl h
set_option maxRecDepth 20000 in
theorem t_X10_badAt (hL : LayOK L) {v0 v1 : Int} (k0 : isK L v0 (10, 0)) (h : (¬ (μ v0 9) = 0 → Q none L μ) ∧ ((μ v0 9) = 0 → Q none L (up (up μ v0 9 1) v0 8 v1))) : TR mX10_badAt 0 (0, 0) [(2, v0), (0, v1)] L μ Q := by
  refine TR.of (ls := [(2, v0), (0, v1)]) (by decide) (by simp) rfl (Nat.le_of_ble_eq_true rfl) ?_
  refine wa_aload_n 1 dX10_badAt_0 rfl rfl ?_
  refine wa_getI 4 9 dX10_badAt_1 rfl wF_X10_157 rfl rfl k0 ?_
  refine wa_if_ne 7 17 dX10_badAt_4 rfl (by decide) (fun q => ?_) (fun q => ?_)
  · replace h := h.1 q
    exact wa_vret dX10_badAt_17 rfl h
  · replace h := h.2 q
    refine wa_aload_n 8 dX10_badAt_7 rfl rfl ?_
    refine wa_iconst 9 dX10_badAt_8 rfl (by decide) ?_
    refine wa_putI 12 9 dX10_badAt_9 rfl wF_X10_157 rfl rfl k0 (Or.inr rfl) ?_
    refine wa_aload_n 13 dX10_badAt_12 rfl rfl ?_
    refine wa_iload_n 14 dX10_badAt_13 rfl rfl ?_
    refine wa_putN 17 8 dX10_badAt_14 rfl wF_X10_154 rfl rfl k0 ?_
    exact wa_vret dX10_badAt_17 rfl h
set_option maxRecDepth 20000 in
theorem t_X10_becomes (hL : LayOK L) {v0 v1 v3 : Int} (k0 : isK L v0 (10, 0)) (h : TR mX10_divisor 0 (0, 0) [(1, v1), (1, v3)] L μ (fun r1 L2 μ3 => ∃ w4, r1 = some (1, w4) ∧ L = L2 ∧ (0 ≤ v1 ∧ 0 < w4) ∧ (0 ≤ v3 ∧ 0 < w4) ∧ Q none L (up (up μ3 v0 4 ((v1 / w4))) v0 5 ((v3 / w4))))) : TR mX10_becomes 1 (0, 0) [(2, v0), (1, v1), (1, v3)] L μ Q := by
  refine TR.of (ls := [(2, v0), (1, v1), (9, 0), (1, v3), (9, 0), (9, 0), (9, 0)]) (by decide) (by simp) rfl (Nat.le_of_ble_eq_true rfl) ?_
  refine wa_lload_n 1 dX10_becomes_0 rfl rfl ?_
  refine wa_lload_n 2 dX10_becomes_1 rfl rfl ?_
  refine wa_callS 5 0 2 (av := [(1, v1), (1, v3)]) (rest := []) (k1 := (0, 0)) (k2 := (0, 0)) cvX10_divisor dX10_becomes_2 rfl wM_X10_95 ⟨rfl, Nat.le_of_ble_eq_true rfl, by decide, Nat.le_of_ble_eq_true rfl, rfl, rfl⟩ rfl (TR.mono h (fun r1 L2 μ3 h => ?_))
  obtain ⟨w4, rfl, rfl, h⟩ := h
  show WA mX10_becomes 1 (0, 0) 5 [(2, v0), (1, v1), (9, 0), (1, v3), (9, 0), (9, 0), (9, 0)] [(1, w4)] L μ3 Q
  refine wa_lstore 7 [(2, v0), (1, v1), (9, 0), (1, v3), (9, 0), (1, w4), (9, 0)] dX10_becomes_5 rfl rfl rfl ?_
  refine wa_aload_n 8 dX10_becomes_7 rfl rfl ?_
  refine wa_lload_n 9 dX10_becomes_8 rfl rfl ?_
  refine wa_lload 11 dX10_becomes_9 rfl rfl ?_
  obtain ⟨c5, h⟩ := h
  refine wa_ldivE 12 dX10_becomes_11 rfl c5 ?_
  refine wa_putL 15 4 dX10_becomes_12 rfl wF_X10_99 rfl rfl k0 ?_
  refine wa_aload_n 16 dX10_becomes_15 rfl rfl ?_
  refine wa_lload_n 17 dX10_becomes_16 rfl rfl ?_
  refine wa_lload 19 dX10_becomes_17 rfl rfl ?_
  obtain ⟨c6, h⟩ := h
  refine wa_ldivE 20 dX10_becomes_19 rfl c6 ?_
  refine wa_putL 23 5 dX10_becomes_20 rfl wF_X10_103 rfl rfl k0 ?_
  exact wa_vret dX10_becomes_23 rfl h
set_option maxRecDepth 20000 in
theorem t_X10_begin (hL : LayOK L) {v0 v1 v2 : Int} (k0 : isK L v0 (10, 0)) (h : TR mX10_in 0 (0, 0) [(1, v1), (1, 2), (1, 16)] L μ (fun r1 L2 μ3 => ∃ w4, r1 = some (0, w4) ∧ L = L2 ∧ (w4 = 0 → Q (some (0, (-1))) L μ3) ∧ (¬ w4 = 0 → TR mX10_in 0 (0, 0) [(1, v2), (1, 2), (1, 5)] L μ3 (fun r5 L6 μ7 => ∃ w8, r5 = some (0, w8) ∧ L = L6 ∧ (¬ w8 = 0 → TR mX10_agents 0 (0, 0) [(2, v0)] L μ7 (fun r9 L10 μ11 => ∃ w12, r9 = some (0, w12) ∧ L = L10 ∧ TR mX10_fresh 0 (0, 0) [(2, v0), (0, v1), (0, v2)] L μ11 (fun r13 L14 μ15 => r13 = none ∧ L = L14 ∧ Q (some (0, w12)) L μ15))) ∧ (w8 = 0 → Q (some (0, (-1))) L μ7))))) : TR mX10_begin 1 (0, 0) [(2, v0), (0, v1), (0, v2)] L μ Q := by
  refine TR.of (ls := [(2, v0), (0, v1), (0, v2), (9, 0)]) (by decide) (by simp) rfl (Nat.le_of_ble_eq_true rfl) ?_
  refine wa_iload_n 1 dX10_begin_0 rfl rfl ?_
  refine wa_i2l 2 dX10_begin_1 rfl ?_
  refine wa_ldc2 5 2 dX10_begin_2 rfl wJ_X10_69 ⟨rfl, by decide⟩ ?_
  refine wa_ldc2 8 16 dX10_begin_5 rfl wJ_X10_71 ⟨rfl, by decide⟩ ?_
  refine wa_callS 11 0 3 (av := [(1, v1), (1, 2), (1, 16)]) (rest := []) (k1 := (0, 0)) (k2 := (0, 0)) cvX10_in dX10_begin_8 rfl wM_X10_65 ⟨rfl, Nat.le_of_ble_eq_true rfl, by decide, Nat.le_of_ble_eq_true rfl, rfl, rfl⟩ rfl (TR.mono h (fun r1 L2 μ3 h => ?_))
  obtain ⟨w4, rfl, rfl, h⟩ := h
  show WA mX10_begin 1 (0, 0) 11 [(2, v0), (0, v1), (0, v2), (9, 0)] [(0, w4)] L μ3 Q
  refine wa_if_eq 14 28 dX10_begin_11 rfl (by decide) (fun q => ?_) (fun q => ?_)
  · replace h := h.1 q
    refine wa_iconst 29 dX10_begin_28 rfl (by decide) ?_
    exact wa_iret dX10_begin_29 rfl h
  · replace h := h.2 q
    refine wa_iload_n 15 dX10_begin_14 rfl rfl ?_
    refine wa_i2l 16 dX10_begin_15 rfl ?_
    refine wa_ldc2 19 2 dX10_begin_16 rfl wJ_X10_69 ⟨rfl, by decide⟩ ?_
    refine wa_ldc2 22 5 dX10_begin_19 rfl wJ_X10_73 ⟨rfl, by decide⟩ ?_
    refine wa_callS 25 0 3 (av := [(1, v2), (1, 2), (1, 5)]) (rest := []) (k1 := (0, 0)) (k2 := (0, 0)) cvX10_in dX10_begin_22 rfl wM_X10_65 ⟨rfl, Nat.le_of_ble_eq_true rfl, by decide, Nat.le_of_ble_eq_true rfl, rfl, rfl⟩ rfl (TR.mono h (fun r5 L6 μ7 h => ?_))
    obtain ⟨w8, rfl, rfl, h⟩ := h
    show WA mX10_begin 1 (0, 0) 25 [(2, v0), (0, v1), (0, v2), (9, 0)] [(0, w8)] L μ7 Q
    refine wa_if_ne 28 30 dX10_begin_25 rfl (by decide) (fun q => ?_) (fun q => ?_)
    · replace h := h.1 q
      refine wa_aload_n 31 dX10_begin_30 rfl rfl ?_
      refine wa_callV 34 0 0 10 (av := []) (rest := []) (k1 := (0, 0)) (k2 := (0, 0)) cvX10_agents dX10_begin_31 rfl wM_X10_75 ⟨rfl, by decide, rfl, Nat.le_of_ble_eq_true rfl, by decide, Nat.le_of_ble_eq_true rfl, rfl, rfl⟩ rfl k0 (TR.mono h (fun r9 L10 μ11 h => ?_))
      obtain ⟨w12, rfl, rfl, h⟩ := h
      show WA mX10_begin 1 (0, 0) 34 [(2, v0), (0, v1), (0, v2), (9, 0)] [(0, w12)] L μ11 Q
      refine wa_istore_n 35 [(2, v0), (0, v1), (0, v2), (0, w12)] dX10_begin_34 rfl rfl rfl ?_
      refine wa_aload_n 36 dX10_begin_35 rfl rfl ?_
      refine wa_iload_n 37 dX10_begin_36 rfl rfl ?_
      refine wa_iload_n 38 dX10_begin_37 rfl rfl ?_
      refine wa_callV 41 0 2 10 (av := [(0, v1), (0, v2)]) (rest := []) (k1 := (0, 0)) (k2 := (0, 0)) cvX10_fresh dX10_begin_38 rfl wM_X10_61 ⟨rfl, by decide, rfl, Nat.le_of_ble_eq_true rfl, by decide, Nat.le_of_ble_eq_true rfl, rfl, rfl⟩ rfl k0 (TR.mono h (fun r13 L14 μ15 h => ?_))
      obtain ⟨rfl, rfl, h⟩ := h
      show WA mX10_begin 1 (0, 0) 41 [(2, v0), (0, v1), (0, v2), (0, w12)] [] L μ15 Q
      refine wa_iload_n 42 dX10_begin_41 rfl rfl ?_
      exact wa_iret dX10_begin_42 rfl h
    · replace h := h.2 q
      refine wa_iconst 29 dX10_begin_28 rfl (by decide) ?_
      exact wa_iret dX10_begin_29 rfl h
set_option maxRecDepth 20000 in
theorem t_X10_best (hL : LayOK L) {v0 v1 v2 : Int} (k0 : isK L v0 (10, 0)) (h : TR mX10_isAgent 1 (0, 0) [(2, v0), (0, v1)] L μ (fun r1 L2 μ3 => ∃ w4, r1 = some (0, w4) ∧ L = L2 ∧ (w4 = 0 → Q (some (0, (-1))) L μ3) ∧ (¬ w4 = 0 → TR mX10_isAgent 1 (0, 0) [(2, v0), (0, v2)] L μ3 (fun r5 L6 μ7 => ∃ w8, r5 = some (0, w8) ∧ L = L6 ∧ (¬ w8 = 0 → WA mX10_best 9 (0, 0) 30 [(2, v0), (0, v1), (0, v2), (0, (-2)), (1, 0), (9, 0), (1, 1), (9, 0), (0, 0), (9, 0)] [] L μ7 Q) ∧ (w8 = 0 → Q (some (0, (-1))) L μ7))))) : TR mX10_best 9 (0, 0) [(2, v0), (0, v1), (0, v2)] L μ Q := by
  refine TR.of (ls := [(2, v0), (0, v1), (0, v2), (9, 0), (9, 0), (9, 0), (9, 0), (9, 0), (9, 0), (9, 0)]) (by decide) (by simp) rfl (Nat.le_of_ble_eq_true rfl) ?_
  refine wa_aload_n 1 dX10_best_0 rfl rfl ?_
  refine wa_iload_n 2 dX10_best_1 rfl rfl ?_
  refine wa_callV 5 1 1 10 (av := [(0, v1)]) (rest := []) (k1 := (0, 0)) (k2 := (0, 0)) cvX10_isAgent dX10_best_2 rfl wM_X10_79 ⟨rfl, by decide, rfl, Nat.le_of_ble_eq_true rfl, by decide, Nat.le_of_ble_eq_true rfl, rfl, rfl⟩ rfl k0 (TR.mono h (fun r1 L2 μ3 h => ?_))
  obtain ⟨w4, rfl, rfl, h⟩ := h
  show WA mX10_best 9 (0, 0) 5 [(2, v0), (0, v1), (0, v2), (9, 0), (9, 0), (9, 0), (9, 0), (9, 0), (9, 0), (9, 0)] [(0, w4)] L μ3 Q
  refine wa_if_eq 8 16 dX10_best_5 rfl (by decide) (fun q => ?_) (fun q => ?_)
  · replace h := h.1 q
    refine wa_iconst 17 dX10_best_16 rfl (by decide) ?_
    exact wa_iret dX10_best_17 rfl h
  · replace h := h.2 q
    refine wa_aload_n 9 dX10_best_8 rfl rfl ?_
    refine wa_iload_n 10 dX10_best_9 rfl rfl ?_
    refine wa_callV 13 1 1 10 (av := [(0, v2)]) (rest := []) (k1 := (0, 0)) (k2 := (0, 0)) cvX10_isAgent dX10_best_10 rfl wM_X10_79 ⟨rfl, by decide, rfl, Nat.le_of_ble_eq_true rfl, by decide, Nat.le_of_ble_eq_true rfl, rfl, rfl⟩ rfl k0 (TR.mono h (fun r5 L6 μ7 h => ?_))
    obtain ⟨w8, rfl, rfl, h⟩ := h
    show WA mX10_best 9 (0, 0) 13 [(2, v0), (0, v1), (0, v2), (9, 0), (9, 0), (9, 0), (9, 0), (9, 0), (9, 0), (9, 0)] [(0, w8)] L μ7 Q
    refine wa_if_ne 16 18 dX10_best_13 rfl (by decide) (fun q => ?_) (fun q => ?_)
    · replace h := h.1 q
      refine wa_bipush 20 dX10_best_18 rfl ⟨by decide, by decide⟩ ?_
      refine wa_istore_n 21 [(2, v0), (0, v1), (0, v2), (0, (-2)), (9, 0), (9, 0), (9, 0), (9, 0), (9, 0), (9, 0)] dX10_best_20 rfl rfl rfl ?_
      refine wa_lconst 22 0 dX10_best_21 rfl ⟨rfl, by decide⟩ ?_
      refine wa_lstore 24 [(2, v0), (0, v1), (0, v2), (0, (-2)), (1, 0), (9, 0), (9, 0), (9, 0), (9, 0), (9, 0)] dX10_best_22 rfl rfl rfl ?_
      refine wa_lconst 25 1 dX10_best_24 rfl ⟨rfl, by decide⟩ ?_
      refine wa_lstore 27 [(2, v0), (0, v1), (0, v2), (0, (-2)), (1, 0), (9, 0), (1, 1), (9, 0), (9, 0), (9, 0)] dX10_best_25 rfl rfl rfl ?_
      refine wa_iconst 28 dX10_best_27 rfl (by decide) ?_
      refine wa_istore 30 [(2, v0), (0, v1), (0, v2), (0, (-2)), (1, 0), (9, 0), (1, 1), (9, 0), (0, 0), (9, 0)] dX10_best_28 rfl rfl rfl ?_
      exact h
    · replace h := h.2 q
      refine wa_iconst 17 dX10_best_16 rfl (by decide) ?_
      exact wa_iret dX10_best_17 rfl h
set_option maxRecDepth 20000 in
theorem s_X10_best_30 (hL : LayOK L) {v0 v1 v2 v3 v4 v6 v8 : Int} (k0 : isK L v0 (10, 0)) (h : (5 ≤ v8 → Q (some (0, v3)) L μ) ∧ (¬ 5 ≤ v8 → TR mX10_mayWay 2 (0, 0) [(2, v0), (0, v8), (0, v2)] L μ (fun r1 L2 μ3 => ∃ w4, r1 = some (0, w4) ∧ L = L2 ∧ (¬ w4 = 0 → WA mX10_best 9 (0, 0) 97 [(2, v0), (0, v1), (0, v2), (9, 0), (1, v4), (9, 0), (1, v6), (9, 0), (0, v8), (0, 0)] [(0, v3)] L μ3 Q) ∧ (w4 = 0 → TR mX10_wouldBring 8 (0, 0) [(2, v0), (0, v8), (0, v2), (0, v1)] L μ3 (fun r5 L6 μ7 => ∃ w8, r5 = some (0, w8) ∧ L = L6 ∧ (w8 = 0 → WA mX10_best 9 (0, 0) 97 [(2, v0), (0, v1), (0, v2), (9, 0), (1, v4), (9, 0), (1, v6), (9, 0), (0, v8), (0, 0)] [(0, v3)] L μ7 Q) ∧ (¬ w8 = 0 → (v3 < 0 → WA mX10_best 9 (0, 0) 97 [(2, v0), (0, v1), (0, v2), (9, 0), (1, v4), (9, 0), (1, v6), (9, 0), (0, v8), (0, 1)] [(0, v8)] L μ7 Q) ∧ (¬ v3 < 0 → TR mX10_isLess 0 (0, 0) [(1, v4), (1, v6), (1, (μ7 v0 4)), (1, (μ7 v0 5))] L μ7 (fun r9 L10 μ11 => ∃ w12, r9 = some (0, w12) ∧ L = L10 ∧ (w12 = 0 → WA mX10_best 9 (0, 0) 97 [(2, v0), (0, v1), (0, v2), (9, 0), (1, v4), (9, 0), (1, v6), (9, 0), (0, v8), (0, 0)] [(0, v3)] L μ11 Q) ∧ (¬ w12 = 0 → WA mX10_best 9 (0, 0) 97 [(2, v0), (0, v1), (0, v2), (9, 0), (1, v4), (9, 0), (1, v6), (9, 0), (0, v8), (0, 1)] [(0, v8)] L μ11 Q))))))))) : WA mX10_best 9 (0, 0) 30 [(2, v0), (0, v1), (0, v2), (0, v3), (1, v4), (9, 0), (1, v6), (9, 0), (0, v8), (9, 0)] [] L μ Q := by
  refine wa_iload 32 dX10_best_30 rfl rfl ?_
  refine wa_iconst 33 dX10_best_32 rfl (by decide) ?_
  refine wa_icmp_ge 36 136 dX10_best_33 rfl (by decide) (fun q => ?_) (fun q => ?_)
  · replace h := h.1 q
    refine wa_iload_n 137 dX10_best_136 rfl rfl ?_
    exact wa_iret dX10_best_137 rfl h
  · replace h := h.2 q
    refine wa_aload_n 37 dX10_best_36 rfl rfl ?_
    refine wa_iload 39 dX10_best_37 rfl rfl ?_
    refine wa_iload_n 40 dX10_best_39 rfl rfl ?_
    refine wa_callV 43 2 2 10 (av := [(0, v8), (0, v2)]) (rest := []) (k1 := (0, 0)) (k2 := (0, 0)) cvX10_mayWay dX10_best_40 rfl wM_X10_318 ⟨rfl, by decide, rfl, Nat.le_of_ble_eq_true rfl, by decide, Nat.le_of_ble_eq_true rfl, rfl, rfl⟩ rfl k0 (TR.mono h (fun r1 L2 μ3 h => ?_))
    obtain ⟨w4, rfl, rfl, h⟩ := h
    show WA mX10_best 9 (0, 0) 43 [(2, v0), (0, v1), (0, v2), (0, v3), (1, v4), (9, 0), (1, v6), (9, 0), (0, v8), (9, 0)] [(0, w4)] L μ3 Q
    refine wa_if_ne 46 83 dX10_best_43 rfl (by decide) (fun q => ?_) (fun q => ?_)
    · replace h := h.1 q
      refine wa_iconst 84 dX10_best_83 rfl (by decide) ?_
      refine wa_istore 86 [(2, v0), (0, v1), (0, v2), (0, v3), (1, v4), (9, 0), (1, v6), (9, 0), (0, v8), (0, 0)] dX10_best_84 rfl rfl rfl ?_
      refine wa_iload 88 dX10_best_86 rfl rfl ?_
      refine wa_if_eq 91 96 dX10_best_88 rfl (by decide) (fun q => ?_) (fun q => ?_)
      · skip
        refine wa_iload_n 97 dX10_best_96 rfl rfl ?_
        exact wa_weak [(2, v0), (0, v1), (0, v2), (9, 0), (1, v4), (9, 0), (1, v6), (9, 0), (0, v8), (0, 0)] ⟨Or.inl rfl, Or.inl rfl, Or.inl rfl, Or.inr rfl, Or.inl rfl, Or.inl rfl, Or.inl rfl, Or.inl rfl, Or.inl rfl, Or.inl rfl, trivial⟩ h
      · exact absurd q (by decide)
    · replace h := h.2 q
      refine wa_aload_n 47 dX10_best_46 rfl rfl ?_
      refine wa_iload 49 dX10_best_47 rfl rfl ?_
      refine wa_iload_n 50 dX10_best_49 rfl rfl ?_
      refine wa_iload_n 51 dX10_best_50 rfl rfl ?_
      refine wa_callV 54 8 3 10 (av := [(0, v8), (0, v2), (0, v1)]) (rest := []) (k1 := (0, 0)) (k2 := (0, 0)) cvX10_wouldBring dX10_best_51 rfl wM_X10_351 ⟨rfl, by decide, rfl, Nat.le_of_ble_eq_true rfl, by decide, Nat.le_of_ble_eq_true rfl, rfl, rfl⟩ rfl k0 (TR.mono h (fun r5 L6 μ7 h => ?_))
      obtain ⟨w8, rfl, rfl, h⟩ := h
      show WA mX10_best 9 (0, 0) 54 [(2, v0), (0, v1), (0, v2), (0, v3), (1, v4), (9, 0), (1, v6), (9, 0), (0, v8), (9, 0)] [(0, w8)] L μ7 Q
      refine wa_if_eq 57 83 dX10_best_54 rfl (by decide) (fun q => ?_) (fun q => ?_)
      · replace h := h.1 q
        refine wa_iconst 84 dX10_best_83 rfl (by decide) ?_
        refine wa_istore 86 [(2, v0), (0, v1), (0, v2), (0, v3), (1, v4), (9, 0), (1, v6), (9, 0), (0, v8), (0, 0)] dX10_best_84 rfl rfl rfl ?_
        refine wa_iload 88 dX10_best_86 rfl rfl ?_
        refine wa_if_eq 91 96 dX10_best_88 rfl (by decide) (fun q => ?_) (fun q => ?_)
        · skip
          refine wa_iload_n 97 dX10_best_96 rfl rfl ?_
          exact wa_weak [(2, v0), (0, v1), (0, v2), (9, 0), (1, v4), (9, 0), (1, v6), (9, 0), (0, v8), (0, 0)] ⟨Or.inl rfl, Or.inl rfl, Or.inl rfl, Or.inr rfl, Or.inl rfl, Or.inl rfl, Or.inl rfl, Or.inl rfl, Or.inl rfl, Or.inl rfl, trivial⟩ h
        · exact absurd q (by decide)
      · replace h := h.2 q
        refine wa_iload_n 58 dX10_best_57 rfl rfl ?_
        refine wa_if_lt 61 79 dX10_best_58 rfl (by decide) (fun q => ?_) (fun q => ?_)
        · replace h := h.1 q
          refine wa_iconst 80 dX10_best_79 rfl (by decide) ?_
          refine wa_goto 84 dX10_best_80 (by decide) ?_
          refine wa_istore 86 [(2, v0), (0, v1), (0, v2), (0, v3), (1, v4), (9, 0), (1, v6), (9, 0), (0, v8), (0, 1)] dX10_best_84 rfl rfl rfl ?_
          refine wa_iload 88 dX10_best_86 rfl rfl ?_
          refine wa_if_eq 91 96 dX10_best_88 rfl (by decide) (fun q => ?_) (fun q => ?_)
          · exact absurd q (by decide)
          · skip
            refine wa_iload 93 dX10_best_91 rfl rfl ?_
            refine wa_goto 97 dX10_best_93 (by decide) ?_
            exact wa_weak [(2, v0), (0, v1), (0, v2), (9, 0), (1, v4), (9, 0), (1, v6), (9, 0), (0, v8), (0, 1)] ⟨Or.inl rfl, Or.inl rfl, Or.inl rfl, Or.inr rfl, Or.inl rfl, Or.inl rfl, Or.inl rfl, Or.inl rfl, Or.inl rfl, Or.inl rfl, trivial⟩ h
        · replace h := h.2 q
          refine wa_lload 63 dX10_best_61 rfl rfl ?_
          refine wa_lload 65 dX10_best_63 rfl rfl ?_
          refine wa_aload_n 66 dX10_best_65 rfl rfl ?_
          refine wa_getL 69 4 dX10_best_66 rfl wF_X10_99 rfl rfl k0 ?_
          refine wa_aload_n 70 dX10_best_69 rfl rfl ?_
          refine wa_getL 73 5 dX10_best_70 rfl wF_X10_103 rfl rfl k0 ?_
          refine wa_callS 76 0 4 (av := [(1, v4), (1, v6), (1, (μ7 v0 4)), (1, (μ7 v0 5))]) (rest := []) (k1 := (0, 0)) (k2 := (0, 0)) cvX10_isLess dX10_best_73 rfl wM_X10_199 ⟨rfl, Nat.le_of_ble_eq_true rfl, by decide, Nat.le_of_ble_eq_true rfl, rfl, rfl⟩ rfl (TR.mono h (fun r9 L10 μ11 h => ?_))
          obtain ⟨w12, rfl, rfl, h⟩ := h
          show WA mX10_best 9 (0, 0) 76 [(2, v0), (0, v1), (0, v2), (0, v3), (1, v4), (9, 0), (1, v6), (9, 0), (0, v8), (9, 0)] [(0, w12)] L μ11 Q
          refine wa_if_eq 79 83 dX10_best_76 rfl (by decide) (fun q => ?_) (fun q => ?_)
          · replace h := h.1 q
            refine wa_iconst 84 dX10_best_83 rfl (by decide) ?_
            refine wa_istore 86 [(2, v0), (0, v1), (0, v2), (0, v3), (1, v4), (9, 0), (1, v6), (9, 0), (0, v8), (0, 0)] dX10_best_84 rfl rfl rfl ?_
            refine wa_iload 88 dX10_best_86 rfl rfl ?_
            refine wa_if_eq 91 96 dX10_best_88 rfl (by decide) (fun q => ?_) (fun q => ?_)
            · skip
              refine wa_iload_n 97 dX10_best_96 rfl rfl ?_
              exact wa_weak [(2, v0), (0, v1), (0, v2), (9, 0), (1, v4), (9, 0), (1, v6), (9, 0), (0, v8), (0, 0)] ⟨Or.inl rfl, Or.inl rfl, Or.inl rfl, Or.inr rfl, Or.inl rfl, Or.inl rfl, Or.inl rfl, Or.inl rfl, Or.inl rfl, Or.inl rfl, trivial⟩ h
            · exact absurd q (by decide)
          · replace h := h.2 q
            refine wa_iconst 80 dX10_best_79 rfl (by decide) ?_
            refine wa_goto 84 dX10_best_80 (by decide) ?_
            refine wa_istore 86 [(2, v0), (0, v1), (0, v2), (0, v3), (1, v4), (9, 0), (1, v6), (9, 0), (0, v8), (0, 1)] dX10_best_84 rfl rfl rfl ?_
            refine wa_iload 88 dX10_best_86 rfl rfl ?_
            refine wa_if_eq 91 96 dX10_best_88 rfl (by decide) (fun q => ?_) (fun q => ?_)
            · exact absurd q (by decide)
            · skip
              refine wa_iload 93 dX10_best_91 rfl rfl ?_
              refine wa_goto 97 dX10_best_93 (by decide) ?_
              exact wa_weak [(2, v0), (0, v1), (0, v2), (9, 0), (1, v4), (9, 0), (1, v6), (9, 0), (0, v8), (0, 1)] ⟨Or.inl rfl, Or.inl rfl, Or.inl rfl, Or.inr rfl, Or.inl rfl, Or.inl rfl, Or.inl rfl, Or.inl rfl, Or.inl rfl, Or.inl rfl, trivial⟩ h
set_option maxRecDepth 20000 in
theorem s_X10_best_97 (hL : LayOK L) {v0 v1 v2 v4 v6 v8 v9 s0 : Int} (k0 : isK L v0 (10, 0)) (h : (v9 = 0 → (v9 = 0 → (inI (v8 + 1)) ∧ WA mX10_best 9 (0, 0) 30 [(2, v0), (0, v1), (0, v2), (0, s0), (1, v4), (9, 0), (1, v6), (9, 0), (0, (v8 + 1)), (9, 0)] [] L μ Q) ∧ (¬ v9 = 0 → (inI (v8 + 1)) ∧ WA mX10_best 9 (0, 0) 30 [(2, v0), (0, v1), (0, v2), (0, s0), (1, v4), (9, 0), (1, (μ v0 5)), (9, 0), (0, (v8 + 1)), (9, 0)] [] L μ Q)) ∧ (¬ v9 = 0 → (v9 = 0 → (inI (v8 + 1)) ∧ WA mX10_best 9 (0, 0) 30 [(2, v0), (0, v1), (0, v2), (0, s0), (1, (μ v0 4)), (9, 0), (1, v6), (9, 0), (0, (v8 + 1)), (9, 0)] [] L μ Q) ∧ (¬ v9 = 0 → (inI (v8 + 1)) ∧ WA mX10_best 9 (0, 0) 30 [(2, v0), (0, v1), (0, v2), (0, s0), (1, (μ v0 4)), (9, 0), (1, (μ v0 5)), (9, 0), (0, (v8 + 1)), (9, 0)] [] L μ Q))) : WA mX10_best 9 (0, 0) 97 [(2, v0), (0, v1), (0, v2), (9, 0), (1, v4), (9, 0), (1, v6), (9, 0), (0, v8), (0, v9)] [(0, s0)] L μ Q := by
  refine wa_istore_n 98 [(2, v0), (0, v1), (0, v2), (0, s0), (1, v4), (9, 0), (1, v6), (9, 0), (0, v8), (0, v9)] dX10_best_97 rfl rfl rfl ?_
  refine wa_iload 100 dX10_best_98 rfl rfl ?_
  refine wa_if_eq 103 110 dX10_best_100 rfl (by decide) (fun q => ?_) (fun q => ?_)
  · replace h := h.1 q
    refine wa_lload 112 dX10_best_110 rfl rfl ?_
    refine wa_lstore 114 [(2, v0), (0, v1), (0, v2), (0, s0), (1, v4), (9, 0), (1, v6), (9, 0), (0, v8), (0, v9)] dX10_best_112 rfl rfl rfl ?_
    refine wa_iload 116 dX10_best_114 rfl rfl ?_
    refine wa_if_eq 119 126 dX10_best_116 rfl (by decide) (fun q => ?_) (fun q => ?_)
    · replace h := h.1 q
      refine wa_lload 128 dX10_best_126 rfl rfl ?_
      refine wa_lstore 130 [(2, v0), (0, v1), (0, v2), (0, s0), (1, v4), (9, 0), (1, v6), (9, 0), (0, v8), (0, v9)] dX10_best_128 rfl rfl rfl ?_
      obtain ⟨c1, h⟩ := h
      refine wa_iinc 133 [(2, v0), (0, v1), (0, v2), (0, s0), (1, v4), (9, 0), (1, v6), (9, 0), (0, (v8 + 1)), (0, v9)] dX10_best_130 rfl rfl rfl c1 rfl ?_
      refine wa_goto 30 dX10_best_133 (by decide) ?_
      exact wa_weak [(2, v0), (0, v1), (0, v2), (0, s0), (1, v4), (9, 0), (1, v6), (9, 0), (0, (v8 + 1)), (9, 0)] ⟨Or.inl rfl, Or.inl rfl, Or.inl rfl, Or.inl rfl, Or.inl rfl, Or.inl rfl, Or.inl rfl, Or.inl rfl, Or.inl rfl, Or.inr rfl, trivial⟩ h
    · replace h := h.2 q
      refine wa_aload_n 120 dX10_best_119 rfl rfl ?_
      refine wa_getL 123 5 dX10_best_120 rfl wF_X10_103 rfl rfl k0 ?_
      refine wa_goto 128 dX10_best_123 (by decide) ?_
      refine wa_lstore 130 [(2, v0), (0, v1), (0, v2), (0, s0), (1, v4), (9, 0), (1, (μ v0 5)), (9, 0), (0, v8), (0, v9)] dX10_best_128 rfl rfl rfl ?_
      obtain ⟨c2, h⟩ := h
      refine wa_iinc 133 [(2, v0), (0, v1), (0, v2), (0, s0), (1, v4), (9, 0), (1, (μ v0 5)), (9, 0), (0, (v8 + 1)), (0, v9)] dX10_best_130 rfl rfl rfl c2 rfl ?_
      refine wa_goto 30 dX10_best_133 (by decide) ?_
      exact wa_weak [(2, v0), (0, v1), (0, v2), (0, s0), (1, v4), (9, 0), (1, (μ v0 5)), (9, 0), (0, (v8 + 1)), (9, 0)] ⟨Or.inl rfl, Or.inl rfl, Or.inl rfl, Or.inl rfl, Or.inl rfl, Or.inl rfl, Or.inl rfl, Or.inl rfl, Or.inl rfl, Or.inr rfl, trivial⟩ h
  · replace h := h.2 q
    refine wa_aload_n 104 dX10_best_103 rfl rfl ?_
    refine wa_getL 107 4 dX10_best_104 rfl wF_X10_99 rfl rfl k0 ?_
    refine wa_goto 112 dX10_best_107 (by decide) ?_
    refine wa_lstore 114 [(2, v0), (0, v1), (0, v2), (0, s0), (1, (μ v0 4)), (9, 0), (1, v6), (9, 0), (0, v8), (0, v9)] dX10_best_112 rfl rfl rfl ?_
    refine wa_iload 116 dX10_best_114 rfl rfl ?_
    refine wa_if_eq 119 126 dX10_best_116 rfl (by decide) (fun q => ?_) (fun q => ?_)
    · replace h := h.1 q
      refine wa_lload 128 dX10_best_126 rfl rfl ?_
      refine wa_lstore 130 [(2, v0), (0, v1), (0, v2), (0, s0), (1, (μ v0 4)), (9, 0), (1, v6), (9, 0), (0, v8), (0, v9)] dX10_best_128 rfl rfl rfl ?_
      obtain ⟨c3, h⟩ := h
      refine wa_iinc 133 [(2, v0), (0, v1), (0, v2), (0, s0), (1, (μ v0 4)), (9, 0), (1, v6), (9, 0), (0, (v8 + 1)), (0, v9)] dX10_best_130 rfl rfl rfl c3 rfl ?_
      refine wa_goto 30 dX10_best_133 (by decide) ?_
      exact wa_weak [(2, v0), (0, v1), (0, v2), (0, s0), (1, (μ v0 4)), (9, 0), (1, v6), (9, 0), (0, (v8 + 1)), (9, 0)] ⟨Or.inl rfl, Or.inl rfl, Or.inl rfl, Or.inl rfl, Or.inl rfl, Or.inl rfl, Or.inl rfl, Or.inl rfl, Or.inl rfl, Or.inr rfl, trivial⟩ h
    · replace h := h.2 q
      refine wa_aload_n 120 dX10_best_119 rfl rfl ?_
      refine wa_getL 123 5 dX10_best_120 rfl wF_X10_103 rfl rfl k0 ?_
      refine wa_goto 128 dX10_best_123 (by decide) ?_
      refine wa_lstore 130 [(2, v0), (0, v1), (0, v2), (0, s0), (1, (μ v0 4)), (9, 0), (1, (μ v0 5)), (9, 0), (0, v8), (0, v9)] dX10_best_128 rfl rfl rfl ?_
      obtain ⟨c4, h⟩ := h
      refine wa_iinc 133 [(2, v0), (0, v1), (0, v2), (0, s0), (1, (μ v0 4)), (9, 0), (1, (μ v0 5)), (9, 0), (0, (v8 + 1)), (0, v9)] dX10_best_130 rfl rfl rfl c4 rfl ?_
      refine wa_goto 30 dX10_best_133 (by decide) ?_
      exact wa_weak [(2, v0), (0, v1), (0, v2), (0, s0), (1, (μ v0 4)), (9, 0), (1, (μ v0 5)), (9, 0), (0, (v8 + 1)), (9, 0)] ⟨Or.inl rfl, Or.inl rfl, Or.inl rfl, Or.inl rfl, Or.inl rfl, Or.inl rfl, Or.inl rfl, Or.inl rfl, Or.inl rfl, Or.inr rfl, trivial⟩ h
set_option maxRecDepth 20000 in
theorem t_X10_byFigures (hL : LayOK L) {v0 v1 : Int} (k0 : isK L v0 (10, 0)) (h : TR mX10_agents 0 (0, 0) [(2, v0)] L μ (fun r1 L2 μ3 => ∃ w4, r1 = some (0, w4) ∧ L = L2 ∧ (inI (w4 - 1)) ∧ WA mX10_byFigures 1 (0, 0) 15 [(2, v0), (9, 0), (0, v1), (0, 0), (1, 0), (9, 0), (0, (w4 - 1)), (9, 0)] [] L μ3 Q)) : TR mX10_byFigures 1 (0, 0) [(2, v0), (0, v1)] L μ Q := by
  refine TR.of (ls := [(2, v0), (0, v1), (9, 0), (9, 0), (9, 0), (9, 0), (9, 0), (9, 0)]) (by decide) (by simp) rfl (Nat.le_of_ble_eq_true rfl) ?_
  refine wa_iload_n 1 dX10_byFigures_0 rfl rfl ?_
  refine wa_istore_n 2 [(2, v0), (0, v1), (0, v1), (9, 0), (9, 0), (9, 0), (9, 0), (9, 0)] dX10_byFigures_1 rfl rfl rfl ?_
  refine wa_iconst 3 dX10_byFigures_2 rfl (by decide) ?_
  refine wa_istore_n 4 [(2, v0), (0, v1), (0, v1), (0, 0), (9, 0), (9, 0), (9, 0), (9, 0)] dX10_byFigures_3 rfl rfl rfl ?_
  refine wa_lconst 5 0 dX10_byFigures_4 rfl ⟨rfl, by decide⟩ ?_
  refine wa_lstore 7 [(2, v0), (0, v1), (0, v1), (0, 0), (1, 0), (9, 0), (9, 0), (9, 0)] dX10_byFigures_5 rfl rfl rfl ?_
  refine wa_aload_n 8 dX10_byFigures_7 rfl rfl ?_
  refine wa_callV 11 0 0 10 (av := []) (rest := []) (k1 := (0, 0)) (k2 := (0, 0)) cvX10_agents dX10_byFigures_8 rfl wM_X10_75 ⟨rfl, by decide, rfl, Nat.le_of_ble_eq_true rfl, by decide, Nat.le_of_ble_eq_true rfl, rfl, rfl⟩ rfl k0 (TR.mono h (fun r1 L2 μ3 h => ?_))
  obtain ⟨w4, rfl, rfl, h⟩ := h
  show WA mX10_byFigures 1 (0, 0) 11 [(2, v0), (0, v1), (0, v1), (0, 0), (1, 0), (9, 0), (9, 0), (9, 0)] [(0, w4)] L μ3 Q
  refine wa_iconst 12 dX10_byFigures_11 rfl (by decide) ?_
  obtain ⟨c5, h⟩ := h
  refine wa_isub 13 dX10_byFigures_12 rfl c5 ?_
  refine wa_istore 15 [(2, v0), (0, v1), (0, v1), (0, 0), (1, 0), (9, 0), (0, (w4 - 1)), (9, 0)] dX10_byFigures_13 rfl rfl rfl ?_
  exact wa_weak [(2, v0), (9, 0), (0, v1), (0, 0), (1, 0), (9, 0), (0, (w4 - 1)), (9, 0)] ⟨Or.inl rfl, Or.inr rfl, Or.inl rfl, Or.inl rfl, Or.inl rfl, Or.inl rfl, Or.inl rfl, Or.inl rfl, trivial⟩ h
set_option maxRecDepth 20000 in
theorem s_X10_byFigures_15 (hL : LayOK L) {v0 v2 v3 v4 v6 : Int} (k0 : isK L v0 (10, 0)) (h : (v6 < 0 → Q (some (1, v4)) L μ) ∧ (¬ v6 < 0 → TR mX10_agents 0 (0, 0) [(2, v0)] L μ (fun r1 L2 μ3 => ∃ w4, r1 = some (0, w4) ∧ L = L2 ∧ (0 ≤ v2 ∧ 0 < w4) ∧ TR mX10_agents 0 (0, 0) [(2, v0)] L μ3 (fun r6 L7 μ8 => ∃ w9, r6 = some (0, w9) ∧ L = L7 ∧ (0 ≤ v2 ∧ 0 < w9) ∧ (¬ (bAnd ((bShr v3 ((v2 % w4)))) 1) = 1 → (inI (5 * v6)) ∧ (inI ((5 * v6) + (v2 % w4))) ∧ (0 ≤ ((5 * v6) + (v2 % w4)) ∧ ((5 * v6) + (v2 % w4)) < 25) ∧ (inL (v4 + (μ8 ((rf L v0 23)) (((5 * v6) + (v2 % w4)))))) ∧ (inI (v6 + (-1))) ∧ WA mX10_byFigures 1 (0, 0) 15 [(2, v0), (9, 0), (0, (v2 / w9)), (0, (bOr v3 ((bShl 1 ((v2 % w4)))))), (1, (v4 + (μ8 ((rf L v0 23)) (((5 * v6) + (v2 % w4)))))), (9, 0), (0, (v6 + (-1))), (9, 0)] [] L μ8 Q) ∧ ((bAnd ((bShr v3 ((v2 % w4)))) 1) = 1 → Q (some (1, (-1))) L μ8))))) : WA mX10_byFigures 1 (0, 0) 15 [(2, v0), (9, 0), (0, v2), (0, v3), (1, v4), (9, 0), (0, v6), (9, 0)] [] L μ Q := by
  refine wa_iload 17 dX10_byFigures_15 rfl rfl ?_
  refine wa_if_lt 20 79 dX10_byFigures_17 rfl (by decide) (fun q => ?_) (fun q => ?_)
  · replace h := h.1 q
    refine wa_lload 81 dX10_byFigures_79 rfl rfl ?_
    exact wa_lret dX10_byFigures_81 rfl h
  · replace h := h.2 q
    refine wa_iload_n 21 dX10_byFigures_20 rfl rfl ?_
    refine wa_aload_n 22 dX10_byFigures_21 rfl rfl ?_
    refine wa_callV 25 0 0 10 (av := []) (rest := [(0, v2)]) (k1 := (0, 0)) (k2 := (0, 0)) cvX10_agents dX10_byFigures_22 rfl wM_X10_75 ⟨rfl, by decide, rfl, Nat.le_of_ble_eq_true rfl, by decide, Nat.le_of_ble_eq_true rfl, rfl, rfl⟩ rfl k0 (TR.mono h (fun r1 L2 μ3 h => ?_))
    obtain ⟨w4, rfl, rfl, h⟩ := h
    show WA mX10_byFigures 1 (0, 0) 25 [(2, v0), (9, 0), (0, v2), (0, v3), (1, v4), (9, 0), (0, v6), (9, 0)] [(0, w4), (0, v2)] L μ3 Q
    obtain ⟨c5, h⟩ := h
    refine wa_iremE 26 dX10_byFigures_25 rfl c5 ?_
    refine wa_istore 28 [(2, v0), (9, 0), (0, v2), (0, v3), (1, v4), (9, 0), (0, v6), (0, (v2 % w4))] dX10_byFigures_26 rfl rfl rfl ?_
    refine wa_iload_n 29 dX10_byFigures_28 rfl rfl ?_
    refine wa_aload_n 30 dX10_byFigures_29 rfl rfl ?_
    refine wa_callV 33 0 0 10 (av := []) (rest := [(0, v2)]) (k1 := (0, 0)) (k2 := (0, 0)) cvX10_agents dX10_byFigures_30 rfl wM_X10_75 ⟨rfl, by decide, rfl, Nat.le_of_ble_eq_true rfl, by decide, Nat.le_of_ble_eq_true rfl, rfl, rfl⟩ rfl k0 (TR.mono h (fun r6 L7 μ8 h => ?_))
    obtain ⟨w9, rfl, rfl, h⟩ := h
    show WA mX10_byFigures 1 (0, 0) 33 [(2, v0), (9, 0), (0, v2), (0, v3), (1, v4), (9, 0), (0, v6), (0, (v2 % w4))] [(0, w9), (0, v2)] L μ8 Q
    obtain ⟨c10, h⟩ := h
    refine wa_idivE 34 dX10_byFigures_33 rfl c10 ?_
    refine wa_istore_n 35 [(2, v0), (9, 0), (0, (v2 / w9)), (0, v3), (1, v4), (9, 0), (0, v6), (0, (v2 % w4))] dX10_byFigures_34 rfl rfl rfl ?_
    refine wa_iload_n 36 dX10_byFigures_35 rfl rfl ?_
    refine wa_iload 38 dX10_byFigures_36 rfl rfl ?_
    refine wa_ishr 39 dX10_byFigures_38 rfl ?_
    refine wa_iconst 40 dX10_byFigures_39 rfl (by decide) ?_
    refine wa_iand 41 dX10_byFigures_40 rfl ?_
    refine wa_iconst 42 dX10_byFigures_41 rfl (by decide) ?_
    refine wa_icmp_ne 45 49 dX10_byFigures_42 rfl (by decide) (fun q => ?_) (fun q => ?_)
    · replace h := h.1 q
      refine wa_iload_n 50 dX10_byFigures_49 rfl rfl ?_
      refine wa_iconst 51 dX10_byFigures_50 rfl (by decide) ?_
      refine wa_iload 53 dX10_byFigures_51 rfl rfl ?_
      refine wa_ishl 54 dX10_byFigures_53 rfl ?_
      refine wa_ior 55 dX10_byFigures_54 rfl ?_
      refine wa_istore_n 56 [(2, v0), (9, 0), (0, (v2 / w9)), (0, (bOr v3 ((bShl 1 ((v2 % w4)))))), (1, v4), (9, 0), (0, v6), (0, (v2 % w4))] dX10_byFigures_55 rfl rfl rfl ?_
      refine wa_lload 58 dX10_byFigures_56 rfl rfl ?_
      refine wa_aload_n 59 dX10_byFigures_58 rfl rfl ?_
      have e11 : isK L (rf L v0 23) (21, 25) := lay_f hL k0 23 rfl
      refine wa_getR 62 23 dX10_byFigures_59 rfl wF_X10_46 rfl rfl ⟨k0, isK_pos e11⟩ ?_
      refine wa_iconst 63 dX10_byFigures_62 rfl (by decide) ?_
      refine wa_iload 65 dX10_byFigures_63 rfl rfl ?_
      obtain ⟨c12, h⟩ := h
      refine wa_imul 66 dX10_byFigures_65 rfl c12 ?_
      refine wa_iload 68 dX10_byFigures_66 rfl rfl ?_
      obtain ⟨c13, h⟩ := h
      refine wa_iadd 69 dX10_byFigures_68 rfl c13 ?_
      obtain ⟨c14, h⟩ := h
      refine wa_laload 70 dX10_byFigures_69 rfl (okA_of e11 c14) ?_
      obtain ⟨c15, h⟩ := h
      refine wa_ladd 71 dX10_byFigures_70 rfl c15 ?_
      refine wa_lstore 73 [(2, v0), (9, 0), (0, (v2 / w9)), (0, (bOr v3 ((bShl 1 ((v2 % w4)))))), (1, (v4 + (μ8 ((rf L v0 23)) (((5 * v6) + (v2 % w4)))))), (9, 0), (0, v6), (0, (v2 % w4))] dX10_byFigures_71 rfl rfl rfl ?_
      obtain ⟨c16, h⟩ := h
      refine wa_iinc 76 [(2, v0), (9, 0), (0, (v2 / w9)), (0, (bOr v3 ((bShl 1 ((v2 % w4)))))), (1, (v4 + (μ8 ((rf L v0 23)) (((5 * v6) + (v2 % w4)))))), (9, 0), (0, (v6 + (-1))), (0, (v2 % w4))] dX10_byFigures_73 rfl rfl rfl c16 rfl ?_
      refine wa_goto 15 dX10_byFigures_76 (by decide) ?_
      exact wa_weak [(2, v0), (9, 0), (0, (v2 / w9)), (0, (bOr v3 ((bShl 1 ((v2 % w4)))))), (1, (v4 + (μ8 ((rf L v0 23)) (((5 * v6) + (v2 % w4)))))), (9, 0), (0, (v6 + (-1))), (9, 0)] ⟨Or.inl rfl, Or.inl rfl, Or.inl rfl, Or.inl rfl, Or.inl rfl, Or.inl rfl, Or.inl rfl, Or.inr rfl, trivial⟩ h
    · replace h := h.2 q
      refine wa_ldc2 48 (-1) dX10_byFigures_45 rfl wJ_X10_142 ⟨rfl, by decide⟩ ?_
      exact wa_lret dX10_byFigures_48 rfl h
set_option maxRecDepth 20000 in
theorem t_X10_chooses (hL : LayOK L) {v0 : Int} (k0 : isK L v0 (10, 0)) (h : TR mX10_ordered 1 (0, 0) [(2, v0), (0, 0)] L μ (fun r1 L2 μ3 => ∃ w4, r1 = some (0, w4) ∧ L = L2 ∧ TR mX10_ordered 1 (0, 0) [(2, v0), (0, 1)] L μ3 (fun r5 L6 μ7 => ∃ w8, r5 = some (0, w8) ∧ L = L6 ∧ TR mX10_allOf 2 (0, 0) [(2, v0), (0, w4), (0, 1)] L μ7 (fun r9 L10 μ11 => ∃ w12, r9 = some (1, w12) ∧ L = L10 ∧ TR mX10_marksPoint 3 (0, 0) [(2, v0), (0, w4), (1, 0), (1, 1), (1, w12), (1, 2), (0, 1)] L μ11 (fun r13 L14 μ15 => r13 = none ∧ L = L14 ∧ ((μ15 v0 11) = 0 → (0 ≤ w4 ∧ w4 < 5) ∧ TR mX10_worthBetween 2 (0, 0) [(2, v0), (0, w8), (0, 1), (1, 0), (1, 1), (1, (μ15 ((rf L v0 13)) w4)), (1, (μ15 ((rf L v0 14)) w4))] L μ15 (fun r19 L20 μ21 => r19 = none ∧ L = L20 ∧ TR mX10_ends 0 (0, 0) [(2, v0)] L μ21 (fun r22 L23 μ24 => ∃ w25, r22 = some (1, w25) ∧ L = L23 ∧ TR mX10_worthBetween 2 (0, 0) [(2, v0), (0, w8), (0, 1), (1, (μ15 ((rf L v0 13)) w4)), (1, (μ15 ((rf L v0 14)) w4)), (1, w25), (1, 1)] L μ24 (fun r26 L27 μ28 => r26 = none ∧ L = L27 ∧ TR mX10_isLess 0 (0, 0) [(1, (μ21 v0 4)), (1, (μ21 v0 5)), (1, (μ28 v0 4)), (1, (μ28 v0 5))] L μ28 (fun r29 L30 μ31 => ∃ w32, r29 = some (0, w32) ∧ L = L30 ∧ (w32 = 0 → (w32 = 0 → WA mX10_chooses 4 (0, 0) 129 [(2, v0), (0, w4), (9, 0), (1, (μ15 ((rf L v0 13)) w4)), (9, 0), (1, (μ15 ((rf L v0 14)) w4)), (9, 0), (9, 0), (9, 0), (9, 0), (9, 0), (0, w32)] [(1, 1), (1, 0), (0, w8), (2, v0)] L μ31 Q) ∧ (¬ w32 = 0 → WA mX10_chooses 4 (0, 0) 129 [(2, v0), (0, w4), (9, 0), (1, (μ15 ((rf L v0 13)) w4)), (9, 0), (1, (μ15 ((rf L v0 14)) w4)), (9, 0), (9, 0), (9, 0), (9, 0), (9, 0), (0, w32)] [(1, (μ15 ((rf L v0 14)) w4)), (1, 0), (0, w8), (2, v0)] L μ31 Q)) ∧ (¬ w32 = 0 → (w32 = 0 → WA mX10_chooses 4 (0, 0) 129 [(2, v0), (0, w4), (9, 0), (1, (μ15 ((rf L v0 13)) w4)), (9, 0), (1, (μ15 ((rf L v0 14)) w4)), (9, 0), (9, 0), (9, 0), (9, 0), (9, 0), (0, w32)] [(1, 1), (1, (μ15 ((rf L v0 13)) w4)), (0, w8), (2, v0)] L μ31 Q) ∧ (¬ w32 = 0 → WA mX10_chooses 4 (0, 0) 129 [(2, v0), (0, w4), (9, 0), (1, (μ15 ((rf L v0 13)) w4)), (9, 0), (1, (μ15 ((rf L v0 14)) w4)), (9, 0), (9, 0), (9, 0), (9, 0), (9, 0), (0, w32)] [(1, (μ15 ((rf L v0 14)) w4)), (1, (μ15 ((rf L v0 13)) w4)), (0, w8), (2, v0)] L μ31 Q))))))) ∧ (¬ (μ15 v0 11) = 0 → Q none L μ15)))))) : TR mX10_chooses 4 (0, 0) [(2, v0)] L μ Q := by
  refine TR.of (ls := [(2, v0), (9, 0), (9, 0), (9, 0), (9, 0), (9, 0), (9, 0), (9, 0), (9, 0), (9, 0), (9, 0), (9, 0)]) (by decide) (by simp) rfl (Nat.le_of_ble_eq_true rfl) ?_
  refine wa_aload_n 1 dX10_chooses_0 rfl rfl ?_
  refine wa_iconst 2 dX10_chooses_1 rfl (by decide) ?_
  refine wa_callV 5 1 1 10 (av := [(0, 0)]) (rest := []) (k1 := (0, 0)) (k2 := (0, 0)) cvX10_ordered dX10_chooses_2 rfl wM_X10_242 ⟨rfl, by decide, rfl, Nat.le_of_ble_eq_true rfl, by decide, Nat.le_of_ble_eq_true rfl, rfl, rfl⟩ rfl k0 (TR.mono h (fun r1 L2 μ3 h => ?_))
  obtain ⟨w4, rfl, rfl, h⟩ := h
  show WA mX10_chooses 4 (0, 0) 5 [(2, v0), (9, 0), (9, 0), (9, 0), (9, 0), (9, 0), (9, 0), (9, 0), (9, 0), (9, 0), (9, 0), (9, 0)] [(0, w4)] L μ3 Q
  refine wa_istore_n 6 [(2, v0), (0, w4), (9, 0), (9, 0), (9, 0), (9, 0), (9, 0), (9, 0), (9, 0), (9, 0), (9, 0), (9, 0)] dX10_chooses_5 rfl rfl rfl ?_
  refine wa_aload_n 7 dX10_chooses_6 rfl rfl ?_
  refine wa_iconst 8 dX10_chooses_7 rfl (by decide) ?_
  refine wa_callV 11 1 1 10 (av := [(0, 1)]) (rest := []) (k1 := (0, 0)) (k2 := (0, 0)) cvX10_ordered dX10_chooses_8 rfl wM_X10_242 ⟨rfl, by decide, rfl, Nat.le_of_ble_eq_true rfl, by decide, Nat.le_of_ble_eq_true rfl, rfl, rfl⟩ rfl k0 (TR.mono h (fun r5 L6 μ7 h => ?_))
  obtain ⟨w8, rfl, rfl, h⟩ := h
  show WA mX10_chooses 4 (0, 0) 11 [(2, v0), (0, w4), (9, 0), (9, 0), (9, 0), (9, 0), (9, 0), (9, 0), (9, 0), (9, 0), (9, 0), (9, 0)] [(0, w8)] L μ7 Q
  refine wa_istore_n 12 [(2, v0), (0, w4), (0, w8), (9, 0), (9, 0), (9, 0), (9, 0), (9, 0), (9, 0), (9, 0), (9, 0), (9, 0)] dX10_chooses_11 rfl rfl rfl ?_
  refine wa_aload_n 13 dX10_chooses_12 rfl rfl ?_
  refine wa_iload_n 14 dX10_chooses_13 rfl rfl ?_
  refine wa_lconst 15 0 dX10_chooses_14 rfl ⟨rfl, by decide⟩ ?_
  refine wa_lconst 16 1 dX10_chooses_15 rfl ⟨rfl, by decide⟩ ?_
  refine wa_aload_n 17 dX10_chooses_16 rfl rfl ?_
  refine wa_iload_n 18 dX10_chooses_17 rfl rfl ?_
  refine wa_iconst 19 dX10_chooses_18 rfl (by decide) ?_
  refine wa_callV 22 2 2 10 (av := [(0, w4), (0, 1)]) (rest := [(1, 1), (1, 0), (0, w4), (2, v0)]) (k1 := (0, 0)) (k2 := (0, 0)) cvX10_allOf dX10_chooses_19 rfl wM_X10_128 ⟨rfl, by decide, rfl, Nat.le_of_ble_eq_true rfl, by decide, Nat.le_of_ble_eq_true rfl, rfl, rfl⟩ rfl k0 (TR.mono h (fun r9 L10 μ11 h => ?_))
  obtain ⟨w12, rfl, rfl, h⟩ := h
  show WA mX10_chooses 4 (0, 0) 22 [(2, v0), (0, w4), (0, w8), (9, 0), (9, 0), (9, 0), (9, 0), (9, 0), (9, 0), (9, 0), (9, 0), (9, 0)] [(1, w12), (1, 1), (1, 0), (0, w4), (2, v0)] L μ11 Q
  refine wa_ldc2 25 2 dX10_chooses_22 rfl wJ_X10_69 ⟨rfl, by decide⟩ ?_
  refine wa_iconst 26 dX10_chooses_25 rfl (by decide) ?_
  refine wa_callV 29 3 6 10 (av := [(0, w4), (1, 0), (1, 1), (1, w12), (1, 2), (0, 1)]) (rest := []) (k1 := (0, 0)) (k2 := (0, 0)) cvX10_marksPoint dX10_chooses_26 rfl wM_X10_245 ⟨rfl, by decide, rfl, Nat.le_of_ble_eq_true rfl, by decide, Nat.le_of_ble_eq_true rfl, rfl, rfl⟩ rfl k0 (TR.mono h (fun r13 L14 μ15 h => ?_))
  obtain ⟨rfl, rfl, h⟩ := h
  show WA mX10_chooses 4 (0, 0) 29 [(2, v0), (0, w4), (0, w8), (9, 0), (9, 0), (9, 0), (9, 0), (9, 0), (9, 0), (9, 0), (9, 0), (9, 0)] [] L μ15 Q
  refine wa_aload_n 30 dX10_chooses_29 rfl rfl ?_
  refine wa_getI 33 11 dX10_chooses_30 rfl wF_X10_219 rfl rfl k0 ?_
  refine wa_if_eq 36 37 dX10_chooses_33 rfl (by decide) (fun q => ?_) (fun q => ?_)
  · replace h := h.1 q
    refine wa_aload_n 38 dX10_chooses_37 rfl rfl ?_
    have e16 : isK L (rf L v0 13) (21, 5) := lay_f hL k0 13 rfl
    refine wa_getR 41 13 dX10_chooses_38 rfl wF_X10_25 rfl rfl ⟨k0, isK_pos e16⟩ ?_
    refine wa_iload_n 42 dX10_chooses_41 rfl rfl ?_
    obtain ⟨c17, h⟩ := h
    refine wa_laload 43 dX10_chooses_42 rfl (okA_of e16 c17) ?_
    refine wa_lstore_n 44 [(2, v0), (0, w4), (0, w8), (1, (μ15 ((rf L v0 13)) w4)), (9, 0), (9, 0), (9, 0), (9, 0), (9, 0), (9, 0), (9, 0), (9, 0)] dX10_chooses_43 rfl rfl rfl ?_
    refine wa_aload_n 45 dX10_chooses_44 rfl rfl ?_
    have e18 : isK L (rf L v0 14) (21, 5) := lay_f hL k0 14 rfl
    refine wa_getR 48 14 dX10_chooses_45 rfl wF_X10_28 rfl rfl ⟨k0, isK_pos e18⟩ ?_
    refine wa_iload_n 49 dX10_chooses_48 rfl rfl ?_
    refine wa_laload 50 dX10_chooses_49 rfl (okA_of e18 c17) ?_
    refine wa_lstore 52 [(2, v0), (0, w4), (0, w8), (1, (μ15 ((rf L v0 13)) w4)), (9, 0), (1, (μ15 ((rf L v0 14)) w4)), (9, 0), (9, 0), (9, 0), (9, 0), (9, 0), (9, 0)] dX10_chooses_50 rfl rfl rfl ?_
    refine wa_aload_n 53 dX10_chooses_52 rfl rfl ?_
    refine wa_iload_n 54 dX10_chooses_53 rfl rfl ?_
    refine wa_iconst 55 dX10_chooses_54 rfl (by decide) ?_
    refine wa_lconst 56 0 dX10_chooses_55 rfl ⟨rfl, by decide⟩ ?_
    refine wa_lconst 57 1 dX10_chooses_56 rfl ⟨rfl, by decide⟩ ?_
    refine wa_lload_n 58 dX10_chooses_57 rfl rfl ?_
    refine wa_lload 60 dX10_chooses_58 rfl rfl ?_
    refine wa_callV 63 2 6 10 (av := [(0, w8), (0, 1), (1, 0), (1, 1), (1, (μ15 ((rf L v0 13)) w4)), (1, (μ15 ((rf L v0 14)) w4))]) (rest := []) (k1 := (0, 0)) (k2 := (0, 0)) cvX10_worthBetween dX10_chooses_60 rfl wM_X10_118 ⟨rfl, by decide, rfl, Nat.le_of_ble_eq_true rfl, by decide, Nat.le_of_ble_eq_true rfl, rfl, rfl⟩ rfl k0 (TR.mono h (fun r19 L20 μ21 h => ?_))
    obtain ⟨rfl, rfl, h⟩ := h
    show WA mX10_chooses 4 (0, 0) 63 [(2, v0), (0, w4), (0, w8), (1, (μ15 ((rf L v0 13)) w4)), (9, 0), (1, (μ15 ((rf L v0 14)) w4)), (9, 0), (9, 0), (9, 0), (9, 0), (9, 0), (9, 0)] [] L μ21 Q
    refine wa_aload_n 64 dX10_chooses_63 rfl rfl ?_
    refine wa_getL 67 4 dX10_chooses_64 rfl wF_X10_99 rfl rfl k0 ?_
    refine wa_lstore 69 [(2, v0), (0, w4), (0, w8), (1, (μ15 ((rf L v0 13)) w4)), (9, 0), (1, (μ15 ((rf L v0 14)) w4)), (9, 0), (1, (μ21 v0 4)), (9, 0), (9, 0), (9, 0), (9, 0)] dX10_chooses_67 rfl rfl rfl ?_
    refine wa_aload_n 70 dX10_chooses_69 rfl rfl ?_
    refine wa_getL 73 5 dX10_chooses_70 rfl wF_X10_103 rfl rfl k0 ?_
    refine wa_lstore 75 [(2, v0), (0, w4), (0, w8), (1, (μ15 ((rf L v0 13)) w4)), (9, 0), (1, (μ15 ((rf L v0 14)) w4)), (9, 0), (1, (μ21 v0 4)), (9, 0), (1, (μ21 v0 5)), (9, 0), (9, 0)] dX10_chooses_73 rfl rfl rfl ?_
    refine wa_aload_n 76 dX10_chooses_75 rfl rfl ?_
    refine wa_iload_n 77 dX10_chooses_76 rfl rfl ?_
    refine wa_iconst 78 dX10_chooses_77 rfl (by decide) ?_
    refine wa_lload_n 79 dX10_chooses_78 rfl rfl ?_
    refine wa_lload 81 dX10_chooses_79 rfl rfl ?_
    refine wa_aload_n 82 dX10_chooses_81 rfl rfl ?_
    refine wa_callV 85 0 0 10 (av := []) (rest := [(1, (μ15 ((rf L v0 14)) w4)), (1, (μ15 ((rf L v0 13)) w4)), (0, 1), (0, w8), (2, v0)]) (k1 := (0, 0)) (k2 := (0, 0)) cvX10_ends dX10_chooses_82 rfl wM_X10_249 ⟨rfl, by decide, rfl, Nat.le_of_ble_eq_true rfl, by decide, Nat.le_of_ble_eq_true rfl, rfl, rfl⟩ rfl k0 (TR.mono h (fun r22 L23 μ24 h => ?_))
    obtain ⟨w25, rfl, rfl, h⟩ := h
    show WA mX10_chooses 4 (0, 0) 85 [(2, v0), (0, w4), (0, w8), (1, (μ15 ((rf L v0 13)) w4)), (9, 0), (1, (μ15 ((rf L v0 14)) w4)), (9, 0), (1, (μ21 v0 4)), (9, 0), (1, (μ21 v0 5)), (9, 0), (9, 0)] [(1, w25), (1, (μ15 ((rf L v0 14)) w4)), (1, (μ15 ((rf L v0 13)) w4)), (0, 1), (0, w8), (2, v0)] L μ24 Q
    refine wa_lconst 86 1 dX10_chooses_85 rfl ⟨rfl, by decide⟩ ?_
    refine wa_callV 89 2 6 10 (av := [(0, w8), (0, 1), (1, (μ15 ((rf L v0 13)) w4)), (1, (μ15 ((rf L v0 14)) w4)), (1, w25), (1, 1)]) (rest := []) (k1 := (0, 0)) (k2 := (0, 0)) cvX10_worthBetween dX10_chooses_86 rfl wM_X10_118 ⟨rfl, by decide, rfl, Nat.le_of_ble_eq_true rfl, by decide, Nat.le_of_ble_eq_true rfl, rfl, rfl⟩ rfl k0 (TR.mono h (fun r26 L27 μ28 h => ?_))
    obtain ⟨rfl, rfl, h⟩ := h
    show WA mX10_chooses 4 (0, 0) 89 [(2, v0), (0, w4), (0, w8), (1, (μ15 ((rf L v0 13)) w4)), (9, 0), (1, (μ15 ((rf L v0 14)) w4)), (9, 0), (1, (μ21 v0 4)), (9, 0), (1, (μ21 v0 5)), (9, 0), (9, 0)] [] L μ28 Q
    refine wa_lload 91 dX10_chooses_89 rfl rfl ?_
    refine wa_lload 93 dX10_chooses_91 rfl rfl ?_
    refine wa_aload_n 94 dX10_chooses_93 rfl rfl ?_
    refine wa_getL 97 4 dX10_chooses_94 rfl wF_X10_99 rfl rfl k0 ?_
    refine wa_aload_n 98 dX10_chooses_97 rfl rfl ?_
    refine wa_getL 101 5 dX10_chooses_98 rfl wF_X10_103 rfl rfl k0 ?_
    refine wa_callS 104 0 4 (av := [(1, (μ21 v0 4)), (1, (μ21 v0 5)), (1, (μ28 v0 4)), (1, (μ28 v0 5))]) (rest := []) (k1 := (0, 0)) (k2 := (0, 0)) cvX10_isLess dX10_chooses_101 rfl wM_X10_199 ⟨rfl, Nat.le_of_ble_eq_true rfl, by decide, Nat.le_of_ble_eq_true rfl, rfl, rfl⟩ rfl (TR.mono h (fun r29 L30 μ31 h => ?_))
    obtain ⟨w32, rfl, rfl, h⟩ := h
    show WA mX10_chooses 4 (0, 0) 104 [(2, v0), (0, w4), (0, w8), (1, (μ15 ((rf L v0 13)) w4)), (9, 0), (1, (μ15 ((rf L v0 14)) w4)), (9, 0), (1, (μ21 v0 4)), (9, 0), (1, (μ21 v0 5)), (9, 0), (9, 0)] [(0, w32)] L μ31 Q
    refine wa_istore 106 [(2, v0), (0, w4), (0, w8), (1, (μ15 ((rf L v0 13)) w4)), (9, 0), (1, (μ15 ((rf L v0 14)) w4)), (9, 0), (1, (μ21 v0 4)), (9, 0), (1, (μ21 v0 5)), (9, 0), (0, w32)] dX10_chooses_104 rfl rfl rfl ?_
    refine wa_aload_n 107 dX10_chooses_106 rfl rfl ?_
    refine wa_iload_n 108 dX10_chooses_107 rfl rfl ?_
    refine wa_iload 110 dX10_chooses_108 rfl rfl ?_
    refine wa_if_eq 113 117 dX10_chooses_110 rfl (by decide) (fun q => ?_) (fun q => ?_)
    · replace h := h.1 q
      refine wa_lconst 118 0 dX10_chooses_117 rfl ⟨rfl, by decide⟩ ?_
      refine wa_iload 120 dX10_chooses_118 rfl rfl ?_
      refine wa_if_eq 123 128 dX10_chooses_120 rfl (by decide) (fun q => ?_) (fun q => ?_)
      · replace h := h.1 q
        refine wa_lconst 129 1 dX10_chooses_128 rfl ⟨rfl, by decide⟩ ?_
        exact wa_weak [(2, v0), (0, w4), (9, 0), (1, (μ15 ((rf L v0 13)) w4)), (9, 0), (1, (μ15 ((rf L v0 14)) w4)), (9, 0), (9, 0), (9, 0), (9, 0), (9, 0), (0, w32)] ⟨Or.inl rfl, Or.inl rfl, Or.inr rfl, Or.inl rfl, Or.inl rfl, Or.inl rfl, Or.inl rfl, Or.inr rfl, Or.inl rfl, Or.inr rfl, Or.inl rfl, Or.inl rfl, trivial⟩ h
      · replace h := h.2 q
        refine wa_lload 125 dX10_chooses_123 rfl rfl ?_
        refine wa_goto 129 dX10_chooses_125 (by decide) ?_
        exact wa_weak [(2, v0), (0, w4), (9, 0), (1, (μ15 ((rf L v0 13)) w4)), (9, 0), (1, (μ15 ((rf L v0 14)) w4)), (9, 0), (9, 0), (9, 0), (9, 0), (9, 0), (0, w32)] ⟨Or.inl rfl, Or.inl rfl, Or.inr rfl, Or.inl rfl, Or.inl rfl, Or.inl rfl, Or.inl rfl, Or.inr rfl, Or.inl rfl, Or.inr rfl, Or.inl rfl, Or.inl rfl, trivial⟩ h
    · replace h := h.2 q
      refine wa_lload_n 114 dX10_chooses_113 rfl rfl ?_
      refine wa_goto 118 dX10_chooses_114 (by decide) ?_
      refine wa_iload 120 dX10_chooses_118 rfl rfl ?_
      refine wa_if_eq 123 128 dX10_chooses_120 rfl (by decide) (fun q => ?_) (fun q => ?_)
      · replace h := h.1 q
        refine wa_lconst 129 1 dX10_chooses_128 rfl ⟨rfl, by decide⟩ ?_
        exact wa_weak [(2, v0), (0, w4), (9, 0), (1, (μ15 ((rf L v0 13)) w4)), (9, 0), (1, (μ15 ((rf L v0 14)) w4)), (9, 0), (9, 0), (9, 0), (9, 0), (9, 0), (0, w32)] ⟨Or.inl rfl, Or.inl rfl, Or.inr rfl, Or.inl rfl, Or.inl rfl, Or.inl rfl, Or.inl rfl, Or.inr rfl, Or.inl rfl, Or.inr rfl, Or.inl rfl, Or.inl rfl, trivial⟩ h
      · replace h := h.2 q
        refine wa_lload 125 dX10_chooses_123 rfl rfl ?_
        refine wa_goto 129 dX10_chooses_125 (by decide) ?_
        exact wa_weak [(2, v0), (0, w4), (9, 0), (1, (μ15 ((rf L v0 13)) w4)), (9, 0), (1, (μ15 ((rf L v0 14)) w4)), (9, 0), (9, 0), (9, 0), (9, 0), (9, 0), (0, w32)] ⟨Or.inl rfl, Or.inl rfl, Or.inr rfl, Or.inl rfl, Or.inl rfl, Or.inl rfl, Or.inl rfl, Or.inr rfl, Or.inl rfl, Or.inr rfl, Or.inl rfl, Or.inl rfl, trivial⟩ h
  · replace h := h.2 q
    exact wa_vret dX10_chooses_36 rfl h
set_option maxRecDepth 20000 in
theorem s_X10_chooses_129 (hL : LayOK L) {v0 v1 v3 v5 v11 s0 s1 s2 s3 : Int} (k0 : isK L v0 (10, 0)) (ks0 : isK L s0 (10, 0)) (h : (v11 = 0 → (v11 = 0 → WA mX10_chooses 4 (0, 0) 153 [(2, v0), (0, v1), (9, 0), (1, v3), (9, 0), (1, v5), (9, 0), (9, 0), (9, 0), (9, 0), (9, 0), (0, v11)] [(1, v5), (1, v3), (1, s3), (1, s2), (0, s1), (2, s0)] L μ Q) ∧ (¬ v11 = 0 → WA mX10_chooses 4 (0, 0) 153 [(2, v0), (0, v1), (9, 0), (1, v3), (9, 0), (1, v5), (9, 0), (9, 0), (9, 0), (9, 0), (9, 0), (0, v11)] [(1, 1), (1, v3), (1, s3), (1, s2), (0, s1), (2, s0)] L μ Q)) ∧ (¬ v11 = 0 → TR mX10_ends 0 (0, 0) [(2, v0)] L μ (fun r1 L2 μ3 => ∃ w4, r1 = some (1, w4) ∧ L = L2 ∧ (v11 = 0 → WA mX10_chooses 4 (0, 0) 153 [(2, v0), (0, v1), (9, 0), (1, v3), (9, 0), (1, v5), (9, 0), (9, 0), (9, 0), (9, 0), (9, 0), (0, v11)] [(1, v5), (1, w4), (1, s3), (1, s2), (0, s1), (2, s0)] L μ3 Q) ∧ (¬ v11 = 0 → WA mX10_chooses 4 (0, 0) 153 [(2, v0), (0, v1), (9, 0), (1, v3), (9, 0), (1, v5), (9, 0), (9, 0), (9, 0), (9, 0), (9, 0), (0, v11)] [(1, 1), (1, w4), (1, s3), (1, s2), (0, s1), (2, s0)] L μ3 Q)))) : WA mX10_chooses 4 (0, 0) 129 [(2, v0), (0, v1), (9, 0), (1, v3), (9, 0), (1, v5), (9, 0), (9, 0), (9, 0), (9, 0), (9, 0), (0, v11)] [(1, s3), (1, s2), (0, s1), (2, s0)] L μ Q := by
  refine wa_iload 131 dX10_chooses_129 rfl rfl ?_
  refine wa_if_eq 134 141 dX10_chooses_131 rfl (by decide) (fun q => ?_) (fun q => ?_)
  · replace h := h.1 q
    refine wa_lload_n 142 dX10_chooses_141 rfl rfl ?_
    refine wa_iload 144 dX10_chooses_142 rfl rfl ?_
    refine wa_if_eq 147 151 dX10_chooses_144 rfl (by decide) (fun q => ?_) (fun q => ?_)
    · replace h := h.1 q
      refine wa_lload 153 dX10_chooses_151 rfl rfl ?_
      exact h
    · replace h := h.2 q
      refine wa_lconst 148 1 dX10_chooses_147 rfl ⟨rfl, by decide⟩ ?_
      refine wa_goto 153 dX10_chooses_148 (by decide) ?_
      exact h
  · replace h := h.2 q
    refine wa_aload_n 135 dX10_chooses_134 rfl rfl ?_
    refine wa_callV 138 0 0 10 (av := []) (rest := [(1, s3), (1, s2), (0, s1), (2, s0)]) (k1 := (0, 0)) (k2 := (0, 0)) cvX10_ends dX10_chooses_135 rfl wM_X10_249 ⟨rfl, by decide, rfl, Nat.le_of_ble_eq_true rfl, by decide, Nat.le_of_ble_eq_true rfl, rfl, rfl⟩ rfl k0 (TR.mono h (fun r1 L2 μ3 h => ?_))
    obtain ⟨w4, rfl, rfl, h⟩ := h
    show WA mX10_chooses 4 (0, 0) 138 [(2, v0), (0, v1), (9, 0), (1, v3), (9, 0), (1, v5), (9, 0), (9, 0), (9, 0), (9, 0), (9, 0), (0, v11)] [(1, w4), (1, s3), (1, s2), (0, s1), (2, s0)] L μ3 Q
    refine wa_goto 142 dX10_chooses_138 (by decide) ?_
    refine wa_iload 144 dX10_chooses_142 rfl rfl ?_
    refine wa_if_eq 147 151 dX10_chooses_144 rfl (by decide) (fun q => ?_) (fun q => ?_)
    · replace h := h.1 q
      refine wa_lload 153 dX10_chooses_151 rfl rfl ?_
      exact h
    · replace h := h.2 q
      refine wa_lconst 148 1 dX10_chooses_147 rfl ⟨rfl, by decide⟩ ?_
      refine wa_goto 153 dX10_chooses_148 (by decide) ?_
      exact h
set_option maxRecDepth 20000 in
theorem s_X10_chooses_153 (hL : LayOK L) {v0 v1 v3 v5 v11 s0 s1 s2 s3 s4 s5 : Int} (k0 : isK L v0 (10, 0)) (ks0 : isK L s0 (10, 0)) (h : TR mX10_takes 1 (0, 0) [(2, s0), (0, s1), (1, s2), (1, s3), (1, s4), (1, s5)] L μ (fun r1 L2 μ3 => r1 = none ∧ L = L2 ∧ (v11 = 0 → (v11 = 0 → WA mX10_chooses 4 (0, 0) 179 [(2, v0), (9, 0), (9, 0), (1, v3), (9, 0), (1, v5), (9, 0), (9, 0), (9, 0), (9, 0), (9, 0), (0, v11)] [(1, v5), (1, v3), (0, v1), (2, v0)] L μ3 Q) ∧ (¬ v11 = 0 → WA mX10_chooses 4 (0, 0) 179 [(2, v0), (9, 0), (9, 0), (1, v3), (9, 0), (1, v5), (9, 0), (9, 0), (9, 0), (9, 0), (9, 0), (0, v11)] [(1, 1), (1, v3), (0, v1), (2, v0)] L μ3 Q)) ∧ (¬ v11 = 0 → (v11 = 0 → WA mX10_chooses 4 (0, 0) 179 [(2, v0), (9, 0), (9, 0), (1, v3), (9, 0), (1, v5), (9, 0), (9, 0), (9, 0), (9, 0), (9, 0), (0, v11)] [(1, v5), (1, 0), (0, v1), (2, v0)] L μ3 Q) ∧ (¬ v11 = 0 → WA mX10_chooses 4 (0, 0) 179 [(2, v0), (9, 0), (9, 0), (1, v3), (9, 0), (1, v5), (9, 0), (9, 0), (9, 0), (9, 0), (9, 0), (0, v11)] [(1, 1), (1, 0), (0, v1), (2, v0)] L μ3 Q)))) : WA mX10_chooses 4 (0, 0) 153 [(2, v0), (0, v1), (9, 0), (1, v3), (9, 0), (1, v5), (9, 0), (9, 0), (9, 0), (9, 0), (9, 0), (0, v11)] [(1, s5), (1, s4), (1, s3), (1, s2), (0, s1), (2, s0)] L μ Q := by
  refine wa_callV 156 1 5 10 (av := [(0, s1), (1, s2), (1, s3), (1, s4), (1, s5)]) (rest := []) (k1 := (0, 0)) (k2 := (0, 0)) cvX10_takes dX10_chooses_153 rfl wM_X10_253 ⟨rfl, by decide, rfl, Nat.le_of_ble_eq_true rfl, by decide, Nat.le_of_ble_eq_true rfl, rfl, rfl⟩ rfl ks0 (TR.mono h (fun r1 L2 μ3 h => ?_))
  obtain ⟨rfl, rfl, h⟩ := h
  show WA mX10_chooses 4 (0, 0) 156 [(2, v0), (0, v1), (9, 0), (1, v3), (9, 0), (1, v5), (9, 0), (9, 0), (9, 0), (9, 0), (9, 0), (0, v11)] [] L μ3 Q
  refine wa_aload_n 157 dX10_chooses_156 rfl rfl ?_
  refine wa_iload_n 158 dX10_chooses_157 rfl rfl ?_
  refine wa_iload 160 dX10_chooses_158 rfl rfl ?_
  refine wa_if_eq 163 167 dX10_chooses_160 rfl (by decide) (fun q => ?_) (fun q => ?_)
  · replace h := h.1 q
    refine wa_lload_n 168 dX10_chooses_167 rfl rfl ?_
    refine wa_iload 170 dX10_chooses_168 rfl rfl ?_
    refine wa_if_eq 173 177 dX10_chooses_170 rfl (by decide) (fun q => ?_) (fun q => ?_)
    · replace h := h.1 q
      refine wa_lload 179 dX10_chooses_177 rfl rfl ?_
      exact wa_weak [(2, v0), (9, 0), (9, 0), (1, v3), (9, 0), (1, v5), (9, 0), (9, 0), (9, 0), (9, 0), (9, 0), (0, v11)] ⟨Or.inl rfl, Or.inr rfl, Or.inl rfl, Or.inl rfl, Or.inl rfl, Or.inl rfl, Or.inl rfl, Or.inl rfl, Or.inl rfl, Or.inl rfl, Or.inl rfl, Or.inl rfl, trivial⟩ h
    · replace h := h.2 q
      refine wa_lconst 174 1 dX10_chooses_173 rfl ⟨rfl, by decide⟩ ?_
      refine wa_goto 179 dX10_chooses_174 (by decide) ?_
      exact wa_weak [(2, v0), (9, 0), (9, 0), (1, v3), (9, 0), (1, v5), (9, 0), (9, 0), (9, 0), (9, 0), (9, 0), (0, v11)] ⟨Or.inl rfl, Or.inr rfl, Or.inl rfl, Or.inl rfl, Or.inl rfl, Or.inl rfl, Or.inl rfl, Or.inl rfl, Or.inl rfl, Or.inl rfl, Or.inl rfl, Or.inl rfl, trivial⟩ h
  · replace h := h.2 q
    refine wa_lconst 164 0 dX10_chooses_163 rfl ⟨rfl, by decide⟩ ?_
    refine wa_goto 168 dX10_chooses_164 (by decide) ?_
    refine wa_iload 170 dX10_chooses_168 rfl rfl ?_
    refine wa_if_eq 173 177 dX10_chooses_170 rfl (by decide) (fun q => ?_) (fun q => ?_)
    · replace h := h.1 q
      refine wa_lload 179 dX10_chooses_177 rfl rfl ?_
      exact wa_weak [(2, v0), (9, 0), (9, 0), (1, v3), (9, 0), (1, v5), (9, 0), (9, 0), (9, 0), (9, 0), (9, 0), (0, v11)] ⟨Or.inl rfl, Or.inr rfl, Or.inl rfl, Or.inl rfl, Or.inl rfl, Or.inl rfl, Or.inl rfl, Or.inl rfl, Or.inl rfl, Or.inl rfl, Or.inl rfl, Or.inl rfl, trivial⟩ h
    · replace h := h.2 q
      refine wa_lconst 174 1 dX10_chooses_173 rfl ⟨rfl, by decide⟩ ?_
      refine wa_goto 179 dX10_chooses_174 (by decide) ?_
      exact wa_weak [(2, v0), (9, 0), (9, 0), (1, v3), (9, 0), (1, v5), (9, 0), (9, 0), (9, 0), (9, 0), (9, 0), (0, v11)] ⟨Or.inl rfl, Or.inr rfl, Or.inl rfl, Or.inl rfl, Or.inl rfl, Or.inl rfl, Or.inl rfl, Or.inl rfl, Or.inl rfl, Or.inl rfl, Or.inl rfl, Or.inl rfl, trivial⟩ h
set_option maxRecDepth 20000 in
theorem s_X10_chooses_179 (hL : LayOK L) {v0 v3 v5 v11 s0 s1 s2 s3 : Int} (k0 : isK L v0 (10, 0)) (ks0 : isK L s0 (10, 0)) (h : (v11 = 0 → TR mX10_ends 0 (0, 0) [(2, v0)] L μ (fun r1 L2 μ3 => ∃ w4, r1 = some (1, w4) ∧ L = L2 ∧ (v11 = 0 → TR mX10_takes 1 (0, 0) [(2, s0), (0, s1), (1, s2), (1, s3), (1, w4), (1, 1)] L μ3 (fun r5 L6 μ7 => r5 = none ∧ L = L6 ∧ Q none L μ7)) ∧ (¬ v11 = 0 → TR mX10_takes 1 (0, 0) [(2, s0), (0, s1), (1, s2), (1, s3), (1, w4), (1, v5)] L μ3 (fun r8 L9 μ10 => r8 = none ∧ L = L9 ∧ Q none L μ10)))) ∧ (¬ v11 = 0 → (v11 = 0 → TR mX10_takes 1 (0, 0) [(2, s0), (0, s1), (1, s2), (1, s3), (1, v3), (1, 1)] L μ (fun r11 L12 μ13 => r11 = none ∧ L = L12 ∧ Q none L μ13)) ∧ (¬ v11 = 0 → TR mX10_takes 1 (0, 0) [(2, s0), (0, s1), (1, s2), (1, s3), (1, v3), (1, v5)] L μ (fun r14 L15 μ16 => r14 = none ∧ L = L15 ∧ Q none L μ16)))) : WA mX10_chooses 4 (0, 0) 179 [(2, v0), (9, 0), (9, 0), (1, v3), (9, 0), (1, v5), (9, 0), (9, 0), (9, 0), (9, 0), (9, 0), (0, v11)] [(1, s3), (1, s2), (0, s1), (2, s0)] L μ Q := by
  refine wa_iload 181 dX10_chooses_179 rfl rfl ?_
  refine wa_if_eq 184 188 dX10_chooses_181 rfl (by decide) (fun q => ?_) (fun q => ?_)
  · replace h := h.1 q
    refine wa_aload_n 189 dX10_chooses_188 rfl rfl ?_
    refine wa_callV 192 0 0 10 (av := []) (rest := [(1, s3), (1, s2), (0, s1), (2, s0)]) (k1 := (0, 0)) (k2 := (0, 0)) cvX10_ends dX10_chooses_189 rfl wM_X10_249 ⟨rfl, by decide, rfl, Nat.le_of_ble_eq_true rfl, by decide, Nat.le_of_ble_eq_true rfl, rfl, rfl⟩ rfl k0 (TR.mono h (fun r1 L2 μ3 h => ?_))
    obtain ⟨w4, rfl, rfl, h⟩ := h
    show WA mX10_chooses 4 (0, 0) 192 [(2, v0), (9, 0), (9, 0), (1, v3), (9, 0), (1, v5), (9, 0), (9, 0), (9, 0), (9, 0), (9, 0), (0, v11)] [(1, w4), (1, s3), (1, s2), (0, s1), (2, s0)] L μ3 Q
    refine wa_iload 194 dX10_chooses_192 rfl rfl ?_
    refine wa_if_eq 197 202 dX10_chooses_194 rfl (by decide) (fun q => ?_) (fun q => ?_)
    · replace h := h.1 q
      refine wa_lconst 203 1 dX10_chooses_202 rfl ⟨rfl, by decide⟩ ?_
      refine wa_callV 206 1 5 10 (av := [(0, s1), (1, s2), (1, s3), (1, w4), (1, 1)]) (rest := []) (k1 := (0, 0)) (k2 := (0, 0)) cvX10_takes dX10_chooses_203 rfl wM_X10_253 ⟨rfl, by decide, rfl, Nat.le_of_ble_eq_true rfl, by decide, Nat.le_of_ble_eq_true rfl, rfl, rfl⟩ rfl ks0 (TR.mono h (fun r5 L6 μ7 h => ?_))
      obtain ⟨rfl, rfl, h⟩ := h
      show WA mX10_chooses 4 (0, 0) 206 [(2, v0), (9, 0), (9, 0), (1, v3), (9, 0), (1, v5), (9, 0), (9, 0), (9, 0), (9, 0), (9, 0), (0, v11)] [] L μ7 Q
      exact wa_vret dX10_chooses_206 rfl h
    · replace h := h.2 q
      refine wa_lload 199 dX10_chooses_197 rfl rfl ?_
      refine wa_goto 203 dX10_chooses_199 (by decide) ?_
      refine wa_callV 206 1 5 10 (av := [(0, s1), (1, s2), (1, s3), (1, w4), (1, v5)]) (rest := []) (k1 := (0, 0)) (k2 := (0, 0)) cvX10_takes dX10_chooses_203 rfl wM_X10_253 ⟨rfl, by decide, rfl, Nat.le_of_ble_eq_true rfl, by decide, Nat.le_of_ble_eq_true rfl, rfl, rfl⟩ rfl ks0 (TR.mono h (fun r8 L9 μ10 h => ?_))
      obtain ⟨rfl, rfl, h⟩ := h
      show WA mX10_chooses 4 (0, 0) 206 [(2, v0), (9, 0), (9, 0), (1, v3), (9, 0), (1, v5), (9, 0), (9, 0), (9, 0), (9, 0), (9, 0), (0, v11)] [] L μ10 Q
      exact wa_vret dX10_chooses_206 rfl h
  · replace h := h.2 q
    refine wa_lload_n 185 dX10_chooses_184 rfl rfl ?_
    refine wa_goto 192 dX10_chooses_185 (by decide) ?_
    refine wa_iload 194 dX10_chooses_192 rfl rfl ?_
    refine wa_if_eq 197 202 dX10_chooses_194 rfl (by decide) (fun q => ?_) (fun q => ?_)
    · replace h := h.1 q
      refine wa_lconst 203 1 dX10_chooses_202 rfl ⟨rfl, by decide⟩ ?_
      refine wa_callV 206 1 5 10 (av := [(0, s1), (1, s2), (1, s3), (1, v3), (1, 1)]) (rest := []) (k1 := (0, 0)) (k2 := (0, 0)) cvX10_takes dX10_chooses_203 rfl wM_X10_253 ⟨rfl, by decide, rfl, Nat.le_of_ble_eq_true rfl, by decide, Nat.le_of_ble_eq_true rfl, rfl, rfl⟩ rfl ks0 (TR.mono h (fun r11 L12 μ13 h => ?_))
      obtain ⟨rfl, rfl, h⟩ := h
      show WA mX10_chooses 4 (0, 0) 206 [(2, v0), (9, 0), (9, 0), (1, v3), (9, 0), (1, v5), (9, 0), (9, 0), (9, 0), (9, 0), (9, 0), (0, v11)] [] L μ13 Q
      exact wa_vret dX10_chooses_206 rfl h
    · replace h := h.2 q
      refine wa_lload 199 dX10_chooses_197 rfl rfl ?_
      refine wa_goto 203 dX10_chooses_199 (by decide) ?_
      refine wa_callV 206 1 5 10 (av := [(0, s1), (1, s2), (1, s3), (1, v3), (1, v5)]) (rest := []) (k1 := (0, 0)) (k2 := (0, 0)) cvX10_takes dX10_chooses_203 rfl wM_X10_253 ⟨rfl, by decide, rfl, Nat.le_of_ble_eq_true rfl, by decide, Nat.le_of_ble_eq_true rfl, rfl, rfl⟩ rfl ks0 (TR.mono h (fun r14 L15 μ16 h => ?_))
      obtain ⟨rfl, rfl, h⟩ := h
      show WA mX10_chooses 4 (0, 0) 206 [(2, v0), (9, 0), (9, 0), (1, v3), (9, 0), (1, v5), (9, 0), (9, 0), (9, 0), (9, 0), (9, 0), (0, v11)] [] L μ16 Q
      exact wa_vret dX10_chooses_206 rfl h
set_option maxRecDepth 20000 in
theorem t_X10_copies (hL : LayOK L) {v0 v1 : Int} (k0 : isK L v0 (21, 510)) (k1 : isK L v1 (21, 510)) (h : WA mX10_copies 0 (0, 0) 2 [(2, v0), (2, v1), (0, 0)] [] L μ Q) : TR mX10_copies 0 (0, 0) [(2, v0), (2, v1)] L μ Q := by
  refine TR.of (ls := [(2, v0), (2, v1), (9, 0)]) (by decide) (by simp) rfl (Nat.le_of_ble_eq_true rfl) ?_
  refine wa_iconst 1 dX10_copies_0 rfl (by decide) ?_
  refine wa_istore_n 2 [(2, v0), (2, v1), (0, 0)] dX10_copies_1 rfl rfl rfl ?_
  exact h
set_option maxRecDepth 20000 in
theorem s_X10_copies_2 (hL : LayOK L) {v0 v1 v2 : Int} (k0 : isK L v0 (21, 510)) (k1 : isK L v1 (21, 510)) (h : (510 ≤ v2 → Q none L μ) ∧ (¬ 510 ≤ v2 → (0 ≤ v2 ∧ v2 < 510) ∧ (inI (v2 + 1)) ∧ WA mX10_copies 0 (0, 0) 2 [(2, v0), (2, v1), (0, (v2 + 1))] [] L (up μ v1 v2 ((μ v0 v2))) Q)) : WA mX10_copies 0 (0, 0) 2 [(2, v0), (2, v1), (0, v2)] [] L μ Q := by
  refine wa_iload_n 3 dX10_copies_2 rfl rfl ?_
  refine wa_sipush 6 dX10_copies_3 rfl ⟨by decide, by decide⟩ ?_
  refine wa_icmp_ge 9 21 dX10_copies_6 rfl (by decide) (fun q => ?_) (fun q => ?_)
  · replace h := h.1 q
    exact wa_vret dX10_copies_21 rfl h
  · replace h := h.2 q
    refine wa_aload_n 10 dX10_copies_9 rfl rfl ?_
    refine wa_iload_n 11 dX10_copies_10 rfl rfl ?_
    refine wa_aload_n 12 dX10_copies_11 rfl rfl ?_
    refine wa_iload_n 13 dX10_copies_12 rfl rfl ?_
    obtain ⟨c1, h⟩ := h
    refine wa_laload 14 dX10_copies_13 rfl (okA_of k0 c1) ?_
    refine wa_lastore 15 dX10_copies_14 rfl (okA_of k1 c1) ?_
    obtain ⟨c2, h⟩ := h
    refine wa_iinc 18 [(2, v0), (2, v1), (0, (v2 + 1))] dX10_copies_15 rfl rfl rfl c2 rfl ?_
    refine wa_goto 2 dX10_copies_18 (by decide) ?_
    exact h
set_option maxRecDepth 20000 in
theorem t_X10_count (hL : LayOK L) {v0 v1 : Int} (k0 : isK L v0 (10, 0)) (h : ((v1 = 0 → TR mX10_agents 0 (0, 0) [(2, v0)] L μ (fun r1 L2 μ3 => ∃ w4, r1 = some (0, w4) ∧ L = L2 ∧ Q (some (0, w4)) L μ3)) ∧ (v1 = 1 → TR mX10_strips 0 (0, 0) [(2, v0)] L μ (fun r5 L6 μ7 => ∃ w8, r5 = some (0, w8) ∧ L = L6 ∧ Q (some (0, w8)) L μ7)) ∧ (v1 = 2 → (inI ((μ ((rf L v0 0)) 2))) ∧ Q (some (0, (μ ((rf L v0 0)) 2))) L μ) ∧ (v1 = 3 → TR mX10_isDivided 0 (0, 0) [(2, v0)] L μ (fun r11 L12 μ13 => ∃ w14, r11 = some (0, w14) ∧ L = L12 ∧ (w14 = 0 → Q (some (0, (-5))) L μ13) ∧ (¬ w14 = 0 → (inI ((μ13 ((rf L v0 0)) 3))) ∧ Q (some (0, (μ13 ((rf L v0 0)) 3))) L μ13))) ∧ (v1 = 4 → Q (some (0, (μ v0 7))) L μ) ∧ (v1 = 5 → Q (some (0, (μ v0 21))) L μ) ∧ (v1 = 6 → (inI ((μ ((rf L v0 0)) 4))) ∧ Q (some (0, (μ ((rf L v0 0)) 4))) L μ)) ∧ (v1 < 0 ∨ 6 < v1 → Q (some (0, (-1))) L μ)) : TR mX10_count 1 (0, 0) [(2, v0), (0, v1)] L μ Q := by
  refine TR.of (ls := [(2, v0), (0, v1)]) (by decide) (by simp) rfl (Nat.le_of_ble_eq_true rfl) ?_
  refine wa_iload_n 1 dX10_count_0 rfl rfl ?_
  refine wa_switch (fun j => match j with | 0 => 44 | 1 => 49 | 2 => 54 | 3 => 62 | 4 => 82 | 5 => 87 | _ => 92) 100 (n := 7) dX10_count_1 rfl (by decide) (by decide) (fun j hj hx => ?_) (fun hx => ?_)
  · have h := h.1
    rcases (show j = 0 ∨ j = 1 ∨ j = 2 ∨ j = 3 ∨ j = 4 ∨ j = 5 ∨ j = 6 by omega) with rfl | rfl | rfl | rfl | rfl | rfl | rfl
    · replace h := h.1 (by simpa using hx)
      refine wa_aload_n 45 dX10_count_44 rfl rfl ?_
      refine wa_callV 48 0 0 10 (av := []) (rest := []) (k1 := (0, 0)) (k2 := (0, 0)) cvX10_agents dX10_count_45 rfl wM_X10_75 ⟨rfl, by decide, rfl, Nat.le_of_ble_eq_true rfl, by decide, Nat.le_of_ble_eq_true rfl, rfl, rfl⟩ rfl k0 (TR.mono h (fun r1 L2 μ3 h => ?_))
      obtain ⟨w4, rfl, rfl, h⟩ := h
      show WA mX10_count 1 (0, 0) 48 [(2, v0), (0, v1)] [(0, w4)] L μ3 Q
      exact wa_iret dX10_count_48 rfl h
    · replace h := h.2.1 (by simpa using hx)
      refine wa_aload_n 50 dX10_count_49 rfl rfl ?_
      refine wa_callV 53 0 0 10 (av := []) (rest := []) (k1 := (0, 0)) (k2 := (0, 0)) cvX10_strips dX10_count_50 rfl wM_X10_92 ⟨rfl, by decide, rfl, Nat.le_of_ble_eq_true rfl, by decide, Nat.le_of_ble_eq_true rfl, rfl, rfl⟩ rfl k0 (TR.mono h (fun r5 L6 μ7 h => ?_))
      obtain ⟨w8, rfl, rfl, h⟩ := h
      show WA mX10_count 1 (0, 0) 53 [(2, v0), (0, v1)] [(0, w8)] L μ7 Q
      exact wa_iret dX10_count_53 rfl h
    · replace h := h.2.2.1 (by simpa using hx)
      refine wa_aload_n 55 dX10_count_54 rfl rfl ?_
      have e9 : isK L (rf L v0 0) (21, 510) := lay_f hL k0 0 rfl
      refine wa_getR 58 0 dX10_count_55 rfl wF_X10_9 rfl rfl ⟨k0, isK_pos e9⟩ ?_
      refine wa_iconst 59 dX10_count_58 rfl (by decide) ?_
      refine wa_laload 60 dX10_count_59 rfl (okA_of e9 ⟨by decide, by decide⟩) ?_
      obtain ⟨c10, h⟩ := h
      refine wa_l2i 61 dX10_count_60 rfl c10 ?_
      exact wa_iret dX10_count_61 rfl h
    · replace h := h.2.2.2.1 (by simpa using hx)
      refine wa_aload_n 63 dX10_count_62 rfl rfl ?_
      refine wa_callV 66 0 0 10 (av := []) (rest := []) (k1 := (0, 0)) (k2 := (0, 0)) cvX10_isDivided dX10_count_63 rfl wM_X10_325 ⟨rfl, by decide, rfl, Nat.le_of_ble_eq_true rfl, by decide, Nat.le_of_ble_eq_true rfl, rfl, rfl⟩ rfl k0 (TR.mono h (fun r11 L12 μ13 h => ?_))
      obtain ⟨w14, rfl, rfl, h⟩ := h
      show WA mX10_count 1 (0, 0) 66 [(2, v0), (0, v1)] [(0, w14)] L μ13 Q
      refine wa_if_eq 69 79 dX10_count_66 rfl (by decide) (fun q => ?_) (fun q => ?_)
      · replace h := h.1 q
        refine wa_bipush 81 dX10_count_79 rfl ⟨by decide, by decide⟩ ?_
        exact wa_iret dX10_count_81 rfl h
      · replace h := h.2 q
        refine wa_aload_n 70 dX10_count_69 rfl rfl ?_
        have e15 : isK L (rf L v0 0) (21, 510) := lay_f hL k0 0 rfl
        refine wa_getR 73 0 dX10_count_70 rfl wF_X10_9 rfl rfl ⟨k0, isK_pos e15⟩ ?_
        refine wa_iconst 74 dX10_count_73 rfl (by decide) ?_
        refine wa_laload 75 dX10_count_74 rfl (okA_of e15 ⟨by decide, by decide⟩) ?_
        obtain ⟨c16, h⟩ := h
        refine wa_l2i 76 dX10_count_75 rfl c16 ?_
        refine wa_goto 81 dX10_count_76 (by decide) ?_
        exact wa_iret dX10_count_81 rfl h
    · replace h := h.2.2.2.2.1 (by simpa using hx)
      refine wa_aload_n 83 dX10_count_82 rfl rfl ?_
      refine wa_getI 86 7 dX10_count_83 rfl wF_X10_150 rfl rfl k0 ?_
      exact wa_iret dX10_count_86 rfl h
    · replace h := h.2.2.2.2.2.1 (by simpa using hx)
      refine wa_aload_n 88 dX10_count_87 rfl rfl ?_
      refine wa_getI 91 21 dX10_count_88 rfl wF_X10_328 rfl rfl k0 ?_
      exact wa_iret dX10_count_91 rfl h
    · replace h := h.2.2.2.2.2.2 (by simpa using hx)
      refine wa_aload_n 93 dX10_count_92 rfl rfl ?_
      have e17 : isK L (rf L v0 0) (21, 510) := lay_f hL k0 0 rfl
      refine wa_getR 96 0 dX10_count_93 rfl wF_X10_9 rfl rfl ⟨k0, isK_pos e17⟩ ?_
      refine wa_iconst 97 dX10_count_96 rfl (by decide) ?_
      refine wa_laload 98 dX10_count_97 rfl (okA_of e17 ⟨by decide, by decide⟩) ?_
      obtain ⟨c18, h⟩ := h
      refine wa_l2i 99 dX10_count_98 rfl c18 ?_
      exact wa_iret dX10_count_99 rfl h
  · replace h := h.2 hx
    refine wa_iconst 101 dX10_count_100 rfl (by decide) ?_
    exact wa_iret dX10_count_101 rfl h
set_option maxRecDepth 20000 in
theorem t_X10_countOf (hL : LayOK L) {v0 : Int}  (h : WA mX10_countOf 0 (0, 0) 4 [(0, v0), (0, 0), (0, 0)] [] L μ Q) : TR mX10_countOf 0 (0, 0) [(0, v0)] L μ Q := by
  refine TR.of (ls := [(0, v0), (9, 0), (9, 0)]) (by decide) (by simp) rfl (Nat.le_of_ble_eq_true rfl) ?_
  refine wa_iconst 1 dX10_countOf_0 rfl (by decide) ?_
  refine wa_istore_n 2 [(0, v0), (0, 0), (9, 0)] dX10_countOf_1 rfl rfl rfl ?_
  refine wa_iconst 3 dX10_countOf_2 rfl (by decide) ?_
  refine wa_istore_n 4 [(0, v0), (0, 0), (0, 0)] dX10_countOf_3 rfl rfl rfl ?_
  exact h
set_option maxRecDepth 20000 in
theorem s_X10_countOf_4 (hL : LayOK L) {v0 v1 v2 : Int}  (h : (5 ≤ v2 → Q (some (0, v1)) L μ) ∧ (¬ 5 ≤ v2 → (inI (v1 + (bAnd ((bShr v0 v2)) 1))) ∧ (inI (v2 + 1)) ∧ WA mX10_countOf 0 (0, 0) 4 [(0, v0), (0, (v1 + (bAnd ((bShr v0 v2)) 1))), (0, (v2 + 1))] [] L μ Q)) : WA mX10_countOf 0 (0, 0) 4 [(0, v0), (0, v1), (0, v2)] [] L μ Q := by
  refine wa_iload_n 5 dX10_countOf_4 rfl rfl ?_
  refine wa_iconst 6 dX10_countOf_5 rfl (by decide) ?_
  refine wa_icmp_ge 9 23 dX10_countOf_6 rfl (by decide) (fun q => ?_) (fun q => ?_)
  · replace h := h.1 q
    refine wa_iload_n 24 dX10_countOf_23 rfl rfl ?_
    exact wa_iret dX10_countOf_24 rfl h
  · replace h := h.2 q
    refine wa_iload_n 10 dX10_countOf_9 rfl rfl ?_
    refine wa_iload_n 11 dX10_countOf_10 rfl rfl ?_
    refine wa_iload_n 12 dX10_countOf_11 rfl rfl ?_
    refine wa_ishr 13 dX10_countOf_12 rfl ?_
    refine wa_iconst 14 dX10_countOf_13 rfl (by decide) ?_
    refine wa_iand 15 dX10_countOf_14 rfl ?_
    obtain ⟨c1, h⟩ := h
    refine wa_iadd 16 dX10_countOf_15 rfl c1 ?_
    refine wa_istore_n 17 [(0, v0), (0, (v1 + (bAnd ((bShr v0 v2)) 1))), (0, v2)] dX10_countOf_16 rfl rfl rfl ?_
    obtain ⟨c2, h⟩ := h
    refine wa_iinc 20 [(0, v0), (0, (v1 + (bAnd ((bShr v0 v2)) 1))), (0, (v2 + 1))] dX10_countOf_17 rfl rfl rfl c2 rfl ?_
    refine wa_goto 4 dX10_countOf_20 (by decide) ?_
    exact h
set_option maxRecDepth 20000 in
theorem t_X10_cuts (hL : LayOK L) {v0 : Int} (k0 : isK L v0 (10, 0)) (h : TR mX10_isDivided 0 (0, 0) [(2, v0)] L μ (fun r1 L2 μ3 => ∃ w4, r1 = some (0, w4) ∧ L = L2 ∧ (¬ w4 = 0 → WA mX10_cuts 1 (0, 0) 14 [(2, v0), (0, 0), (0, 0), (9, 0), (9, 0), (9, 0), (9, 0), (9, 0), (9, 0), (9, 0), (9, 0)] [] L μ3 Q) ∧ (w4 = 0 → Q (some (0, (-5))) L μ3))) : TR mX10_cuts 1 (0, 0) [(2, v0)] L μ Q := by
  refine TR.of (ls := [(2, v0), (9, 0), (9, 0), (9, 0), (9, 0), (9, 0), (9, 0), (9, 0), (9, 0), (9, 0), (9, 0)]) (by decide) (by simp) rfl (Nat.le_of_ble_eq_true rfl) ?_
  refine wa_aload_n 1 dX10_cuts_0 rfl rfl ?_
  refine wa_callV 4 0 0 10 (av := []) (rest := []) (k1 := (0, 0)) (k2 := (0, 0)) cvX10_isDivided dX10_cuts_1 rfl wM_X10_325 ⟨rfl, by decide, rfl, Nat.le_of_ble_eq_true rfl, by decide, Nat.le_of_ble_eq_true rfl, rfl, rfl⟩ rfl k0 (TR.mono h (fun r1 L2 μ3 h => ?_))
  obtain ⟨w4, rfl, rfl, h⟩ := h
  show WA mX10_cuts 1 (0, 0) 4 [(2, v0), (9, 0), (9, 0), (9, 0), (9, 0), (9, 0), (9, 0), (9, 0), (9, 0), (9, 0), (9, 0)] [(0, w4)] L μ3 Q
  refine wa_if_ne 7 10 dX10_cuts_4 rfl (by decide) (fun q => ?_) (fun q => ?_)
  · replace h := h.1 q
    refine wa_iconst 11 dX10_cuts_10 rfl (by decide) ?_
    refine wa_istore_n 12 [(2, v0), (0, 0), (9, 0), (9, 0), (9, 0), (9, 0), (9, 0), (9, 0), (9, 0), (9, 0), (9, 0)] dX10_cuts_11 rfl rfl rfl ?_
    refine wa_iconst 13 dX10_cuts_12 rfl (by decide) ?_
    refine wa_istore_n 14 [(2, v0), (0, 0), (0, 0), (9, 0), (9, 0), (9, 0), (9, 0), (9, 0), (9, 0), (9, 0), (9, 0)] dX10_cuts_13 rfl rfl rfl ?_
    exact h
  · replace h := h.2 q
    refine wa_bipush 9 dX10_cuts_7 rfl ⟨by decide, by decide⟩ ?_
    exact wa_iret dX10_cuts_9 rfl h
set_option maxRecDepth 20000 in
theorem s_X10_cuts_14 (hL : LayOK L) {v0 v1 v2 : Int} (k0 : isK L v0 (10, 0)) (h : TR mX10_agents 0 (0, 0) [(2, v0)] L μ (fun r1 L2 μ3 => ∃ w4, r1 = some (0, w4) ∧ L = L2 ∧ (w4 ≤ v2 → Q (some (0, v1)) L μ3) ∧ (¬ w4 ≤ v2 → WA mX10_cuts 1 (0, 0) 24 [(2, v0), (0, v1), (0, v2), (0, 0), (9, 0), (9, 0), (9, 0), (9, 0), (9, 0), (9, 0), (9, 0)] [] L μ3 Q))) : WA mX10_cuts 1 (0, 0) 14 [(2, v0), (0, v1), (0, v2), (9, 0), (9, 0), (9, 0), (9, 0), (9, 0), (9, 0), (9, 0), (9, 0)] [] L μ Q := by
  refine wa_iload_n 15 dX10_cuts_14 rfl rfl ?_
  refine wa_aload_n 16 dX10_cuts_15 rfl rfl ?_
  refine wa_callV 19 0 0 10 (av := []) (rest := [(0, v2)]) (k1 := (0, 0)) (k2 := (0, 0)) cvX10_agents dX10_cuts_16 rfl wM_X10_75 ⟨rfl, by decide, rfl, Nat.le_of_ble_eq_true rfl, by decide, Nat.le_of_ble_eq_true rfl, rfl, rfl⟩ rfl k0 (TR.mono h (fun r1 L2 μ3 h => ?_))
  obtain ⟨w4, rfl, rfl, h⟩ := h
  show WA mX10_cuts 1 (0, 0) 19 [(2, v0), (0, v1), (0, v2), (9, 0), (9, 0), (9, 0), (9, 0), (9, 0), (9, 0), (9, 0), (9, 0)] [(0, w4), (0, v2)] L μ3 Q
  refine wa_icmp_ge 22 260 dX10_cuts_19 rfl (by decide) (fun q => ?_) (fun q => ?_)
  · replace h := h.1 q
    refine wa_iload_n 261 dX10_cuts_260 rfl rfl ?_
    exact wa_iret dX10_cuts_261 rfl h
  · replace h := h.2 q
    refine wa_iconst 23 dX10_cuts_22 rfl (by decide) ?_
    refine wa_istore_n 24 [(2, v0), (0, v1), (0, v2), (0, 0), (9, 0), (9, 0), (9, 0), (9, 0), (9, 0), (9, 0), (9, 0)] dX10_cuts_23 rfl rfl rfl ?_
    exact h
set_option maxRecDepth 20000 in
theorem s_X10_cuts_24 (hL : LayOK L) {v0 v1 v2 v3 : Int} (k0 : isK L v0 (10, 0)) (h : (inI (165 + v2)) ∧ (0 ≤ (165 + v2) ∧ (165 + v2) < 510) ∧ (inL (2 * (μ ((rf L v0 0)) ((165 + v2))))) ∧ ((2 * (μ ((rf L v0 0)) ((165 + v2)))) ≤ v3 → (inI (v2 + 1)) ∧ WA mX10_cuts 1 (0, 0) 14 [(2, v0), (0, v1), (0, (v2 + 1)), (9, 0), (9, 0), (9, 0), (9, 0), (9, 0), (9, 0), (9, 0), (9, 0)] [] L μ Q) ∧ (¬ (2 * (μ ((rf L v0 0)) ((165 + v2)))) ≤ v3 → (inI (8 * v2)) ∧ (inI (170 + (8 * v2))) ∧ (0 ≤ v3) ∧ (inI (4 * (v3 / 2))) ∧ (inI ((170 + (8 * v2)) + (4 * (v3 / 2)))) ∧ (inI (2 * v3)) ∧ (inI ((170 + (8 * v2)) + (2 * v3))) ∧ (0 ≤ ((170 + (8 * v2)) + (4 * (v3 / 2))) ∧ ((170 + (8 * v2)) + (4 * (v3 / 2))) < 510) ∧ (inI (((170 + (8 * v2)) + (4 * (v3 / 2))) + 2)) ∧ (0 ≤ (((170 + (8 * v2)) + (4 * (v3 / 2))) + 2) ∧ (((170 + (8 * v2)) + (4 * (v3 / 2))) + 2) < 510) ∧ (¬ (μ ((rf L v0 0)) (((170 + (8 * v2)) + (4 * (v3 / 2))))) = (μ ((rf L v0 0)) ((((170 + (8 * v2)) + (4 * (v3 / 2))) + 2))) → WA mX10_cuts 1 (0, 0) 121 [(2, v0), (0, v1), (0, v2), (0, v3), (9, 0), (0, ((170 + (8 * v2)) + (2 * v3))), (9, 0), (9, 0), (9, 0), (9, 0), (9, 0)] [(0, 0)] L μ Q) ∧ ((μ ((rf L v0 0)) (((170 + (8 * v2)) + (4 * (v3 / 2))))) = (μ ((rf L v0 0)) ((((170 + (8 * v2)) + (4 * (v3 / 2))) + 2))) → (inI (((170 + (8 * v2)) + (4 * (v3 / 2))) + 1)) ∧ (0 ≤ (((170 + (8 * v2)) + (4 * (v3 / 2))) + 1) ∧ (((170 + (8 * v2)) + (4 * (v3 / 2))) + 1) < 510) ∧ (inI (((170 + (8 * v2)) + (4 * (v3 / 2))) + 3)) ∧ (0 ≤ (((170 + (8 * v2)) + (4 * (v3 / 2))) + 3) ∧ (((170 + (8 * v2)) + (4 * (v3 / 2))) + 3) < 510) ∧ (¬ (μ ((rf L v0 0)) ((((170 + (8 * v2)) + (4 * (v3 / 2))) + 1))) = (μ ((rf L v0 0)) ((((170 + (8 * v2)) + (4 * (v3 / 2))) + 3))) → WA mX10_cuts 1 (0, 0) 121 [(2, v0), (0, v1), (0, v2), (0, v3), (9, 0), (0, ((170 + (8 * v2)) + (2 * v3))), (9, 0), (9, 0), (9, 0), (9, 0), (9, 0)] [(0, 0)] L μ Q) ∧ ((μ ((rf L v0 0)) ((((170 + (8 * v2)) + (4 * (v3 / 2))) + 1))) = (μ ((rf L v0 0)) ((((170 + (8 * v2)) + (4 * (v3 / 2))) + 3))) → WA mX10_cuts 1 (0, 0) 121 [(2, v0), (0, v1), (0, v2), (0, v3), (9, 0), (0, ((170 + (8 * v2)) + (2 * v3))), (9, 0), (9, 0), (9, 0), (9, 0), (9, 0)] [(0, 1)] L μ Q)))) : WA mX10_cuts 1 (0, 0) 24 [(2, v0), (0, v1), (0, v2), (0, v3), (9, 0), (9, 0), (9, 0), (9, 0), (9, 0), (9, 0), (9, 0)] [] L μ Q := by
  refine wa_iload_n 25 dX10_cuts_24 rfl rfl ?_
  refine wa_i2l 26 dX10_cuts_25 rfl ?_
  refine wa_ldc2 29 2 dX10_cuts_26 rfl wJ_X10_69 ⟨rfl, by decide⟩ ?_
  refine wa_aload_n 30 dX10_cuts_29 rfl rfl ?_
  have e1 : isK L (rf L v0 0) (21, 510) := lay_f hL k0 0 rfl
  refine wa_getR 33 0 dX10_cuts_30 rfl wF_X10_9 rfl rfl ⟨k0, isK_pos e1⟩ ?_
  refine wa_sipush 36 dX10_cuts_33 rfl ⟨by decide, by decide⟩ ?_
  refine wa_iload_n 37 dX10_cuts_36 rfl rfl ?_
  obtain ⟨c2, h⟩ := h
  refine wa_iadd 38 dX10_cuts_37 rfl c2 ?_
  obtain ⟨c3, h⟩ := h
  refine wa_laload 39 dX10_cuts_38 rfl (okA_of e1 c3) ?_
  obtain ⟨c4, h⟩ := h
  refine wa_lmul 40 dX10_cuts_39 rfl c4 ?_
  refine wa_lc_ge 44 254 dX10_cuts_40 dX10_cuts_41 rfl (by decide) (fun q => ?_) (fun q => ?_)
  · replace h := h.1 q
    obtain ⟨c5, h⟩ := h
    refine wa_iinc 257 [(2, v0), (0, v1), (0, (v2 + 1)), (0, v3), (9, 0), (9, 0), (9, 0), (9, 0), (9, 0), (9, 0), (9, 0)] dX10_cuts_254 rfl rfl rfl c5 rfl ?_
    refine wa_goto 14 dX10_cuts_257 (by decide) ?_
    exact wa_weak [(2, v0), (0, v1), (0, (v2 + 1)), (9, 0), (9, 0), (9, 0), (9, 0), (9, 0), (9, 0), (9, 0), (9, 0)] ⟨Or.inl rfl, Or.inl rfl, Or.inl rfl, Or.inr rfl, Or.inl rfl, Or.inl rfl, Or.inl rfl, Or.inl rfl, Or.inl rfl, Or.inl rfl, Or.inl rfl, trivial⟩ h
  · replace h := h.2 q
    refine wa_sipush 47 dX10_cuts_44 rfl ⟨by decide, by decide⟩ ?_
    refine wa_bipush 49 dX10_cuts_47 rfl ⟨by decide, by decide⟩ ?_
    refine wa_iload_n 50 dX10_cuts_49 rfl rfl ?_
    obtain ⟨c6, h⟩ := h
    refine wa_imul 51 dX10_cuts_50 rfl c6 ?_
    obtain ⟨c7, h⟩ := h
    refine wa_iadd 52 dX10_cuts_51 rfl c7 ?_
    refine wa_iconst 53 dX10_cuts_52 rfl (by decide) ?_
    refine wa_iload_n 54 dX10_cuts_53 rfl rfl ?_
    refine wa_iconst 55 dX10_cuts_54 rfl (by decide) ?_
    obtain ⟨c8, h⟩ := h
    refine wa_idivE 56 dX10_cuts_55 rfl ⟨c8, by decide⟩ ?_
    obtain ⟨c9, h⟩ := h
    refine wa_imul 57 dX10_cuts_56 rfl c9 ?_
    obtain ⟨c10, h⟩ := h
    refine wa_iadd 58 dX10_cuts_57 rfl c10 ?_
    refine wa_istore 60 [(2, v0), (0, v1), (0, v2), (0, v3), (0, ((170 + (8 * v2)) + (4 * (v3 / 2)))), (9, 0), (9, 0), (9, 0), (9, 0), (9, 0), (9, 0)] dX10_cuts_58 rfl rfl rfl ?_
    refine wa_sipush 63 dX10_cuts_60 rfl ⟨by decide, by decide⟩ ?_
    refine wa_bipush 65 dX10_cuts_63 rfl ⟨by decide, by decide⟩ ?_
    refine wa_iload_n 66 dX10_cuts_65 rfl rfl ?_
    refine wa_imul 67 dX10_cuts_66 rfl c6 ?_
    refine wa_iadd 68 dX10_cuts_67 rfl c7 ?_
    refine wa_iconst 69 dX10_cuts_68 rfl (by decide) ?_
    refine wa_iload_n 70 dX10_cuts_69 rfl rfl ?_
    obtain ⟨c11, h⟩ := h
    refine wa_imul 71 dX10_cuts_70 rfl c11 ?_
    obtain ⟨c12, h⟩ := h
    refine wa_iadd 72 dX10_cuts_71 rfl c12 ?_
    refine wa_istore 74 [(2, v0), (0, v1), (0, v2), (0, v3), (0, ((170 + (8 * v2)) + (4 * (v3 / 2)))), (0, ((170 + (8 * v2)) + (2 * v3))), (9, 0), (9, 0), (9, 0), (9, 0), (9, 0)] dX10_cuts_72 rfl rfl rfl ?_
    refine wa_aload_n 75 dX10_cuts_74 rfl rfl ?_
    refine wa_getR 78 0 dX10_cuts_75 rfl wF_X10_9 rfl rfl ⟨k0, isK_pos e1⟩ ?_
    refine wa_iload 80 dX10_cuts_78 rfl rfl ?_
    obtain ⟨c13, h⟩ := h
    refine wa_laload 81 dX10_cuts_80 rfl (okA_of e1 c13) ?_
    refine wa_aload_n 82 dX10_cuts_81 rfl rfl ?_
    refine wa_getR 85 0 dX10_cuts_82 rfl wF_X10_9 rfl rfl ⟨k0, isK_pos e1⟩ ?_
    refine wa_iload 87 dX10_cuts_85 rfl rfl ?_
    refine wa_iconst 88 dX10_cuts_87 rfl (by decide) ?_
    obtain ⟨c14, h⟩ := h
    refine wa_iadd 89 dX10_cuts_88 rfl c14 ?_
    obtain ⟨c15, h⟩ := h
    refine wa_laload 90 dX10_cuts_89 rfl (okA_of e1 c15) ?_
    refine wa_lc_ne 94 120 dX10_cuts_90 dX10_cuts_91 rfl (by decide) (fun q => ?_) (fun q => ?_)
    · replace h := h.1 q
      refine wa_iconst 121 dX10_cuts_120 rfl (by decide) ?_
      exact wa_weak [(2, v0), (0, v1), (0, v2), (0, v3), (9, 0), (0, ((170 + (8 * v2)) + (2 * v3))), (9, 0), (9, 0), (9, 0), (9, 0), (9, 0)] ⟨Or.inl rfl, Or.inl rfl, Or.inl rfl, Or.inl rfl, Or.inr rfl, Or.inl rfl, Or.inl rfl, Or.inl rfl, Or.inl rfl, Or.inl rfl, Or.inl rfl, trivial⟩ h
    · replace h := h.2 q
      refine wa_aload_n 95 dX10_cuts_94 rfl rfl ?_
      refine wa_getR 98 0 dX10_cuts_95 rfl wF_X10_9 rfl rfl ⟨k0, isK_pos e1⟩ ?_
      refine wa_iload 100 dX10_cuts_98 rfl rfl ?_
      refine wa_iconst 101 dX10_cuts_100 rfl (by decide) ?_
      obtain ⟨c16, h⟩ := h
      refine wa_iadd 102 dX10_cuts_101 rfl c16 ?_
      obtain ⟨c17, h⟩ := h
      refine wa_laload 103 dX10_cuts_102 rfl (okA_of e1 c17) ?_
      refine wa_aload_n 104 dX10_cuts_103 rfl rfl ?_
      refine wa_getR 107 0 dX10_cuts_104 rfl wF_X10_9 rfl rfl ⟨k0, isK_pos e1⟩ ?_
      refine wa_iload 109 dX10_cuts_107 rfl rfl ?_
      refine wa_iconst 110 dX10_cuts_109 rfl (by decide) ?_
      obtain ⟨c18, h⟩ := h
      refine wa_iadd 111 dX10_cuts_110 rfl c18 ?_
      obtain ⟨c19, h⟩ := h
      refine wa_laload 112 dX10_cuts_111 rfl (okA_of e1 c19) ?_
      refine wa_lc_ne 116 120 dX10_cuts_112 dX10_cuts_113 rfl (by decide) (fun q => ?_) (fun q => ?_)
      · replace h := h.1 q
        refine wa_iconst 121 dX10_cuts_120 rfl (by decide) ?_
        exact wa_weak [(2, v0), (0, v1), (0, v2), (0, v3), (9, 0), (0, ((170 + (8 * v2)) + (2 * v3))), (9, 0), (9, 0), (9, 0), (9, 0), (9, 0)] ⟨Or.inl rfl, Or.inl rfl, Or.inl rfl, Or.inl rfl, Or.inr rfl, Or.inl rfl, Or.inl rfl, Or.inl rfl, Or.inl rfl, Or.inl rfl, Or.inl rfl, trivial⟩ h
      · replace h := h.2 q
        refine wa_iconst 117 dX10_cuts_116 rfl (by decide) ?_
        refine wa_goto 121 dX10_cuts_117 (by decide) ?_
        exact wa_weak [(2, v0), (0, v1), (0, v2), (0, v3), (9, 0), (0, ((170 + (8 * v2)) + (2 * v3))), (9, 0), (9, 0), (9, 0), (9, 0), (9, 0)] ⟨Or.inl rfl, Or.inl rfl, Or.inl rfl, Or.inl rfl, Or.inr rfl, Or.inl rfl, Or.inl rfl, Or.inl rfl, Or.inl rfl, Or.inl rfl, Or.inl rfl, trivial⟩ h
set_option maxRecDepth 20000 in
theorem s_X10_cuts_121 (hL : LayOK L) {v0 v1 v2 v3 v5 s0 : Int} (k0 : isK L v0 (10, 0)) (h : (0 ≤ v5 ∧ v5 < 510) ∧ (inI (v5 + 1)) ∧ (0 ≤ (v5 + 1) ∧ (v5 + 1) < 510) ∧ (0 ≤ (μ ((rf L v0 0)) 3) ∧ 0 < (μ ((rf L v0 0)) ((v5 + 1)))) ∧ (inL ((μ ((rf L v0 0)) v5) * ((μ ((rf L v0 0)) 3) / (μ ((rf L v0 0)) ((v5 + 1)))))) ∧ (¬ s0 = 0 → WA mX10_cuts 1 (0, 0) 190 [(2, v0), (0, v1), (0, v2), (0, v3), (9, 0), (9, 0), (9, 0), (1, ((μ ((rf L v0 0)) v5) * ((μ ((rf L v0 0)) 3) / (μ ((rf L v0 0)) ((v5 + 1)))))), (9, 0), (0, 0), (0, 0)] [] L μ Q) ∧ (s0 = 0 → (((μ ((rf L v0 0)) v5) * ((μ ((rf L v0 0)) 3) / (μ ((rf L v0 0)) ((v5 + 1))))) = 0 → WA mX10_cuts 1 (0, 0) 190 [(2, v0), (0, v1), (0, v2), (0, v3), (9, 0), (9, 0), (9, 0), (1, ((μ ((rf L v0 0)) v5) * ((μ ((rf L v0 0)) 3) / (μ ((rf L v0 0)) ((v5 + 1)))))), (9, 0), (0, 0), (0, 0)] [] L μ Q) ∧ (¬ ((μ ((rf L v0 0)) v5) * ((μ ((rf L v0 0)) 3) / (μ ((rf L v0 0)) ((v5 + 1))))) = 0 → (inL ((μ ((rf L v0 0)) 0) * (μ ((rf L v0 0)) 3))) ∧ (((μ ((rf L v0 0)) v5) * ((μ ((rf L v0 0)) 3) / (μ ((rf L v0 0)) ((v5 + 1))))) = ((μ ((rf L v0 0)) 0) * (μ ((rf L v0 0)) 3)) → WA mX10_cuts 1 (0, 0) 190 [(2, v0), (0, v1), (0, v2), (0, v3), (9, 0), (9, 0), (9, 0), (1, ((μ ((rf L v0 0)) v5) * ((μ ((rf L v0 0)) 3) / (μ ((rf L v0 0)) ((v5 + 1)))))), (9, 0), (0, 0), (0, 0)] [] L μ Q) ∧ (¬ ((μ ((rf L v0 0)) v5) * ((μ ((rf L v0 0)) 3) / (μ ((rf L v0 0)) ((v5 + 1))))) = ((μ ((rf L v0 0)) 0) * (μ ((rf L v0 0)) 3)) → WA mX10_cuts 1 (0, 0) 190 [(2, v0), (0, v1), (0, v2), (0, v3), (9, 0), (9, 0), (9, 0), (1, ((μ ((rf L v0 0)) v5) * ((μ ((rf L v0 0)) 3) / (μ ((rf L v0 0)) ((v5 + 1)))))), (9, 0), (0, 1), (0, 0)] [] L μ Q)))) : WA mX10_cuts 1 (0, 0) 121 [(2, v0), (0, v1), (0, v2), (0, v3), (9, 0), (0, v5), (9, 0), (9, 0), (9, 0), (9, 0), (9, 0)] [(0, s0)] L μ Q := by
  refine wa_istore 123 [(2, v0), (0, v1), (0, v2), (0, v3), (9, 0), (0, v5), (0, s0), (9, 0), (9, 0), (9, 0), (9, 0)] dX10_cuts_121 rfl rfl rfl ?_
  refine wa_aload_n 124 dX10_cuts_123 rfl rfl ?_
  have e1 : isK L (rf L v0 0) (21, 510) := lay_f hL k0 0 rfl
  refine wa_getR 127 0 dX10_cuts_124 rfl wF_X10_9 rfl rfl ⟨k0, isK_pos e1⟩ ?_
  refine wa_iload 129 dX10_cuts_127 rfl rfl ?_
  obtain ⟨c2, h⟩ := h
  refine wa_laload 130 dX10_cuts_129 rfl (okA_of e1 c2) ?_
  refine wa_aload_n 131 dX10_cuts_130 rfl rfl ?_
  refine wa_getR 134 0 dX10_cuts_131 rfl wF_X10_9 rfl rfl ⟨k0, isK_pos e1⟩ ?_
  refine wa_iconst 135 dX10_cuts_134 rfl (by decide) ?_
  refine wa_laload 136 dX10_cuts_135 rfl (okA_of e1 ⟨by decide, by decide⟩) ?_
  refine wa_aload_n 137 dX10_cuts_136 rfl rfl ?_
  refine wa_getR 140 0 dX10_cuts_137 rfl wF_X10_9 rfl rfl ⟨k0, isK_pos e1⟩ ?_
  refine wa_iload 142 dX10_cuts_140 rfl rfl ?_
  refine wa_iconst 143 dX10_cuts_142 rfl (by decide) ?_
  obtain ⟨c3, h⟩ := h
  refine wa_iadd 144 dX10_cuts_143 rfl c3 ?_
  obtain ⟨c4, h⟩ := h
  refine wa_laload 145 dX10_cuts_144 rfl (okA_of e1 c4) ?_
  obtain ⟨c5, h⟩ := h
  refine wa_ldivE 146 dX10_cuts_145 rfl c5 ?_
  obtain ⟨c6, h⟩ := h
  refine wa_lmul 147 dX10_cuts_146 rfl c6 ?_
  refine wa_lstore 149 [(2, v0), (0, v1), (0, v2), (0, v3), (9, 0), (0, v5), (0, s0), (1, ((μ ((rf L v0 0)) v5) * ((μ ((rf L v0 0)) 3) / (μ ((rf L v0 0)) ((v5 + 1)))))), (9, 0), (9, 0), (9, 0)] dX10_cuts_147 rfl rfl rfl ?_
  refine wa_iload 151 dX10_cuts_149 rfl rfl ?_
  refine wa_if_ne 154 184 dX10_cuts_151 rfl (by decide) (fun q => ?_) (fun q => ?_)
  · replace h := h.1 q
    refine wa_iconst 185 dX10_cuts_184 rfl (by decide) ?_
    refine wa_istore 187 [(2, v0), (0, v1), (0, v2), (0, v3), (9, 0), (0, v5), (0, s0), (1, ((μ ((rf L v0 0)) v5) * ((μ ((rf L v0 0)) 3) / (μ ((rf L v0 0)) ((v5 + 1)))))), (9, 0), (0, 0), (9, 0)] dX10_cuts_185 rfl rfl rfl ?_
    refine wa_iconst 188 dX10_cuts_187 rfl (by decide) ?_
    refine wa_istore 190 [(2, v0), (0, v1), (0, v2), (0, v3), (9, 0), (0, v5), (0, s0), (1, ((μ ((rf L v0 0)) v5) * ((μ ((rf L v0 0)) 3) / (μ ((rf L v0 0)) ((v5 + 1)))))), (9, 0), (0, 0), (0, 0)] dX10_cuts_188 rfl rfl rfl ?_
    exact wa_weak [(2, v0), (0, v1), (0, v2), (0, v3), (9, 0), (9, 0), (9, 0), (1, ((μ ((rf L v0 0)) v5) * ((μ ((rf L v0 0)) 3) / (μ ((rf L v0 0)) ((v5 + 1)))))), (9, 0), (0, 0), (0, 0)] ⟨Or.inl rfl, Or.inl rfl, Or.inl rfl, Or.inl rfl, Or.inl rfl, Or.inr rfl, Or.inr rfl, Or.inl rfl, Or.inl rfl, Or.inl rfl, Or.inl rfl, trivial⟩ h
  · replace h := h.2 q
    refine wa_lload 156 dX10_cuts_154 rfl rfl ?_
    refine wa_lconst 157 0 dX10_cuts_156 rfl ⟨rfl, by decide⟩ ?_
    refine wa_lc_eq 161 184 dX10_cuts_157 dX10_cuts_158 rfl (by decide) (fun q => ?_) (fun q => ?_)
    · replace h := h.1 q
      refine wa_iconst 185 dX10_cuts_184 rfl (by decide) ?_
      refine wa_istore 187 [(2, v0), (0, v1), (0, v2), (0, v3), (9, 0), (0, v5), (0, s0), (1, ((μ ((rf L v0 0)) v5) * ((μ ((rf L v0 0)) 3) / (μ ((rf L v0 0)) ((v5 + 1)))))), (9, 0), (0, 0), (9, 0)] dX10_cuts_185 rfl rfl rfl ?_
      refine wa_iconst 188 dX10_cuts_187 rfl (by decide) ?_
      refine wa_istore 190 [(2, v0), (0, v1), (0, v2), (0, v3), (9, 0), (0, v5), (0, s0), (1, ((μ ((rf L v0 0)) v5) * ((μ ((rf L v0 0)) 3) / (μ ((rf L v0 0)) ((v5 + 1)))))), (9, 0), (0, 0), (0, 0)] dX10_cuts_188 rfl rfl rfl ?_
      exact wa_weak [(2, v0), (0, v1), (0, v2), (0, v3), (9, 0), (9, 0), (9, 0), (1, ((μ ((rf L v0 0)) v5) * ((μ ((rf L v0 0)) 3) / (μ ((rf L v0 0)) ((v5 + 1)))))), (9, 0), (0, 0), (0, 0)] ⟨Or.inl rfl, Or.inl rfl, Or.inl rfl, Or.inl rfl, Or.inl rfl, Or.inr rfl, Or.inr rfl, Or.inl rfl, Or.inl rfl, Or.inl rfl, Or.inl rfl, trivial⟩ h
    · replace h := h.2 q
      refine wa_lload 163 dX10_cuts_161 rfl rfl ?_
      refine wa_aload_n 164 dX10_cuts_163 rfl rfl ?_
      refine wa_getR 167 0 dX10_cuts_164 rfl wF_X10_9 rfl rfl ⟨k0, isK_pos e1⟩ ?_
      refine wa_iconst 168 dX10_cuts_167 rfl (by decide) ?_
      refine wa_laload 169 dX10_cuts_168 rfl (okA_of e1 ⟨by decide, by decide⟩) ?_
      refine wa_aload_n 170 dX10_cuts_169 rfl rfl ?_
      refine wa_getR 173 0 dX10_cuts_170 rfl wF_X10_9 rfl rfl ⟨k0, isK_pos e1⟩ ?_
      refine wa_iconst 174 dX10_cuts_173 rfl (by decide) ?_
      refine wa_laload 175 dX10_cuts_174 rfl (okA_of e1 ⟨by decide, by decide⟩) ?_
      obtain ⟨c7, h⟩ := h
      refine wa_lmul 176 dX10_cuts_175 rfl c7 ?_
      refine wa_lc_eq 180 184 dX10_cuts_176 dX10_cuts_177 rfl (by decide) (fun q => ?_) (fun q => ?_)
      · replace h := h.1 q
        refine wa_iconst 185 dX10_cuts_184 rfl (by decide) ?_
        refine wa_istore 187 [(2, v0), (0, v1), (0, v2), (0, v3), (9, 0), (0, v5), (0, s0), (1, ((μ ((rf L v0 0)) v5) * ((μ ((rf L v0 0)) 3) / (μ ((rf L v0 0)) ((v5 + 1)))))), (9, 0), (0, 0), (9, 0)] dX10_cuts_185 rfl rfl rfl ?_
        refine wa_iconst 188 dX10_cuts_187 rfl (by decide) ?_
        refine wa_istore 190 [(2, v0), (0, v1), (0, v2), (0, v3), (9, 0), (0, v5), (0, s0), (1, ((μ ((rf L v0 0)) v5) * ((μ ((rf L v0 0)) 3) / (μ ((rf L v0 0)) ((v5 + 1)))))), (9, 0), (0, 0), (0, 0)] dX10_cuts_188 rfl rfl rfl ?_
        exact wa_weak [(2, v0), (0, v1), (0, v2), (0, v3), (9, 0), (9, 0), (9, 0), (1, ((μ ((rf L v0 0)) v5) * ((μ ((rf L v0 0)) 3) / (μ ((rf L v0 0)) ((v5 + 1)))))), (9, 0), (0, 0), (0, 0)] ⟨Or.inl rfl, Or.inl rfl, Or.inl rfl, Or.inl rfl, Or.inl rfl, Or.inr rfl, Or.inr rfl, Or.inl rfl, Or.inl rfl, Or.inl rfl, Or.inl rfl, trivial⟩ h
      · replace h := h.2 q
        refine wa_iconst 181 dX10_cuts_180 rfl (by decide) ?_
        refine wa_goto 185 dX10_cuts_181 (by decide) ?_
        refine wa_istore 187 [(2, v0), (0, v1), (0, v2), (0, v3), (9, 0), (0, v5), (0, s0), (1, ((μ ((rf L v0 0)) v5) * ((μ ((rf L v0 0)) 3) / (μ ((rf L v0 0)) ((v5 + 1)))))), (9, 0), (0, 1), (9, 0)] dX10_cuts_185 rfl rfl rfl ?_
        refine wa_iconst 188 dX10_cuts_187 rfl (by decide) ?_
        refine wa_istore 190 [(2, v0), (0, v1), (0, v2), (0, v3), (9, 0), (0, v5), (0, s0), (1, ((μ ((rf L v0 0)) v5) * ((μ ((rf L v0 0)) 3) / (μ ((rf L v0 0)) ((v5 + 1)))))), (9, 0), (0, 1), (0, 0)] dX10_cuts_188 rfl rfl rfl ?_
        exact wa_weak [(2, v0), (0, v1), (0, v2), (0, v3), (9, 0), (9, 0), (9, 0), (1, ((μ ((rf L v0 0)) v5) * ((μ ((rf L v0 0)) 3) / (μ ((rf L v0 0)) ((v5 + 1)))))), (9, 0), (0, 1), (0, 0)] ⟨Or.inl rfl, Or.inl rfl, Or.inl rfl, Or.inl rfl, Or.inl rfl, Or.inr rfl, Or.inr rfl, Or.inl rfl, Or.inl rfl, Or.inl rfl, Or.inl rfl, trivial⟩ h
set_option maxRecDepth 20000 in
theorem s_X10_cuts_190 (hL : LayOK L) {v0 v1 v2 v3 v7 v9 v10 : Int} (k0 : isK L v0 (10, 0)) (h : (v1 ≤ v10 → (0 ≤ v1 ∧ v1 < 20) ∧ (v9 = 0 → (inI (v1 + 0)) ∧ (inI (v3 + 1)) ∧ WA mX10_cuts 1 (0, 0) 24 [(2, v0), (0, (v1 + 0)), (0, v2), (0, (v3 + 1)), (9, 0), (9, 0), (9, 0), (9, 0), (9, 0), (9, 0), (9, 0)] [] L (up μ ((rf L v0 24)) v1 v7) Q) ∧ (¬ v9 = 0 → (inI (v1 + 1)) ∧ (inI (v3 + 1)) ∧ WA mX10_cuts 1 (0, 0) 24 [(2, v0), (0, (v1 + 1)), (0, v2), (0, (v3 + 1)), (9, 0), (9, 0), (9, 0), (9, 0), (9, 0), (9, 0), (9, 0)] [] L (up μ ((rf L v0 24)) v1 v7) Q)) ∧ (¬ v1 ≤ v10 → (v9 = 0 → (inI (v10 + 1)) ∧ WA mX10_cuts 1 (0, 0) 190 [(2, v0), (0, v1), (0, v2), (0, v3), (9, 0), (9, 0), (9, 0), (1, v7), (9, 0), (0, 0), (0, (v10 + 1))] [] L μ Q) ∧ (¬ v9 = 0 → (0 ≤ v10 ∧ v10 < 20) ∧ ((μ ((rf L v0 24)) v10) = v7 → (inI (v10 + 1)) ∧ WA mX10_cuts 1 (0, 0) 190 [(2, v0), (0, v1), (0, v2), (0, v3), (9, 0), (9, 0), (9, 0), (1, v7), (9, 0), (0, 0), (0, (v10 + 1))] [] L μ Q) ∧ (¬ (μ ((rf L v0 24)) v10) = v7 → (inI (v10 + 1)) ∧ WA mX10_cuts 1 (0, 0) 190 [(2, v0), (0, v1), (0, v2), (0, v3), (9, 0), (9, 0), (9, 0), (1, v7), (9, 0), (0, 1), (0, (v10 + 1))] [] L μ Q)))) : WA mX10_cuts 1 (0, 0) 190 [(2, v0), (0, v1), (0, v2), (0, v3), (9, 0), (9, 0), (9, 0), (1, v7), (9, 0), (0, v9), (0, v10)] [] L μ Q := by
  refine wa_iload 192 dX10_cuts_190 rfl rfl ?_
  refine wa_iload_n 193 dX10_cuts_192 rfl rfl ?_
  refine wa_icmp_ge 196 227 dX10_cuts_193 rfl (by decide) (fun q => ?_) (fun q => ?_)
  · replace h := h.1 q
    refine wa_aload_n 228 dX10_cuts_227 rfl rfl ?_
    have e1 : isK L (rf L v0 24) (21, 20) := lay_f hL k0 24 rfl
    refine wa_getR 231 24 dX10_cuts_228 rfl wF_X10_49 rfl rfl ⟨k0, isK_pos e1⟩ ?_
    refine wa_iload_n 232 dX10_cuts_231 rfl rfl ?_
    refine wa_lload 234 dX10_cuts_232 rfl rfl ?_
    obtain ⟨c2, h⟩ := h
    refine wa_lastore 235 dX10_cuts_234 rfl (okA_of e1 c2) ?_
    refine wa_iload_n 236 dX10_cuts_235 rfl rfl ?_
    refine wa_iload 238 dX10_cuts_236 rfl rfl ?_
    refine wa_if_eq 241 245 dX10_cuts_238 rfl (by decide) (fun q => ?_) (fun q => ?_)
    · replace h := h.1 q
      refine wa_iconst 246 dX10_cuts_245 rfl (by decide) ?_
      obtain ⟨c3, h⟩ := h
      refine wa_iadd 247 dX10_cuts_246 rfl c3 ?_
      refine wa_istore_n 248 [(2, v0), (0, (v1 + 0)), (0, v2), (0, v3), (9, 0), (9, 0), (9, 0), (1, v7), (9, 0), (0, v9), (0, v10)] dX10_cuts_247 rfl rfl rfl ?_
      obtain ⟨c4, h⟩ := h
      refine wa_iinc 251 [(2, v0), (0, (v1 + 0)), (0, v2), (0, (v3 + 1)), (9, 0), (9, 0), (9, 0), (1, v7), (9, 0), (0, v9), (0, v10)] dX10_cuts_248 rfl rfl rfl c4 rfl ?_
      refine wa_goto 24 dX10_cuts_251 (by decide) ?_
      exact wa_weak [(2, v0), (0, (v1 + 0)), (0, v2), (0, (v3 + 1)), (9, 0), (9, 0), (9, 0), (9, 0), (9, 0), (9, 0), (9, 0)] ⟨Or.inl rfl, Or.inl rfl, Or.inl rfl, Or.inl rfl, Or.inl rfl, Or.inl rfl, Or.inl rfl, Or.inr rfl, Or.inl rfl, Or.inr rfl, Or.inr rfl, trivial⟩ h
    · replace h := h.2 q
      refine wa_iconst 242 dX10_cuts_241 rfl (by decide) ?_
      refine wa_goto 246 dX10_cuts_242 (by decide) ?_
      obtain ⟨c5, h⟩ := h
      refine wa_iadd 247 dX10_cuts_246 rfl c5 ?_
      refine wa_istore_n 248 [(2, v0), (0, (v1 + 1)), (0, v2), (0, v3), (9, 0), (9, 0), (9, 0), (1, v7), (9, 0), (0, v9), (0, v10)] dX10_cuts_247 rfl rfl rfl ?_
      obtain ⟨c6, h⟩ := h
      refine wa_iinc 251 [(2, v0), (0, (v1 + 1)), (0, v2), (0, (v3 + 1)), (9, 0), (9, 0), (9, 0), (1, v7), (9, 0), (0, v9), (0, v10)] dX10_cuts_248 rfl rfl rfl c6 rfl ?_
      refine wa_goto 24 dX10_cuts_251 (by decide) ?_
      exact wa_weak [(2, v0), (0, (v1 + 1)), (0, v2), (0, (v3 + 1)), (9, 0), (9, 0), (9, 0), (9, 0), (9, 0), (9, 0), (9, 0)] ⟨Or.inl rfl, Or.inl rfl, Or.inl rfl, Or.inl rfl, Or.inl rfl, Or.inl rfl, Or.inl rfl, Or.inr rfl, Or.inl rfl, Or.inr rfl, Or.inr rfl, trivial⟩ h
  · replace h := h.2 q
    refine wa_iload 198 dX10_cuts_196 rfl rfl ?_
    refine wa_if_eq 201 218 dX10_cuts_198 rfl (by decide) (fun q => ?_) (fun q => ?_)
    · replace h := h.1 q
      refine wa_iconst 219 dX10_cuts_218 rfl (by decide) ?_
      refine wa_istore 221 [(2, v0), (0, v1), (0, v2), (0, v3), (9, 0), (9, 0), (9, 0), (1, v7), (9, 0), (0, 0), (0, v10)] dX10_cuts_219 rfl rfl rfl ?_
      obtain ⟨c7, h⟩ := h
      refine wa_iinc 224 [(2, v0), (0, v1), (0, v2), (0, v3), (9, 0), (9, 0), (9, 0), (1, v7), (9, 0), (0, 0), (0, (v10 + 1))] dX10_cuts_221 rfl rfl rfl c7 rfl ?_
      refine wa_goto 190 dX10_cuts_224 (by decide) ?_
      exact h
    · replace h := h.2 q
      refine wa_aload_n 202 dX10_cuts_201 rfl rfl ?_
      have e8 : isK L (rf L v0 24) (21, 20) := lay_f hL k0 24 rfl
      refine wa_getR 205 24 dX10_cuts_202 rfl wF_X10_49 rfl rfl ⟨k0, isK_pos e8⟩ ?_
      refine wa_iload 207 dX10_cuts_205 rfl rfl ?_
      obtain ⟨c9, h⟩ := h
      refine wa_laload 208 dX10_cuts_207 rfl (okA_of e8 c9) ?_
      refine wa_lload 210 dX10_cuts_208 rfl rfl ?_
      refine wa_lc_eq 214 218 dX10_cuts_210 dX10_cuts_211 rfl (by decide) (fun q => ?_) (fun q => ?_)
      · replace h := h.1 q
        refine wa_iconst 219 dX10_cuts_218 rfl (by decide) ?_
        refine wa_istore 221 [(2, v0), (0, v1), (0, v2), (0, v3), (9, 0), (9, 0), (9, 0), (1, v7), (9, 0), (0, 0), (0, v10)] dX10_cuts_219 rfl rfl rfl ?_
        obtain ⟨c10, h⟩ := h
        refine wa_iinc 224 [(2, v0), (0, v1), (0, v2), (0, v3), (9, 0), (9, 0), (9, 0), (1, v7), (9, 0), (0, 0), (0, (v10 + 1))] dX10_cuts_221 rfl rfl rfl c10 rfl ?_
        refine wa_goto 190 dX10_cuts_224 (by decide) ?_
        exact h
      · replace h := h.2 q
        refine wa_iconst 215 dX10_cuts_214 rfl (by decide) ?_
        refine wa_goto 219 dX10_cuts_215 (by decide) ?_
        refine wa_istore 221 [(2, v0), (0, v1), (0, v2), (0, v3), (9, 0), (9, 0), (9, 0), (1, v7), (9, 0), (0, 1), (0, v10)] dX10_cuts_219 rfl rfl rfl ?_
        obtain ⟨c11, h⟩ := h
        refine wa_iinc 224 [(2, v0), (0, v1), (0, v2), (0, v3), (9, 0), (9, 0), (9, 0), (1, v7), (9, 0), (0, 1), (0, (v10 + 1))] dX10_cuts_221 rfl rfl rfl c11 rfl ?_
        refine wa_goto 190 dX10_cuts_224 (by decide) ?_
        exact h
set_option maxRecDepth 20000 in
theorem t_X10_diminish (hL : LayOK L) {v0 : Int} (k0 : isK L v0 (10, 0)) (h : TR mX10_agents 0 (0, 0) [(2, v0)] L μ (fun r1 L2 μ3 => ∃ w4, r1 = some (0, w4) ∧ L = L2 ∧ (inI ((bShl 1 w4) - 1)) ∧ TR mX10_agents 0 (0, 0) [(2, v0)] L μ3 (fun r6 L7 μ8 => ∃ w9, r6 = some (0, w9) ∧ L = L7 ∧ WA mX10_diminish 5 (0, 0) 20 [(2, v0), (0, ((bShl 1 w4) - 1)), (1, 0), (9, 0), (1, 1), (9, 0), (0, w9), (9, 0), (9, 0), (9, 0)] [] L μ8 Q))) : TR mX10_diminish 5 (0, 0) [(2, v0)] L μ Q := by
  refine TR.of (ls := [(2, v0), (9, 0), (9, 0), (9, 0), (9, 0), (9, 0), (9, 0), (9, 0), (9, 0), (9, 0)]) (by decide) (by simp) rfl (Nat.le_of_ble_eq_true rfl) ?_
  refine wa_iconst 1 dX10_diminish_0 rfl (by decide) ?_
  refine wa_aload_n 2 dX10_diminish_1 rfl rfl ?_
  refine wa_callV 5 0 0 10 (av := []) (rest := [(0, 1)]) (k1 := (0, 0)) (k2 := (0, 0)) cvX10_agents dX10_diminish_2 rfl wM_X10_75 ⟨rfl, by decide, rfl, Nat.le_of_ble_eq_true rfl, by decide, Nat.le_of_ble_eq_true rfl, rfl, rfl⟩ rfl k0 (TR.mono h (fun r1 L2 μ3 h => ?_))
  obtain ⟨w4, rfl, rfl, h⟩ := h
  show WA mX10_diminish 5 (0, 0) 5 [(2, v0), (9, 0), (9, 0), (9, 0), (9, 0), (9, 0), (9, 0), (9, 0), (9, 0), (9, 0)] [(0, w4), (0, 1)] L μ3 Q
  refine wa_ishl 6 dX10_diminish_5 rfl ?_
  refine wa_iconst 7 dX10_diminish_6 rfl (by decide) ?_
  obtain ⟨c5, h⟩ := h
  refine wa_isub 8 dX10_diminish_7 rfl c5 ?_
  refine wa_istore_n 9 [(2, v0), (0, ((bShl 1 w4) - 1)), (9, 0), (9, 0), (9, 0), (9, 0), (9, 0), (9, 0), (9, 0), (9, 0)] dX10_diminish_8 rfl rfl rfl ?_
  refine wa_lconst 10 0 dX10_diminish_9 rfl ⟨rfl, by decide⟩ ?_
  refine wa_lstore_n 11 [(2, v0), (0, ((bShl 1 w4) - 1)), (1, 0), (9, 0), (9, 0), (9, 0), (9, 0), (9, 0), (9, 0), (9, 0)] dX10_diminish_10 rfl rfl rfl ?_
  refine wa_lconst 12 1 dX10_diminish_11 rfl ⟨rfl, by decide⟩ ?_
  refine wa_lstore 14 [(2, v0), (0, ((bShl 1 w4) - 1)), (1, 0), (9, 0), (1, 1), (9, 0), (9, 0), (9, 0), (9, 0), (9, 0)] dX10_diminish_12 rfl rfl rfl ?_
  refine wa_aload_n 15 dX10_diminish_14 rfl rfl ?_
  refine wa_callV 18 0 0 10 (av := []) (rest := []) (k1 := (0, 0)) (k2 := (0, 0)) cvX10_agents dX10_diminish_15 rfl wM_X10_75 ⟨rfl, by decide, rfl, Nat.le_of_ble_eq_true rfl, by decide, Nat.le_of_ble_eq_true rfl, rfl, rfl⟩ rfl k0 (TR.mono h (fun r6 L7 μ8 h => ?_))
  obtain ⟨w9, rfl, rfl, h⟩ := h
  show WA mX10_diminish 5 (0, 0) 18 [(2, v0), (0, ((bShl 1 w4) - 1)), (1, 0), (9, 0), (1, 1), (9, 0), (9, 0), (9, 0), (9, 0), (9, 0)] [(0, w9)] L μ8 Q
  refine wa_istore 20 [(2, v0), (0, ((bShl 1 w4) - 1)), (1, 0), (9, 0), (1, 1), (9, 0), (0, w9), (9, 0), (9, 0), (9, 0)] dX10_diminish_18 rfl rfl rfl ?_
  exact h
set_option maxRecDepth 20000 in
theorem s_X10_diminish_20 (hL : LayOK L) {v0 v1 v2 v4 v6 : Int} (k0 : isK L v0 (10, 0)) (h : (v6 ≤ 1 → TR mX10_lastOf 1 (0, 0) [(2, v0), (0, v1)] L μ (fun r1 L2 μ3 => ∃ w4, r1 = some (0, w4) ∧ L = L2 ∧ TR mX10_ends 0 (0, 0) [(2, v0)] L μ3 (fun r5 L6 μ7 => ∃ w8, r5 = some (1, w8) ∧ L = L6 ∧ TR mX10_takes 1 (0, 0) [(2, v0), (0, w4), (1, v2), (1, v4), (1, w8), (1, 1)] L μ7 (fun r9 L10 μ11 => r9 = none ∧ L = L10 ∧ Q none L μ11)))) ∧ (¬ v6 ≤ 1 → WA mX10_diminish 5 (0, 0) 32 [(2, v0), (0, v1), (1, v2), (9, 0), (1, v4), (9, 0), (0, v6), (0, (-1)), (0, 0), (9, 0)] [] L μ Q)) : WA mX10_diminish 5 (0, 0) 20 [(2, v0), (0, v1), (1, v2), (9, 0), (1, v4), (9, 0), (0, v6), (9, 0), (9, 0), (9, 0)] [] L μ Q := by
  refine wa_iload 22 dX10_diminish_20 rfl rfl ?_
  refine wa_iconst 23 dX10_diminish_22 rfl (by decide) ?_
  refine wa_icmp_le 26 213 dX10_diminish_23 rfl (by decide) (fun q => ?_) (fun q => ?_)
  · replace h := h.1 q
    refine wa_aload_n 214 dX10_diminish_213 rfl rfl ?_
    refine wa_aload_n 215 dX10_diminish_214 rfl rfl ?_
    refine wa_iload_n 216 dX10_diminish_215 rfl rfl ?_
    refine wa_callV 219 1 1 10 (av := [(0, v1)]) (rest := [(2, v0)]) (k1 := (0, 0)) (k2 := (0, 0)) cvX10_lastOf dX10_diminish_216 rfl wM_X10_256 ⟨rfl, by decide, rfl, Nat.le_of_ble_eq_true rfl, by decide, Nat.le_of_ble_eq_true rfl, rfl, rfl⟩ rfl k0 (TR.mono h (fun r1 L2 μ3 h => ?_))
    obtain ⟨w4, rfl, rfl, h⟩ := h
    show WA mX10_diminish 5 (0, 0) 219 [(2, v0), (0, v1), (1, v2), (9, 0), (1, v4), (9, 0), (0, v6), (9, 0), (9, 0), (9, 0)] [(0, w4), (2, v0)] L μ3 Q
    refine wa_lload_n 220 dX10_diminish_219 rfl rfl ?_
    refine wa_lload 222 dX10_diminish_220 rfl rfl ?_
    refine wa_aload_n 223 dX10_diminish_222 rfl rfl ?_
    refine wa_callV 226 0 0 10 (av := []) (rest := [(1, v4), (1, v2), (0, w4), (2, v0)]) (k1 := (0, 0)) (k2 := (0, 0)) cvX10_ends dX10_diminish_223 rfl wM_X10_249 ⟨rfl, by decide, rfl, Nat.le_of_ble_eq_true rfl, by decide, Nat.le_of_ble_eq_true rfl, rfl, rfl⟩ rfl k0 (TR.mono h (fun r5 L6 μ7 h => ?_))
    obtain ⟨w8, rfl, rfl, h⟩ := h
    show WA mX10_diminish 5 (0, 0) 226 [(2, v0), (0, v1), (1, v2), (9, 0), (1, v4), (9, 0), (0, v6), (9, 0), (9, 0), (9, 0)] [(1, w8), (1, v4), (1, v2), (0, w4), (2, v0)] L μ7 Q
    refine wa_lconst 227 1 dX10_diminish_226 rfl ⟨rfl, by decide⟩ ?_
    refine wa_callV 230 1 5 10 (av := [(0, w4), (1, v2), (1, v4), (1, w8), (1, 1)]) (rest := []) (k1 := (0, 0)) (k2 := (0, 0)) cvX10_takes dX10_diminish_227 rfl wM_X10_253 ⟨rfl, by decide, rfl, Nat.le_of_ble_eq_true rfl, by decide, Nat.le_of_ble_eq_true rfl, rfl, rfl⟩ rfl k0 (TR.mono h (fun r9 L10 μ11 h => ?_))
    obtain ⟨rfl, rfl, h⟩ := h
    show WA mX10_diminish 5 (0, 0) 230 [(2, v0), (0, v1), (1, v2), (9, 0), (1, v4), (9, 0), (0, v6), (9, 0), (9, 0), (9, 0)] [] L μ11 Q
    exact wa_vret dX10_diminish_230 rfl h
  · replace h := h.2 q
    refine wa_iconst 27 dX10_diminish_26 rfl (by decide) ?_
    refine wa_istore 29 [(2, v0), (0, v1), (1, v2), (9, 0), (1, v4), (9, 0), (0, v6), (0, (-1)), (9, 0), (9, 0)] dX10_diminish_27 rfl rfl rfl ?_
    refine wa_iconst 30 dX10_diminish_29 rfl (by decide) ?_
    refine wa_istore 32 [(2, v0), (0, v1), (1, v2), (9, 0), (1, v4), (9, 0), (0, v6), (0, (-1)), (0, 0), (9, 0)] dX10_diminish_30 rfl rfl rfl ?_
    exact h
set_option maxRecDepth 20000 in
theorem s_X10_diminish_32 (hL : LayOK L) {v0 v1 v2 v4 v6 v7 v8 : Int} (k0 : isK L v0 (10, 0)) (h : TR mX10_agents 0 (0, 0) [(2, v0)] L μ (fun r1 L2 μ3 => ∃ w4, r1 = some (0, w4) ∧ L = L2 ∧ (w4 ≤ v8 → WA mX10_diminish 5 (0, 0) 150 [(2, v0), (0, v1), (1, v2), (9, 0), (1, v4), (9, 0), (0, v6), (0, v7), (9, 0), (9, 0)] [] L μ3 Q) ∧ (¬ w4 ≤ v8 → (¬ (μ3 v0 11) = 0 → WA mX10_diminish 5 (0, 0) 150 [(2, v0), (0, v1), (1, v2), (9, 0), (1, v4), (9, 0), (0, v6), (0, v7), (9, 0), (9, 0)] [] L μ3 Q) ∧ ((μ3 v0 11) = 0 → TR mX10_ordered 1 (0, 0) [(2, v0), (0, v8)] L μ3 (fun r5 L6 μ7 => ∃ w8, r5 = some (0, w8) ∧ L = L6 ∧ (¬ (bAnd ((bShr v1 w8)) 1) = 1 → WA mX10_diminish 5 (0, 0) 115 [(2, v0), (0, v1), (1, v2), (9, 0), (1, v4), (9, 0), (0, v6), (0, v7), (0, v8), (0, w8)] [] L μ7 Q) ∧ ((bAnd ((bShr v1 w8)) 1) = 1 → (0 ≤ v7 → WA mX10_diminish 5 (0, 0) 115 [(2, v0), (0, v1), (1, v2), (9, 0), (1, v4), (9, 0), (0, v6), (0, v7), (0, v8), (0, w8)] [] L μ7 Q) ∧ (¬ 0 ≤ v7 → TR mX10_ends 0 (0, 0) [(2, v0)] L μ7 (fun r9 L10 μ11 => ∃ w12, r9 = some (1, w12) ∧ L = L10 ∧ TR mX10_worthBetween 2 (0, 0) [(2, v0), (0, w8), (0, 1), (1, v2), (1, v4), (1, w12), (1, 1)] L μ11 (fun r13 L14 μ15 => r13 = none ∧ L = L14 ∧ (inL ((μ15 v0 5) * v6)) ∧ TR mX10_marksPoint 3 (0, 0) [(2, v0), (0, w8), (1, v2), (1, v4), (1, (μ15 v0 4)), (1, ((μ15 v0 5) * v6)), (0, 1)] L μ15 (fun r17 L18 μ19 => r17 = none ∧ L = L18 ∧ (inI (v8 + 1)) ∧ WA mX10_diminish 5 (0, 0) 32 [(2, v0), (0, v1), (1, v2), (9, 0), (1, v4), (9, 0), (0, v6), (0, w8), (0, (v8 + 1)), (9, 0)] [] L μ19 Q)))))))))) : WA mX10_diminish 5 (0, 0) 32 [(2, v0), (0, v1), (1, v2), (9, 0), (1, v4), (9, 0), (0, v6), (0, v7), (0, v8), (9, 0)] [] L μ Q := by
  refine wa_iload 34 dX10_diminish_32 rfl rfl ?_
  refine wa_aload_n 35 dX10_diminish_34 rfl rfl ?_
  refine wa_callV 38 0 0 10 (av := []) (rest := [(0, v8)]) (k1 := (0, 0)) (k2 := (0, 0)) cvX10_agents dX10_diminish_35 rfl wM_X10_75 ⟨rfl, by decide, rfl, Nat.le_of_ble_eq_true rfl, by decide, Nat.le_of_ble_eq_true rfl, rfl, rfl⟩ rfl k0 (TR.mono h (fun r1 L2 μ3 h => ?_))
  obtain ⟨w4, rfl, rfl, h⟩ := h
  show WA mX10_diminish 5 (0, 0) 38 [(2, v0), (0, v1), (1, v2), (9, 0), (1, v4), (9, 0), (0, v6), (0, v7), (0, v8), (9, 0)] [(0, w4), (0, v8)] L μ3 Q
  refine wa_icmp_ge 41 150 dX10_diminish_38 rfl (by decide) (fun q => ?_) (fun q => ?_)
  · replace h := h.1 q
    exact wa_weak [(2, v0), (0, v1), (1, v2), (9, 0), (1, v4), (9, 0), (0, v6), (0, v7), (9, 0), (9, 0)] ⟨Or.inl rfl, Or.inl rfl, Or.inl rfl, Or.inl rfl, Or.inl rfl, Or.inl rfl, Or.inl rfl, Or.inl rfl, Or.inr rfl, Or.inl rfl, trivial⟩ h
  · replace h := h.2 q
    refine wa_aload_n 42 dX10_diminish_41 rfl rfl ?_
    refine wa_getI 45 11 dX10_diminish_42 rfl wF_X10_219 rfl rfl k0 ?_
    refine wa_if_ne 48 150 dX10_diminish_45 rfl (by decide) (fun q => ?_) (fun q => ?_)
    · replace h := h.1 q
      exact wa_weak [(2, v0), (0, v1), (1, v2), (9, 0), (1, v4), (9, 0), (0, v6), (0, v7), (9, 0), (9, 0)] ⟨Or.inl rfl, Or.inl rfl, Or.inl rfl, Or.inl rfl, Or.inl rfl, Or.inl rfl, Or.inl rfl, Or.inl rfl, Or.inr rfl, Or.inl rfl, trivial⟩ h
    · replace h := h.2 q
      refine wa_aload_n 49 dX10_diminish_48 rfl rfl ?_
      refine wa_iload 51 dX10_diminish_49 rfl rfl ?_
      refine wa_callV 54 1 1 10 (av := [(0, v8)]) (rest := []) (k1 := (0, 0)) (k2 := (0, 0)) cvX10_ordered dX10_diminish_51 rfl wM_X10_242 ⟨rfl, by decide, rfl, Nat.le_of_ble_eq_true rfl, by decide, Nat.le_of_ble_eq_true rfl, rfl, rfl⟩ rfl k0 (TR.mono h (fun r5 L6 μ7 h => ?_))
      obtain ⟨w8, rfl, rfl, h⟩ := h
      show WA mX10_diminish 5 (0, 0) 54 [(2, v0), (0, v1), (1, v2), (9, 0), (1, v4), (9, 0), (0, v6), (0, v7), (0, v8), (9, 0)] [(0, w8)] L μ7 Q
      refine wa_istore 56 [(2, v0), (0, v1), (1, v2), (9, 0), (1, v4), (9, 0), (0, v6), (0, v7), (0, v8), (0, w8)] dX10_diminish_54 rfl rfl rfl ?_
      refine wa_iload_n 57 dX10_diminish_56 rfl rfl ?_
      refine wa_iload 59 dX10_diminish_57 rfl rfl ?_
      refine wa_ishr 60 dX10_diminish_59 rfl ?_
      refine wa_iconst 61 dX10_diminish_60 rfl (by decide) ?_
      refine wa_iand 62 dX10_diminish_61 rfl ?_
      refine wa_iconst 63 dX10_diminish_62 rfl (by decide) ?_
      refine wa_icmp_ne 66 115 dX10_diminish_63 rfl (by decide) (fun q => ?_) (fun q => ?_)
      · replace h := h.1 q
        exact h
      · replace h := h.2 q
        refine wa_iload 68 dX10_diminish_66 rfl rfl ?_
        refine wa_if_ge 71 115 dX10_diminish_68 rfl (by decide) (fun q => ?_) (fun q => ?_)
        · replace h := h.1 q
          exact h
        · replace h := h.2 q
          refine wa_aload_n 72 dX10_diminish_71 rfl rfl ?_
          refine wa_iload 74 dX10_diminish_72 rfl rfl ?_
          refine wa_iconst 75 dX10_diminish_74 rfl (by decide) ?_
          refine wa_lload_n 76 dX10_diminish_75 rfl rfl ?_
          refine wa_lload 78 dX10_diminish_76 rfl rfl ?_
          refine wa_aload_n 79 dX10_diminish_78 rfl rfl ?_
          refine wa_callV 82 0 0 10 (av := []) (rest := [(1, v4), (1, v2), (0, 1), (0, w8), (2, v0)]) (k1 := (0, 0)) (k2 := (0, 0)) cvX10_ends dX10_diminish_79 rfl wM_X10_249 ⟨rfl, by decide, rfl, Nat.le_of_ble_eq_true rfl, by decide, Nat.le_of_ble_eq_true rfl, rfl, rfl⟩ rfl k0 (TR.mono h (fun r9 L10 μ11 h => ?_))
          obtain ⟨w12, rfl, rfl, h⟩ := h
          show WA mX10_diminish 5 (0, 0) 82 [(2, v0), (0, v1), (1, v2), (9, 0), (1, v4), (9, 0), (0, v6), (0, v7), (0, v8), (0, w8)] [(1, w12), (1, v4), (1, v2), (0, 1), (0, w8), (2, v0)] L μ11 Q
          refine wa_lconst 83 1 dX10_diminish_82 rfl ⟨rfl, by decide⟩ ?_
          refine wa_callV 86 2 6 10 (av := [(0, w8), (0, 1), (1, v2), (1, v4), (1, w12), (1, 1)]) (rest := []) (k1 := (0, 0)) (k2 := (0, 0)) cvX10_worthBetween dX10_diminish_83 rfl wM_X10_118 ⟨rfl, by decide, rfl, Nat.le_of_ble_eq_true rfl, by decide, Nat.le_of_ble_eq_true rfl, rfl, rfl⟩ rfl k0 (TR.mono h (fun r13 L14 μ15 h => ?_))
          obtain ⟨rfl, rfl, h⟩ := h
          show WA mX10_diminish 5 (0, 0) 86 [(2, v0), (0, v1), (1, v2), (9, 0), (1, v4), (9, 0), (0, v6), (0, v7), (0, v8), (0, w8)] [] L μ15 Q
          refine wa_aload_n 87 dX10_diminish_86 rfl rfl ?_
          refine wa_iload 89 dX10_diminish_87 rfl rfl ?_
          refine wa_lload_n 90 dX10_diminish_89 rfl rfl ?_
          refine wa_lload 92 dX10_diminish_90 rfl rfl ?_
          refine wa_aload_n 93 dX10_diminish_92 rfl rfl ?_
          refine wa_getL 96 4 dX10_diminish_93 rfl wF_X10_99 rfl rfl k0 ?_
          refine wa_aload_n 97 dX10_diminish_96 rfl rfl ?_
          refine wa_getL 100 5 dX10_diminish_97 rfl wF_X10_103 rfl rfl k0 ?_
          refine wa_iload 102 dX10_diminish_100 rfl rfl ?_
          refine wa_i2l 103 dX10_diminish_102 rfl ?_
          obtain ⟨c16, h⟩ := h
          refine wa_lmul 104 dX10_diminish_103 rfl c16 ?_
          refine wa_iconst 105 dX10_diminish_104 rfl (by decide) ?_
          refine wa_callV 108 3 6 10 (av := [(0, w8), (1, v2), (1, v4), (1, (μ15 v0 4)), (1, ((μ15 v0 5) * v6)), (0, 1)]) (rest := []) (k1 := (0, 0)) (k2 := (0, 0)) cvX10_marksPoint dX10_diminish_105 rfl wM_X10_245 ⟨rfl, by decide, rfl, Nat.le_of_ble_eq_true rfl, by decide, Nat.le_of_ble_eq_true rfl, rfl, rfl⟩ rfl k0 (TR.mono h (fun r17 L18 μ19 h => ?_))
          obtain ⟨rfl, rfl, h⟩ := h
          show WA mX10_diminish 5 (0, 0) 108 [(2, v0), (0, v1), (1, v2), (9, 0), (1, v4), (9, 0), (0, v6), (0, v7), (0, v8), (0, w8)] [] L μ19 Q
          refine wa_iload 110 dX10_diminish_108 rfl rfl ?_
          refine wa_istore 112 [(2, v0), (0, v1), (1, v2), (9, 0), (1, v4), (9, 0), (0, v6), (0, w8), (0, v8), (0, w8)] dX10_diminish_110 rfl rfl rfl ?_
          refine wa_goto 144 dX10_diminish_112 (by decide) ?_
          obtain ⟨c20, h⟩ := h
          refine wa_iinc 147 [(2, v0), (0, v1), (1, v2), (9, 0), (1, v4), (9, 0), (0, v6), (0, w8), (0, (v8 + 1)), (0, w8)] dX10_diminish_144 rfl rfl rfl c20 rfl ?_
          refine wa_goto 32 dX10_diminish_147 (by decide) ?_
          exact wa_weak [(2, v0), (0, v1), (1, v2), (9, 0), (1, v4), (9, 0), (0, v6), (0, w8), (0, (v8 + 1)), (9, 0)] ⟨Or.inl rfl, Or.inl rfl, Or.inl rfl, Or.inl rfl, Or.inl rfl, Or.inl rfl, Or.inl rfl, Or.inl rfl, Or.inl rfl, Or.inr rfl, trivial⟩ h
set_option maxRecDepth 20000 in
theorem s_X10_diminish_115 (hL : LayOK L) {v0 v1 v2 v4 v6 v7 v8 v9 : Int} (k0 : isK L v0 (10, 0)) (h : (¬ (bAnd ((bShr v1 v9)) 1) = 1 → (inI (v8 + 1)) ∧ WA mX10_diminish 5 (0, 0) 32 [(2, v0), (0, v1), (1, v2), (9, 0), (1, v4), (9, 0), (0, v6), (0, v7), (0, (v8 + 1)), (9, 0)] [] L μ Q) ∧ ((bAnd ((bShr v1 v9)) 1) = 1 → TR mX10_looks 4 (0, 0) [(2, v0), (0, v9), (0, v6), (1, v2), (1, v4), (0, v7)] L μ (fun r2 L3 μ4 => r2 = none ∧ L = L3 ∧ (inI (v8 + 1)) ∧ WA mX10_diminish 5 (0, 0) 32 [(2, v0), (0, v1), (1, v2), (9, 0), (1, v4), (9, 0), (0, v6), (0, (μ4 v0 15)), (0, (v8 + 1)), (9, 0)] [] L μ4 Q))) : WA mX10_diminish 5 (0, 0) 115 [(2, v0), (0, v1), (1, v2), (9, 0), (1, v4), (9, 0), (0, v6), (0, v7), (0, v8), (0, v9)] [] L μ Q := by
  refine wa_iload_n 116 dX10_diminish_115 rfl rfl ?_
  refine wa_iload 118 dX10_diminish_116 rfl rfl ?_
  refine wa_ishr 119 dX10_diminish_118 rfl ?_
  refine wa_iconst 120 dX10_diminish_119 rfl (by decide) ?_
  refine wa_iand 121 dX10_diminish_120 rfl ?_
  refine wa_iconst 122 dX10_diminish_121 rfl (by decide) ?_
  refine wa_icmp_ne 125 144 dX10_diminish_122 rfl (by decide) (fun q => ?_) (fun q => ?_)
  · replace h := h.1 q
    obtain ⟨c1, h⟩ := h
    refine wa_iinc 147 [(2, v0), (0, v1), (1, v2), (9, 0), (1, v4), (9, 0), (0, v6), (0, v7), (0, (v8 + 1)), (0, v9)] dX10_diminish_144 rfl rfl rfl c1 rfl ?_
    refine wa_goto 32 dX10_diminish_147 (by decide) ?_
    exact wa_weak [(2, v0), (0, v1), (1, v2), (9, 0), (1, v4), (9, 0), (0, v6), (0, v7), (0, (v8 + 1)), (9, 0)] ⟨Or.inl rfl, Or.inl rfl, Or.inl rfl, Or.inl rfl, Or.inl rfl, Or.inl rfl, Or.inl rfl, Or.inl rfl, Or.inl rfl, Or.inr rfl, trivial⟩ h
  · replace h := h.2 q
    refine wa_aload_n 126 dX10_diminish_125 rfl rfl ?_
    refine wa_iload 128 dX10_diminish_126 rfl rfl ?_
    refine wa_iload 130 dX10_diminish_128 rfl rfl ?_
    refine wa_lload_n 131 dX10_diminish_130 rfl rfl ?_
    refine wa_lload 133 dX10_diminish_131 rfl rfl ?_
    refine wa_iload 135 dX10_diminish_133 rfl rfl ?_
    refine wa_callV 138 4 5 10 (av := [(0, v9), (0, v6), (1, v2), (1, v4), (0, v7)]) (rest := []) (k1 := (0, 0)) (k2 := (0, 0)) cvX10_looks dX10_diminish_135 rfl wM_X10_262 ⟨rfl, by decide, rfl, Nat.le_of_ble_eq_true rfl, by decide, Nat.le_of_ble_eq_true rfl, rfl, rfl⟩ rfl k0 (TR.mono h (fun r2 L3 μ4 h => ?_))
    obtain ⟨rfl, rfl, h⟩ := h
    show WA mX10_diminish 5 (0, 0) 138 [(2, v0), (0, v1), (1, v2), (9, 0), (1, v4), (9, 0), (0, v6), (0, v7), (0, v8), (0, v9)] [] L μ4 Q
    refine wa_aload_n 139 dX10_diminish_138 rfl rfl ?_
    refine wa_getI 142 15 dX10_diminish_139 rfl wF_X10_259 rfl rfl k0 ?_
    refine wa_istore 144 [(2, v0), (0, v1), (1, v2), (9, 0), (1, v4), (9, 0), (0, v6), (0, (μ4 v0 15)), (0, v8), (0, v9)] dX10_diminish_142 rfl rfl rfl ?_
    obtain ⟨c5, h⟩ := h
    refine wa_iinc 147 [(2, v0), (0, v1), (1, v2), (9, 0), (1, v4), (9, 0), (0, v6), (0, (μ4 v0 15)), (0, (v8 + 1)), (0, v9)] dX10_diminish_144 rfl rfl rfl c5 rfl ?_
    refine wa_goto 32 dX10_diminish_147 (by decide) ?_
    exact wa_weak [(2, v0), (0, v1), (1, v2), (9, 0), (1, v4), (9, 0), (0, v6), (0, (μ4 v0 15)), (0, (v8 + 1)), (9, 0)] ⟨Or.inl rfl, Or.inl rfl, Or.inl rfl, Or.inl rfl, Or.inl rfl, Or.inl rfl, Or.inl rfl, Or.inl rfl, Or.inl rfl, Or.inr rfl, trivial⟩ h
set_option maxRecDepth 20000 in
theorem s_X10_diminish_150 (hL : LayOK L) {v0 v1 v2 v4 v6 v7 : Int} (k0 : isK L v0 (10, 0)) (h : ((μ v0 11) = 0 → (0 ≤ v7 ∧ v7 < 5) ∧ TR mX10_takes 1 (0, 0) [(2, v0), (0, v7), (1, v2), (1, v4), (1, (μ ((rf L v0 13)) v7)), (1, (μ ((rf L v0 14)) v7))] L μ (fun r4 L5 μ6 => r4 = none ∧ L = L5 ∧ (inI (v6 + (-1))) ∧ WA mX10_diminish 5 (0, 0) 20 [(2, v0), (0, (bAnd v1 ((bXor ((bShl 1 v7)) ((-1)))))), (1, (μ6 ((rf L v0 13)) v7)), (9, 0), (1, (μ6 ((rf L v0 14)) v7)), (9, 0), (0, (v6 + (-1))), (9, 0), (9, 0), (9, 0)] [] L μ6 Q)) ∧ (¬ (μ v0 11) = 0 → Q none L μ)) : WA mX10_diminish 5 (0, 0) 150 [(2, v0), (0, v1), (1, v2), (9, 0), (1, v4), (9, 0), (0, v6), (0, v7), (9, 0), (9, 0)] [] L μ Q := by
  refine wa_aload_n 151 dX10_diminish_150 rfl rfl ?_
  refine wa_getI 154 11 dX10_diminish_151 rfl wF_X10_219 rfl rfl k0 ?_
  refine wa_if_eq 157 158 dX10_diminish_154 rfl (by decide) (fun q => ?_) (fun q => ?_)
  · replace h := h.1 q
    refine wa_aload_n 159 dX10_diminish_158 rfl rfl ?_
    refine wa_iload 161 dX10_diminish_159 rfl rfl ?_
    refine wa_lload_n 162 dX10_diminish_161 rfl rfl ?_
    refine wa_lload 164 dX10_diminish_162 rfl rfl ?_
    refine wa_aload_n 165 dX10_diminish_164 rfl rfl ?_
    have e1 : isK L (rf L v0 13) (21, 5) := lay_f hL k0 13 rfl
    refine wa_getR 168 13 dX10_diminish_165 rfl wF_X10_25 rfl rfl ⟨k0, isK_pos e1⟩ ?_
    refine wa_iload 170 dX10_diminish_168 rfl rfl ?_
    obtain ⟨c2, h⟩ := h
    refine wa_laload 171 dX10_diminish_170 rfl (okA_of e1 c2) ?_
    refine wa_aload_n 172 dX10_diminish_171 rfl rfl ?_
    have e3 : isK L (rf L v0 14) (21, 5) := lay_f hL k0 14 rfl
    refine wa_getR 175 14 dX10_diminish_172 rfl wF_X10_28 rfl rfl ⟨k0, isK_pos e3⟩ ?_
    refine wa_iload 177 dX10_diminish_175 rfl rfl ?_
    refine wa_laload 178 dX10_diminish_177 rfl (okA_of e3 c2) ?_
    refine wa_callV 181 1 5 10 (av := [(0, v7), (1, v2), (1, v4), (1, (μ ((rf L v0 13)) v7)), (1, (μ ((rf L v0 14)) v7))]) (rest := []) (k1 := (0, 0)) (k2 := (0, 0)) cvX10_takes dX10_diminish_178 rfl wM_X10_253 ⟨rfl, by decide, rfl, Nat.le_of_ble_eq_true rfl, by decide, Nat.le_of_ble_eq_true rfl, rfl, rfl⟩ rfl k0 (TR.mono h (fun r4 L5 μ6 h => ?_))
    obtain ⟨rfl, rfl, h⟩ := h
    show WA mX10_diminish 5 (0, 0) 181 [(2, v0), (0, v1), (1, v2), (9, 0), (1, v4), (9, 0), (0, v6), (0, v7), (9, 0), (9, 0)] [] L μ6 Q
    refine wa_aload_n 182 dX10_diminish_181 rfl rfl ?_
    refine wa_getR 185 13 dX10_diminish_182 rfl wF_X10_25 rfl rfl ⟨k0, isK_pos e1⟩ ?_
    refine wa_iload 187 dX10_diminish_185 rfl rfl ?_
    refine wa_laload 188 dX10_diminish_187 rfl (okA_of e1 c2) ?_
    refine wa_lstore_n 189 [(2, v0), (0, v1), (1, (μ6 ((rf L v0 13)) v7)), (9, 0), (1, v4), (9, 0), (0, v6), (0, v7), (9, 0), (9, 0)] dX10_diminish_188 rfl rfl rfl ?_
    refine wa_aload_n 190 dX10_diminish_189 rfl rfl ?_
    refine wa_getR 193 14 dX10_diminish_190 rfl wF_X10_28 rfl rfl ⟨k0, isK_pos e3⟩ ?_
    refine wa_iload 195 dX10_diminish_193 rfl rfl ?_
    refine wa_laload 196 dX10_diminish_195 rfl (okA_of e3 c2) ?_
    refine wa_lstore 198 [(2, v0), (0, v1), (1, (μ6 ((rf L v0 13)) v7)), (9, 0), (1, (μ6 ((rf L v0 14)) v7)), (9, 0), (0, v6), (0, v7), (9, 0), (9, 0)] dX10_diminish_196 rfl rfl rfl ?_
    refine wa_iload_n 199 dX10_diminish_198 rfl rfl ?_
    refine wa_iconst 200 dX10_diminish_199 rfl (by decide) ?_
    refine wa_iload 202 dX10_diminish_200 rfl rfl ?_
    refine wa_ishl 203 dX10_diminish_202 rfl ?_
    refine wa_iconst 204 dX10_diminish_203 rfl (by decide) ?_
    refine wa_ixor 205 dX10_diminish_204 rfl ?_
    refine wa_iand 206 dX10_diminish_205 rfl ?_
    refine wa_istore_n 207 [(2, v0), (0, (bAnd v1 ((bXor ((bShl 1 v7)) ((-1)))))), (1, (μ6 ((rf L v0 13)) v7)), (9, 0), (1, (μ6 ((rf L v0 14)) v7)), (9, 0), (0, v6), (0, v7), (9, 0), (9, 0)] dX10_diminish_206 rfl rfl rfl ?_
    obtain ⟨c7, h⟩ := h
    refine wa_iinc 210 [(2, v0), (0, (bAnd v1 ((bXor ((bShl 1 v7)) ((-1)))))), (1, (μ6 ((rf L v0 13)) v7)), (9, 0), (1, (μ6 ((rf L v0 14)) v7)), (9, 0), (0, (v6 + (-1))), (0, v7), (9, 0), (9, 0)] dX10_diminish_207 rfl rfl rfl c7 rfl ?_
    refine wa_goto 20 dX10_diminish_210 (by decide) ?_
    exact wa_weak [(2, v0), (0, (bAnd v1 ((bXor ((bShl 1 v7)) ((-1)))))), (1, (μ6 ((rf L v0 13)) v7)), (9, 0), (1, (μ6 ((rf L v0 14)) v7)), (9, 0), (0, (v6 + (-1))), (9, 0), (9, 0), (9, 0)] ⟨Or.inl rfl, Or.inl rfl, Or.inl rfl, Or.inl rfl, Or.inl rfl, Or.inl rfl, Or.inl rfl, Or.inr rfl, Or.inl rfl, Or.inl rfl, trivial⟩ h
  · replace h := h.2 q
    exact wa_vret dX10_diminish_157 rfl h
set_option maxRecDepth 20000 in
theorem t_X10_divides (hL : LayOK L) {v0 : Int} (k0 : isK L v0 (10, 0)) (h : TR mX10_copies 0 (0, 0) [(2, (rf L v0 0)), (2, (rf L v0 1))] L μ (fun r3 L4 μ5 => r3 = none ∧ L = L4 ∧ TR mX10_undivided 0 (0, 0) [(2, v0)] L μ5 (fun r6 L7 μ8 => r6 = none ∧ L = L7 ∧ TR mX10_readShare 5 (0, 0) [(2, v0)] L (up (up (up μ8 v0 8 0) v0 9 0) v0 10 0) (fun r9 L10 μ11 => r9 = none ∧ L = L10 ∧ WA mX10_divides 6 (0, 0) 36 [(2, v0), (0, 1), (9, 0), (9, 0), (9, 0)] [] L μ11 Q)))) : TR mX10_divides 6 (0, 0) [(2, v0)] L μ Q := by
  refine TR.of (ls := [(2, v0), (9, 0), (9, 0), (9, 0), (9, 0)]) (by decide) (by simp) rfl (Nat.le_of_ble_eq_true rfl) ?_
  refine wa_aload_n 1 dX10_divides_0 rfl rfl ?_
  have e1 : isK L (rf L v0 0) (21, 510) := lay_f hL k0 0 rfl
  refine wa_getR 4 0 dX10_divides_1 rfl wF_X10_9 rfl rfl ⟨k0, isK_pos e1⟩ ?_
  refine wa_aload_n 5 dX10_divides_4 rfl rfl ?_
  have e2 : isK L (rf L v0 1) (21, 510) := lay_f hL k0 1 rfl
  refine wa_getR 8 1 dX10_divides_5 rfl wF_X10_15 rfl rfl ⟨k0, isK_pos e2⟩ ?_
  refine wa_callS 11 0 2 (av := [(2, (rf L v0 0)), (2, (rf L v0 1))]) (rest := []) (k1 := (0, 0)) (k2 := (0, 0)) cvX10_copies dX10_divides_8 rfl wM_X10_189 ⟨rfl, Nat.le_of_ble_eq_true rfl, by decide, Nat.le_of_ble_eq_true rfl, rfl, rfl⟩ rfl (TR.mono h (fun r3 L4 μ5 h => ?_))
  obtain ⟨rfl, rfl, h⟩ := h
  show WA mX10_divides 6 (0, 0) 11 [(2, v0), (9, 0), (9, 0), (9, 0), (9, 0)] [] L μ5 Q
  refine wa_aload_n 12 dX10_divides_11 rfl rfl ?_
  refine wa_callV 15 0 0 10 (av := []) (rest := []) (k1 := (0, 0)) (k2 := (0, 0)) cvX10_undivided dX10_divides_12 rfl wM_X10_226 ⟨rfl, by decide, rfl, Nat.le_of_ble_eq_true rfl, by decide, Nat.le_of_ble_eq_true rfl, rfl, rfl⟩ rfl k0 (TR.mono h (fun r6 L7 μ8 h => ?_))
  obtain ⟨rfl, rfl, h⟩ := h
  show WA mX10_divides 6 (0, 0) 15 [(2, v0), (9, 0), (9, 0), (9, 0), (9, 0)] [] L μ8 Q
  refine wa_aload_n 16 dX10_divides_15 rfl rfl ?_
  refine wa_iconst 17 dX10_divides_16 rfl (by decide) ?_
  refine wa_putN 20 8 dX10_divides_17 rfl wF_X10_154 rfl rfl k0 ?_
  refine wa_aload_n 21 dX10_divides_20 rfl rfl ?_
  refine wa_iconst 22 dX10_divides_21 rfl (by decide) ?_
  refine wa_putI 25 9 dX10_divides_22 rfl wF_X10_157 rfl rfl k0 (Or.inl rfl) ?_
  refine wa_aload_n 26 dX10_divides_25 rfl rfl ?_
  refine wa_iconst 27 dX10_divides_26 rfl (by decide) ?_
  refine wa_putN 30 10 dX10_divides_27 rfl wF_X10_213 rfl rfl k0 ?_
  refine wa_iconst 31 dX10_divides_30 rfl (by decide) ?_
  refine wa_istore_n 32 [(2, v0), (0, 1), (9, 0), (9, 0), (9, 0)] dX10_divides_31 rfl rfl rfl ?_
  refine wa_aload_n 33 dX10_divides_32 rfl rfl ?_
  refine wa_callV 36 5 0 10 (av := []) (rest := []) (k1 := (0, 0)) (k2 := (0, 0)) cvX10_readShare dX10_divides_33 rfl wM_X10_229 ⟨rfl, by decide, rfl, Nat.le_of_ble_eq_true rfl, by decide, Nat.le_of_ble_eq_true rfl, rfl, rfl⟩ rfl k0 (TR.mono h (fun r9 L10 μ11 h => ?_))
  obtain ⟨rfl, rfl, h⟩ := h
  show WA mX10_divides 6 (0, 0) 36 [(2, v0), (0, 1), (9, 0), (9, 0), (9, 0)] [] L μ11 Q
  exact h
set_option maxRecDepth 20000 in
theorem s_X10_divides_36 (hL : LayOK L) {v0 v1 : Int} (k0 : isK L v0 (10, 0)) (h : TR mX10_goesOn 1 (0, 0) [(2, v0), (0, 59)] L μ (fun r1 L2 μ3 => ∃ w4, r1 = some (0, w4) ∧ L = L2 ∧ (w4 = 0 → TR mX10_endsText 1 (0, 0) [(2, v0), (0, v1)] L μ3 (fun r5 L6 μ7 => ∃ w8, r5 = some (0, w8) ∧ L = L6 ∧ (0 ≤ w8 → WA mX10_divides 6 (0, 0) 81 [(2, v0), (0, v1), (9, 0), (0, 0), (9, 0)] [] L (up (up μ7 ((rf L v0 0)) 2 1) v0 11 0) Q) ∧ (¬ 0 ≤ w8 → Q (some (0, w8)) L μ7))) ∧ (¬ w4 = 0 → TR mX10_readShare 5 (0, 0) [(2, v0)] L μ3 (fun r10 L11 μ12 => r10 = none ∧ L = L11 ∧ (inI (v1 + 1)) ∧ WA mX10_divides 6 (0, 0) 36 [(2, v0), (0, (v1 + 1)), (9, 0), (9, 0), (9, 0)] [] L μ12 Q)))) : WA mX10_divides 6 (0, 0) 36 [(2, v0), (0, v1), (9, 0), (9, 0), (9, 0)] [] L μ Q := by
  refine wa_aload_n 37 dX10_divides_36 rfl rfl ?_
  refine wa_bipush 39 dX10_divides_37 rfl ⟨by decide, by decide⟩ ?_
  refine wa_callV 42 1 1 10 (av := [(0, 59)]) (rest := []) (k1 := (0, 0)) (k2 := (0, 0)) cvX10_goesOn dX10_divides_39 rfl wM_X10_186 ⟨rfl, by decide, rfl, Nat.le_of_ble_eq_true rfl, by decide, Nat.le_of_ble_eq_true rfl, rfl, rfl⟩ rfl k0 (TR.mono h (fun r1 L2 μ3 h => ?_))
  obtain ⟨w4, rfl, rfl, h⟩ := h
  show WA mX10_divides 6 (0, 0) 42 [(2, v0), (0, v1), (9, 0), (9, 0), (9, 0)] [(0, w4)] L μ3 Q
  refine wa_if_eq 45 55 dX10_divides_42 rfl (by decide) (fun q => ?_) (fun q => ?_)
  · replace h := h.1 q
    refine wa_aload_n 56 dX10_divides_55 rfl rfl ?_
    refine wa_iload_n 57 dX10_divides_56 rfl rfl ?_
    refine wa_callV 60 1 1 10 (av := [(0, v1)]) (rest := []) (k1 := (0, 0)) (k2 := (0, 0)) cvX10_endsText dX10_divides_57 rfl wM_X10_196 ⟨rfl, by decide, rfl, Nat.le_of_ble_eq_true rfl, by decide, Nat.le_of_ble_eq_true rfl, rfl, rfl⟩ rfl k0 (TR.mono h (fun r5 L6 μ7 h => ?_))
    obtain ⟨w8, rfl, rfl, h⟩ := h
    show WA mX10_divides 6 (0, 0) 60 [(2, v0), (0, v1), (9, 0), (9, 0), (9, 0)] [(0, w8)] L μ7 Q
    refine wa_istore_n 61 [(2, v0), (0, v1), (0, w8), (9, 0), (9, 0)] dX10_divides_60 rfl rfl rfl ?_
    refine wa_iload_n 62 dX10_divides_61 rfl rfl ?_
    refine wa_if_ge 65 67 dX10_divides_62 rfl (by decide) (fun q => ?_) (fun q => ?_)
    · replace h := h.1 q
      refine wa_aload_n 68 dX10_divides_67 rfl rfl ?_
      have e9 : isK L (rf L v0 0) (21, 510) := lay_f hL k0 0 rfl
      refine wa_getR 71 0 dX10_divides_68 rfl wF_X10_9 rfl rfl ⟨k0, isK_pos e9⟩ ?_
      refine wa_iconst 72 dX10_divides_71 rfl (by decide) ?_
      refine wa_lconst 73 1 dX10_divides_72 rfl ⟨rfl, by decide⟩ ?_
      refine wa_lastore 74 dX10_divides_73 rfl (okA_of e9 ⟨by decide, by decide⟩) ?_
      refine wa_aload_n 75 dX10_divides_74 rfl rfl ?_
      refine wa_iconst 76 dX10_divides_75 rfl (by decide) ?_
      refine wa_putI 79 11 dX10_divides_76 rfl wF_X10_219 rfl rfl k0 (Or.inl rfl) ?_
      refine wa_iconst 80 dX10_divides_79 rfl (by decide) ?_
      refine wa_istore_n 81 [(2, v0), (0, v1), (0, w8), (0, 0), (9, 0)] dX10_divides_80 rfl rfl rfl ?_
      exact wa_weak [(2, v0), (0, v1), (9, 0), (0, 0), (9, 0)] ⟨Or.inl rfl, Or.inl rfl, Or.inr rfl, Or.inl rfl, Or.inl rfl, trivial⟩ h
    · replace h := h.2 q
      refine wa_iload_n 66 dX10_divides_65 rfl rfl ?_
      exact wa_iret dX10_divides_66 rfl h
  · replace h := h.2 q
    refine wa_aload_n 46 dX10_divides_45 rfl rfl ?_
    refine wa_callV 49 5 0 10 (av := []) (rest := []) (k1 := (0, 0)) (k2 := (0, 0)) cvX10_readShare dX10_divides_46 rfl wM_X10_229 ⟨rfl, by decide, rfl, Nat.le_of_ble_eq_true rfl, by decide, Nat.le_of_ble_eq_true rfl, rfl, rfl⟩ rfl k0 (TR.mono h (fun r10 L11 μ12 h => ?_))
    obtain ⟨rfl, rfl, h⟩ := h
    show WA mX10_divides 6 (0, 0) 49 [(2, v0), (0, v1), (9, 0), (9, 0), (9, 0)] [] L μ12 Q
    obtain ⟨c13, h⟩ := h
    refine wa_iinc 52 [(2, v0), (0, (v1 + 1)), (9, 0), (9, 0), (9, 0)] dX10_divides_49 rfl rfl rfl c13 rfl ?_
    refine wa_goto 36 dX10_divides_52 (by decide) ?_
    exact h
set_option maxRecDepth 20000 in
theorem s_X10_divides_81 (hL : LayOK L) {v0 v1 v3 : Int} (k0 : isK L v0 (10, 0)) (h : TR mX10_agents 0 (0, 0) [(2, v0)] L μ (fun r1 L2 μ3 => ∃ w4, r1 = some (0, w4) ∧ L = L2 ∧ (w4 ≤ v3 → ((μ3 v0 11) = 0 → ((μ3 v0 11) = 0 → Q (some (0, v1)) L μ3) ∧ (¬ (μ3 v0 11) = 0 → Q (some (0, (-3))) L μ3)) ∧ (¬ (μ3 v0 11) = 0 → TR mX10_copies 0 (0, 0) [(2, (rf L v0 1)), (2, (rf L v0 0))] L μ3 (fun r7 L8 μ9 => r7 = none ∧ L = L8 ∧ ((μ9 v0 11) = 0 → Q (some (0, v1)) L μ9) ∧ (¬ (μ9 v0 11) = 0 → Q (some (0, (-3))) L μ9)))) ∧ (¬ w4 ≤ v3 → WA mX10_divides 6 (0, 0) 92 [(2, v0), (0, v1), (9, 0), (0, v3), (0, 0)] [] L μ3 Q))) : WA mX10_divides 6 (0, 0) 81 [(2, v0), (0, v1), (9, 0), (0, v3), (9, 0)] [] L μ Q := by
  refine wa_iload_n 82 dX10_divides_81 rfl rfl ?_
  refine wa_aload_n 83 dX10_divides_82 rfl rfl ?_
  refine wa_callV 86 0 0 10 (av := []) (rest := [(0, v3)]) (k1 := (0, 0)) (k2 := (0, 0)) cvX10_agents dX10_divides_83 rfl wM_X10_75 ⟨rfl, by decide, rfl, Nat.le_of_ble_eq_true rfl, by decide, Nat.le_of_ble_eq_true rfl, rfl, rfl⟩ rfl k0 (TR.mono h (fun r1 L2 μ3 h => ?_))
  obtain ⟨w4, rfl, rfl, h⟩ := h
  show WA mX10_divides 6 (0, 0) 86 [(2, v0), (0, v1), (9, 0), (0, v3), (9, 0)] [(0, w4), (0, v3)] L μ3 Q
  refine wa_icmp_ge 89 149 dX10_divides_86 rfl (by decide) (fun q => ?_) (fun q => ?_)
  · replace h := h.1 q
    refine wa_aload_n 150 dX10_divides_149 rfl rfl ?_
    refine wa_getI 153 11 dX10_divides_150 rfl wF_X10_219 rfl rfl k0 ?_
    refine wa_if_eq 156 167 dX10_divides_153 rfl (by decide) (fun q => ?_) (fun q => ?_)
    · replace h := h.1 q
      refine wa_aload_n 168 dX10_divides_167 rfl rfl ?_
      refine wa_getI 171 11 dX10_divides_168 rfl wF_X10_219 rfl rfl k0 ?_
      refine wa_if_eq 174 179 dX10_divides_171 rfl (by decide) (fun q => ?_) (fun q => ?_)
      · replace h := h.1 q
        refine wa_iload_n 180 dX10_divides_179 rfl rfl ?_
        exact wa_iret dX10_divides_180 rfl h
      · replace h := h.2 q
        refine wa_bipush 176 dX10_divides_174 rfl ⟨by decide, by decide⟩ ?_
        refine wa_goto 180 dX10_divides_176 (by decide) ?_
        exact wa_iret dX10_divides_180 rfl h
    · replace h := h.2 q
      refine wa_aload_n 157 dX10_divides_156 rfl rfl ?_
      have e5 : isK L (rf L v0 1) (21, 510) := lay_f hL k0 1 rfl
      refine wa_getR 160 1 dX10_divides_157 rfl wF_X10_15 rfl rfl ⟨k0, isK_pos e5⟩ ?_
      refine wa_aload_n 161 dX10_divides_160 rfl rfl ?_
      have e6 : isK L (rf L v0 0) (21, 510) := lay_f hL k0 0 rfl
      refine wa_getR 164 0 dX10_divides_161 rfl wF_X10_9 rfl rfl ⟨k0, isK_pos e6⟩ ?_
      refine wa_callS 167 0 2 (av := [(2, (rf L v0 1)), (2, (rf L v0 0))]) (rest := []) (k1 := (0, 0)) (k2 := (0, 0)) cvX10_copies dX10_divides_164 rfl wM_X10_189 ⟨rfl, Nat.le_of_ble_eq_true rfl, by decide, Nat.le_of_ble_eq_true rfl, rfl, rfl⟩ rfl (TR.mono h (fun r7 L8 μ9 h => ?_))
      obtain ⟨rfl, rfl, h⟩ := h
      show WA mX10_divides 6 (0, 0) 167 [(2, v0), (0, v1), (9, 0), (0, v3), (9, 0)] [] L μ9 Q
      refine wa_aload_n 168 dX10_divides_167 rfl rfl ?_
      refine wa_getI 171 11 dX10_divides_168 rfl wF_X10_219 rfl rfl k0 ?_
      refine wa_if_eq 174 179 dX10_divides_171 rfl (by decide) (fun q => ?_) (fun q => ?_)
      · replace h := h.1 q
        refine wa_iload_n 180 dX10_divides_179 rfl rfl ?_
        exact wa_iret dX10_divides_180 rfl h
      · replace h := h.2 q
        refine wa_bipush 176 dX10_divides_174 rfl ⟨by decide, by decide⟩ ?_
        refine wa_goto 180 dX10_divides_176 (by decide) ?_
        exact wa_iret dX10_divides_180 rfl h
  · replace h := h.2 q
    refine wa_iconst 90 dX10_divides_89 rfl (by decide) ?_
    refine wa_istore 92 [(2, v0), (0, v1), (9, 0), (0, v3), (0, 0)] dX10_divides_90 rfl rfl rfl ?_
    exact h
set_option maxRecDepth 20000 in
theorem s_X10_divides_92 (hL : LayOK L) {v0 v1 v3 v4 : Int} (k0 : isK L v0 (10, 0)) (h : (inI (165 + v3)) ∧ (0 ≤ (165 + v3) ∧ (165 + v3) < 510) ∧ (inL (2 * (μ ((rf L v0 0)) ((165 + v3))))) ∧ ((2 * (μ ((rf L v0 0)) ((165 + v3)))) ≤ v4 → (inI (v3 + 1)) ∧ WA mX10_divides 6 (0, 0) 81 [(2, v0), (0, v1), (9, 0), (0, (v3 + 1)), (9, 0)] [] L μ Q) ∧ (¬ (2 * (μ ((rf L v0 0)) ((165 + v3)))) ≤ v4 → (inI (8 * v3)) ∧ (inI (170 + (8 * v3))) ∧ (inI (2 * v4)) ∧ (inI ((170 + (8 * v3)) + (2 * v4))) ∧ (inI (((170 + (8 * v3)) + (2 * v4)) + 1)) ∧ (0 ≤ (((170 + (8 * v3)) + (2 * v4)) + 1) ∧ (((170 + (8 * v3)) + (2 * v4)) + 1) < 510) ∧ TR mX10_unites 1 (0, 0) [(2, v0), (1, (μ ((rf L v0 0)) ((((170 + (8 * v3)) + (2 * v4)) + 1))))] L μ (fun r12 L13 μ14 => r12 = none ∧ L = L13 ∧ (inI (v4 + 1)) ∧ WA mX10_divides 6 (0, 0) 92 [(2, v0), (0, v1), (9, 0), (0, v3), (0, (v4 + 1))] [] L μ14 Q))) : WA mX10_divides 6 (0, 0) 92 [(2, v0), (0, v1), (9, 0), (0, v3), (0, v4)] [] L μ Q := by
  refine wa_iload 94 dX10_divides_92 rfl rfl ?_
  refine wa_i2l 95 dX10_divides_94 rfl ?_
  refine wa_ldc2 98 2 dX10_divides_95 rfl wJ_X10_69 ⟨rfl, by decide⟩ ?_
  refine wa_aload_n 99 dX10_divides_98 rfl rfl ?_
  have e1 : isK L (rf L v0 0) (21, 510) := lay_f hL k0 0 rfl
  refine wa_getR 102 0 dX10_divides_99 rfl wF_X10_9 rfl rfl ⟨k0, isK_pos e1⟩ ?_
  refine wa_sipush 105 dX10_divides_102 rfl ⟨by decide, by decide⟩ ?_
  refine wa_iload_n 106 dX10_divides_105 rfl rfl ?_
  obtain ⟨c2, h⟩ := h
  refine wa_iadd 107 dX10_divides_106 rfl c2 ?_
  obtain ⟨c3, h⟩ := h
  refine wa_laload 108 dX10_divides_107 rfl (okA_of e1 c3) ?_
  obtain ⟨c4, h⟩ := h
  refine wa_lmul 109 dX10_divides_108 rfl c4 ?_
  refine wa_lc_ge 113 143 dX10_divides_109 dX10_divides_110 rfl (by decide) (fun q => ?_) (fun q => ?_)
  · replace h := h.1 q
    obtain ⟨c5, h⟩ := h
    refine wa_iinc 146 [(2, v0), (0, v1), (9, 0), (0, (v3 + 1)), (0, v4)] dX10_divides_143 rfl rfl rfl c5 rfl ?_
    refine wa_goto 81 dX10_divides_146 (by decide) ?_
    exact wa_weak [(2, v0), (0, v1), (9, 0), (0, (v3 + 1)), (9, 0)] ⟨Or.inl rfl, Or.inl rfl, Or.inl rfl, Or.inl rfl, Or.inr rfl, trivial⟩ h
  · replace h := h.2 q
    refine wa_aload_n 114 dX10_divides_113 rfl rfl ?_
    refine wa_aload_n 115 dX10_divides_114 rfl rfl ?_
    refine wa_getR 118 0 dX10_divides_115 rfl wF_X10_9 rfl rfl ⟨k0, isK_pos e1⟩ ?_
    refine wa_sipush 121 dX10_divides_118 rfl ⟨by decide, by decide⟩ ?_
    refine wa_bipush 123 dX10_divides_121 rfl ⟨by decide, by decide⟩ ?_
    refine wa_iload_n 124 dX10_divides_123 rfl rfl ?_
    obtain ⟨c6, h⟩ := h
    refine wa_imul 125 dX10_divides_124 rfl c6 ?_
    obtain ⟨c7, h⟩ := h
    refine wa_iadd 126 dX10_divides_125 rfl c7 ?_
    refine wa_iconst 127 dX10_divides_126 rfl (by decide) ?_
    refine wa_iload 129 dX10_divides_127 rfl rfl ?_
    obtain ⟨c8, h⟩ := h
    refine wa_imul 130 dX10_divides_129 rfl c8 ?_
    obtain ⟨c9, h⟩ := h
    refine wa_iadd 131 dX10_divides_130 rfl c9 ?_
    refine wa_iconst 132 dX10_divides_131 rfl (by decide) ?_
    obtain ⟨c10, h⟩ := h
    refine wa_iadd 133 dX10_divides_132 rfl c10 ?_
    obtain ⟨c11, h⟩ := h
    refine wa_laload 134 dX10_divides_133 rfl (okA_of e1 c11) ?_
    refine wa_callV 137 1 1 10 (av := [(1, (μ ((rf L v0 0)) ((((170 + (8 * v3)) + (2 * v4)) + 1))))]) (rest := []) (k1 := (0, 0)) (k2 := (0, 0)) cvX10_unites dX10_divides_134 rfl wM_X10_232 ⟨rfl, by decide, rfl, Nat.le_of_ble_eq_true rfl, by decide, Nat.le_of_ble_eq_true rfl, rfl, rfl⟩ rfl k0 (TR.mono h (fun r12 L13 μ14 h => ?_))
    obtain ⟨rfl, rfl, h⟩ := h
    show WA mX10_divides 6 (0, 0) 137 [(2, v0), (0, v1), (9, 0), (0, v3), (0, v4)] [] L μ14 Q
    obtain ⟨c15, h⟩ := h
    refine wa_iinc 140 [(2, v0), (0, v1), (9, 0), (0, v3), (0, (v4 + 1))] dX10_divides_137 rfl rfl rfl c15 rfl ?_
    refine wa_goto 92 dX10_divides_140 (by decide) ?_
    exact h
set_option maxRecDepth 20000 in
theorem t_X10_divisor (hL : LayOK L) {v0 v2 : Int}  (h : (0 ≤ v0 → WA mX10_divisor 0 (0, 0) 17 [(9, 0), (9, 0), (9, 0), (9, 0), (1, v0), (9, 0), (1, v2), (9, 0), (9, 0), (9, 0)] [] L μ Q) ∧ (¬ 0 ≤ v0 → (inL (-v0)) ∧ WA mX10_divisor 0 (0, 0) 17 [(9, 0), (9, 0), (9, 0), (9, 0), (1, (-v0)), (9, 0), (1, v2), (9, 0), (9, 0), (9, 0)] [] L μ Q)) : TR mX10_divisor 0 (0, 0) [(1, v0), (1, v2)] L μ Q := by
  refine TR.of (ls := [(1, v0), (9, 0), (1, v2), (9, 0), (9, 0), (9, 0), (9, 0), (9, 0), (9, 0), (9, 0)]) (by decide) (by simp) rfl (Nat.le_of_ble_eq_true rfl) ?_
  refine wa_lload_n 1 dX10_divisor_0 rfl rfl ?_
  refine wa_lconst 2 0 dX10_divisor_1 rfl ⟨rfl, by decide⟩ ?_
  refine wa_lc_ge 6 11 dX10_divisor_2 dX10_divisor_3 rfl (by decide) (fun q => ?_) (fun q => ?_)
  · replace h := h.1 q
    refine wa_lload_n 12 dX10_divisor_11 rfl rfl ?_
    refine wa_lstore 14 [(1, v0), (9, 0), (1, v2), (9, 0), (1, v0), (9, 0), (9, 0), (9, 0), (9, 0), (9, 0)] dX10_divisor_12 rfl rfl rfl ?_
    refine wa_lload_n 15 dX10_divisor_14 rfl rfl ?_
    refine wa_lstore 17 [(1, v0), (9, 0), (1, v2), (9, 0), (1, v0), (9, 0), (1, v2), (9, 0), (9, 0), (9, 0)] dX10_divisor_15 rfl rfl rfl ?_
    exact wa_weak [(9, 0), (9, 0), (9, 0), (9, 0), (1, v0), (9, 0), (1, v2), (9, 0), (9, 0), (9, 0)] ⟨Or.inr rfl, Or.inl rfl, Or.inr rfl, Or.inl rfl, Or.inl rfl, Or.inl rfl, Or.inl rfl, Or.inl rfl, Or.inl rfl, Or.inl rfl, trivial⟩ h
  · replace h := h.2 q
    refine wa_lload_n 7 dX10_divisor_6 rfl rfl ?_
    obtain ⟨c1, h⟩ := h
    refine wa_lneg 8 dX10_divisor_7 rfl c1 ?_
    refine wa_goto 12 dX10_divisor_8 (by decide) ?_
    refine wa_lstore 14 [(1, v0), (9, 0), (1, v2), (9, 0), (1, (-v0)), (9, 0), (9, 0), (9, 0), (9, 0), (9, 0)] dX10_divisor_12 rfl rfl rfl ?_
    refine wa_lload_n 15 dX10_divisor_14 rfl rfl ?_
    refine wa_lstore 17 [(1, v0), (9, 0), (1, v2), (9, 0), (1, (-v0)), (9, 0), (1, v2), (9, 0), (9, 0), (9, 0)] dX10_divisor_15 rfl rfl rfl ?_
    exact wa_weak [(9, 0), (9, 0), (9, 0), (9, 0), (1, (-v0)), (9, 0), (1, v2), (9, 0), (9, 0), (9, 0)] ⟨Or.inr rfl, Or.inl rfl, Or.inr rfl, Or.inl rfl, Or.inl rfl, Or.inl rfl, Or.inl rfl, Or.inl rfl, Or.inl rfl, Or.inl rfl, trivial⟩ h
set_option maxRecDepth 20000 in
theorem s_X10_divisor_17 (hL : LayOK L) {v4 v6 : Int}  (h : (v6 = 0 → Q (some (1, v4)) L μ) ∧ (¬ v6 = 0 → (0 ≤ v4 ∧ 0 < v6) ∧ WA mX10_divisor 0 (0, 0) 17 [(9, 0), (9, 0), (9, 0), (9, 0), (1, v6), (9, 0), (1, (v4 % v6)), (9, 0), (9, 0), (9, 0)] [] L μ Q)) : WA mX10_divisor 0 (0, 0) 17 [(9, 0), (9, 0), (9, 0), (9, 0), (1, v4), (9, 0), (1, v6), (9, 0), (9, 0), (9, 0)] [] L μ Q := by
  refine wa_lload 19 dX10_divisor_17 rfl rfl ?_
  refine wa_lconst 20 0 dX10_divisor_19 rfl ⟨rfl, by decide⟩ ?_
  refine wa_lc_eq 24 42 dX10_divisor_20 dX10_divisor_21 rfl (by decide) (fun q => ?_) (fun q => ?_)
  · replace h := h.1 q
    refine wa_lload 44 dX10_divisor_42 rfl rfl ?_
    exact wa_lret dX10_divisor_44 rfl h
  · replace h := h.2 q
    refine wa_lload 26 dX10_divisor_24 rfl rfl ?_
    refine wa_lload 28 dX10_divisor_26 rfl rfl ?_
    obtain ⟨c1, h⟩ := h
    refine wa_lremE 29 dX10_divisor_28 rfl c1 ?_
    refine wa_lstore 31 [(9, 0), (9, 0), (9, 0), (9, 0), (1, v4), (9, 0), (1, v6), (9, 0), (1, (v4 % v6)), (9, 0)] dX10_divisor_29 rfl rfl rfl ?_
    refine wa_lload 33 dX10_divisor_31 rfl rfl ?_
    refine wa_lstore 35 [(9, 0), (9, 0), (9, 0), (9, 0), (1, v6), (9, 0), (1, v6), (9, 0), (1, (v4 % v6)), (9, 0)] dX10_divisor_33 rfl rfl rfl ?_
    refine wa_lload 37 dX10_divisor_35 rfl rfl ?_
    refine wa_lstore 39 [(9, 0), (9, 0), (9, 0), (9, 0), (1, v6), (9, 0), (1, (v4 % v6)), (9, 0), (1, (v4 % v6)), (9, 0)] dX10_divisor_37 rfl rfl rfl ?_
    refine wa_goto 17 dX10_divisor_39 (by decide) ?_
    exact wa_weak [(9, 0), (9, 0), (9, 0), (9, 0), (1, v6), (9, 0), (1, (v4 % v6)), (9, 0), (9, 0), (9, 0)] ⟨Or.inl rfl, Or.inl rfl, Or.inl rfl, Or.inl rfl, Or.inl rfl, Or.inl rfl, Or.inl rfl, Or.inl rfl, Or.inr rfl, Or.inl rfl, trivial⟩ h
set_option maxRecDepth 20000 in
theorem t_X10_ends (hL : LayOK L) {v0 : Int} (k0 : isK L v0 (10, 0)) (h : Q (some (1, (μ ((rf L v0 0)) 0))) L μ) : TR mX10_ends 0 (0, 0) [(2, v0)] L μ Q := by
  refine TR.of (ls := [(2, v0)]) (by decide) (by simp) rfl (Nat.le_of_ble_eq_true rfl) ?_
  refine wa_aload_n 1 dX10_ends_0 rfl rfl ?_
  have e1 : isK L (rf L v0 0) (21, 510) := lay_f hL k0 0 rfl
  refine wa_getR 4 0 dX10_ends_1 rfl wF_X10_9 rfl rfl ⟨k0, isK_pos e1⟩ ?_
  refine wa_iconst 5 dX10_ends_4 rfl (by decide) ?_
  refine wa_laload 6 dX10_ends_5 rfl (okA_of e1 ⟨by decide, by decide⟩) ?_
  exact wa_lret dX10_ends_6 rfl h
set_option maxRecDepth 20000 in
theorem t_X10_endsText (hL : LayOK L) {v0 v1 : Int} (k0 : isK L v0 (10, 0)) (h : (¬ (μ v0 9) = 0 → (((up (up μ v0 9 1) v0 7 0) v0 9) = 0 → Q (some (0, v1)) L (up (up μ v0 9 1) v0 7 0)) ∧ (¬ ((up (up μ v0 9 1) v0 7 0) v0 9) = 0 → TR mX10_copies 0 (0, 0) [(2, (rf L v0 1)), (2, (rf L v0 0))] L (up (up μ v0 9 1) v0 7 0) (fun r3 L4 μ5 => r3 = none ∧ L = L4 ∧ (inI ((-100) - (μ5 v0 8))) ∧ Q (some (0, ((-100) - (μ5 v0 8)))) L μ5))) ∧ ((μ v0 9) = 0 → ((μ v0 7) ≤ (μ v0 8) → (((up (up μ v0 9 0) v0 7 0) v0 9) = 0 → Q (some (0, v1)) L (up (up μ v0 9 0) v0 7 0)) ∧ (¬ ((up (up μ v0 9 0) v0 7 0) v0 9) = 0 → TR mX10_copies 0 (0, 0) [(2, (rf L v0 1)), (2, (rf L v0 0))] L (up (up μ v0 9 0) v0 7 0) (fun r9 L10 μ11 => r9 = none ∧ L = L10 ∧ (inI ((-100) - (μ11 v0 8))) ∧ Q (some (0, ((-100) - (μ11 v0 8)))) L μ11))) ∧ (¬ (μ v0 7) ≤ (μ v0 8) → (((up (up μ v0 9 1) v0 7 0) v0 9) = 0 → Q (some (0, v1)) L (up (up μ v0 9 1) v0 7 0)) ∧ (¬ ((up (up μ v0 9 1) v0 7 0) v0 9) = 0 → TR mX10_copies 0 (0, 0) [(2, (rf L v0 1)), (2, (rf L v0 0))] L (up (up μ v0 9 1) v0 7 0) (fun r15 L16 μ17 => r15 = none ∧ L = L16 ∧ (inI ((-100) - (μ17 v0 8))) ∧ Q (some (0, ((-100) - (μ17 v0 8)))) L μ17))))) : TR mX10_endsText 1 (0, 0) [(2, v0), (0, v1)] L μ Q := by
  refine TR.of (ls := [(2, v0), (0, v1)]) (by decide) (by simp) rfl (Nat.le_of_ble_eq_true rfl) ?_
  refine wa_aload_n 1 dX10_endsText_0 rfl rfl ?_
  refine wa_aload_n 2 dX10_endsText_1 rfl rfl ?_
  refine wa_getI 5 9 dX10_endsText_2 rfl wF_X10_157 rfl rfl k0 ?_
  refine wa_if_ne 8 19 dX10_endsText_5 rfl (by decide) (fun q => ?_) (fun q => ?_)
  · replace h := h.1 q
    refine wa_iconst 20 dX10_endsText_19 rfl (by decide) ?_
    refine wa_goto 24 dX10_endsText_20 (by decide) ?_
    refine wa_putI 27 9 dX10_endsText_24 rfl wF_X10_157 rfl rfl k0 (Or.inr rfl) ?_
    refine wa_aload_n 28 dX10_endsText_27 rfl rfl ?_
    refine wa_iconst 29 dX10_endsText_28 rfl (by decide) ?_
    refine wa_putN 32 7 dX10_endsText_29 rfl wF_X10_150 rfl rfl k0 ?_
    refine wa_aload_n 33 dX10_endsText_32 rfl rfl ?_
    refine wa_getI 36 9 dX10_endsText_33 rfl wF_X10_157 rfl rfl k0 ?_
    refine wa_if_eq 39 58 dX10_endsText_36 rfl (by decide) (fun q => ?_) (fun q => ?_)
    · replace h := h.1 q
      refine wa_iload_n 59 dX10_endsText_58 rfl rfl ?_
      exact wa_iret dX10_endsText_59 rfl h
    · replace h := h.2 q
      refine wa_aload_n 40 dX10_endsText_39 rfl rfl ?_
      have e1 : isK L (rf L v0 1) (21, 510) := lay_f hL k0 1 rfl
      refine wa_getR 43 1 dX10_endsText_40 rfl wF_X10_15 rfl rfl ⟨k0, isK_pos e1⟩ ?_
      refine wa_aload_n 44 dX10_endsText_43 rfl rfl ?_
      have e2 : isK L (rf L v0 0) (21, 510) := lay_f hL k0 0 rfl
      refine wa_getR 47 0 dX10_endsText_44 rfl wF_X10_9 rfl rfl ⟨k0, isK_pos e2⟩ ?_
      refine wa_callS 50 0 2 (av := [(2, (rf L v0 1)), (2, (rf L v0 0))]) (rest := []) (k1 := (0, 0)) (k2 := (0, 0)) cvX10_copies dX10_endsText_47 rfl wM_X10_189 ⟨rfl, Nat.le_of_ble_eq_true rfl, by decide, Nat.le_of_ble_eq_true rfl, rfl, rfl⟩ rfl (TR.mono h (fun r3 L4 μ5 h => ?_))
      obtain ⟨rfl, rfl, h⟩ := h
      show WA mX10_endsText 1 (0, 0) 50 [(2, v0), (0, v1)] [] L μ5 Q
      refine wa_bipush 52 dX10_endsText_50 rfl ⟨by decide, by decide⟩ ?_
      refine wa_aload_n 53 dX10_endsText_52 rfl rfl ?_
      refine wa_getI 56 8 dX10_endsText_53 rfl wF_X10_154 rfl rfl k0 ?_
      obtain ⟨c6, h⟩ := h
      refine wa_isub 57 dX10_endsText_56 rfl c6 ?_
      exact wa_iret dX10_endsText_57 rfl h
  · replace h := h.2 q
    refine wa_aload_n 9 dX10_endsText_8 rfl rfl ?_
    refine wa_getI 12 8 dX10_endsText_9 rfl wF_X10_154 rfl rfl k0 ?_
    refine wa_aload_n 13 dX10_endsText_12 rfl rfl ?_
    refine wa_getI 16 7 dX10_endsText_13 rfl wF_X10_150 rfl rfl k0 ?_
    refine wa_icmp_ge 19 23 dX10_endsText_16 rfl (by decide) (fun q => ?_) (fun q => ?_)
    · replace h := h.1 q
      refine wa_iconst 24 dX10_endsText_23 rfl (by decide) ?_
      refine wa_putI 27 9 dX10_endsText_24 rfl wF_X10_157 rfl rfl k0 (Or.inl rfl) ?_
      refine wa_aload_n 28 dX10_endsText_27 rfl rfl ?_
      refine wa_iconst 29 dX10_endsText_28 rfl (by decide) ?_
      refine wa_putN 32 7 dX10_endsText_29 rfl wF_X10_150 rfl rfl k0 ?_
      refine wa_aload_n 33 dX10_endsText_32 rfl rfl ?_
      refine wa_getI 36 9 dX10_endsText_33 rfl wF_X10_157 rfl rfl k0 ?_
      refine wa_if_eq 39 58 dX10_endsText_36 rfl (by decide) (fun q => ?_) (fun q => ?_)
      · replace h := h.1 q
        refine wa_iload_n 59 dX10_endsText_58 rfl rfl ?_
        exact wa_iret dX10_endsText_59 rfl h
      · replace h := h.2 q
        refine wa_aload_n 40 dX10_endsText_39 rfl rfl ?_
        have e7 : isK L (rf L v0 1) (21, 510) := lay_f hL k0 1 rfl
        refine wa_getR 43 1 dX10_endsText_40 rfl wF_X10_15 rfl rfl ⟨k0, isK_pos e7⟩ ?_
        refine wa_aload_n 44 dX10_endsText_43 rfl rfl ?_
        have e8 : isK L (rf L v0 0) (21, 510) := lay_f hL k0 0 rfl
        refine wa_getR 47 0 dX10_endsText_44 rfl wF_X10_9 rfl rfl ⟨k0, isK_pos e8⟩ ?_
        refine wa_callS 50 0 2 (av := [(2, (rf L v0 1)), (2, (rf L v0 0))]) (rest := []) (k1 := (0, 0)) (k2 := (0, 0)) cvX10_copies dX10_endsText_47 rfl wM_X10_189 ⟨rfl, Nat.le_of_ble_eq_true rfl, by decide, Nat.le_of_ble_eq_true rfl, rfl, rfl⟩ rfl (TR.mono h (fun r9 L10 μ11 h => ?_))
        obtain ⟨rfl, rfl, h⟩ := h
        show WA mX10_endsText 1 (0, 0) 50 [(2, v0), (0, v1)] [] L μ11 Q
        refine wa_bipush 52 dX10_endsText_50 rfl ⟨by decide, by decide⟩ ?_
        refine wa_aload_n 53 dX10_endsText_52 rfl rfl ?_
        refine wa_getI 56 8 dX10_endsText_53 rfl wF_X10_154 rfl rfl k0 ?_
        obtain ⟨c12, h⟩ := h
        refine wa_isub 57 dX10_endsText_56 rfl c12 ?_
        exact wa_iret dX10_endsText_57 rfl h
    · replace h := h.2 q
      refine wa_iconst 20 dX10_endsText_19 rfl (by decide) ?_
      refine wa_goto 24 dX10_endsText_20 (by decide) ?_
      refine wa_putI 27 9 dX10_endsText_24 rfl wF_X10_157 rfl rfl k0 (Or.inr rfl) ?_
      refine wa_aload_n 28 dX10_endsText_27 rfl rfl ?_
      refine wa_iconst 29 dX10_endsText_28 rfl (by decide) ?_
      refine wa_putN 32 7 dX10_endsText_29 rfl wF_X10_150 rfl rfl k0 ?_
      refine wa_aload_n 33 dX10_endsText_32 rfl rfl ?_
      refine wa_getI 36 9 dX10_endsText_33 rfl wF_X10_157 rfl rfl k0 ?_
      refine wa_if_eq 39 58 dX10_endsText_36 rfl (by decide) (fun q => ?_) (fun q => ?_)
      · replace h := h.1 q
        refine wa_iload_n 59 dX10_endsText_58 rfl rfl ?_
        exact wa_iret dX10_endsText_59 rfl h
      · replace h := h.2 q
        refine wa_aload_n 40 dX10_endsText_39 rfl rfl ?_
        have e13 : isK L (rf L v0 1) (21, 510) := lay_f hL k0 1 rfl
        refine wa_getR 43 1 dX10_endsText_40 rfl wF_X10_15 rfl rfl ⟨k0, isK_pos e13⟩ ?_
        refine wa_aload_n 44 dX10_endsText_43 rfl rfl ?_
        have e14 : isK L (rf L v0 0) (21, 510) := lay_f hL k0 0 rfl
        refine wa_getR 47 0 dX10_endsText_44 rfl wF_X10_9 rfl rfl ⟨k0, isK_pos e14⟩ ?_
        refine wa_callS 50 0 2 (av := [(2, (rf L v0 1)), (2, (rf L v0 0))]) (rest := []) (k1 := (0, 0)) (k2 := (0, 0)) cvX10_copies dX10_endsText_47 rfl wM_X10_189 ⟨rfl, Nat.le_of_ble_eq_true rfl, by decide, Nat.le_of_ble_eq_true rfl, rfl, rfl⟩ rfl (TR.mono h (fun r15 L16 μ17 h => ?_))
        obtain ⟨rfl, rfl, h⟩ := h
        show WA mX10_endsText 1 (0, 0) 50 [(2, v0), (0, v1)] [] L μ17 Q
        refine wa_bipush 52 dX10_endsText_50 rfl ⟨by decide, by decide⟩ ?_
        refine wa_aload_n 53 dX10_endsText_52 rfl rfl ?_
        refine wa_getI 56 8 dX10_endsText_53 rfl wF_X10_154 rfl rfl k0 ?_
        obtain ⟨c18, h⟩ := h
        refine wa_isub 57 dX10_endsText_56 rfl c18 ?_
        exact wa_iret dX10_endsText_57 rfl h
set_option maxRecDepth 20000 in
theorem t_X10_envies (hL : LayOK L) {v0 v1 v2 : Int} (k0 : isK L v0 (10, 0)) (h : TR mX10_isAgent 1 (0, 0) [(2, v0), (0, v1)] L μ (fun r1 L2 μ3 => ∃ w4, r1 = some (0, w4) ∧ L = L2 ∧ (w4 = 0 → Q (some (0, (-1))) L μ3) ∧ (¬ w4 = 0 → TR mX10_in 0 (0, 0) [(1, v2), (1, 0), (1, 1)] L μ3 (fun r5 L6 μ7 => ∃ w8, r5 = some (0, w8) ∧ L = L6 ∧ (¬ w8 = 0 → TR mX10_isDivided 0 (0, 0) [(2, v0)] L μ7 (fun r9 L10 μ11 => ∃ w12, r9 = some (0, w12) ∧ L = L10 ∧ (¬ w12 = 0 → TR mX10_worthOfShare 4 (0, 0) [(2, v0), (0, v1), (0, v1), (0, v2)] L μ11 (fun r13 L14 μ15 => ∃ w16, r13 = some (1, w16) ∧ L = L14 ∧ WA mX10_envies 5 (0, 0) 44 [(2, v0), (0, v1), (0, v2), (0, 0), (1, w16), (9, 0), (0, 0)] [] L μ15 Q)) ∧ (w12 = 0 → Q (some (0, (-5))) L μ11))) ∧ (w8 = 0 → Q (some (0, (-1))) L μ7))))) : TR mX10_envies 5 (0, 0) [(2, v0), (0, v1), (0, v2)] L μ Q := by
  refine TR.of (ls := [(2, v0), (0, v1), (0, v2), (9, 0), (9, 0), (9, 0), (9, 0)]) (by decide) (by simp) rfl (Nat.le_of_ble_eq_true rfl) ?_
  refine wa_aload_n 1 dX10_envies_0 rfl rfl ?_
  refine wa_iload_n 2 dX10_envies_1 rfl rfl ?_
  refine wa_callV 5 1 1 10 (av := [(0, v1)]) (rest := []) (k1 := (0, 0)) (k2 := (0, 0)) cvX10_isAgent dX10_envies_2 rfl wM_X10_79 ⟨rfl, by decide, rfl, Nat.le_of_ble_eq_true rfl, by decide, Nat.le_of_ble_eq_true rfl, rfl, rfl⟩ rfl k0 (TR.mono h (fun r1 L2 μ3 h => ?_))
  obtain ⟨w4, rfl, rfl, h⟩ := h
  show WA mX10_envies 5 (0, 0) 5 [(2, v0), (0, v1), (0, v2), (9, 0), (9, 0), (9, 0), (9, 0)] [(0, w4)] L μ3 Q
  refine wa_if_eq 8 18 dX10_envies_5 rfl (by decide) (fun q => ?_) (fun q => ?_)
  · replace h := h.1 q
    refine wa_iconst 19 dX10_envies_18 rfl (by decide) ?_
    exact wa_iret dX10_envies_19 rfl h
  · replace h := h.2 q
    refine wa_iload_n 9 dX10_envies_8 rfl rfl ?_
    refine wa_i2l 10 dX10_envies_9 rfl ?_
    refine wa_lconst 11 0 dX10_envies_10 rfl ⟨rfl, by decide⟩ ?_
    refine wa_lconst 12 1 dX10_envies_11 rfl ⟨rfl, by decide⟩ ?_
    refine wa_callS 15 0 3 (av := [(1, v2), (1, 0), (1, 1)]) (rest := []) (k1 := (0, 0)) (k2 := (0, 0)) cvX10_in dX10_envies_12 rfl wM_X10_65 ⟨rfl, Nat.le_of_ble_eq_true rfl, by decide, Nat.le_of_ble_eq_true rfl, rfl, rfl⟩ rfl (TR.mono h (fun r5 L6 μ7 h => ?_))
    obtain ⟨w8, rfl, rfl, h⟩ := h
    show WA mX10_envies 5 (0, 0) 15 [(2, v0), (0, v1), (0, v2), (9, 0), (9, 0), (9, 0), (9, 0)] [(0, w8)] L μ7 Q
    refine wa_if_ne 18 20 dX10_envies_15 rfl (by decide) (fun q => ?_) (fun q => ?_)
    · replace h := h.1 q
      refine wa_aload_n 21 dX10_envies_20 rfl rfl ?_
      refine wa_callV 24 0 0 10 (av := []) (rest := []) (k1 := (0, 0)) (k2 := (0, 0)) cvX10_isDivided dX10_envies_21 rfl wM_X10_325 ⟨rfl, by decide, rfl, Nat.le_of_ble_eq_true rfl, by decide, Nat.le_of_ble_eq_true rfl, rfl, rfl⟩ rfl k0 (TR.mono h (fun r9 L10 μ11 h => ?_))
      obtain ⟨w12, rfl, rfl, h⟩ := h
      show WA mX10_envies 5 (0, 0) 24 [(2, v0), (0, v1), (0, v2), (9, 0), (9, 0), (9, 0), (9, 0)] [(0, w12)] L μ11 Q
      refine wa_if_ne 27 30 dX10_envies_24 rfl (by decide) (fun q => ?_) (fun q => ?_)
      · replace h := h.1 q
        refine wa_iconst 31 dX10_envies_30 rfl (by decide) ?_
        refine wa_istore_n 32 [(2, v0), (0, v1), (0, v2), (0, 0), (9, 0), (9, 0), (9, 0)] dX10_envies_31 rfl rfl rfl ?_
        refine wa_aload_n 33 dX10_envies_32 rfl rfl ?_
        refine wa_iload_n 34 dX10_envies_33 rfl rfl ?_
        refine wa_iload_n 35 dX10_envies_34 rfl rfl ?_
        refine wa_iload_n 36 dX10_envies_35 rfl rfl ?_
        refine wa_callV 39 4 3 10 (av := [(0, v1), (0, v1), (0, v2)]) (rest := []) (k1 := (0, 0)) (k2 := (0, 0)) cvX10_worthOfShare dX10_envies_36 rfl wM_X10_345 ⟨rfl, by decide, rfl, Nat.le_of_ble_eq_true rfl, by decide, Nat.le_of_ble_eq_true rfl, rfl, rfl⟩ rfl k0 (TR.mono h (fun r13 L14 μ15 h => ?_))
        obtain ⟨w16, rfl, rfl, h⟩ := h
        show WA mX10_envies 5 (0, 0) 39 [(2, v0), (0, v1), (0, v2), (0, 0), (9, 0), (9, 0), (9, 0)] [(1, w16)] L μ15 Q
        refine wa_lstore 41 [(2, v0), (0, v1), (0, v2), (0, 0), (1, w16), (9, 0), (9, 0)] dX10_envies_39 rfl rfl rfl ?_
        refine wa_iconst 42 dX10_envies_41 rfl (by decide) ?_
        refine wa_istore 44 [(2, v0), (0, v1), (0, v2), (0, 0), (1, w16), (9, 0), (0, 0)] dX10_envies_42 rfl rfl rfl ?_
        exact h
      · replace h := h.2 q
        refine wa_bipush 29 dX10_envies_27 rfl ⟨by decide, by decide⟩ ?_
        exact wa_iret dX10_envies_29 rfl h
    · replace h := h.2 q
      refine wa_iconst 19 dX10_envies_18 rfl (by decide) ?_
      exact wa_iret dX10_envies_19 rfl h
set_option maxRecDepth 20000 in
theorem s_X10_envies_44 (hL : LayOK L) {v0 v1 v2 v3 v4 v6 : Int} (k0 : isK L v0 (10, 0)) (h : TR mX10_agents 0 (0, 0) [(2, v0)] L μ (fun r1 L2 μ3 => ∃ w4, r1 = some (0, w4) ∧ L = L2 ∧ (w4 ≤ v6 → Q (some (0, v3)) L μ3) ∧ (¬ w4 ≤ v6 → TR mX10_worthOfShare 4 (0, 0) [(2, v0), (0, v1), (0, v6), (0, v2)] L μ3 (fun r5 L6 μ7 => ∃ w8, r5 = some (1, w8) ∧ L = L6 ∧ (w8 ≤ v4 → (inI (v6 + 1)) ∧ WA mX10_envies 5 (0, 0) 44 [(2, v0), (0, v1), (0, v2), (0, (bOr v3 0)), (1, v4), (9, 0), (0, (v6 + 1))] [] L μ7 Q) ∧ (¬ w8 ≤ v4 → (inI (v6 + 1)) ∧ WA mX10_envies 5 (0, 0) 44 [(2, v0), (0, v1), (0, v2), (0, (bOr v3 ((bShl 1 v6)))), (1, v4), (9, 0), (0, (v6 + 1))] [] L μ7 Q))))) : WA mX10_envies 5 (0, 0) 44 [(2, v0), (0, v1), (0, v2), (0, v3), (1, v4), (9, 0), (0, v6)] [] L μ Q := by
  refine wa_iload 46 dX10_envies_44 rfl rfl ?_
  refine wa_aload_n 47 dX10_envies_46 rfl rfl ?_
  refine wa_callV 50 0 0 10 (av := []) (rest := [(0, v6)]) (k1 := (0, 0)) (k2 := (0, 0)) cvX10_agents dX10_envies_47 rfl wM_X10_75 ⟨rfl, by decide, rfl, Nat.le_of_ble_eq_true rfl, by decide, Nat.le_of_ble_eq_true rfl, rfl, rfl⟩ rfl k0 (TR.mono h (fun r1 L2 μ3 h => ?_))
  obtain ⟨w4, rfl, rfl, h⟩ := h
  show WA mX10_envies 5 (0, 0) 50 [(2, v0), (0, v1), (0, v2), (0, v3), (1, v4), (9, 0), (0, v6)] [(0, w4), (0, v6)] L μ3 Q
  refine wa_icmp_ge 53 84 dX10_envies_50 rfl (by decide) (fun q => ?_) (fun q => ?_)
  · replace h := h.1 q
    refine wa_iload_n 85 dX10_envies_84 rfl rfl ?_
    exact wa_iret dX10_envies_85 rfl h
  · replace h := h.2 q
    refine wa_iload_n 54 dX10_envies_53 rfl rfl ?_
    refine wa_aload_n 55 dX10_envies_54 rfl rfl ?_
    refine wa_iload_n 56 dX10_envies_55 rfl rfl ?_
    refine wa_iload 58 dX10_envies_56 rfl rfl ?_
    refine wa_iload_n 59 dX10_envies_58 rfl rfl ?_
    refine wa_callV 62 4 3 10 (av := [(0, v1), (0, v6), (0, v2)]) (rest := [(0, v3)]) (k1 := (0, 0)) (k2 := (0, 0)) cvX10_worthOfShare dX10_envies_59 rfl wM_X10_345 ⟨rfl, by decide, rfl, Nat.le_of_ble_eq_true rfl, by decide, Nat.le_of_ble_eq_true rfl, rfl, rfl⟩ rfl k0 (TR.mono h (fun r5 L6 μ7 h => ?_))
    obtain ⟨w8, rfl, rfl, h⟩ := h
    show WA mX10_envies 5 (0, 0) 62 [(2, v0), (0, v1), (0, v2), (0, v3), (1, v4), (9, 0), (0, v6)] [(1, w8), (0, v3)] L μ7 Q
    refine wa_lload 64 dX10_envies_62 rfl rfl ?_
    refine wa_lc_le 68 75 dX10_envies_64 dX10_envies_65 rfl (by decide) (fun q => ?_) (fun q => ?_)
    · replace h := h.1 q
      refine wa_iconst 76 dX10_envies_75 rfl (by decide) ?_
      refine wa_ior 77 dX10_envies_76 rfl ?_
      refine wa_istore_n 78 [(2, v0), (0, v1), (0, v2), (0, (bOr v3 0)), (1, v4), (9, 0), (0, v6)] dX10_envies_77 rfl rfl rfl ?_
      obtain ⟨c9, h⟩ := h
      refine wa_iinc 81 [(2, v0), (0, v1), (0, v2), (0, (bOr v3 0)), (1, v4), (9, 0), (0, (v6 + 1))] dX10_envies_78 rfl rfl rfl c9 rfl ?_
      refine wa_goto 44 dX10_envies_81 (by decide) ?_
      exact h
    · replace h := h.2 q
      refine wa_iconst 69 dX10_envies_68 rfl (by decide) ?_
      refine wa_iload 71 dX10_envies_69 rfl rfl ?_
      refine wa_ishl 72 dX10_envies_71 rfl ?_
      refine wa_goto 76 dX10_envies_72 (by decide) ?_
      refine wa_ior 77 dX10_envies_76 rfl ?_
      refine wa_istore_n 78 [(2, v0), (0, v1), (0, v2), (0, (bOr v3 ((bShl 1 v6)))), (1, v4), (9, 0), (0, v6)] dX10_envies_77 rfl rfl rfl ?_
      obtain ⟨c10, h⟩ := h
      refine wa_iinc 81 [(2, v0), (0, v1), (0, v2), (0, (bOr v3 ((bShl 1 v6)))), (1, v4), (9, 0), (0, (v6 + 1))] dX10_envies_78 rfl rfl rfl c10 rfl ?_
      refine wa_goto 44 dX10_envies_81 (by decide) ?_
      exact h
set_option maxRecDepth 20000 in
theorem t_X10_event (hL : LayOK L) {v0 v1 v2 : Int} (k0 : isK L v0 (10, 0)) (h : (¬ v1 = (-1) → TR mX10_isDivided 0 (0, 0) [(2, v0)] L μ (fun r1 L2 μ3 => ∃ w4, r1 = some (0, w4) ∧ L = L2 ∧ (w4 = 0 → Q (some (1, (-9223372036854775808))) L μ3) ∧ (¬ w4 = 0 → (inL ((μ3 ((rf L v0 0)) 4) - 1)) ∧ TR mX10_in 0 (0, 0) [(1, v1), (1, 0), (1, ((μ3 ((rf L v0 0)) 4) - 1))] L μ3 (fun r7 L8 μ9 => ∃ w10, r7 = some (0, w10) ∧ L = L8 ∧ (w10 = 0 → Q (some (1, (-9223372036854775808))) L μ9) ∧ (¬ w10 = 0 → TR mX10_in 0 (0, 0) [(1, v2), (1, 0), (1, 5)] L μ9 (fun r11 L12 μ13 => ∃ w14, r11 = some (0, w14) ∧ L = L12 ∧ (w14 = 0 → Q (some (1, (-9223372036854775808))) L μ13) ∧ (¬ w14 = 0 → (inI (6 * v1)) ∧ (inI (210 + (6 * v1))) ∧ (inI ((210 + (6 * v1)) + v2)) ∧ (0 ≤ ((210 + (6 * v1)) + v2) ∧ ((210 + (6 * v1)) + v2) < 510) ∧ Q (some (1, (μ13 ((rf L v0 0)) (((210 + (6 * v1)) + v2))))) L μ13))))))) ∧ (v1 = (-1) → TR mX10_isDivided 0 (0, 0) [(2, v0)] L μ (fun r19 L20 μ21 => ∃ w22, r19 = some (0, w22) ∧ L = L20 ∧ (w22 = 0 → Q (some (1, (-9223372036854775808))) L μ21) ∧ (¬ w22 = 0 → (¬ v2 = 0 → Q (some (1, (-9223372036854775808))) L μ21) ∧ (v2 = 0 → Q (some (1, (μ21 ((rf L v0 0)) 4))) L μ21))))) : TR mX10_event 1 (0, 0) [(2, v0), (0, v1), (0, v2)] L μ Q := by
  refine TR.of (ls := [(2, v0), (0, v1), (0, v2)]) (by decide) (by simp) rfl (Nat.le_of_ble_eq_true rfl) ?_
  refine wa_iload_n 1 dX10_event_0 rfl rfl ?_
  refine wa_iconst 2 dX10_event_1 rfl (by decide) ?_
  refine wa_icmp_ne 5 29 dX10_event_2 rfl (by decide) (fun q => ?_) (fun q => ?_)
  · replace h := h.1 q
    refine wa_aload_n 30 dX10_event_29 rfl rfl ?_
    refine wa_callV 33 0 0 10 (av := []) (rest := []) (k1 := (0, 0)) (k2 := (0, 0)) cvX10_isDivided dX10_event_30 rfl wM_X10_325 ⟨rfl, by decide, rfl, Nat.le_of_ble_eq_true rfl, by decide, Nat.le_of_ble_eq_true rfl, rfl, rfl⟩ rfl k0 (TR.mono h (fun r1 L2 μ3 h => ?_))
    obtain ⟨w4, rfl, rfl, h⟩ := h
    show WA mX10_event 1 (0, 0) 33 [(2, v0), (0, v1), (0, v2)] [(0, w4)] L μ3 Q
    refine wa_if_eq 36 83 dX10_event_33 rfl (by decide) (fun q => ?_) (fun q => ?_)
    · replace h := h.1 q
      refine wa_ldc2 86 (-9223372036854775808) dX10_event_83 rfl wJ_X10_116 ⟨rfl, by decide⟩ ?_
      exact wa_lret dX10_event_86 rfl h
    · replace h := h.2 q
      refine wa_iload_n 37 dX10_event_36 rfl rfl ?_
      refine wa_i2l 38 dX10_event_37 rfl ?_
      refine wa_lconst 39 0 dX10_event_38 rfl ⟨rfl, by decide⟩ ?_
      refine wa_aload_n 40 dX10_event_39 rfl rfl ?_
      have e5 : isK L (rf L v0 0) (21, 510) := lay_f hL k0 0 rfl
      refine wa_getR 43 0 dX10_event_40 rfl wF_X10_9 rfl rfl ⟨k0, isK_pos e5⟩ ?_
      refine wa_iconst 44 dX10_event_43 rfl (by decide) ?_
      refine wa_laload 45 dX10_event_44 rfl (okA_of e5 ⟨by decide, by decide⟩) ?_
      refine wa_lconst 46 1 dX10_event_45 rfl ⟨rfl, by decide⟩ ?_
      obtain ⟨c6, h⟩ := h
      refine wa_lsub 47 dX10_event_46 rfl c6 ?_
      refine wa_callS 50 0 3 (av := [(1, v1), (1, 0), (1, ((μ3 ((rf L v0 0)) 4) - 1))]) (rest := []) (k1 := (0, 0)) (k2 := (0, 0)) cvX10_in dX10_event_47 rfl wM_X10_65 ⟨rfl, Nat.le_of_ble_eq_true rfl, by decide, Nat.le_of_ble_eq_true rfl, rfl, rfl⟩ rfl (TR.mono h (fun r7 L8 μ9 h => ?_))
      obtain ⟨w10, rfl, rfl, h⟩ := h
      show WA mX10_event 1 (0, 0) 50 [(2, v0), (0, v1), (0, v2)] [(0, w10)] L μ9 Q
      refine wa_if_eq 53 83 dX10_event_50 rfl (by decide) (fun q => ?_) (fun q => ?_)
      · replace h := h.1 q
        refine wa_ldc2 86 (-9223372036854775808) dX10_event_83 rfl wJ_X10_116 ⟨rfl, by decide⟩ ?_
        exact wa_lret dX10_event_86 rfl h
      · replace h := h.2 q
        refine wa_iload_n 54 dX10_event_53 rfl rfl ?_
        refine wa_i2l 55 dX10_event_54 rfl ?_
        refine wa_lconst 56 0 dX10_event_55 rfl ⟨rfl, by decide⟩ ?_
        refine wa_ldc2 59 5 dX10_event_56 rfl wJ_X10_73 ⟨rfl, by decide⟩ ?_
        refine wa_callS 62 0 3 (av := [(1, v2), (1, 0), (1, 5)]) (rest := []) (k1 := (0, 0)) (k2 := (0, 0)) cvX10_in dX10_event_59 rfl wM_X10_65 ⟨rfl, Nat.le_of_ble_eq_true rfl, by decide, Nat.le_of_ble_eq_true rfl, rfl, rfl⟩ rfl (TR.mono h (fun r11 L12 μ13 h => ?_))
        obtain ⟨w14, rfl, rfl, h⟩ := h
        show WA mX10_event 1 (0, 0) 62 [(2, v0), (0, v1), (0, v2)] [(0, w14)] L μ13 Q
        refine wa_if_eq 65 83 dX10_event_62 rfl (by decide) (fun q => ?_) (fun q => ?_)
        · replace h := h.1 q
          refine wa_ldc2 86 (-9223372036854775808) dX10_event_83 rfl wJ_X10_116 ⟨rfl, by decide⟩ ?_
          exact wa_lret dX10_event_86 rfl h
        · replace h := h.2 q
          refine wa_aload_n 66 dX10_event_65 rfl rfl ?_
          refine wa_getR 69 0 dX10_event_66 rfl wF_X10_9 rfl rfl ⟨k0, isK_pos e5⟩ ?_
          refine wa_sipush 72 dX10_event_69 rfl ⟨by decide, by decide⟩ ?_
          refine wa_bipush 74 dX10_event_72 rfl ⟨by decide, by decide⟩ ?_
          refine wa_iload_n 75 dX10_event_74 rfl rfl ?_
          obtain ⟨c15, h⟩ := h
          refine wa_imul 76 dX10_event_75 rfl c15 ?_
          obtain ⟨c16, h⟩ := h
          refine wa_iadd 77 dX10_event_76 rfl c16 ?_
          refine wa_iload_n 78 dX10_event_77 rfl rfl ?_
          obtain ⟨c17, h⟩ := h
          refine wa_iadd 79 dX10_event_78 rfl c17 ?_
          obtain ⟨c18, h⟩ := h
          refine wa_laload 80 dX10_event_79 rfl (okA_of e5 c18) ?_
          refine wa_goto 86 dX10_event_80 (by decide) ?_
          exact wa_lret dX10_event_86 rfl h
  · replace h := h.2 q
    refine wa_aload_n 6 dX10_event_5 rfl rfl ?_
    refine wa_callV 9 0 0 10 (av := []) (rest := []) (k1 := (0, 0)) (k2 := (0, 0)) cvX10_isDivided dX10_event_6 rfl wM_X10_325 ⟨rfl, by decide, rfl, Nat.le_of_ble_eq_true rfl, by decide, Nat.le_of_ble_eq_true rfl, rfl, rfl⟩ rfl k0 (TR.mono h (fun r19 L20 μ21 h => ?_))
    obtain ⟨w22, rfl, rfl, h⟩ := h
    show WA mX10_event 1 (0, 0) 9 [(2, v0), (0, v1), (0, v2)] [(0, w22)] L μ21 Q
    refine wa_if_eq 12 25 dX10_event_9 rfl (by decide) (fun q => ?_) (fun q => ?_)
    · replace h := h.1 q
      refine wa_ldc2 28 (-9223372036854775808) dX10_event_25 rfl wJ_X10_116 ⟨rfl, by decide⟩ ?_
      exact wa_lret dX10_event_28 rfl h
    · replace h := h.2 q
      refine wa_iload_n 13 dX10_event_12 rfl rfl ?_
      refine wa_if_ne 16 25 dX10_event_13 rfl (by decide) (fun q => ?_) (fun q => ?_)
      · replace h := h.1 q
        refine wa_ldc2 28 (-9223372036854775808) dX10_event_25 rfl wJ_X10_116 ⟨rfl, by decide⟩ ?_
        exact wa_lret dX10_event_28 rfl h
      · replace h := h.2 q
        refine wa_aload_n 17 dX10_event_16 rfl rfl ?_
        have e23 : isK L (rf L v0 0) (21, 510) := lay_f hL k0 0 rfl
        refine wa_getR 20 0 dX10_event_17 rfl wF_X10_9 rfl rfl ⟨k0, isK_pos e23⟩ ?_
        refine wa_iconst 21 dX10_event_20 rfl (by decide) ?_
        refine wa_laload 22 dX10_event_21 rfl (okA_of e23 ⟨by decide, by decide⟩) ?_
        refine wa_goto 28 dX10_event_22 (by decide) ?_
        exact wa_lret dX10_event_28 rfl h
set_option maxRecDepth 20000 in
theorem t_X10_exact (hL : LayOK L) {v0 v1 v2 v3 : Int} (k0 : isK L v0 (10, 0)) (h : TR mX10_isAgent 1 (0, 0) [(2, v0), (0, v1)] L μ (fun r1 L2 μ3 => ∃ w4, r1 = some (0, w4) ∧ L = L2 ∧ (w4 = 0 → Q (some (1, (-9223372036854775808))) L μ3) ∧ (¬ w4 = 0 → TR mX10_isAgent 1 (0, 0) [(2, v0), (0, v2)] L μ3 (fun r5 L6 μ7 => ∃ w8, r5 = some (0, w8) ∧ L = L6 ∧ (w8 = 0 → Q (some (1, (-9223372036854775808))) L μ7) ∧ (¬ w8 = 0 → (v1 = v2 → Q (some (1, (-9223372036854775808))) L μ7) ∧ (¬ v1 = v2 → TR mX10_in 0 (0, 0) [(1, v3), (1, 0), (1, 3)] L μ7 (fun r9 L10 μ11 => ∃ w12, r9 = some (0, w12) ∧ L = L10 ∧ (¬ w12 = 0 → WA mX10_exact 3 (0, 0) 40 [(2, v0), (0, v1), (0, v2), (0, v3), (0, 0), (9, 0), (9, 0), (9, 0), (9, 0), (9, 0), (9, 0), (9, 0), (9, 0), (9, 0), (9, 0), (9, 0), (9, 0), (9, 0), (9, 0), (9, 0), (9, 0), (9, 0), (9, 0), (9, 0), (9, 0), (9, 0), (9, 0), (9, 0)] [] L μ11 Q) ∧ (w12 = 0 → Q (some (1, (-9223372036854775808))) L μ11)))))))) : TR mX10_exact 3 (0, 0) [(2, v0), (0, v1), (0, v2), (0, v3)] L μ Q := by
  refine TR.of (ls := [(2, v0), (0, v1), (0, v2), (0, v3), (9, 0), (9, 0), (9, 0), (9, 0), (9, 0), (9, 0), (9, 0), (9, 0), (9, 0), (9, 0), (9, 0), (9, 0), (9, 0), (9, 0), (9, 0), (9, 0), (9, 0), (9, 0), (9, 0), (9, 0), (9, 0), (9, 0), (9, 0), (9, 0)]) (by decide) (by simp) rfl (Nat.le_of_ble_eq_true rfl) ?_
  refine wa_aload_n 1 dX10_exact_0 rfl rfl ?_
  refine wa_iload_n 2 dX10_exact_1 rfl rfl ?_
  refine wa_callV 5 1 1 10 (av := [(0, v1)]) (rest := []) (k1 := (0, 0)) (k2 := (0, 0)) cvX10_isAgent dX10_exact_2 rfl wM_X10_79 ⟨rfl, by decide, rfl, Nat.le_of_ble_eq_true rfl, by decide, Nat.le_of_ble_eq_true rfl, rfl, rfl⟩ rfl k0 (TR.mono h (fun r1 L2 μ3 h => ?_))
  obtain ⟨w4, rfl, rfl, h⟩ := h
  show WA mX10_exact 3 (0, 0) 5 [(2, v0), (0, v1), (0, v2), (0, v3), (9, 0), (9, 0), (9, 0), (9, 0), (9, 0), (9, 0), (9, 0), (9, 0), (9, 0), (9, 0), (9, 0), (9, 0), (9, 0), (9, 0), (9, 0), (9, 0), (9, 0), (9, 0), (9, 0), (9, 0), (9, 0), (9, 0), (9, 0), (9, 0)] [(0, w4)] L μ3 Q
  refine wa_if_eq 8 33 dX10_exact_5 rfl (by decide) (fun q => ?_) (fun q => ?_)
  · replace h := h.1 q
    refine wa_ldc2 36 (-9223372036854775808) dX10_exact_33 rfl wJ_X10_116 ⟨rfl, by decide⟩ ?_
    exact wa_lret dX10_exact_36 rfl h
  · replace h := h.2 q
    refine wa_aload_n 9 dX10_exact_8 rfl rfl ?_
    refine wa_iload_n 10 dX10_exact_9 rfl rfl ?_
    refine wa_callV 13 1 1 10 (av := [(0, v2)]) (rest := []) (k1 := (0, 0)) (k2 := (0, 0)) cvX10_isAgent dX10_exact_10 rfl wM_X10_79 ⟨rfl, by decide, rfl, Nat.le_of_ble_eq_true rfl, by decide, Nat.le_of_ble_eq_true rfl, rfl, rfl⟩ rfl k0 (TR.mono h (fun r5 L6 μ7 h => ?_))
    obtain ⟨w8, rfl, rfl, h⟩ := h
    show WA mX10_exact 3 (0, 0) 13 [(2, v0), (0, v1), (0, v2), (0, v3), (9, 0), (9, 0), (9, 0), (9, 0), (9, 0), (9, 0), (9, 0), (9, 0), (9, 0), (9, 0), (9, 0), (9, 0), (9, 0), (9, 0), (9, 0), (9, 0), (9, 0), (9, 0), (9, 0), (9, 0), (9, 0), (9, 0), (9, 0), (9, 0)] [(0, w8)] L μ7 Q
    refine wa_if_eq 16 33 dX10_exact_13 rfl (by decide) (fun q => ?_) (fun q => ?_)
    · replace h := h.1 q
      refine wa_ldc2 36 (-9223372036854775808) dX10_exact_33 rfl wJ_X10_116 ⟨rfl, by decide⟩ ?_
      exact wa_lret dX10_exact_36 rfl h
    · replace h := h.2 q
      refine wa_iload_n 17 dX10_exact_16 rfl rfl ?_
      refine wa_iload_n 18 dX10_exact_17 rfl rfl ?_
      refine wa_icmp_eq 21 33 dX10_exact_18 rfl (by decide) (fun q => ?_) (fun q => ?_)
      · replace h := h.1 q
        refine wa_ldc2 36 (-9223372036854775808) dX10_exact_33 rfl wJ_X10_116 ⟨rfl, by decide⟩ ?_
        exact wa_lret dX10_exact_36 rfl h
      · replace h := h.2 q
        refine wa_iload_n 22 dX10_exact_21 rfl rfl ?_
        refine wa_i2l 23 dX10_exact_22 rfl ?_
        refine wa_lconst 24 0 dX10_exact_23 rfl ⟨rfl, by decide⟩ ?_
        refine wa_ldc2 27 3 dX10_exact_24 rfl wJ_X10_136 ⟨rfl, by decide⟩ ?_
        refine wa_callS 30 0 3 (av := [(1, v3), (1, 0), (1, 3)]) (rest := []) (k1 := (0, 0)) (k2 := (0, 0)) cvX10_in dX10_exact_27 rfl wM_X10_65 ⟨rfl, Nat.le_of_ble_eq_true rfl, by decide, Nat.le_of_ble_eq_true rfl, rfl, rfl⟩ rfl (TR.mono h (fun r9 L10 μ11 h => ?_))
        obtain ⟨w12, rfl, rfl, h⟩ := h
        show WA mX10_exact 3 (0, 0) 30 [(2, v0), (0, v1), (0, v2), (0, v3), (9, 0), (9, 0), (9, 0), (9, 0), (9, 0), (9, 0), (9, 0), (9, 0), (9, 0), (9, 0), (9, 0), (9, 0), (9, 0), (9, 0), (9, 0), (9, 0), (9, 0), (9, 0), (9, 0), (9, 0), (9, 0), (9, 0), (9, 0), (9, 0)] [(0, w12)] L μ11 Q
        refine wa_if_ne 33 37 dX10_exact_30 rfl (by decide) (fun q => ?_) (fun q => ?_)
        · replace h := h.1 q
          refine wa_iconst 38 dX10_exact_37 rfl (by decide) ?_
          refine wa_istore 40 [(2, v0), (0, v1), (0, v2), (0, v3), (0, 0), (9, 0), (9, 0), (9, 0), (9, 0), (9, 0), (9, 0), (9, 0), (9, 0), (9, 0), (9, 0), (9, 0), (9, 0), (9, 0), (9, 0), (9, 0), (9, 0), (9, 0), (9, 0), (9, 0), (9, 0), (9, 0), (9, 0), (9, 0)] dX10_exact_38 rfl rfl rfl ?_
          exact h
        · replace h := h.2 q
          refine wa_ldc2 36 (-9223372036854775808) dX10_exact_33 rfl wJ_X10_116 ⟨rfl, by decide⟩ ?_
          exact wa_lret dX10_exact_36 rfl h
set_option maxRecDepth 20000 in
theorem s_X10_exact_40 (hL : LayOK L) {v0 v1 v2 v3 v4 : Int} (k0 : isK L v0 (10, 0)) (h : TR mX10_strips 0 (0, 0) [(2, v0)] L μ (fun r1 L2 μ3 => ∃ w4, r1 = some (0, w4) ∧ L = L2 ∧ (w4 ≤ v4 → TR mX10_allOf 2 (0, 0) [(2, v0), (0, v1), (0, 1)] L μ3 (fun r5 L6 μ7 => ∃ w8, r5 = some (1, w8) ∧ L = L6 ∧ TR mX10_marks 2 (0, 0) [(2, v0), (0, v1), (1, 0), (1, 1), (1, w8), (1, 2)] L μ7 (fun r9 L10 μ11 => ∃ w12, r9 = some (0, w12) ∧ L = L10 ∧ (0 ≤ (5040 : Int) ∧ 0 < (μ11 v0 5)) ∧ (inL ((μ11 v0 4) * (5040 / (μ11 v0 5)))) ∧ TR mX10_aheadOf 1 (0, 0) [(2, v0), (0, v2), (0, 1), (1, ((μ11 v0 4) * (5040 / (μ11 v0 5)))), (1, 5040)] L μ11 (fun r15 L16 μ17 => ∃ w18, r15 = some (1, w18) ∧ L = L16 ∧ TR mX10_aheadOf 1 (0, 0) [(2, v0), (0, v2), (0, 1), (1, 0), (1, 5040)] L μ17 (fun r19 L20 μ21 => ∃ w22, r19 = some (1, w22) ∧ L = L20 ∧ (inL (w18 - w22)) ∧ TR mX10_allOf 2 (0, 0) [(2, v0), (0, v2), (0, 1)] L μ21 (fun r24 L25 μ26 => ∃ w27, r24 = some (1, w27) ∧ L = L25 ∧ (inL (w27 * 2520)) ∧ (inL ((w18 - w22) - (w27 * 2520))) ∧ WA mX10_exact 3 (0, 0) 156 [(2, v0), (0, v1), (0, v2), (0, v3), (1, 0), (9, 0), (1, ((μ11 v0 4) * (5040 / (μ11 v0 5)))), (9, 0), (1, ((w18 - w22) - (w27 * 2520))), (9, 0), (9, 0), (9, 0), (9, 0), (9, 0), (9, 0), (9, 0), (9, 0), (9, 0), (9, 0), (9, 0), (9, 0), (9, 0), (9, 0), (9, 0), (9, 0), (9, 0), (9, 0), (9, 0)] [] L μ26 Q)))))) ∧ (¬ w4 ≤ v4 → TR mX10_worthOf 0 (0, 0) [(2, v0), (0, v1), (0, v4), (0, 1)] L μ3 (fun r30 L31 μ32 => ∃ w33, r30 = some (1, w33) ∧ L = L31 ∧ (w33 = 0 → Q (some (1, (-9223372036854775808))) L μ32) ∧ (¬ w33 = 0 → TR mX10_worthOf 0 (0, 0) [(2, v0), (0, v2), (0, v4), (0, 1)] L μ32 (fun r34 L35 μ36 => ∃ w37, r34 = some (1, w37) ∧ L = L35 ∧ (¬ w37 = 0 → (inI (v4 + 1)) ∧ WA mX10_exact 3 (0, 0) 40 [(2, v0), (0, v1), (0, v2), (0, v3), (0, (v4 + 1)), (9, 0), (9, 0), (9, 0), (9, 0), (9, 0), (9, 0), (9, 0), (9, 0), (9, 0), (9, 0), (9, 0), (9, 0), (9, 0), (9, 0), (9, 0), (9, 0), (9, 0), (9, 0), (9, 0), (9, 0), (9, 0), (9, 0), (9, 0)] [] L μ36 Q) ∧ (w37 = 0 → Q (some (1, (-9223372036854775808))) L μ36))))))) : WA mX10_exact 3 (0, 0) 40 [(2, v0), (0, v1), (0, v2), (0, v3), (0, v4), (9, 0), (9, 0), (9, 0), (9, 0), (9, 0), (9, 0), (9, 0), (9, 0), (9, 0), (9, 0), (9, 0), (9, 0), (9, 0), (9, 0), (9, 0), (9, 0), (9, 0), (9, 0), (9, 0), (9, 0), (9, 0), (9, 0), (9, 0)] [] L μ Q := by
  refine wa_iload 42 dX10_exact_40 rfl rfl ?_
  refine wa_aload_n 43 dX10_exact_42 rfl rfl ?_
  refine wa_callV 46 0 0 10 (av := []) (rest := [(0, v4)]) (k1 := (0, 0)) (k2 := (0, 0)) cvX10_strips dX10_exact_43 rfl wM_X10_92 ⟨rfl, by decide, rfl, Nat.le_of_ble_eq_true rfl, by decide, Nat.le_of_ble_eq_true rfl, rfl, rfl⟩ rfl k0 (TR.mono h (fun r1 L2 μ3 h => ?_))
  obtain ⟨w4, rfl, rfl, h⟩ := h
  show WA mX10_exact 3 (0, 0) 46 [(2, v0), (0, v1), (0, v2), (0, v3), (0, v4), (9, 0), (9, 0), (9, 0), (9, 0), (9, 0), (9, 0), (9, 0), (9, 0), (9, 0), (9, 0), (9, 0), (9, 0), (9, 0), (9, 0), (9, 0), (9, 0), (9, 0), (9, 0), (9, 0), (9, 0), (9, 0), (9, 0), (9, 0)] [(0, w4), (0, v4)] L μ3 Q
  refine wa_icmp_ge 49 85 dX10_exact_46 rfl (by decide) (fun q => ?_) (fun q => ?_)
  · replace h := h.1 q
    refine wa_aload_n 86 dX10_exact_85 rfl rfl ?_
    refine wa_iload_n 87 dX10_exact_86 rfl rfl ?_
    refine wa_lconst 88 0 dX10_exact_87 rfl ⟨rfl, by decide⟩ ?_
    refine wa_lconst 89 1 dX10_exact_88 rfl ⟨rfl, by decide⟩ ?_
    refine wa_aload_n 90 dX10_exact_89 rfl rfl ?_
    refine wa_iload_n 91 dX10_exact_90 rfl rfl ?_
    refine wa_iconst 92 dX10_exact_91 rfl (by decide) ?_
    refine wa_callV 95 2 2 10 (av := [(0, v1), (0, 1)]) (rest := [(1, 1), (1, 0), (0, v1), (2, v0)]) (k1 := (0, 0)) (k2 := (0, 0)) cvX10_allOf dX10_exact_92 rfl wM_X10_128 ⟨rfl, by decide, rfl, Nat.le_of_ble_eq_true rfl, by decide, Nat.le_of_ble_eq_true rfl, rfl, rfl⟩ rfl k0 (TR.mono h (fun r5 L6 μ7 h => ?_))
    obtain ⟨w8, rfl, rfl, h⟩ := h
    show WA mX10_exact 3 (0, 0) 95 [(2, v0), (0, v1), (0, v2), (0, v3), (0, v4), (9, 0), (9, 0), (9, 0), (9, 0), (9, 0), (9, 0), (9, 0), (9, 0), (9, 0), (9, 0), (9, 0), (9, 0), (9, 0), (9, 0), (9, 0), (9, 0), (9, 0), (9, 0), (9, 0), (9, 0), (9, 0), (9, 0), (9, 0)] [(1, w8), (1, 1), (1, 0), (0, v1), (2, v0)] L μ7 Q
    refine wa_ldc2 98 2 dX10_exact_95 rfl wJ_X10_69 ⟨rfl, by decide⟩ ?_
    refine wa_callV 101 2 5 10 (av := [(0, v1), (1, 0), (1, 1), (1, w8), (1, 2)]) (rest := []) (k1 := (0, 0)) (k2 := (0, 0)) cvX10_marks dX10_exact_98 rfl wM_X10_132 ⟨rfl, by decide, rfl, Nat.le_of_ble_eq_true rfl, by decide, Nat.le_of_ble_eq_true rfl, rfl, rfl⟩ rfl k0 (TR.mono h (fun r9 L10 μ11 h => ?_))
    obtain ⟨w12, rfl, rfl, h⟩ := h
    show WA mX10_exact 3 (0, 0) 101 [(2, v0), (0, v1), (0, v2), (0, v3), (0, v4), (9, 0), (9, 0), (9, 0), (9, 0), (9, 0), (9, 0), (9, 0), (9, 0), (9, 0), (9, 0), (9, 0), (9, 0), (9, 0), (9, 0), (9, 0), (9, 0), (9, 0), (9, 0), (9, 0), (9, 0), (9, 0), (9, 0), (9, 0)] [(0, w12)] L μ11 Q
    refine wa_pop 102 dX10_exact_101 rfl (Or.inl rfl) ?_
    refine wa_lconst 103 0 dX10_exact_102 rfl ⟨rfl, by decide⟩ ?_
    refine wa_lstore 105 [(2, v0), (0, v1), (0, v2), (0, v3), (1, 0), (9, 0), (9, 0), (9, 0), (9, 0), (9, 0), (9, 0), (9, 0), (9, 0), (9, 0), (9, 0), (9, 0), (9, 0), (9, 0), (9, 0), (9, 0), (9, 0), (9, 0), (9, 0), (9, 0), (9, 0), (9, 0), (9, 0), (9, 0)] dX10_exact_103 rfl rfl rfl ?_
    refine wa_aload_n 106 dX10_exact_105 rfl rfl ?_
    refine wa_getL 109 4 dX10_exact_106 rfl wF_X10_99 rfl rfl k0 ?_
    refine wa_ldc2 112 5040 dX10_exact_109 rfl wJ_X10_138 ⟨rfl, by decide⟩ ?_
    refine wa_aload_n 113 dX10_exact_112 rfl rfl ?_
    refine wa_getL 116 5 dX10_exact_113 rfl wF_X10_103 rfl rfl k0 ?_
    obtain ⟨c13, h⟩ := h
    refine wa_ldivE 117 dX10_exact_116 rfl c13 ?_
    obtain ⟨c14, h⟩ := h
    refine wa_lmul 118 dX10_exact_117 rfl c14 ?_
    refine wa_lstore 120 [(2, v0), (0, v1), (0, v2), (0, v3), (1, 0), (9, 0), (1, ((μ11 v0 4) * (5040 / (μ11 v0 5)))), (9, 0), (9, 0), (9, 0), (9, 0), (9, 0), (9, 0), (9, 0), (9, 0), (9, 0), (9, 0), (9, 0), (9, 0), (9, 0), (9, 0), (9, 0), (9, 0), (9, 0), (9, 0), (9, 0), (9, 0), (9, 0)] dX10_exact_118 rfl rfl rfl ?_
    refine wa_aload_n 121 dX10_exact_120 rfl rfl ?_
    refine wa_iload_n 122 dX10_exact_121 rfl rfl ?_
    refine wa_iconst 123 dX10_exact_122 rfl (by decide) ?_
    refine wa_lload 125 dX10_exact_123 rfl rfl ?_
    refine wa_ldc2 128 5040 dX10_exact_125 rfl wJ_X10_138 ⟨rfl, by decide⟩ ?_
    refine wa_callV 131 1 4 10 (av := [(0, v2), (0, 1), (1, ((μ11 v0 4) * (5040 / (μ11 v0 5)))), (1, 5040)]) (rest := []) (k1 := (0, 0)) (k2 := (0, 0)) cvX10_aheadOf dX10_exact_128 rfl wM_X10_106 ⟨rfl, by decide, rfl, Nat.le_of_ble_eq_true rfl, by decide, Nat.le_of_ble_eq_true rfl, rfl, rfl⟩ rfl k0 (TR.mono h (fun r15 L16 μ17 h => ?_))
    obtain ⟨w18, rfl, rfl, h⟩ := h
    show WA mX10_exact 3 (0, 0) 131 [(2, v0), (0, v1), (0, v2), (0, v3), (1, 0), (9, 0), (1, ((μ11 v0 4) * (5040 / (μ11 v0 5)))), (9, 0), (9, 0), (9, 0), (9, 0), (9, 0), (9, 0), (9, 0), (9, 0), (9, 0), (9, 0), (9, 0), (9, 0), (9, 0), (9, 0), (9, 0), (9, 0), (9, 0), (9, 0), (9, 0), (9, 0), (9, 0)] [(1, w18)] L μ17 Q
    refine wa_aload_n 132 dX10_exact_131 rfl rfl ?_
    refine wa_iload_n 133 dX10_exact_132 rfl rfl ?_
    refine wa_iconst 134 dX10_exact_133 rfl (by decide) ?_
    refine wa_lload 136 dX10_exact_134 rfl rfl ?_
    refine wa_ldc2 139 5040 dX10_exact_136 rfl wJ_X10_138 ⟨rfl, by decide⟩ ?_
    refine wa_callV 142 1 4 10 (av := [(0, v2), (0, 1), (1, 0), (1, 5040)]) (rest := [(1, w18)]) (k1 := (0, 0)) (k2 := (0, 0)) cvX10_aheadOf dX10_exact_139 rfl wM_X10_106 ⟨rfl, by decide, rfl, Nat.le_of_ble_eq_true rfl, by decide, Nat.le_of_ble_eq_true rfl, rfl, rfl⟩ rfl k0 (TR.mono h (fun r19 L20 μ21 h => ?_))
    obtain ⟨w22, rfl, rfl, h⟩ := h
    show WA mX10_exact 3 (0, 0) 142 [(2, v0), (0, v1), (0, v2), (0, v3), (1, 0), (9, 0), (1, ((μ11 v0 4) * (5040 / (μ11 v0 5)))), (9, 0), (9, 0), (9, 0), (9, 0), (9, 0), (9, 0), (9, 0), (9, 0), (9, 0), (9, 0), (9, 0), (9, 0), (9, 0), (9, 0), (9, 0), (9, 0), (9, 0), (9, 0), (9, 0), (9, 0), (9, 0)] [(1, w22), (1, w18)] L μ21 Q
    obtain ⟨c23, h⟩ := h
    refine wa_lsub 143 dX10_exact_142 rfl c23 ?_
    refine wa_aload_n 144 dX10_exact_143 rfl rfl ?_
    refine wa_iload_n 145 dX10_exact_144 rfl rfl ?_
    refine wa_iconst 146 dX10_exact_145 rfl (by decide) ?_
    refine wa_callV 149 2 2 10 (av := [(0, v2), (0, 1)]) (rest := [(1, (w18 - w22))]) (k1 := (0, 0)) (k2 := (0, 0)) cvX10_allOf dX10_exact_146 rfl wM_X10_128 ⟨rfl, by decide, rfl, Nat.le_of_ble_eq_true rfl, by decide, Nat.le_of_ble_eq_true rfl, rfl, rfl⟩ rfl k0 (TR.mono h (fun r24 L25 μ26 h => ?_))
    obtain ⟨w27, rfl, rfl, h⟩ := h
    show WA mX10_exact 3 (0, 0) 149 [(2, v0), (0, v1), (0, v2), (0, v3), (1, 0), (9, 0), (1, ((μ11 v0 4) * (5040 / (μ11 v0 5)))), (9, 0), (9, 0), (9, 0), (9, 0), (9, 0), (9, 0), (9, 0), (9, 0), (9, 0), (9, 0), (9, 0), (9, 0), (9, 0), (9, 0), (9, 0), (9, 0), (9, 0), (9, 0), (9, 0), (9, 0), (9, 0)] [(1, w27), (1, (w18 - w22))] L μ26 Q
    refine wa_ldc2 152 2520 dX10_exact_149 rfl wJ_X10_140 ⟨rfl, by decide⟩ ?_
    obtain ⟨c28, h⟩ := h
    refine wa_lmul 153 dX10_exact_152 rfl c28 ?_
    obtain ⟨c29, h⟩ := h
    refine wa_lsub 154 dX10_exact_153 rfl c29 ?_
    refine wa_lstore 156 [(2, v0), (0, v1), (0, v2), (0, v3), (1, 0), (9, 0), (1, ((μ11 v0 4) * (5040 / (μ11 v0 5)))), (9, 0), (1, ((w18 - w22) - (w27 * 2520))), (9, 0), (9, 0), (9, 0), (9, 0), (9, 0), (9, 0), (9, 0), (9, 0), (9, 0), (9, 0), (9, 0), (9, 0), (9, 0), (9, 0), (9, 0), (9, 0), (9, 0), (9, 0), (9, 0)] dX10_exact_154 rfl rfl rfl ?_
    exact h
  · replace h := h.2 q
    refine wa_aload_n 50 dX10_exact_49 rfl rfl ?_
    refine wa_iload_n 51 dX10_exact_50 rfl rfl ?_
    refine wa_iload 53 dX10_exact_51 rfl rfl ?_
    refine wa_iconst 54 dX10_exact_53 rfl (by decide) ?_
    refine wa_callV 57 0 3 10 (av := [(0, v1), (0, v4), (0, 1)]) (rest := []) (k1 := (0, 0)) (k2 := (0, 0)) cvX10_worthOf dX10_exact_54 rfl wM_X10_88 ⟨rfl, by decide, rfl, Nat.le_of_ble_eq_true rfl, by decide, Nat.le_of_ble_eq_true rfl, rfl, rfl⟩ rfl k0 (TR.mono h (fun r30 L31 μ32 h => ?_))
    obtain ⟨w33, rfl, rfl, h⟩ := h
    show WA mX10_exact 3 (0, 0) 57 [(2, v0), (0, v1), (0, v2), (0, v3), (0, v4), (9, 0), (9, 0), (9, 0), (9, 0), (9, 0), (9, 0), (9, 0), (9, 0), (9, 0), (9, 0), (9, 0), (9, 0), (9, 0), (9, 0), (9, 0), (9, 0), (9, 0), (9, 0), (9, 0), (9, 0), (9, 0), (9, 0), (9, 0)] [(1, w33)] L μ32 Q
    refine wa_lconst 58 0 dX10_exact_57 rfl ⟨rfl, by decide⟩ ?_
    refine wa_lc_eq 62 75 dX10_exact_58 dX10_exact_59 rfl (by decide) (fun q => ?_) (fun q => ?_)
    · replace h := h.1 q
      refine wa_ldc2 78 (-9223372036854775808) dX10_exact_75 rfl wJ_X10_116 ⟨rfl, by decide⟩ ?_
      exact wa_lret dX10_exact_78 rfl h
    · replace h := h.2 q
      refine wa_aload_n 63 dX10_exact_62 rfl rfl ?_
      refine wa_iload_n 64 dX10_exact_63 rfl rfl ?_
      refine wa_iload 66 dX10_exact_64 rfl rfl ?_
      refine wa_iconst 67 dX10_exact_66 rfl (by decide) ?_
      refine wa_callV 70 0 3 10 (av := [(0, v2), (0, v4), (0, 1)]) (rest := []) (k1 := (0, 0)) (k2 := (0, 0)) cvX10_worthOf dX10_exact_67 rfl wM_X10_88 ⟨rfl, by decide, rfl, Nat.le_of_ble_eq_true rfl, by decide, Nat.le_of_ble_eq_true rfl, rfl, rfl⟩ rfl k0 (TR.mono h (fun r34 L35 μ36 h => ?_))
      obtain ⟨w37, rfl, rfl, h⟩ := h
      show WA mX10_exact 3 (0, 0) 70 [(2, v0), (0, v1), (0, v2), (0, v3), (0, v4), (9, 0), (9, 0), (9, 0), (9, 0), (9, 0), (9, 0), (9, 0), (9, 0), (9, 0), (9, 0), (9, 0), (9, 0), (9, 0), (9, 0), (9, 0), (9, 0), (9, 0), (9, 0), (9, 0), (9, 0), (9, 0), (9, 0), (9, 0)] [(1, w37)] L μ36 Q
      refine wa_lconst 71 0 dX10_exact_70 rfl ⟨rfl, by decide⟩ ?_
      refine wa_lc_ne 75 79 dX10_exact_71 dX10_exact_72 rfl (by decide) (fun q => ?_) (fun q => ?_)
      · replace h := h.1 q
        obtain ⟨c38, h⟩ := h
        refine wa_iinc 82 [(2, v0), (0, v1), (0, v2), (0, v3), (0, (v4 + 1)), (9, 0), (9, 0), (9, 0), (9, 0), (9, 0), (9, 0), (9, 0), (9, 0), (9, 0), (9, 0), (9, 0), (9, 0), (9, 0), (9, 0), (9, 0), (9, 0), (9, 0), (9, 0), (9, 0), (9, 0), (9, 0), (9, 0), (9, 0)] dX10_exact_79 rfl rfl rfl c38 rfl ?_
        refine wa_goto 40 dX10_exact_82 (by decide) ?_
        exact h
      · replace h := h.2 q
        refine wa_ldc2 78 (-9223372036854775808) dX10_exact_75 rfl wJ_X10_116 ⟨rfl, by decide⟩ ?_
        exact wa_lret dX10_exact_78 rfl h
set_option maxRecDepth 20000 in
theorem s_X10_exact_156 (hL : LayOK L) {v0 v1 v2 v3 v4 v6 v8 : Int} (k0 : isK L v0 (10, 0)) (h : (v8 = 0 → TR mX10_pairOf 2 (0, 0) [(2, v0), (1, v4), (1, v6), (1, 5040), (1, 1), (0, v3)] L μ (fun r1 L2 μ3 => ∃ w4, r1 = some (1, w4) ∧ L = L2 ∧ Q (some (1, w4)) L μ3)) ∧ (¬ v8 = 0 → (0 ≤ v4) ∧ (inI ((v4 / 5040))) ∧ (0 ≤ v6) ∧ (inI ((v6 / 5040))) ∧ TR mX10_worthOf 0 (0, 0) [(2, v0), (0, v1), (0, (v4 / 5040)), (0, 1)] L μ (fun r9 L10 μ11 => ∃ w12, r9 = some (1, w12) ∧ L = L10 ∧ TR mX10_worthOf 0 (0, 0) [(2, v0), (0, v1), (0, (v6 / 5040)), (0, 1)] L μ11 (fun r13 L14 μ15 => ∃ w16, r13 = some (1, w16) ∧ L = L14 ∧ TR mX10_worthOf 0 (0, 0) [(2, v0), (0, v2), (0, (v6 / 5040)), (0, 1)] L μ15 (fun r17 L18 μ19 => ∃ w20, r17 = some (1, w20) ∧ L = L18 ∧ (inL (w20 * w12)) ∧ TR mX10_worthOf 0 (0, 0) [(2, v0), (0, v2), (0, (v4 / 5040)), (0, 1)] L μ19 (fun r22 L23 μ24 => ∃ w25, r22 = some (1, w25) ∧ L = L23 ∧ (inL (w25 * w16)) ∧ (inL ((w20 * w12) - (w25 * w16))) ∧ (inI ((v4 / 5040) + 1)) ∧ (inL (((v4 / 5040) + 1) * 5040)) ∧ (inL ((((v4 / 5040) + 1) * 5040) - v4)) ∧ (inI ((v6 / 5040) + 1)) ∧ (inL (((v6 / 5040) + 1) * 5040)) ∧ (inL ((((v6 / 5040) + 1) * 5040) - v6)) ∧ (inL (((((v6 / 5040) + 1) * 5040) - v6) * w16)) ∧ (0 ≤ (((((v6 / 5040) + 1) * 5040) - v6) * w16) ∧ 0 < w12) ∧ (((((((v6 / 5040) + 1) * 5040) - v6) * w16) / w12) ≤ ((((v4 / 5040) + 1) * 5040) - v4) → (0 ≤ ((w20 * w12) - (w25 * w16)) → WA mX10_exact 3 (0, 0) 291 [(2, v0), (0, v1), (0, v2), (0, v3), (1, v4), (9, 0), (1, v6), (9, 0), (1, v8), (9, 0), (9, 0), (9, 0), (1, w12), (9, 0), (1, w16), (9, 0), (1, ((w20 * w12) - (w25 * w16))), (9, 0), (9, 0), (9, 0), (9, 0), (9, 0), (1, ((((((v6 / 5040) + 1) * 5040) - v6) * w16) / w12)), (9, 0), (9, 0), (9, 0), (9, 0), (9, 0)] [(1, 1)] L μ24 Q) ∧ (¬ 0 ≤ ((w20 * w12) - (w25 * w16)) → WA mX10_exact 3 (0, 0) 291 [(2, v0), (0, v1), (0, v2), (0, v3), (1, v4), (9, 0), (1, v6), (9, 0), (1, v8), (9, 0), (9, 0), (9, 0), (1, w12), (9, 0), (1, w16), (9, 0), (1, ((w20 * w12) - (w25 * w16))), (9, 0), (9, 0), (9, 0), (9, 0), (9, 0), (1, ((((((v6 / 5040) + 1) * 5040) - v6) * w16) / w12)), (9, 0), (9, 0), (9, 0), (9, 0), (9, 0)] [(1, (-1))] L μ24 Q)) ∧ (¬ ((((((v6 / 5040) + 1) * 5040) - v6) * w16) / w12) ≤ ((((v4 / 5040) + 1) * 5040) - v4) → (0 ≤ ((w20 * w12) - (w25 * w16)) → WA mX10_exact 3 (0, 0) 291 [(2, v0), (0, v1), (0, v2), (0, v3), (1, v4), (9, 0), (1, v6), (9, 0), (1, v8), (9, 0), (9, 0), (9, 0), (1, w12), (9, 0), (1, w16), (9, 0), (1, ((w20 * w12) - (w25 * w16))), (9, 0), (9, 0), (9, 0), (9, 0), (9, 0), (1, ((((v4 / 5040) + 1) * 5040) - v4)), (9, 0), (9, 0), (9, 0), (9, 0), (9, 0)] [(1, 1)] L μ24 Q) ∧ (¬ 0 ≤ ((w20 * w12) - (w25 * w16)) → WA mX10_exact 3 (0, 0) 291 [(2, v0), (0, v1), (0, v2), (0, v3), (1, v4), (9, 0), (1, v6), (9, 0), (1, v8), (9, 0), (9, 0), (9, 0), (1, w12), (9, 0), (1, w16), (9, 0), (1, ((w20 * w12) - (w25 * w16))), (9, 0), (9, 0), (9, 0), (9, 0), (9, 0), (1, ((((v4 / 5040) + 1) * 5040) - v4)), (9, 0), (9, 0), (9, 0), (9, 0), (9, 0)] [(1, (-1))] L μ24 Q)))))))) : WA mX10_exact 3 (0, 0) 156 [(2, v0), (0, v1), (0, v2), (0, v3), (1, v4), (9, 0), (1, v6), (9, 0), (1, v8), (9, 0), (9, 0), (9, 0), (9, 0), (9, 0), (9, 0), (9, 0), (9, 0), (9, 0), (9, 0), (9, 0), (9, 0), (9, 0), (9, 0), (9, 0), (9, 0), (9, 0), (9, 0), (9, 0)] [] L μ Q := by
  refine wa_lload 158 dX10_exact_156 rfl rfl ?_
  refine wa_lconst 159 0 dX10_exact_158 rfl ⟨rfl, by decide⟩ ?_
  refine wa_lc_eq 163 429 dX10_exact_159 dX10_exact_160 rfl (by decide) (fun q => ?_) (fun q => ?_)
  · replace h := h.1 q
    refine wa_aload_n 430 dX10_exact_429 rfl rfl ?_
    refine wa_lload 432 dX10_exact_430 rfl rfl ?_
    refine wa_lload 434 dX10_exact_432 rfl rfl ?_
    refine wa_ldc2 437 5040 dX10_exact_434 rfl wJ_X10_138 ⟨rfl, by decide⟩ ?_
    refine wa_lconst 438 1 dX10_exact_437 rfl ⟨rfl, by decide⟩ ?_
    refine wa_iload_n 439 dX10_exact_438 rfl rfl ?_
    refine wa_callV 442 2 5 10 (av := [(1, v4), (1, v6), (1, 5040), (1, 1), (0, v3)]) (rest := []) (k1 := (0, 0)) (k2 := (0, 0)) cvX10_pairOf dX10_exact_439 rfl wM_X10_144 ⟨rfl, by decide, rfl, Nat.le_of_ble_eq_true rfl, by decide, Nat.le_of_ble_eq_true rfl, rfl, rfl⟩ rfl k0 (TR.mono h (fun r1 L2 μ3 h => ?_))
    obtain ⟨w4, rfl, rfl, h⟩ := h
    show WA mX10_exact 3 (0, 0) 442 [(2, v0), (0, v1), (0, v2), (0, v3), (1, v4), (9, 0), (1, v6), (9, 0), (1, v8), (9, 0), (9, 0), (9, 0), (9, 0), (9, 0), (9, 0), (9, 0), (9, 0), (9, 0), (9, 0), (9, 0), (9, 0), (9, 0), (9, 0), (9, 0), (9, 0), (9, 0), (9, 0), (9, 0)] [(1, w4)] L μ3 Q
    exact wa_lret dX10_exact_442 rfl h
  · replace h := h.2 q
    refine wa_lload 165 dX10_exact_163 rfl rfl ?_
    refine wa_ldc2 168 5040 dX10_exact_165 rfl wJ_X10_138 ⟨rfl, by decide⟩ ?_
    obtain ⟨c5, h⟩ := h
    refine wa_ldivE 169 dX10_exact_168 rfl ⟨c5, by decide⟩ ?_
    obtain ⟨c6, h⟩ := h
    refine wa_l2i 170 dX10_exact_169 rfl c6 ?_
    refine wa_istore 172 [(2, v0), (0, v1), (0, v2), (0, v3), (1, v4), (9, 0), (1, v6), (9, 0), (1, v8), (9, 0), (0, (v4 / 5040)), (9, 0), (9, 0), (9, 0), (9, 0), (9, 0), (9, 0), (9, 0), (9, 0), (9, 0), (9, 0), (9, 0), (9, 0), (9, 0), (9, 0), (9, 0), (9, 0), (9, 0)] dX10_exact_170 rfl rfl rfl ?_
    refine wa_lload 174 dX10_exact_172 rfl rfl ?_
    refine wa_ldc2 177 5040 dX10_exact_174 rfl wJ_X10_138 ⟨rfl, by decide⟩ ?_
    obtain ⟨c7, h⟩ := h
    refine wa_ldivE 178 dX10_exact_177 rfl ⟨c7, by decide⟩ ?_
    obtain ⟨c8, h⟩ := h
    refine wa_l2i 179 dX10_exact_178 rfl c8 ?_
    refine wa_istore 181 [(2, v0), (0, v1), (0, v2), (0, v3), (1, v4), (9, 0), (1, v6), (9, 0), (1, v8), (9, 0), (0, (v4 / 5040)), (0, (v6 / 5040)), (9, 0), (9, 0), (9, 0), (9, 0), (9, 0), (9, 0), (9, 0), (9, 0), (9, 0), (9, 0), (9, 0), (9, 0), (9, 0), (9, 0), (9, 0), (9, 0)] dX10_exact_179 rfl rfl rfl ?_
    refine wa_aload_n 182 dX10_exact_181 rfl rfl ?_
    refine wa_iload_n 183 dX10_exact_182 rfl rfl ?_
    refine wa_iload 185 dX10_exact_183 rfl rfl ?_
    refine wa_iconst 186 dX10_exact_185 rfl (by decide) ?_
    refine wa_callV 189 0 3 10 (av := [(0, v1), (0, (v4 / 5040)), (0, 1)]) (rest := []) (k1 := (0, 0)) (k2 := (0, 0)) cvX10_worthOf dX10_exact_186 rfl wM_X10_88 ⟨rfl, by decide, rfl, Nat.le_of_ble_eq_true rfl, by decide, Nat.le_of_ble_eq_true rfl, rfl, rfl⟩ rfl k0 (TR.mono h (fun r9 L10 μ11 h => ?_))
    obtain ⟨w12, rfl, rfl, h⟩ := h
    show WA mX10_exact 3 (0, 0) 189 [(2, v0), (0, v1), (0, v2), (0, v3), (1, v4), (9, 0), (1, v6), (9, 0), (1, v8), (9, 0), (0, (v4 / 5040)), (0, (v6 / 5040)), (9, 0), (9, 0), (9, 0), (9, 0), (9, 0), (9, 0), (9, 0), (9, 0), (9, 0), (9, 0), (9, 0), (9, 0), (9, 0), (9, 0), (9, 0), (9, 0)] [(1, w12)] L μ11 Q
    refine wa_lstore 191 [(2, v0), (0, v1), (0, v2), (0, v3), (1, v4), (9, 0), (1, v6), (9, 0), (1, v8), (9, 0), (0, (v4 / 5040)), (0, (v6 / 5040)), (1, w12), (9, 0), (9, 0), (9, 0), (9, 0), (9, 0), (9, 0), (9, 0), (9, 0), (9, 0), (9, 0), (9, 0), (9, 0), (9, 0), (9, 0), (9, 0)] dX10_exact_189 rfl rfl rfl ?_
    refine wa_aload_n 192 dX10_exact_191 rfl rfl ?_
    refine wa_iload_n 193 dX10_exact_192 rfl rfl ?_
    refine wa_iload 195 dX10_exact_193 rfl rfl ?_
    refine wa_iconst 196 dX10_exact_195 rfl (by decide) ?_
    refine wa_callV 199 0 3 10 (av := [(0, v1), (0, (v6 / 5040)), (0, 1)]) (rest := []) (k1 := (0, 0)) (k2 := (0, 0)) cvX10_worthOf dX10_exact_196 rfl wM_X10_88 ⟨rfl, by decide, rfl, Nat.le_of_ble_eq_true rfl, by decide, Nat.le_of_ble_eq_true rfl, rfl, rfl⟩ rfl k0 (TR.mono h (fun r13 L14 μ15 h => ?_))
    obtain ⟨w16, rfl, rfl, h⟩ := h
    show WA mX10_exact 3 (0, 0) 199 [(2, v0), (0, v1), (0, v2), (0, v3), (1, v4), (9, 0), (1, v6), (9, 0), (1, v8), (9, 0), (0, (v4 / 5040)), (0, (v6 / 5040)), (1, w12), (9, 0), (9, 0), (9, 0), (9, 0), (9, 0), (9, 0), (9, 0), (9, 0), (9, 0), (9, 0), (9, 0), (9, 0), (9, 0), (9, 0), (9, 0)] [(1, w16)] L μ15 Q
    refine wa_lstore 201 [(2, v0), (0, v1), (0, v2), (0, v3), (1, v4), (9, 0), (1, v6), (9, 0), (1, v8), (9, 0), (0, (v4 / 5040)), (0, (v6 / 5040)), (1, w12), (9, 0), (1, w16), (9, 0), (9, 0), (9, 0), (9, 0), (9, 0), (9, 0), (9, 0), (9, 0), (9, 0), (9, 0), (9, 0), (9, 0), (9, 0)] dX10_exact_199 rfl rfl rfl ?_
    refine wa_aload_n 202 dX10_exact_201 rfl rfl ?_
    refine wa_iload_n 203 dX10_exact_202 rfl rfl ?_
    refine wa_iload 205 dX10_exact_203 rfl rfl ?_
    refine wa_iconst 206 dX10_exact_205 rfl (by decide) ?_
    refine wa_callV 209 0 3 10 (av := [(0, v2), (0, (v6 / 5040)), (0, 1)]) (rest := []) (k1 := (0, 0)) (k2 := (0, 0)) cvX10_worthOf dX10_exact_206 rfl wM_X10_88 ⟨rfl, by decide, rfl, Nat.le_of_ble_eq_true rfl, by decide, Nat.le_of_ble_eq_true rfl, rfl, rfl⟩ rfl k0 (TR.mono h (fun r17 L18 μ19 h => ?_))
    obtain ⟨w20, rfl, rfl, h⟩ := h
    show WA mX10_exact 3 (0, 0) 209 [(2, v0), (0, v1), (0, v2), (0, v3), (1, v4), (9, 0), (1, v6), (9, 0), (1, v8), (9, 0), (0, (v4 / 5040)), (0, (v6 / 5040)), (1, w12), (9, 0), (1, w16), (9, 0), (9, 0), (9, 0), (9, 0), (9, 0), (9, 0), (9, 0), (9, 0), (9, 0), (9, 0), (9, 0), (9, 0), (9, 0)] [(1, w20)] L μ19 Q
    refine wa_lload 211 dX10_exact_209 rfl rfl ?_
    obtain ⟨c21, h⟩ := h
    refine wa_lmul 212 dX10_exact_211 rfl c21 ?_
    refine wa_aload_n 213 dX10_exact_212 rfl rfl ?_
    refine wa_iload_n 214 dX10_exact_213 rfl rfl ?_
    refine wa_iload 216 dX10_exact_214 rfl rfl ?_
    refine wa_iconst 217 dX10_exact_216 rfl (by decide) ?_
    refine wa_callV 220 0 3 10 (av := [(0, v2), (0, (v4 / 5040)), (0, 1)]) (rest := [(1, (w20 * w12))]) (k1 := (0, 0)) (k2 := (0, 0)) cvX10_worthOf dX10_exact_217 rfl wM_X10_88 ⟨rfl, by decide, rfl, Nat.le_of_ble_eq_true rfl, by decide, Nat.le_of_ble_eq_true rfl, rfl, rfl⟩ rfl k0 (TR.mono h (fun r22 L23 μ24 h => ?_))
    obtain ⟨w25, rfl, rfl, h⟩ := h
    show WA mX10_exact 3 (0, 0) 220 [(2, v0), (0, v1), (0, v2), (0, v3), (1, v4), (9, 0), (1, v6), (9, 0), (1, v8), (9, 0), (0, (v4 / 5040)), (0, (v6 / 5040)), (1, w12), (9, 0), (1, w16), (9, 0), (9, 0), (9, 0), (9, 0), (9, 0), (9, 0), (9, 0), (9, 0), (9, 0), (9, 0), (9, 0), (9, 0), (9, 0)] [(1, w25), (1, (w20 * w12))] L μ24 Q
    refine wa_lload 222 dX10_exact_220 rfl rfl ?_
    obtain ⟨c26, h⟩ := h
    refine wa_lmul 223 dX10_exact_222 rfl c26 ?_
    obtain ⟨c27, h⟩ := h
    refine wa_lsub 224 dX10_exact_223 rfl c27 ?_
    refine wa_lstore 226 [(2, v0), (0, v1), (0, v2), (0, v3), (1, v4), (9, 0), (1, v6), (9, 0), (1, v8), (9, 0), (0, (v4 / 5040)), (0, (v6 / 5040)), (1, w12), (9, 0), (1, w16), (9, 0), (1, ((w20 * w12) - (w25 * w16))), (9, 0), (9, 0), (9, 0), (9, 0), (9, 0), (9, 0), (9, 0), (9, 0), (9, 0), (9, 0), (9, 0)] dX10_exact_224 rfl rfl rfl ?_
    refine wa_iload 228 dX10_exact_226 rfl rfl ?_
    refine wa_iconst 229 dX10_exact_228 rfl (by decide) ?_
    obtain ⟨c28, h⟩ := h
    refine wa_iadd 230 dX10_exact_229 rfl c28 ?_
    refine wa_i2l 231 dX10_exact_230 rfl ?_
    refine wa_ldc2 234 5040 dX10_exact_231 rfl wJ_X10_138 ⟨rfl, by decide⟩ ?_
    obtain ⟨c29, h⟩ := h
    refine wa_lmul 235 dX10_exact_234 rfl c29 ?_
    refine wa_lload 237 dX10_exact_235 rfl rfl ?_
    obtain ⟨c30, h⟩ := h
    refine wa_lsub 238 dX10_exact_237 rfl c30 ?_
    refine wa_lstore 240 [(2, v0), (0, v1), (0, v2), (0, v3), (1, v4), (9, 0), (1, v6), (9, 0), (1, v8), (9, 0), (0, (v4 / 5040)), (0, (v6 / 5040)), (1, w12), (9, 0), (1, w16), (9, 0), (1, ((w20 * w12) - (w25 * w16))), (9, 0), (1, ((((v4 / 5040) + 1) * 5040) - v4)), (9, 0), (9, 0), (9, 0), (9, 0), (9, 0), (9, 0), (9, 0), (9, 0), (9, 0)] dX10_exact_238 rfl rfl rfl ?_
    refine wa_iload 242 dX10_exact_240 rfl rfl ?_
    refine wa_iconst 243 dX10_exact_242 rfl (by decide) ?_
    obtain ⟨c31, h⟩ := h
    refine wa_iadd 244 dX10_exact_243 rfl c31 ?_
    refine wa_i2l 245 dX10_exact_244 rfl ?_
    refine wa_ldc2 248 5040 dX10_exact_245 rfl wJ_X10_138 ⟨rfl, by decide⟩ ?_
    obtain ⟨c32, h⟩ := h
    refine wa_lmul 249 dX10_exact_248 rfl c32 ?_
    refine wa_lload 251 dX10_exact_249 rfl rfl ?_
    obtain ⟨c33, h⟩ := h
    refine wa_lsub 252 dX10_exact_251 rfl c33 ?_
    refine wa_lload 254 dX10_exact_252 rfl rfl ?_
    obtain ⟨c34, h⟩ := h
    refine wa_lmul 255 dX10_exact_254 rfl c34 ?_
    refine wa_lload 257 dX10_exact_255 rfl rfl ?_
    obtain ⟨c35, h⟩ := h
    refine wa_ldivE 258 dX10_exact_257 rfl c35 ?_
    refine wa_lstore 260 [(2, v0), (0, v1), (0, v2), (0, v3), (1, v4), (9, 0), (1, v6), (9, 0), (1, v8), (9, 0), (0, (v4 / 5040)), (0, (v6 / 5040)), (1, w12), (9, 0), (1, w16), (9, 0), (1, ((w20 * w12) - (w25 * w16))), (9, 0), (1, ((((v4 / 5040) + 1) * 5040) - v4)), (9, 0), (1, ((((((v6 / 5040) + 1) * 5040) - v6) * w16) / w12)), (9, 0), (9, 0), (9, 0), (9, 0), (9, 0), (9, 0), (9, 0)] dX10_exact_258 rfl rfl rfl ?_
    refine wa_lload 262 dX10_exact_260 rfl rfl ?_
    refine wa_lload 264 dX10_exact_262 rfl rfl ?_
    refine wa_lc_ge 268 273 dX10_exact_264 dX10_exact_265 rfl (by decide) (fun q => ?_) (fun q => ?_)
    · replace h := h.1 q
      refine wa_lload 275 dX10_exact_273 rfl rfl ?_
      refine wa_lstore 277 [(2, v0), (0, v1), (0, v2), (0, v3), (1, v4), (9, 0), (1, v6), (9, 0), (1, v8), (9, 0), (0, (v4 / 5040)), (0, (v6 / 5040)), (1, w12), (9, 0), (1, w16), (9, 0), (1, ((w20 * w12) - (w25 * w16))), (9, 0), (1, ((((v4 / 5040) + 1) * 5040) - v4)), (9, 0), (1, ((((((v6 / 5040) + 1) * 5040) - v6) * w16) / w12)), (9, 0), (1, ((((((v6 / 5040) + 1) * 5040) - v6) * w16) / w12)), (9, 0), (9, 0), (9, 0), (9, 0), (9, 0)] dX10_exact_275 rfl rfl rfl ?_
      refine wa_lload 279 dX10_exact_277 rfl rfl ?_
      refine wa_lconst 280 0 dX10_exact_279 rfl ⟨rfl, by decide⟩ ?_
      refine wa_lc_ge 284 290 dX10_exact_280 dX10_exact_281 rfl (by decide) (fun q => ?_) (fun q => ?_)
      · replace h := h.1 q
        refine wa_lconst 291 1 dX10_exact_290 rfl ⟨rfl, by decide⟩ ?_
        exact wa_weak [(2, v0), (0, v1), (0, v2), (0, v3), (1, v4), (9, 0), (1, v6), (9, 0), (1, v8), (9, 0), (9, 0), (9, 0), (1, w12), (9, 0), (1, w16), (9, 0), (1, ((w20 * w12) - (w25 * w16))), (9, 0), (9, 0), (9, 0), (9, 0), (9, 0), (1, ((((((v6 / 5040) + 1) * 5040) - v6) * w16) / w12)), (9, 0), (9, 0), (9, 0), (9, 0), (9, 0)] ⟨Or.inl rfl, Or.inl rfl, Or.inl rfl, Or.inl rfl, Or.inl rfl, Or.inl rfl, Or.inl rfl, Or.inl rfl, Or.inl rfl, Or.inl rfl, Or.inr rfl, Or.inr rfl, Or.inl rfl, Or.inl rfl, Or.inl rfl, Or.inl rfl, Or.inl rfl, Or.inl rfl, Or.inr rfl, Or.inl rfl, Or.inr rfl, Or.inl rfl, Or.inl rfl, Or.inl rfl, Or.inl rfl, Or.inl rfl, Or.inl rfl, Or.inl rfl, trivial⟩ h
      · replace h := h.2 q
        refine wa_ldc2 287 (-1) dX10_exact_284 rfl wJ_X10_142 ⟨rfl, by decide⟩ ?_
        refine wa_goto 291 dX10_exact_287 (by decide) ?_
        exact wa_weak [(2, v0), (0, v1), (0, v2), (0, v3), (1, v4), (9, 0), (1, v6), (9, 0), (1, v8), (9, 0), (9, 0), (9, 0), (1, w12), (9, 0), (1, w16), (9, 0), (1, ((w20 * w12) - (w25 * w16))), (9, 0), (9, 0), (9, 0), (9, 0), (9, 0), (1, ((((((v6 / 5040) + 1) * 5040) - v6) * w16) / w12)), (9, 0), (9, 0), (9, 0), (9, 0), (9, 0)] ⟨Or.inl rfl, Or.inl rfl, Or.inl rfl, Or.inl rfl, Or.inl rfl, Or.inl rfl, Or.inl rfl, Or.inl rfl, Or.inl rfl, Or.inl rfl, Or.inr rfl, Or.inr rfl, Or.inl rfl, Or.inl rfl, Or.inl rfl, Or.inl rfl, Or.inl rfl, Or.inl rfl, Or.inr rfl, Or.inl rfl, Or.inr rfl, Or.inl rfl, Or.inl rfl, Or.inl rfl, Or.inl rfl, Or.inl rfl, Or.inl rfl, Or.inl rfl, trivial⟩ h
    · replace h := h.2 q
      refine wa_lload 270 dX10_exact_268 rfl rfl ?_
      refine wa_goto 275 dX10_exact_270 (by decide) ?_
      refine wa_lstore 277 [(2, v0), (0, v1), (0, v2), (0, v3), (1, v4), (9, 0), (1, v6), (9, 0), (1, v8), (9, 0), (0, (v4 / 5040)), (0, (v6 / 5040)), (1, w12), (9, 0), (1, w16), (9, 0), (1, ((w20 * w12) - (w25 * w16))), (9, 0), (1, ((((v4 / 5040) + 1) * 5040) - v4)), (9, 0), (1, ((((((v6 / 5040) + 1) * 5040) - v6) * w16) / w12)), (9, 0), (1, ((((v4 / 5040) + 1) * 5040) - v4)), (9, 0), (9, 0), (9, 0), (9, 0), (9, 0)] dX10_exact_275 rfl rfl rfl ?_
      refine wa_lload 279 dX10_exact_277 rfl rfl ?_
      refine wa_lconst 280 0 dX10_exact_279 rfl ⟨rfl, by decide⟩ ?_
      refine wa_lc_ge 284 290 dX10_exact_280 dX10_exact_281 rfl (by decide) (fun q => ?_) (fun q => ?_)
      · replace h := h.1 q
        refine wa_lconst 291 1 dX10_exact_290 rfl ⟨rfl, by decide⟩ ?_
        exact wa_weak [(2, v0), (0, v1), (0, v2), (0, v3), (1, v4), (9, 0), (1, v6), (9, 0), (1, v8), (9, 0), (9, 0), (9, 0), (1, w12), (9, 0), (1, w16), (9, 0), (1, ((w20 * w12) - (w25 * w16))), (9, 0), (9, 0), (9, 0), (9, 0), (9, 0), (1, ((((v4 / 5040) + 1) * 5040) - v4)), (9, 0), (9, 0), (9, 0), (9, 0), (9, 0)] ⟨Or.inl rfl, Or.inl rfl, Or.inl rfl, Or.inl rfl, Or.inl rfl, Or.inl rfl, Or.inl rfl, Or.inl rfl, Or.inl rfl, Or.inl rfl, Or.inr rfl, Or.inr rfl, Or.inl rfl, Or.inl rfl, Or.inl rfl, Or.inl rfl, Or.inl rfl, Or.inl rfl, Or.inr rfl, Or.inl rfl, Or.inr rfl, Or.inl rfl, Or.inl rfl, Or.inl rfl, Or.inl rfl, Or.inl rfl, Or.inl rfl, Or.inl rfl, trivial⟩ h
      · replace h := h.2 q
        refine wa_ldc2 287 (-1) dX10_exact_284 rfl wJ_X10_142 ⟨rfl, by decide⟩ ?_
        refine wa_goto 291 dX10_exact_287 (by decide) ?_
        exact wa_weak [(2, v0), (0, v1), (0, v2), (0, v3), (1, v4), (9, 0), (1, v6), (9, 0), (1, v8), (9, 0), (9, 0), (9, 0), (1, w12), (9, 0), (1, w16), (9, 0), (1, ((w20 * w12) - (w25 * w16))), (9, 0), (9, 0), (9, 0), (9, 0), (9, 0), (1, ((((v4 / 5040) + 1) * 5040) - v4)), (9, 0), (9, 0), (9, 0), (9, 0), (9, 0)] ⟨Or.inl rfl, Or.inl rfl, Or.inl rfl, Or.inl rfl, Or.inl rfl, Or.inl rfl, Or.inl rfl, Or.inl rfl, Or.inl rfl, Or.inl rfl, Or.inr rfl, Or.inr rfl, Or.inl rfl, Or.inl rfl, Or.inl rfl, Or.inl rfl, Or.inl rfl, Or.inl rfl, Or.inr rfl, Or.inl rfl, Or.inr rfl, Or.inl rfl, Or.inl rfl, Or.inl rfl, Or.inl rfl, Or.inl rfl, Or.inl rfl, Or.inl rfl, trivial⟩ h
set_option maxRecDepth 20000 in
theorem s_X10_exact_291 (hL : LayOK L) {v0 v1 v2 v3 v4 v6 v8 v12 v14 v16 v22 s0 : Int} (k0 : isK L v0 (10, 0)) (h : (inL (-v8)) ∧ (inL ((-v8) * v14)) ∧ (inL (((-v8) * v14) * s0)) ∧ ((((-v8) * v14) * s0) ≤ 0 → WA mX10_exact 3 (0, 0) 370 [(2, v0), (0, v1), (0, v2), (0, v3), (1, v4), (9, 0), (1, v6), (9, 0), (9, 0), (9, 0), (9, 0), (9, 0), (1, v12), (9, 0), (1, v14), (9, 0), (9, 0), (9, 0), (9, 0), (9, 0), (9, 0), (9, 0), (1, v22), (9, 0), (9, 0), (9, 0), (9, 0), (9, 0)] [] L μ Q) ∧ (¬ (((-v8) * v14) * s0) ≤ 0 → (inL (v22 * v16)) ∧ (inL ((v22 * v16) * s0)) ∧ (((v22 * v16) * s0) < (((-v8) * v14) * s0) → WA mX10_exact 3 (0, 0) 370 [(2, v0), (0, v1), (0, v2), (0, v3), (1, v4), (9, 0), (1, v6), (9, 0), (9, 0), (9, 0), (9, 0), (9, 0), (1, v12), (9, 0), (1, v14), (9, 0), (9, 0), (9, 0), (9, 0), (9, 0), (9, 0), (9, 0), (1, v22), (9, 0), (9, 0), (9, 0), (9, 0), (9, 0)] [] L μ Q) ∧ (¬ ((v22 * v16) * s0) < (((-v8) * v14) * s0) → (inL (v4 * v16)) ∧ (inL ((v4 * v16) * s0)) ∧ (inL (((v4 * v16) * s0) + (((-v8) * v14) * s0))) ∧ (inL (v6 * v16)) ∧ (inL ((v6 * v16) * s0)) ∧ (inL (((v6 * v16) * s0) * v14)) ∧ (inL ((((-v8) * v14) * s0) * v12)) ∧ (inL ((((v6 * v16) * s0) * v14) + ((((-v8) * v14) * s0) * v12))) ∧ (inL (5040 * v16)) ∧ (inL ((5040 * v16) * s0)) ∧ TR mX10_pairOf 2 (0, 0) [(2, v0), (1, (((v4 * v16) * s0) + (((-v8) * v14) * s0))), (1, ((((v6 * v16) * s0) * v14) + ((((-v8) * v14) * s0) * v12))), (1, ((5040 * v16) * s0)), (1, v14), (0, v3)] L μ (fun r16 L17 μ18 => ∃ w19, r16 = some (1, w19) ∧ L = L17 ∧ Q (some (1, w19)) L μ18)))) : WA mX10_exact 3 (0, 0) 291 [(2, v0), (0, v1), (0, v2), (0, v3), (1, v4), (9, 0), (1, v6), (9, 0), (1, v8), (9, 0), (9, 0), (9, 0), (1, v12), (9, 0), (1, v14), (9, 0), (1, v16), (9, 0), (9, 0), (9, 0), (9, 0), (9, 0), (1, v22), (9, 0), (9, 0), (9, 0), (9, 0), (9, 0)] [(1, s0)] L μ Q := by
  refine wa_lstore 293 [(2, v0), (0, v1), (0, v2), (0, v3), (1, v4), (9, 0), (1, v6), (9, 0), (1, v8), (9, 0), (9, 0), (9, 0), (1, v12), (9, 0), (1, v14), (9, 0), (1, v16), (9, 0), (9, 0), (9, 0), (9, 0), (9, 0), (1, v22), (9, 0), (1, s0), (9, 0), (9, 0), (9, 0)] dX10_exact_291 rfl rfl rfl ?_
  refine wa_lload 295 dX10_exact_293 rfl rfl ?_
  obtain ⟨c1, h⟩ := h
  refine wa_lneg 296 dX10_exact_295 rfl c1 ?_
  refine wa_lload 298 dX10_exact_296 rfl rfl ?_
  obtain ⟨c2, h⟩ := h
  refine wa_lmul 299 dX10_exact_298 rfl c2 ?_
  refine wa_lload 301 dX10_exact_299 rfl rfl ?_
  obtain ⟨c3, h⟩ := h
  refine wa_lmul 302 dX10_exact_301 rfl c3 ?_
  refine wa_lstore 304 [(2, v0), (0, v1), (0, v2), (0, v3), (1, v4), (9, 0), (1, v6), (9, 0), (1, v8), (9, 0), (9, 0), (9, 0), (1, v12), (9, 0), (1, v14), (9, 0), (1, v16), (9, 0), (9, 0), (9, 0), (9, 0), (9, 0), (1, v22), (9, 0), (1, s0), (9, 0), (1, (((-v8) * v14) * s0)), (9, 0)] dX10_exact_302 rfl rfl rfl ?_
  refine wa_lload 306 dX10_exact_304 rfl rfl ?_
  refine wa_lconst 307 0 dX10_exact_306 rfl ⟨rfl, by decide⟩ ?_
  refine wa_lc_le 311 370 dX10_exact_307 dX10_exact_308 rfl (by decide) (fun q => ?_) (fun q => ?_)
  · replace h := h.1 q
    exact wa_weak [(2, v0), (0, v1), (0, v2), (0, v3), (1, v4), (9, 0), (1, v6), (9, 0), (9, 0), (9, 0), (9, 0), (9, 0), (1, v12), (9, 0), (1, v14), (9, 0), (9, 0), (9, 0), (9, 0), (9, 0), (9, 0), (9, 0), (1, v22), (9, 0), (9, 0), (9, 0), (9, 0), (9, 0)] ⟨Or.inl rfl, Or.inl rfl, Or.inl rfl, Or.inl rfl, Or.inl rfl, Or.inl rfl, Or.inl rfl, Or.inl rfl, Or.inr rfl, Or.inl rfl, Or.inl rfl, Or.inl rfl, Or.inl rfl, Or.inl rfl, Or.inl rfl, Or.inl rfl, Or.inr rfl, Or.inl rfl, Or.inl rfl, Or.inl rfl, Or.inl rfl, Or.inl rfl, Or.inl rfl, Or.inl rfl, Or.inr rfl, Or.inl rfl, Or.inr rfl, Or.inl rfl, trivial⟩ h
  · replace h := h.2 q
    refine wa_lload 313 dX10_exact_311 rfl rfl ?_
    refine wa_lload 315 dX10_exact_313 rfl rfl ?_
    refine wa_lload 317 dX10_exact_315 rfl rfl ?_
    obtain ⟨c4, h⟩ := h
    refine wa_lmul 318 dX10_exact_317 rfl c4 ?_
    refine wa_lload 320 dX10_exact_318 rfl rfl ?_
    obtain ⟨c5, h⟩ := h
    refine wa_lmul 321 dX10_exact_320 rfl c5 ?_
    refine wa_lc_gt 325 370 dX10_exact_321 dX10_exact_322 rfl (by decide) (fun q => ?_) (fun q => ?_)
    · replace h := h.1 q
      exact wa_weak [(2, v0), (0, v1), (0, v2), (0, v3), (1, v4), (9, 0), (1, v6), (9, 0), (9, 0), (9, 0), (9, 0), (9, 0), (1, v12), (9, 0), (1, v14), (9, 0), (9, 0), (9, 0), (9, 0), (9, 0), (9, 0), (9, 0), (1, v22), (9, 0), (9, 0), (9, 0), (9, 0), (9, 0)] ⟨Or.inl rfl, Or.inl rfl, Or.inl rfl, Or.inl rfl, Or.inl rfl, Or.inl rfl, Or.inl rfl, Or.inl rfl, Or.inr rfl, Or.inl rfl, Or.inl rfl, Or.inl rfl, Or.inl rfl, Or.inl rfl, Or.inl rfl, Or.inl rfl, Or.inr rfl, Or.inl rfl, Or.inl rfl, Or.inl rfl, Or.inl rfl, Or.inl rfl, Or.inl rfl, Or.inl rfl, Or.inr rfl, Or.inl rfl, Or.inr rfl, Or.inl rfl, trivial⟩ h
    · replace h := h.2 q
      refine wa_aload_n 326 dX10_exact_325 rfl rfl ?_
      refine wa_lload 328 dX10_exact_326 rfl rfl ?_
      refine wa_lload 330 dX10_exact_328 rfl rfl ?_
      obtain ⟨c6, h⟩ := h
      refine wa_lmul 331 dX10_exact_330 rfl c6 ?_
      refine wa_lload 333 dX10_exact_331 rfl rfl ?_
      obtain ⟨c7, h⟩ := h
      refine wa_lmul 334 dX10_exact_333 rfl c7 ?_
      refine wa_lload 336 dX10_exact_334 rfl rfl ?_
      obtain ⟨c8, h⟩ := h
      refine wa_ladd 337 dX10_exact_336 rfl c8 ?_
      refine wa_lload 339 dX10_exact_337 rfl rfl ?_
      refine wa_lload 341 dX10_exact_339 rfl rfl ?_
      obtain ⟨c9, h⟩ := h
      refine wa_lmul 342 dX10_exact_341 rfl c9 ?_
      refine wa_lload 344 dX10_exact_342 rfl rfl ?_
      obtain ⟨c10, h⟩ := h
      refine wa_lmul 345 dX10_exact_344 rfl c10 ?_
      refine wa_lload 347 dX10_exact_345 rfl rfl ?_
      obtain ⟨c11, h⟩ := h
      refine wa_lmul 348 dX10_exact_347 rfl c11 ?_
      refine wa_lload 350 dX10_exact_348 rfl rfl ?_
      refine wa_lload 352 dX10_exact_350 rfl rfl ?_
      obtain ⟨c12, h⟩ := h
      refine wa_lmul 353 dX10_exact_352 rfl c12 ?_
      obtain ⟨c13, h⟩ := h
      refine wa_ladd 354 dX10_exact_353 rfl c13 ?_
      refine wa_ldc2 357 5040 dX10_exact_354 rfl wJ_X10_138 ⟨rfl, by decide⟩ ?_
      refine wa_lload 359 dX10_exact_357 rfl rfl ?_
      obtain ⟨c14, h⟩ := h
      refine wa_lmul 360 dX10_exact_359 rfl c14 ?_
      refine wa_lload 362 dX10_exact_360 rfl rfl ?_
      obtain ⟨c15, h⟩ := h
      refine wa_lmul 363 dX10_exact_362 rfl c15 ?_
      refine wa_lload 365 dX10_exact_363 rfl rfl ?_
      refine wa_iload_n 366 dX10_exact_365 rfl rfl ?_
      refine wa_callV 369 2 5 10 (av := [(1, (((v4 * v16) * s0) + (((-v8) * v14) * s0))), (1, ((((v6 * v16) * s0) * v14) + ((((-v8) * v14) * s0) * v12))), (1, ((5040 * v16) * s0)), (1, v14), (0, v3)]) (rest := []) (k1 := (0, 0)) (k2 := (0, 0)) cvX10_pairOf dX10_exact_366 rfl wM_X10_144 ⟨rfl, by decide, rfl, Nat.le_of_ble_eq_true rfl, by decide, Nat.le_of_ble_eq_true rfl, rfl, rfl⟩ rfl k0 (TR.mono h (fun r16 L17 μ18 h => ?_))
      obtain ⟨w19, rfl, rfl, h⟩ := h
      show WA mX10_exact 3 (0, 0) 369 [(2, v0), (0, v1), (0, v2), (0, v3), (1, v4), (9, 0), (1, v6), (9, 0), (1, v8), (9, 0), (9, 0), (9, 0), (1, v12), (9, 0), (1, v14), (9, 0), (1, v16), (9, 0), (9, 0), (9, 0), (9, 0), (9, 0), (1, v22), (9, 0), (1, s0), (9, 0), (1, (((-v8) * v14) * s0)), (9, 0)] [(1, w19)] L μ18 Q
      exact wa_lret dX10_exact_369 rfl h
set_option maxRecDepth 20000 in
theorem s_X10_exact_370 (hL : LayOK L) {v0 v1 v2 v3 v4 v6 v12 v14 v22 : Int} (k0 : isK L v0 (10, 0)) (h : (inL (v4 + v22)) ∧ (inL (v22 * v12)) ∧ (0 ≤ (v22 * v12) ∧ 0 < v14) ∧ (inL (v6 + ((v22 * v12) / v14))) ∧ TR mX10_aheadOf 1 (0, 0) [(2, v0), (0, v2), (0, 1), (1, (v6 + ((v22 * v12) / v14))), (1, 5040)] L μ (fun r5 L6 μ7 => ∃ w8, r5 = some (1, w8) ∧ L = L6 ∧ TR mX10_aheadOf 1 (0, 0) [(2, v0), (0, v2), (0, 1), (1, (v4 + v22)), (1, 5040)] L μ7 (fun r9 L10 μ11 => ∃ w12, r9 = some (1, w12) ∧ L = L10 ∧ (inL (w8 - w12)) ∧ TR mX10_allOf 2 (0, 0) [(2, v0), (0, v2), (0, 1)] L μ11 (fun r14 L15 μ16 => ∃ w17, r14 = some (1, w17) ∧ L = L15 ∧ (inL (w17 * 2520)) ∧ (inL ((w8 - w12) - (w17 * 2520))) ∧ WA mX10_exact 3 (0, 0) 156 [(2, v0), (0, v1), (0, v2), (0, v3), (1, (v4 + v22)), (9, 0), (1, (v6 + ((v22 * v12) / v14))), (9, 0), (1, ((w8 - w12) - (w17 * 2520))), (9, 0), (9, 0), (9, 0), (9, 0), (9, 0), (9, 0), (9, 0), (9, 0), (9, 0), (9, 0), (9, 0), (9, 0), (9, 0), (9, 0), (9, 0), (9, 0), (9, 0), (9, 0), (9, 0)] [] L μ16 Q)))) : WA mX10_exact 3 (0, 0) 370 [(2, v0), (0, v1), (0, v2), (0, v3), (1, v4), (9, 0), (1, v6), (9, 0), (9, 0), (9, 0), (9, 0), (9, 0), (1, v12), (9, 0), (1, v14), (9, 0), (9, 0), (9, 0), (9, 0), (9, 0), (9, 0), (9, 0), (1, v22), (9, 0), (9, 0), (9, 0), (9, 0), (9, 0)] [] L μ Q := by
  refine wa_lload 372 dX10_exact_370 rfl rfl ?_
  refine wa_lload 374 dX10_exact_372 rfl rfl ?_
  obtain ⟨c1, h⟩ := h
  refine wa_ladd 375 dX10_exact_374 rfl c1 ?_
  refine wa_lstore 377 [(2, v0), (0, v1), (0, v2), (0, v3), (1, (v4 + v22)), (9, 0), (1, v6), (9, 0), (9, 0), (9, 0), (9, 0), (9, 0), (1, v12), (9, 0), (1, v14), (9, 0), (9, 0), (9, 0), (9, 0), (9, 0), (9, 0), (9, 0), (1, v22), (9, 0), (9, 0), (9, 0), (9, 0), (9, 0)] dX10_exact_375 rfl rfl rfl ?_
  refine wa_lload 379 dX10_exact_377 rfl rfl ?_
  refine wa_lload 381 dX10_exact_379 rfl rfl ?_
  refine wa_lload 383 dX10_exact_381 rfl rfl ?_
  obtain ⟨c2, h⟩ := h
  refine wa_lmul 384 dX10_exact_383 rfl c2 ?_
  refine wa_lload 386 dX10_exact_384 rfl rfl ?_
  obtain ⟨c3, h⟩ := h
  refine wa_ldivE 387 dX10_exact_386 rfl c3 ?_
  obtain ⟨c4, h⟩ := h
  refine wa_ladd 388 dX10_exact_387 rfl c4 ?_
  refine wa_lstore 390 [(2, v0), (0, v1), (0, v2), (0, v3), (1, (v4 + v22)), (9, 0), (1, (v6 + ((v22 * v12) / v14))), (9, 0), (9, 0), (9, 0), (9, 0), (9, 0), (1, v12), (9, 0), (1, v14), (9, 0), (9, 0), (9, 0), (9, 0), (9, 0), (9, 0), (9, 0), (1, v22), (9, 0), (9, 0), (9, 0), (9, 0), (9, 0)] dX10_exact_388 rfl rfl rfl ?_
  refine wa_aload_n 391 dX10_exact_390 rfl rfl ?_
  refine wa_iload_n 392 dX10_exact_391 rfl rfl ?_
  refine wa_iconst 393 dX10_exact_392 rfl (by decide) ?_
  refine wa_lload 395 dX10_exact_393 rfl rfl ?_
  refine wa_ldc2 398 5040 dX10_exact_395 rfl wJ_X10_138 ⟨rfl, by decide⟩ ?_
  refine wa_callV 401 1 4 10 (av := [(0, v2), (0, 1), (1, (v6 + ((v22 * v12) / v14))), (1, 5040)]) (rest := []) (k1 := (0, 0)) (k2 := (0, 0)) cvX10_aheadOf dX10_exact_398 rfl wM_X10_106 ⟨rfl, by decide, rfl, Nat.le_of_ble_eq_true rfl, by decide, Nat.le_of_ble_eq_true rfl, rfl, rfl⟩ rfl k0 (TR.mono h (fun r5 L6 μ7 h => ?_))
  obtain ⟨w8, rfl, rfl, h⟩ := h
  show WA mX10_exact 3 (0, 0) 401 [(2, v0), (0, v1), (0, v2), (0, v3), (1, (v4 + v22)), (9, 0), (1, (v6 + ((v22 * v12) / v14))), (9, 0), (9, 0), (9, 0), (9, 0), (9, 0), (1, v12), (9, 0), (1, v14), (9, 0), (9, 0), (9, 0), (9, 0), (9, 0), (9, 0), (9, 0), (1, v22), (9, 0), (9, 0), (9, 0), (9, 0), (9, 0)] [(1, w8)] L μ7 Q
  refine wa_aload_n 402 dX10_exact_401 rfl rfl ?_
  refine wa_iload_n 403 dX10_exact_402 rfl rfl ?_
  refine wa_iconst 404 dX10_exact_403 rfl (by decide) ?_
  refine wa_lload 406 dX10_exact_404 rfl rfl ?_
  refine wa_ldc2 409 5040 dX10_exact_406 rfl wJ_X10_138 ⟨rfl, by decide⟩ ?_
  refine wa_callV 412 1 4 10 (av := [(0, v2), (0, 1), (1, (v4 + v22)), (1, 5040)]) (rest := [(1, w8)]) (k1 := (0, 0)) (k2 := (0, 0)) cvX10_aheadOf dX10_exact_409 rfl wM_X10_106 ⟨rfl, by decide, rfl, Nat.le_of_ble_eq_true rfl, by decide, Nat.le_of_ble_eq_true rfl, rfl, rfl⟩ rfl k0 (TR.mono h (fun r9 L10 μ11 h => ?_))
  obtain ⟨w12, rfl, rfl, h⟩ := h
  show WA mX10_exact 3 (0, 0) 412 [(2, v0), (0, v1), (0, v2), (0, v3), (1, (v4 + v22)), (9, 0), (1, (v6 + ((v22 * v12) / v14))), (9, 0), (9, 0), (9, 0), (9, 0), (9, 0), (1, v12), (9, 0), (1, v14), (9, 0), (9, 0), (9, 0), (9, 0), (9, 0), (9, 0), (9, 0), (1, v22), (9, 0), (9, 0), (9, 0), (9, 0), (9, 0)] [(1, w12), (1, w8)] L μ11 Q
  obtain ⟨c13, h⟩ := h
  refine wa_lsub 413 dX10_exact_412 rfl c13 ?_
  refine wa_aload_n 414 dX10_exact_413 rfl rfl ?_
  refine wa_iload_n 415 dX10_exact_414 rfl rfl ?_
  refine wa_iconst 416 dX10_exact_415 rfl (by decide) ?_
  refine wa_callV 419 2 2 10 (av := [(0, v2), (0, 1)]) (rest := [(1, (w8 - w12))]) (k1 := (0, 0)) (k2 := (0, 0)) cvX10_allOf dX10_exact_416 rfl wM_X10_128 ⟨rfl, by decide, rfl, Nat.le_of_ble_eq_true rfl, by decide, Nat.le_of_ble_eq_true rfl, rfl, rfl⟩ rfl k0 (TR.mono h (fun r14 L15 μ16 h => ?_))
  obtain ⟨w17, rfl, rfl, h⟩ := h
  show WA mX10_exact 3 (0, 0) 419 [(2, v0), (0, v1), (0, v2), (0, v3), (1, (v4 + v22)), (9, 0), (1, (v6 + ((v22 * v12) / v14))), (9, 0), (9, 0), (9, 0), (9, 0), (9, 0), (1, v12), (9, 0), (1, v14), (9, 0), (9, 0), (9, 0), (9, 0), (9, 0), (9, 0), (9, 0), (1, v22), (9, 0), (9, 0), (9, 0), (9, 0), (9, 0)] [(1, w17), (1, (w8 - w12))] L μ16 Q
  refine wa_ldc2 422 2520 dX10_exact_419 rfl wJ_X10_140 ⟨rfl, by decide⟩ ?_
  obtain ⟨c18, h⟩ := h
  refine wa_lmul 423 dX10_exact_422 rfl c18 ?_
  obtain ⟨c19, h⟩ := h
  refine wa_lsub 424 dX10_exact_423 rfl c19 ?_
  refine wa_lstore 426 [(2, v0), (0, v1), (0, v2), (0, v3), (1, (v4 + v22)), (9, 0), (1, (v6 + ((v22 * v12) / v14))), (9, 0), (1, ((w8 - w12) - (w17 * 2520))), (9, 0), (9, 0), (9, 0), (1, v12), (9, 0), (1, v14), (9, 0), (9, 0), (9, 0), (9, 0), (9, 0), (9, 0), (9, 0), (1, v22), (9, 0), (9, 0), (9, 0), (9, 0), (9, 0)] dX10_exact_424 rfl rfl rfl ?_
  refine wa_goto 156 dX10_exact_426 (by decide) ?_
  exact wa_weak [(2, v0), (0, v1), (0, v2), (0, v3), (1, (v4 + v22)), (9, 0), (1, (v6 + ((v22 * v12) / v14))), (9, 0), (1, ((w8 - w12) - (w17 * 2520))), (9, 0), (9, 0), (9, 0), (9, 0), (9, 0), (9, 0), (9, 0), (9, 0), (9, 0), (9, 0), (9, 0), (9, 0), (9, 0), (9, 0), (9, 0), (9, 0), (9, 0), (9, 0), (9, 0)] ⟨Or.inl rfl, Or.inl rfl, Or.inl rfl, Or.inl rfl, Or.inl rfl, Or.inl rfl, Or.inl rfl, Or.inl rfl, Or.inl rfl, Or.inl rfl, Or.inl rfl, Or.inl rfl, Or.inr rfl, Or.inl rfl, Or.inr rfl, Or.inl rfl, Or.inl rfl, Or.inl rfl, Or.inl rfl, Or.inl rfl, Or.inl rfl, Or.inl rfl, Or.inr rfl, Or.inl rfl, Or.inl rfl, Or.inl rfl, Or.inl rfl, Or.inl rfl, trivial⟩ h
set_option maxRecDepth 20000 in
theorem t_X10_exchange (hL : LayOK L) {v0 : Int} (k0 : isK L v0 (10, 0)) (h : TR mX10_isDivided 0 (0, 0) [(2, v0)] L μ (fun r1 L2 μ3 => ∃ w4, r1 = some (0, w4) ∧ L = L2 ∧ (¬ w4 = 0 → WA mX10_exchange 5 (0, 0) 14 [(2, v0), (0, 1), (0, 0), (9, 0), (9, 0), (9, 0), (9, 0), (9, 0)] [] L μ3 Q) ∧ (w4 = 0 → Q (some (0, (-5))) L μ3))) : TR mX10_exchange 5 (0, 0) [(2, v0)] L μ Q := by
  refine TR.of (ls := [(2, v0), (9, 0), (9, 0), (9, 0), (9, 0), (9, 0), (9, 0), (9, 0)]) (by decide) (by simp) rfl (Nat.le_of_ble_eq_true rfl) ?_
  refine wa_aload_n 1 dX10_exchange_0 rfl rfl ?_
  refine wa_callV 4 0 0 10 (av := []) (rest := []) (k1 := (0, 0)) (k2 := (0, 0)) cvX10_isDivided dX10_exchange_1 rfl wM_X10_325 ⟨rfl, by decide, rfl, Nat.le_of_ble_eq_true rfl, by decide, Nat.le_of_ble_eq_true rfl, rfl, rfl⟩ rfl k0 (TR.mono h (fun r1 L2 μ3 h => ?_))
  obtain ⟨w4, rfl, rfl, h⟩ := h
  show WA mX10_exchange 5 (0, 0) 4 [(2, v0), (9, 0), (9, 0), (9, 0), (9, 0), (9, 0), (9, 0), (9, 0)] [(0, w4)] L μ3 Q
  refine wa_if_ne 7 10 dX10_exchange_4 rfl (by decide) (fun q => ?_) (fun q => ?_)
  · replace h := h.1 q
    refine wa_iconst 11 dX10_exchange_10 rfl (by decide) ?_
    refine wa_istore_n 12 [(2, v0), (0, 1), (9, 0), (9, 0), (9, 0), (9, 0), (9, 0), (9, 0)] dX10_exchange_11 rfl rfl rfl ?_
    refine wa_iconst 13 dX10_exchange_12 rfl (by decide) ?_
    refine wa_istore_n 14 [(2, v0), (0, 1), (0, 0), (9, 0), (9, 0), (9, 0), (9, 0), (9, 0)] dX10_exchange_13 rfl rfl rfl ?_
    exact h
  · replace h := h.2 q
    refine wa_bipush 9 dX10_exchange_7 rfl ⟨by decide, by decide⟩ ?_
    exact wa_iret dX10_exchange_9 rfl h
set_option maxRecDepth 20000 in
theorem s_X10_exchange_14 (hL : LayOK L) {v0 v1 v2 : Int} (k0 : isK L v0 (10, 0)) (h : TR mX10_agents 0 (0, 0) [(2, v0)] L μ (fun r1 L2 μ3 => ∃ w4, r1 = some (0, w4) ∧ L = L2 ∧ (w4 ≤ v2 → WA mX10_exchange 5 (0, 0) 77 [(2, v0), (0, v1), (0, 0), (1, (-1)), (9, 0), (0, 0), (9, 0), (9, 0)] [] L μ3 Q) ∧ (¬ w4 ≤ v2 → TR mX10_agents 0 (0, 0) [(2, v0)] L μ3 (fun r5 L6 μ7 => ∃ w8, r5 = some (0, w8) ∧ L = L6 ∧ (inI (v1 * w8)) ∧ WA mX10_exchange 5 (0, 0) 31 [(2, v0), (0, (v1 * w8)), (0, v2), (0, 0), (9, 0), (9, 0), (9, 0), (9, 0)] [] L μ7 Q)))) : WA mX10_exchange 5 (0, 0) 14 [(2, v0), (0, v1), (0, v2), (9, 0), (9, 0), (9, 0), (9, 0), (9, 0)] [] L μ Q := by
  refine wa_iload_n 15 dX10_exchange_14 rfl rfl ?_
  refine wa_aload_n 16 dX10_exchange_15 rfl rfl ?_
  refine wa_callV 19 0 0 10 (av := []) (rest := [(0, v2)]) (k1 := (0, 0)) (k2 := (0, 0)) cvX10_agents dX10_exchange_16 rfl wM_X10_75 ⟨rfl, by decide, rfl, Nat.le_of_ble_eq_true rfl, by decide, Nat.le_of_ble_eq_true rfl, rfl, rfl⟩ rfl k0 (TR.mono h (fun r1 L2 μ3 h => ?_))
  obtain ⟨w4, rfl, rfl, h⟩ := h
  show WA mX10_exchange 5 (0, 0) 19 [(2, v0), (0, v1), (0, v2), (9, 0), (9, 0), (9, 0), (9, 0), (9, 0)] [(0, w4), (0, v2)] L μ3 Q
  refine wa_icmp_ge 22 68 dX10_exchange_19 rfl (by decide) (fun q => ?_) (fun q => ?_)
  · replace h := h.1 q
    refine wa_iconst 69 dX10_exchange_68 rfl (by decide) ?_
    refine wa_istore_n 70 [(2, v0), (0, v1), (0, 0), (9, 0), (9, 0), (9, 0), (9, 0), (9, 0)] dX10_exchange_69 rfl rfl rfl ?_
    refine wa_ldc2 73 (-1) dX10_exchange_70 rfl wJ_X10_142 ⟨rfl, by decide⟩ ?_
    refine wa_lstore_n 74 [(2, v0), (0, v1), (0, 0), (1, (-1)), (9, 0), (9, 0), (9, 0), (9, 0)] dX10_exchange_73 rfl rfl rfl ?_
    refine wa_iconst 75 dX10_exchange_74 rfl (by decide) ?_
    refine wa_istore 77 [(2, v0), (0, v1), (0, 0), (1, (-1)), (9, 0), (0, 0), (9, 0), (9, 0)] dX10_exchange_75 rfl rfl rfl ?_
    exact h
  · replace h := h.2 q
    refine wa_iload_n 23 dX10_exchange_22 rfl rfl ?_
    refine wa_aload_n 24 dX10_exchange_23 rfl rfl ?_
    refine wa_callV 27 0 0 10 (av := []) (rest := [(0, v1)]) (k1 := (0, 0)) (k2 := (0, 0)) cvX10_agents dX10_exchange_24 rfl wM_X10_75 ⟨rfl, by decide, rfl, Nat.le_of_ble_eq_true rfl, by decide, Nat.le_of_ble_eq_true rfl, rfl, rfl⟩ rfl k0 (TR.mono h (fun r5 L6 μ7 h => ?_))
    obtain ⟨w8, rfl, rfl, h⟩ := h
    show WA mX10_exchange 5 (0, 0) 27 [(2, v0), (0, v1), (0, v2), (9, 0), (9, 0), (9, 0), (9, 0), (9, 0)] [(0, w8), (0, v1)] L μ7 Q
    obtain ⟨c9, h⟩ := h
    refine wa_imul 28 dX10_exchange_27 rfl c9 ?_
    refine wa_istore_n 29 [(2, v0), (0, (v1 * w8)), (0, v2), (9, 0), (9, 0), (9, 0), (9, 0), (9, 0)] dX10_exchange_28 rfl rfl rfl ?_
    refine wa_iconst 30 dX10_exchange_29 rfl (by decide) ?_
    refine wa_istore_n 31 [(2, v0), (0, (v1 * w8)), (0, v2), (0, 0), (9, 0), (9, 0), (9, 0), (9, 0)] dX10_exchange_30 rfl rfl rfl ?_
    exact h
set_option maxRecDepth 20000 in
theorem s_X10_exchange_31 (hL : LayOK L) {v0 v1 v2 v3 : Int} (k0 : isK L v0 (10, 0)) (h : TR mX10_agents 0 (0, 0) [(2, v0)] L μ (fun r1 L2 μ3 => ∃ w4, r1 = some (0, w4) ∧ L = L2 ∧ (w4 ≤ v3 → (inI (v2 + 1)) ∧ WA mX10_exchange 5 (0, 0) 14 [(2, v0), (0, v1), (0, (v2 + 1)), (9, 0), (9, 0), (9, 0), (9, 0), (9, 0)] [] L μ3 Q) ∧ (¬ w4 ≤ v3 → (inI (5 * v2)) ∧ (inI ((5 * v2) + v3)) ∧ TR mX10_worthOfShare 4 (0, 0) [(2, v0), (0, v2), (0, v3), (0, 0)] L μ3 (fun r9 L10 μ11 => ∃ w12, r9 = some (1, w12) ∧ L = L10 ∧ (0 ≤ ((5 * v2) + v3) ∧ ((5 * v2) + v3) < 25) ∧ (inI (v3 + 1)) ∧ WA mX10_exchange 5 (0, 0) 31 [(2, v0), (0, v1), (0, v2), (0, (v3 + 1)), (9, 0), (9, 0), (9, 0), (9, 0)] [] L (up μ11 ((rf L v0 23)) (((5 * v2) + v3)) w12) Q)))) : WA mX10_exchange 5 (0, 0) 31 [(2, v0), (0, v1), (0, v2), (0, v3), (9, 0), (9, 0), (9, 0), (9, 0)] [] L μ Q := by
  refine wa_iload_n 32 dX10_exchange_31 rfl rfl ?_
  refine wa_aload_n 33 dX10_exchange_32 rfl rfl ?_
  refine wa_callV 36 0 0 10 (av := []) (rest := [(0, v3)]) (k1 := (0, 0)) (k2 := (0, 0)) cvX10_agents dX10_exchange_33 rfl wM_X10_75 ⟨rfl, by decide, rfl, Nat.le_of_ble_eq_true rfl, by decide, Nat.le_of_ble_eq_true rfl, rfl, rfl⟩ rfl k0 (TR.mono h (fun r1 L2 μ3 h => ?_))
  obtain ⟨w4, rfl, rfl, h⟩ := h
  show WA mX10_exchange 5 (0, 0) 36 [(2, v0), (0, v1), (0, v2), (0, v3), (9, 0), (9, 0), (9, 0), (9, 0)] [(0, w4), (0, v3)] L μ3 Q
  refine wa_icmp_ge 39 62 dX10_exchange_36 rfl (by decide) (fun q => ?_) (fun q => ?_)
  · replace h := h.1 q
    obtain ⟨c5, h⟩ := h
    refine wa_iinc 65 [(2, v0), (0, v1), (0, (v2 + 1)), (0, v3), (9, 0), (9, 0), (9, 0), (9, 0)] dX10_exchange_62 rfl rfl rfl c5 rfl ?_
    refine wa_goto 14 dX10_exchange_65 (by decide) ?_
    exact wa_weak [(2, v0), (0, v1), (0, (v2 + 1)), (9, 0), (9, 0), (9, 0), (9, 0), (9, 0)] ⟨Or.inl rfl, Or.inl rfl, Or.inl rfl, Or.inr rfl, Or.inl rfl, Or.inl rfl, Or.inl rfl, Or.inl rfl, trivial⟩ h
  · replace h := h.2 q
    refine wa_aload_n 40 dX10_exchange_39 rfl rfl ?_
    have e6 : isK L (rf L v0 23) (21, 25) := lay_f hL k0 23 rfl
    refine wa_getR 43 23 dX10_exchange_40 rfl wF_X10_46 rfl rfl ⟨k0, isK_pos e6⟩ ?_
    refine wa_iconst 44 dX10_exchange_43 rfl (by decide) ?_
    refine wa_iload_n 45 dX10_exchange_44 rfl rfl ?_
    obtain ⟨c7, h⟩ := h
    refine wa_imul 46 dX10_exchange_45 rfl c7 ?_
    refine wa_iload_n 47 dX10_exchange_46 rfl rfl ?_
    obtain ⟨c8, h⟩ := h
    refine wa_iadd 48 dX10_exchange_47 rfl c8 ?_
    refine wa_aload_n 49 dX10_exchange_48 rfl rfl ?_
    refine wa_iload_n 50 dX10_exchange_49 rfl rfl ?_
    refine wa_iload_n 51 dX10_exchange_50 rfl rfl ?_
    refine wa_iconst 52 dX10_exchange_51 rfl (by decide) ?_
    refine wa_callV 55 4 3 10 (av := [(0, v2), (0, v3), (0, 0)]) (rest := [(0, ((5 * v2) + v3)), (2, (rf L v0 23))]) (k1 := (0, 0)) (k2 := (0, 0)) cvX10_worthOfShare dX10_exchange_52 rfl wM_X10_345 ⟨rfl, by decide, rfl, Nat.le_of_ble_eq_true rfl, by decide, Nat.le_of_ble_eq_true rfl, rfl, rfl⟩ rfl k0 (TR.mono h (fun r9 L10 μ11 h => ?_))
    obtain ⟨w12, rfl, rfl, h⟩ := h
    show WA mX10_exchange 5 (0, 0) 55 [(2, v0), (0, v1), (0, v2), (0, v3), (9, 0), (9, 0), (9, 0), (9, 0)] [(1, w12), (0, ((5 * v2) + v3)), (2, (rf L v0 23))] L μ11 Q
    obtain ⟨c13, h⟩ := h
    refine wa_lastore 56 dX10_exchange_55 rfl (okA_of e6 c13) ?_
    obtain ⟨c14, h⟩ := h
    refine wa_iinc 59 [(2, v0), (0, v1), (0, v2), (0, (v3 + 1)), (9, 0), (9, 0), (9, 0), (9, 0)] dX10_exchange_56 rfl rfl rfl c14 rfl ?_
    refine wa_goto 31 dX10_exchange_59 (by decide) ?_
    exact h
set_option maxRecDepth 20000 in
theorem s_X10_exchange_77 (hL : LayOK L) {v0 v1 v2 v3 v5 : Int} (k0 : isK L v0 (10, 0)) (h : (v1 ≤ v5 → WA mX10_exchange 5 (0, 0) 134 [(2, v0), (9, 0), (0, v2), (9, 0), (9, 0), (0, 1), (0, 0), (0, 0)] [] L μ Q) ∧ (¬ v1 ≤ v5 → TR mX10_byFigures 1 (0, 0) [(2, v0), (0, v5)] L μ (fun r1 L2 μ3 => ∃ w4, r1 = some (1, w4) ∧ L = L2 ∧ (w4 ≤ v3 → (w4 ≤ v3 → (inI (v5 + 1)) ∧ WA mX10_exchange 5 (0, 0) 77 [(2, v0), (0, v1), (0, v2), (1, v3), (9, 0), (0, (v5 + 1)), (9, 0), (9, 0)] [] L μ3 Q) ∧ (¬ w4 ≤ v3 → (inI (v5 + 1)) ∧ WA mX10_exchange 5 (0, 0) 77 [(2, v0), (0, v1), (0, v2), (1, w4), (9, 0), (0, (v5 + 1)), (9, 0), (9, 0)] [] L μ3 Q)) ∧ (¬ w4 ≤ v3 → (w4 ≤ v3 → (inI (v5 + 1)) ∧ WA mX10_exchange 5 (0, 0) 77 [(2, v0), (0, v1), (0, v5), (1, v3), (9, 0), (0, (v5 + 1)), (9, 0), (9, 0)] [] L μ3 Q) ∧ (¬ w4 ≤ v3 → (inI (v5 + 1)) ∧ WA mX10_exchange 5 (0, 0) 77 [(2, v0), (0, v1), (0, v5), (1, w4), (9, 0), (0, (v5 + 1)), (9, 0), (9, 0)] [] L μ3 Q))))) : WA mX10_exchange 5 (0, 0) 77 [(2, v0), (0, v1), (0, v2), (1, v3), (9, 0), (0, v5), (9, 0), (9, 0)] [] L μ Q := by
  refine wa_iload 79 dX10_exchange_77 rfl rfl ?_
  refine wa_iload_n 80 dX10_exchange_79 rfl rfl ?_
  refine wa_icmp_ge 83 125 dX10_exchange_80 rfl (by decide) (fun q => ?_) (fun q => ?_)
  · replace h := h.1 q
    refine wa_iconst 126 dX10_exchange_125 rfl (by decide) ?_
    refine wa_istore 128 [(2, v0), (0, v1), (0, v2), (1, v3), (9, 0), (0, 1), (9, 0), (9, 0)] dX10_exchange_126 rfl rfl rfl ?_
    refine wa_iconst 129 dX10_exchange_128 rfl (by decide) ?_
    refine wa_istore 131 [(2, v0), (0, v1), (0, v2), (1, v3), (9, 0), (0, 1), (0, 0), (9, 0)] dX10_exchange_129 rfl rfl rfl ?_
    refine wa_iconst 132 dX10_exchange_131 rfl (by decide) ?_
    refine wa_istore 134 [(2, v0), (0, v1), (0, v2), (1, v3), (9, 0), (0, 1), (0, 0), (0, 0)] dX10_exchange_132 rfl rfl rfl ?_
    exact wa_weak [(2, v0), (9, 0), (0, v2), (9, 0), (9, 0), (0, 1), (0, 0), (0, 0)] ⟨Or.inl rfl, Or.inr rfl, Or.inl rfl, Or.inr rfl, Or.inl rfl, Or.inl rfl, Or.inl rfl, Or.inl rfl, trivial⟩ h
  · replace h := h.2 q
    refine wa_aload_n 84 dX10_exchange_83 rfl rfl ?_
    refine wa_iload 86 dX10_exchange_84 rfl rfl ?_
    refine wa_callV 89 1 1 10 (av := [(0, v5)]) (rest := []) (k1 := (0, 0)) (k2 := (0, 0)) cvX10_byFigures dX10_exchange_86 rfl wM_X10_348 ⟨rfl, by decide, rfl, Nat.le_of_ble_eq_true rfl, by decide, Nat.le_of_ble_eq_true rfl, rfl, rfl⟩ rfl k0 (TR.mono h (fun r1 L2 μ3 h => ?_))
    obtain ⟨w4, rfl, rfl, h⟩ := h
    show WA mX10_exchange 5 (0, 0) 89 [(2, v0), (0, v1), (0, v2), (1, v3), (9, 0), (0, v5), (9, 0), (9, 0)] [(1, w4)] L μ3 Q
    refine wa_lstore 91 [(2, v0), (0, v1), (0, v2), (1, v3), (9, 0), (0, v5), (1, w4), (9, 0)] dX10_exchange_89 rfl rfl rfl ?_
    refine wa_lload 93 dX10_exchange_91 rfl rfl ?_
    refine wa_lload_n 94 dX10_exchange_93 rfl rfl ?_
    refine wa_lc_le 98 103 dX10_exchange_94 dX10_exchange_95 rfl (by decide) (fun q => ?_) (fun q => ?_)
    · replace h := h.1 q
      refine wa_iload_n 104 dX10_exchange_103 rfl rfl ?_
      refine wa_istore_n 105 [(2, v0), (0, v1), (0, v2), (1, v3), (9, 0), (0, v5), (1, w4), (9, 0)] dX10_exchange_104 rfl rfl rfl ?_
      refine wa_lload 107 dX10_exchange_105 rfl rfl ?_
      refine wa_lload_n 108 dX10_exchange_107 rfl rfl ?_
      refine wa_lc_le 112 117 dX10_exchange_108 dX10_exchange_109 rfl (by decide) (fun q => ?_) (fun q => ?_)
      · replace h := h.1 q
        refine wa_lload_n 118 dX10_exchange_117 rfl rfl ?_
        refine wa_lstore_n 119 [(2, v0), (0, v1), (0, v2), (1, v3), (9, 0), (0, v5), (1, w4), (9, 0)] dX10_exchange_118 rfl rfl rfl ?_
        obtain ⟨c5, h⟩ := h
        refine wa_iinc 122 [(2, v0), (0, v1), (0, v2), (1, v3), (9, 0), (0, (v5 + 1)), (1, w4), (9, 0)] dX10_exchange_119 rfl rfl rfl c5 rfl ?_
        refine wa_goto 77 dX10_exchange_122 (by decide) ?_
        exact wa_weak [(2, v0), (0, v1), (0, v2), (1, v3), (9, 0), (0, (v5 + 1)), (9, 0), (9, 0)] ⟨Or.inl rfl, Or.inl rfl, Or.inl rfl, Or.inl rfl, Or.inl rfl, Or.inl rfl, Or.inr rfl, Or.inl rfl, trivial⟩ h
      · replace h := h.2 q
        refine wa_lload 114 dX10_exchange_112 rfl rfl ?_
        refine wa_goto 118 dX10_exchange_114 (by decide) ?_
        refine wa_lstore_n 119 [(2, v0), (0, v1), (0, v2), (1, w4), (9, 0), (0, v5), (1, w4), (9, 0)] dX10_exchange_118 rfl rfl rfl ?_
        obtain ⟨c6, h⟩ := h
        refine wa_iinc 122 [(2, v0), (0, v1), (0, v2), (1, w4), (9, 0), (0, (v5 + 1)), (1, w4), (9, 0)] dX10_exchange_119 rfl rfl rfl c6 rfl ?_
        refine wa_goto 77 dX10_exchange_122 (by decide) ?_
        exact wa_weak [(2, v0), (0, v1), (0, v2), (1, w4), (9, 0), (0, (v5 + 1)), (9, 0), (9, 0)] ⟨Or.inl rfl, Or.inl rfl, Or.inl rfl, Or.inl rfl, Or.inl rfl, Or.inl rfl, Or.inr rfl, Or.inl rfl, trivial⟩ h
    · replace h := h.2 q
      refine wa_iload 100 dX10_exchange_98 rfl rfl ?_
      refine wa_goto 104 dX10_exchange_100 (by decide) ?_
      refine wa_istore_n 105 [(2, v0), (0, v1), (0, v5), (1, v3), (9, 0), (0, v5), (1, w4), (9, 0)] dX10_exchange_104 rfl rfl rfl ?_
      refine wa_lload 107 dX10_exchange_105 rfl rfl ?_
      refine wa_lload_n 108 dX10_exchange_107 rfl rfl ?_
      refine wa_lc_le 112 117 dX10_exchange_108 dX10_exchange_109 rfl (by decide) (fun q => ?_) (fun q => ?_)
      · replace h := h.1 q
        refine wa_lload_n 118 dX10_exchange_117 rfl rfl ?_
        refine wa_lstore_n 119 [(2, v0), (0, v1), (0, v5), (1, v3), (9, 0), (0, v5), (1, w4), (9, 0)] dX10_exchange_118 rfl rfl rfl ?_
        obtain ⟨c7, h⟩ := h
        refine wa_iinc 122 [(2, v0), (0, v1), (0, v5), (1, v3), (9, 0), (0, (v5 + 1)), (1, w4), (9, 0)] dX10_exchange_119 rfl rfl rfl c7 rfl ?_
        refine wa_goto 77 dX10_exchange_122 (by decide) ?_
        exact wa_weak [(2, v0), (0, v1), (0, v5), (1, v3), (9, 0), (0, (v5 + 1)), (9, 0), (9, 0)] ⟨Or.inl rfl, Or.inl rfl, Or.inl rfl, Or.inl rfl, Or.inl rfl, Or.inl rfl, Or.inr rfl, Or.inl rfl, trivial⟩ h
      · replace h := h.2 q
        refine wa_lload 114 dX10_exchange_112 rfl rfl ?_
        refine wa_goto 118 dX10_exchange_114 (by decide) ?_
        refine wa_lstore_n 119 [(2, v0), (0, v1), (0, v5), (1, w4), (9, 0), (0, v5), (1, w4), (9, 0)] dX10_exchange_118 rfl rfl rfl ?_
        obtain ⟨c8, h⟩ := h
        refine wa_iinc 122 [(2, v0), (0, v1), (0, v5), (1, w4), (9, 0), (0, (v5 + 1)), (1, w4), (9, 0)] dX10_exchange_119 rfl rfl rfl c8 rfl ?_
        refine wa_goto 77 dX10_exchange_122 (by decide) ?_
        exact wa_weak [(2, v0), (0, v1), (0, v5), (1, w4), (9, 0), (0, (v5 + 1)), (9, 0), (9, 0)] ⟨Or.inl rfl, Or.inl rfl, Or.inl rfl, Or.inl rfl, Or.inl rfl, Or.inl rfl, Or.inr rfl, Or.inl rfl, trivial⟩ h
set_option maxRecDepth 20000 in
theorem s_X10_exchange_134 (hL : LayOK L) {v0 v2 v5 v6 v7 : Int} (k0 : isK L v0 (10, 0)) (h : TR mX10_agents 0 (0, 0) [(2, v0)] L μ (fun r1 L2 μ3 => ∃ w4, r1 = some (0, w4) ∧ L = L2 ∧ (w4 ≤ v7 → Q (some (0, v6)) L μ3) ∧ (¬ w4 ≤ v7 → TR mX10_agents 0 (0, 0) [(2, v0)] L μ3 (fun r5 L6 μ7 => ∃ w8, r5 = some (0, w8) ∧ L = L6 ∧ (0 ≤ v2 ∧ 0 < w8) ∧ (inI (v5 * (v2 % w8))) ∧ (inI (v6 + (v5 * (v2 % w8)))) ∧ TR mX10_agents 0 (0, 0) [(2, v0)] L μ7 (fun r12 L13 μ14 => ∃ w15, r12 = some (0, w15) ∧ L = L13 ∧ (0 ≤ v2 ∧ 0 < w15) ∧ (inI (10 * v5)) ∧ (inI (v7 + 1)) ∧ WA mX10_exchange 5 (0, 0) 134 [(2, v0), (9, 0), (0, (v2 / w15)), (9, 0), (9, 0), (0, (10 * v5)), (0, (v6 + (v5 * (v2 % w8)))), (0, (v7 + 1))] [] L μ14 Q))))) : WA mX10_exchange 5 (0, 0) 134 [(2, v0), (9, 0), (0, v2), (9, 0), (9, 0), (0, v5), (0, v6), (0, v7)] [] L μ Q := by
  refine wa_iload 136 dX10_exchange_134 rfl rfl ?_
  refine wa_aload_n 137 dX10_exchange_136 rfl rfl ?_
  refine wa_callV 140 0 0 10 (av := []) (rest := [(0, v7)]) (k1 := (0, 0)) (k2 := (0, 0)) cvX10_agents dX10_exchange_137 rfl wM_X10_75 ⟨rfl, by decide, rfl, Nat.le_of_ble_eq_true rfl, by decide, Nat.le_of_ble_eq_true rfl, rfl, rfl⟩ rfl k0 (TR.mono h (fun r1 L2 μ3 h => ?_))
  obtain ⟨w4, rfl, rfl, h⟩ := h
  show WA mX10_exchange 5 (0, 0) 140 [(2, v0), (9, 0), (0, v2), (9, 0), (9, 0), (0, v5), (0, v6), (0, v7)] [(0, w4), (0, v7)] L μ3 Q
  refine wa_icmp_ge 143 177 dX10_exchange_140 rfl (by decide) (fun q => ?_) (fun q => ?_)
  · replace h := h.1 q
    refine wa_iload 179 dX10_exchange_177 rfl rfl ?_
    exact wa_iret dX10_exchange_179 rfl h
  · replace h := h.2 q
    refine wa_iload 145 dX10_exchange_143 rfl rfl ?_
    refine wa_iload 147 dX10_exchange_145 rfl rfl ?_
    refine wa_iload_n 148 dX10_exchange_147 rfl rfl ?_
    refine wa_aload_n 149 dX10_exchange_148 rfl rfl ?_
    refine wa_callV 152 0 0 10 (av := []) (rest := [(0, v2), (0, v5), (0, v6)]) (k1 := (0, 0)) (k2 := (0, 0)) cvX10_agents dX10_exchange_149 rfl wM_X10_75 ⟨rfl, by decide, rfl, Nat.le_of_ble_eq_true rfl, by decide, Nat.le_of_ble_eq_true rfl, rfl, rfl⟩ rfl k0 (TR.mono h (fun r5 L6 μ7 h => ?_))
    obtain ⟨w8, rfl, rfl, h⟩ := h
    show WA mX10_exchange 5 (0, 0) 152 [(2, v0), (9, 0), (0, v2), (9, 0), (9, 0), (0, v5), (0, v6), (0, v7)] [(0, w8), (0, v2), (0, v5), (0, v6)] L μ7 Q
    obtain ⟨c9, h⟩ := h
    refine wa_iremE 153 dX10_exchange_152 rfl c9 ?_
    obtain ⟨c10, h⟩ := h
    refine wa_imul 154 dX10_exchange_153 rfl c10 ?_
    obtain ⟨c11, h⟩ := h
    refine wa_iadd 155 dX10_exchange_154 rfl c11 ?_
    refine wa_istore 157 [(2, v0), (9, 0), (0, v2), (9, 0), (9, 0), (0, v5), (0, (v6 + (v5 * (v2 % w8)))), (0, v7)] dX10_exchange_155 rfl rfl rfl ?_
    refine wa_iload_n 158 dX10_exchange_157 rfl rfl ?_
    refine wa_aload_n 159 dX10_exchange_158 rfl rfl ?_
    refine wa_callV 162 0 0 10 (av := []) (rest := [(0, v2)]) (k1 := (0, 0)) (k2 := (0, 0)) cvX10_agents dX10_exchange_159 rfl wM_X10_75 ⟨rfl, by decide, rfl, Nat.le_of_ble_eq_true rfl, by decide, Nat.le_of_ble_eq_true rfl, rfl, rfl⟩ rfl k0 (TR.mono h (fun r12 L13 μ14 h => ?_))
    obtain ⟨w15, rfl, rfl, h⟩ := h
    show WA mX10_exchange 5 (0, 0) 162 [(2, v0), (9, 0), (0, v2), (9, 0), (9, 0), (0, v5), (0, (v6 + (v5 * (v2 % w8)))), (0, v7)] [(0, w15), (0, v2)] L μ14 Q
    obtain ⟨c16, h⟩ := h
    refine wa_idivE 163 dX10_exchange_162 rfl c16 ?_
    refine wa_istore_n 164 [(2, v0), (9, 0), (0, (v2 / w15)), (9, 0), (9, 0), (0, v5), (0, (v6 + (v5 * (v2 % w8)))), (0, v7)] dX10_exchange_163 rfl rfl rfl ?_
    refine wa_bipush 166 dX10_exchange_164 rfl ⟨by decide, by decide⟩ ?_
    refine wa_iload 168 dX10_exchange_166 rfl rfl ?_
    obtain ⟨c17, h⟩ := h
    refine wa_imul 169 dX10_exchange_168 rfl c17 ?_
    refine wa_istore 171 [(2, v0), (9, 0), (0, (v2 / w15)), (9, 0), (9, 0), (0, (10 * v5)), (0, (v6 + (v5 * (v2 % w8)))), (0, v7)] dX10_exchange_169 rfl rfl rfl ?_
    obtain ⟨c18, h⟩ := h
    refine wa_iinc 174 [(2, v0), (9, 0), (0, (v2 / w15)), (9, 0), (9, 0), (0, (10 * v5)), (0, (v6 + (v5 * (v2 % w8)))), (0, (v7 + 1))] dX10_exchange_171 rfl rfl rfl c18 rfl ?_
    refine wa_goto 134 dX10_exchange_174 (by decide) ?_
    exact h
end
