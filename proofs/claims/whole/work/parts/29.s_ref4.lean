/-! the reference, 4: each method from its entry and from its loops' heads: what must hold, and the run (laid by wip/whole/gen/vc.py) -/
section
variable {L : Lay} {μ : Mem} {Q : Option AV → Lay → Mem → Prop}
set_option maxRecDepth 20000 in
theorem t_X10_set (hL : LayOK L) {v0 v1 v2 v3 : Int} (k0 : isK L v0 (10, 0)) (h : TR mX10_isList 1 (0, 0) [(0, v1)] L μ (fun r1 L2 μ3 => ∃ w4, r1 = some (0, w4) ∧ L = L2 ∧ (¬ w4 = 0 → (0 ≤ v1 ∧ v1 < 4) ∧ (0 ≤ (μ3 ((rf L v0 26)) v1) → (inI ((μ3 ((rf L v0 26)) v1) - 1)) ∧ TR mX10_in 0 (0, 0) [(1, v2), (1, 0), (1, ((μ3 ((rf L v0 26)) v1) - 1))] L μ3 (fun r8 L9 μ10 => ∃ w11, r8 = some (0, w11) ∧ L = L9 ∧ (¬ w11 = 0 → (inI (20 * v1)) ∧ (inI ((20 * v1) + v2)) ∧ (0 ≤ ((20 * v1) + v2) ∧ ((20 * v1) + v2) < 80) ∧ Q (some (0, 1)) L (up μ10 ((rf L v0 27)) (((20 * v1) + v2)) v3)) ∧ (w11 = 0 → Q (some (0, (-13))) L μ10))) ∧ (¬ 0 ≤ (μ3 ((rf L v0 26)) v1) → Q (some (0, (-11))) L μ3)) ∧ (w4 = 0 → Q (some (0, (-1))) L μ3))) : TR mX10_set 2 (0, 0) [(2, v0), (0, v1), (0, v2), (0, v3)] L μ Q := by
  refine TR.of (ls := [(2, v0), (0, v1), (0, v2), (0, v3)]) (by decide) (by simp) rfl (Nat.le_of_ble_eq_true rfl) ?_
  refine wa_iload_n 1 dX10_set_0 rfl rfl ?_
  refine wa_callS 4 1 1 (av := [(0, v1)]) (rest := []) (k1 := (0, 0)) (k2 := (0, 0)) cvX10_isList dX10_set_1 rfl wM_X10_362 ⟨rfl, Nat.le_of_ble_eq_true rfl, by decide, Nat.le_of_ble_eq_true rfl, rfl, rfl⟩ rfl (TR.mono h (fun r1 L2 μ3 h => ?_))
  obtain ⟨w4, rfl, rfl, h⟩ := h
  show WA mX10_set 2 (0, 0) 4 [(2, v0), (0, v1), (0, v2), (0, v3)] [(0, w4)] L μ3 Q
  refine wa_if_ne 7 9 dX10_set_4 rfl (by decide) (fun q => ?_) (fun q => ?_)
  · replace h := h.1 q
    refine wa_aload_n 10 dX10_set_9 rfl rfl ?_
    have e5 : isK L (rf L v0 26) (20, 4) := lay_f hL k0 26 rfl
    refine wa_getR 13 26 dX10_set_10 rfl wF_X10_55 rfl rfl ⟨k0, isK_pos e5⟩ ?_
    refine wa_iload_n 14 dX10_set_13 rfl rfl ?_
    obtain ⟨c6, h⟩ := h
    refine wa_iaload 15 dX10_set_14 rfl (okA_of e5 c6) ?_
    refine wa_if_ge 18 21 dX10_set_15 rfl (by decide) (fun q => ?_) (fun q => ?_)
    · replace h := h.1 q
      refine wa_iload_n 22 dX10_set_21 rfl rfl ?_
      refine wa_i2l 23 dX10_set_22 rfl ?_
      refine wa_lconst 24 0 dX10_set_23 rfl ⟨rfl, by decide⟩ ?_
      refine wa_aload_n 25 dX10_set_24 rfl rfl ?_
      refine wa_getR 28 26 dX10_set_25 rfl wF_X10_55 rfl rfl ⟨k0, isK_pos e5⟩ ?_
      refine wa_iload_n 29 dX10_set_28 rfl rfl ?_
      refine wa_iaload 30 dX10_set_29 rfl (okA_of e5 c6) ?_
      refine wa_iconst 31 dX10_set_30 rfl (by decide) ?_
      obtain ⟨c7, h⟩ := h
      refine wa_isub 32 dX10_set_31 rfl c7 ?_
      refine wa_i2l 33 dX10_set_32 rfl ?_
      refine wa_callS 36 0 3 (av := [(1, v2), (1, 0), (1, ((μ3 ((rf L v0 26)) v1) - 1))]) (rest := []) (k1 := (0, 0)) (k2 := (0, 0)) cvX10_in dX10_set_33 rfl wM_X10_65 ⟨rfl, Nat.le_of_ble_eq_true rfl, by decide, Nat.le_of_ble_eq_true rfl, rfl, rfl⟩ rfl (TR.mono h (fun r8 L9 μ10 h => ?_))
      obtain ⟨w11, rfl, rfl, h⟩ := h
      show WA mX10_set 2 (0, 0) 36 [(2, v0), (0, v1), (0, v2), (0, v3)] [(0, w11)] L μ10 Q
      refine wa_if_ne 39 42 dX10_set_36 rfl (by decide) (fun q => ?_) (fun q => ?_)
      · replace h := h.1 q
        refine wa_aload_n 43 dX10_set_42 rfl rfl ?_
        have e12 : isK L (rf L v0 27) (20, 80) := lay_f hL k0 27 rfl
        refine wa_getR 46 27 dX10_set_43 rfl wF_X10_58 rfl rfl ⟨k0, isK_pos e12⟩ ?_
        refine wa_bipush 48 dX10_set_46 rfl ⟨by decide, by decide⟩ ?_
        refine wa_iload_n 49 dX10_set_48 rfl rfl ?_
        obtain ⟨c13, h⟩ := h
        refine wa_imul 50 dX10_set_49 rfl c13 ?_
        refine wa_iload_n 51 dX10_set_50 rfl rfl ?_
        obtain ⟨c14, h⟩ := h
        refine wa_iadd 52 dX10_set_51 rfl c14 ?_
        refine wa_iload_n 53 dX10_set_52 rfl rfl ?_
        obtain ⟨c15, h⟩ := h
        refine wa_iastore 54 dX10_set_53 rfl (okA_of e12 c15) ?_
        refine wa_iconst 55 dX10_set_54 rfl (by decide) ?_
        exact wa_iret dX10_set_55 rfl h
      · replace h := h.2 q
        refine wa_bipush 41 dX10_set_39 rfl ⟨by decide, by decide⟩ ?_
        exact wa_iret dX10_set_41 rfl h
    · replace h := h.2 q
      refine wa_bipush 20 dX10_set_18 rfl ⟨by decide, by decide⟩ ?_
      exact wa_iret dX10_set_20 rfl h
  · replace h := h.2 q
    refine wa_iconst 8 dX10_set_7 rfl (by decide) ?_
    exact wa_iret dX10_set_8 rfl h
set_option maxRecDepth 20000 in
theorem t_X10_share (hL : LayOK L) {v0 v1 v2 v3 : Int} (k0 : isK L v0 (10, 0)) (h : TR mX10_isAgent 1 (0, 0) [(2, v0), (0, v1)] L μ (fun r1 L2 μ3 => ∃ w4, r1 = some (0, w4) ∧ L = L2 ∧ (w4 = 0 → Q (some (1, (-9223372036854775808))) L μ3) ∧ (¬ w4 = 0 → TR mX10_isDivided 0 (0, 0) [(2, v0)] L μ3 (fun r5 L6 μ7 => ∃ w8, r5 = some (0, w8) ∧ L = L6 ∧ (¬ w8 = 0 → (¬ v2 = (-1) → (inI (165 + v1)) ∧ (0 ≤ (165 + v1) ∧ (165 + v1) < 510) ∧ (inL ((μ7 ((rf L v0 0)) ((165 + v1))) - 1)) ∧ TR mX10_in 0 (0, 0) [(1, v2), (1, 0), (1, ((μ7 ((rf L v0 0)) ((165 + v1))) - 1))] L μ7 (fun r13 L14 μ15 => ∃ w16, r13 = some (0, w16) ∧ L = L14 ∧ (w16 = 0 → Q (some (1, (-9223372036854775808))) L μ15) ∧ (¬ w16 = 0 → TR mX10_in 0 (0, 0) [(1, v3), (1, 0), (1, 3)] L μ15 (fun r17 L18 μ19 => ∃ w20, r17 = some (0, w20) ∧ L = L18 ∧ (w20 = 0 → Q (some (1, (-9223372036854775808))) L μ19) ∧ (¬ w20 = 0 → (inI (8 * v1)) ∧ (inI (170 + (8 * v1))) ∧ (inI (4 * v2)) ∧ (inI ((170 + (8 * v1)) + (4 * v2))) ∧ (inI (((170 + (8 * v1)) + (4 * v2)) + v3)) ∧ (0 ≤ (((170 + (8 * v1)) + (4 * v2)) + v3) ∧ (((170 + (8 * v1)) + (4 * v2)) + v3) < 510) ∧ Q (some (1, (μ19 ((rf L v0 0)) ((((170 + (8 * v1)) + (4 * v2)) + v3))))) L μ19))))) ∧ (v2 = (-1) → (¬ v3 = 0 → Q (some (1, (-9223372036854775808))) L μ7) ∧ (v3 = 0 → (inI (165 + v1)) ∧ (0 ≤ (165 + v1) ∧ (165 + v1) < 510) ∧ Q (some (1, (μ7 ((rf L v0 0)) ((165 + v1))))) L μ7))) ∧ (w8 = 0 → Q (some (1, (-9223372036854775808))) L μ7))))) : TR mX10_share 2 (0, 0) [(2, v0), (0, v1), (0, v2), (0, v3)] L μ Q := by
  refine TR.of (ls := [(2, v0), (0, v1), (0, v2), (0, v3)]) (by decide) (by simp) rfl (Nat.le_of_ble_eq_true rfl) ?_
  refine wa_aload_n 1 dX10_share_0 rfl rfl ?_
  refine wa_iload_n 2 dX10_share_1 rfl rfl ?_
  refine wa_callV 5 1 1 10 (av := [(0, v1)]) (rest := []) (k1 := (0, 0)) (k2 := (0, 0)) cvX10_isAgent dX10_share_2 rfl wM_X10_79 ⟨rfl, by decide, rfl, Nat.le_of_ble_eq_true rfl, by decide, Nat.le_of_ble_eq_true rfl, rfl, rfl⟩ rfl k0 (TR.mono h (fun r1 L2 μ3 h => ?_))
  obtain ⟨w4, rfl, rfl, h⟩ := h
  show WA mX10_share 2 (0, 0) 5 [(2, v0), (0, v1), (0, v2), (0, v3)] [(0, w4)] L μ3 Q
  refine wa_if_eq 8 15 dX10_share_5 rfl (by decide) (fun q => ?_) (fun q => ?_)
  · replace h := h.1 q
    refine wa_ldc2 18 (-9223372036854775808) dX10_share_15 rfl wJ_X10_116 ⟨rfl, by decide⟩ ?_
    exact wa_lret dX10_share_18 rfl h
  · replace h := h.2 q
    refine wa_aload_n 9 dX10_share_8 rfl rfl ?_
    refine wa_callV 12 0 0 10 (av := []) (rest := []) (k1 := (0, 0)) (k2 := (0, 0)) cvX10_isDivided dX10_share_9 rfl wM_X10_325 ⟨rfl, by decide, rfl, Nat.le_of_ble_eq_true rfl, by decide, Nat.le_of_ble_eq_true rfl, rfl, rfl⟩ rfl k0 (TR.mono h (fun r5 L6 μ7 h => ?_))
    obtain ⟨w8, rfl, rfl, h⟩ := h
    show WA mX10_share 2 (0, 0) 12 [(2, v0), (0, v1), (0, v2), (0, v3)] [(0, w8)] L μ7 Q
    refine wa_if_ne 15 19 dX10_share_12 rfl (by decide) (fun q => ?_) (fun q => ?_)
    · replace h := h.1 q
      refine wa_iload_n 20 dX10_share_19 rfl rfl ?_
      refine wa_iconst 21 dX10_share_20 rfl (by decide) ?_
      refine wa_icmp_ne 24 45 dX10_share_21 rfl (by decide) (fun q => ?_) (fun q => ?_)
      · replace h := h.1 q
        refine wa_iload_n 46 dX10_share_45 rfl rfl ?_
        refine wa_i2l 47 dX10_share_46 rfl ?_
        refine wa_lconst 48 0 dX10_share_47 rfl ⟨rfl, by decide⟩ ?_
        refine wa_aload_n 49 dX10_share_48 rfl rfl ?_
        have e9 : isK L (rf L v0 0) (21, 510) := lay_f hL k0 0 rfl
        refine wa_getR 52 0 dX10_share_49 rfl wF_X10_9 rfl rfl ⟨k0, isK_pos e9⟩ ?_
        refine wa_sipush 55 dX10_share_52 rfl ⟨by decide, by decide⟩ ?_
        refine wa_iload_n 56 dX10_share_55 rfl rfl ?_
        obtain ⟨c10, h⟩ := h
        refine wa_iadd 57 dX10_share_56 rfl c10 ?_
        obtain ⟨c11, h⟩ := h
        refine wa_laload 58 dX10_share_57 rfl (okA_of e9 c11) ?_
        refine wa_lconst 59 1 dX10_share_58 rfl ⟨rfl, by decide⟩ ?_
        obtain ⟨c12, h⟩ := h
        refine wa_lsub 60 dX10_share_59 rfl c12 ?_
        refine wa_callS 63 0 3 (av := [(1, v2), (1, 0), (1, ((μ7 ((rf L v0 0)) ((165 + v1))) - 1))]) (rest := []) (k1 := (0, 0)) (k2 := (0, 0)) cvX10_in dX10_share_60 rfl wM_X10_65 ⟨rfl, Nat.le_of_ble_eq_true rfl, by decide, Nat.le_of_ble_eq_true rfl, rfl, rfl⟩ rfl (TR.mono h (fun r13 L14 μ15 h => ?_))
        obtain ⟨w16, rfl, rfl, h⟩ := h
        show WA mX10_share 2 (0, 0) 63 [(2, v0), (0, v1), (0, v2), (0, v3)] [(0, w16)] L μ15 Q
        refine wa_if_eq 66 100 dX10_share_63 rfl (by decide) (fun q => ?_) (fun q => ?_)
        · replace h := h.1 q
          refine wa_ldc2 103 (-9223372036854775808) dX10_share_100 rfl wJ_X10_116 ⟨rfl, by decide⟩ ?_
          exact wa_lret dX10_share_103 rfl h
        · replace h := h.2 q
          refine wa_iload_n 67 dX10_share_66 rfl rfl ?_
          refine wa_i2l 68 dX10_share_67 rfl ?_
          refine wa_lconst 69 0 dX10_share_68 rfl ⟨rfl, by decide⟩ ?_
          refine wa_ldc2 72 3 dX10_share_69 rfl wJ_X10_136 ⟨rfl, by decide⟩ ?_
          refine wa_callS 75 0 3 (av := [(1, v3), (1, 0), (1, 3)]) (rest := []) (k1 := (0, 0)) (k2 := (0, 0)) cvX10_in dX10_share_72 rfl wM_X10_65 ⟨rfl, Nat.le_of_ble_eq_true rfl, by decide, Nat.le_of_ble_eq_true rfl, rfl, rfl⟩ rfl (TR.mono h (fun r17 L18 μ19 h => ?_))
          obtain ⟨w20, rfl, rfl, h⟩ := h
          show WA mX10_share 2 (0, 0) 75 [(2, v0), (0, v1), (0, v2), (0, v3)] [(0, w20)] L μ19 Q
          refine wa_if_eq 78 100 dX10_share_75 rfl (by decide) (fun q => ?_) (fun q => ?_)
          · replace h := h.1 q
            refine wa_ldc2 103 (-9223372036854775808) dX10_share_100 rfl wJ_X10_116 ⟨rfl, by decide⟩ ?_
            exact wa_lret dX10_share_103 rfl h
          · replace h := h.2 q
            refine wa_aload_n 79 dX10_share_78 rfl rfl ?_
            refine wa_getR 82 0 dX10_share_79 rfl wF_X10_9 rfl rfl ⟨k0, isK_pos e9⟩ ?_
            refine wa_sipush 85 dX10_share_82 rfl ⟨by decide, by decide⟩ ?_
            refine wa_bipush 87 dX10_share_85 rfl ⟨by decide, by decide⟩ ?_
            refine wa_iload_n 88 dX10_share_87 rfl rfl ?_
            obtain ⟨c21, h⟩ := h
            refine wa_imul 89 dX10_share_88 rfl c21 ?_
            obtain ⟨c22, h⟩ := h
            refine wa_iadd 90 dX10_share_89 rfl c22 ?_
            refine wa_iconst 91 dX10_share_90 rfl (by decide) ?_
            refine wa_iload_n 92 dX10_share_91 rfl rfl ?_
            obtain ⟨c23, h⟩ := h
            refine wa_imul 93 dX10_share_92 rfl c23 ?_
            obtain ⟨c24, h⟩ := h
            refine wa_iadd 94 dX10_share_93 rfl c24 ?_
            refine wa_iload_n 95 dX10_share_94 rfl rfl ?_
            obtain ⟨c25, h⟩ := h
            refine wa_iadd 96 dX10_share_95 rfl c25 ?_
            obtain ⟨c26, h⟩ := h
            refine wa_laload 97 dX10_share_96 rfl (okA_of e9 c26) ?_
            refine wa_goto 103 dX10_share_97 (by decide) ?_
            exact wa_lret dX10_share_103 rfl h
      · replace h := h.2 q
        refine wa_iload_n 25 dX10_share_24 rfl rfl ?_
        refine wa_if_ne 28 41 dX10_share_25 rfl (by decide) (fun q => ?_) (fun q => ?_)
        · replace h := h.1 q
          refine wa_ldc2 44 (-9223372036854775808) dX10_share_41 rfl wJ_X10_116 ⟨rfl, by decide⟩ ?_
          exact wa_lret dX10_share_44 rfl h
        · replace h := h.2 q
          refine wa_aload_n 29 dX10_share_28 rfl rfl ?_
          have e27 : isK L (rf L v0 0) (21, 510) := lay_f hL k0 0 rfl
          refine wa_getR 32 0 dX10_share_29 rfl wF_X10_9 rfl rfl ⟨k0, isK_pos e27⟩ ?_
          refine wa_sipush 35 dX10_share_32 rfl ⟨by decide, by decide⟩ ?_
          refine wa_iload_n 36 dX10_share_35 rfl rfl ?_
          obtain ⟨c28, h⟩ := h
          refine wa_iadd 37 dX10_share_36 rfl c28 ?_
          obtain ⟨c29, h⟩ := h
          refine wa_laload 38 dX10_share_37 rfl (okA_of e27 c29) ?_
          refine wa_goto 44 dX10_share_38 (by decide) ?_
          exact wa_lret dX10_share_44 rfl h
    · replace h := h.2 q
      refine wa_ldc2 18 (-9223372036854775808) dX10_share_15 rfl wJ_X10_116 ⟨rfl, by decide⟩ ?_
      exact wa_lret dX10_share_18 rfl h
set_option maxRecDepth 20000 in
theorem t_X10_shares (hL : LayOK L) {v0 v1 v2 : Int} (k0 : isK L v0 (10, 0)) (h : TR mX10_mayWay 2 (0, 0) [(2, v0), (0, v1), (0, v2)] L μ (fun r1 L2 μ3 => ∃ w4, r1 = some (0, w4) ∧ L = L2 ∧ (w4 = 0 → TR mX10_copies 0 (0, 0) [(2, (rf L v0 0)), (2, (rf L v0 1))] L μ3 (fun r7 L8 μ9 => r7 = none ∧ L = L8 ∧ TR mX10_goes 7 (0, 0) [(2, v0), (0, v1), (0, v2)] L μ9 (fun r10 L11 μ12 => ∃ w13, r10 = some (0, w13) ∧ L = L11 ∧ (¬ w13 = 0 → (inI ((μ12 ((rf L v0 0)) 4))) ∧ Q (some (0, (μ12 ((rf L v0 0)) 4))) L μ12) ∧ (w13 = 0 → TR mX10_copies 0 (0, 0) [(2, (rf L v0 1)), (2, (rf L v0 0))] L μ12 (fun r15 L16 μ17 => r15 = none ∧ L = L16 ∧ Q (some (0, (-3))) L μ17))))) ∧ (¬ w4 = 0 → Q (some (0, w4)) L μ3))) : TR mX10_shares 8 (0, 0) [(2, v0), (0, v1), (0, v2)] L μ Q := by
  refine TR.of (ls := [(2, v0), (0, v1), (0, v2), (9, 0)]) (by decide) (by simp) rfl (Nat.le_of_ble_eq_true rfl) ?_
  refine wa_aload_n 1 dX10_shares_0 rfl rfl ?_
  refine wa_iload_n 2 dX10_shares_1 rfl rfl ?_
  refine wa_iload_n 3 dX10_shares_2 rfl rfl ?_
  refine wa_callV 6 2 2 10 (av := [(0, v1), (0, v2)]) (rest := []) (k1 := (0, 0)) (k2 := (0, 0)) cvX10_mayWay dX10_shares_3 rfl wM_X10_318 ⟨rfl, by decide, rfl, Nat.le_of_ble_eq_true rfl, by decide, Nat.le_of_ble_eq_true rfl, rfl, rfl⟩ rfl k0 (TR.mono h (fun r1 L2 μ3 h => ?_))
  obtain ⟨w4, rfl, rfl, h⟩ := h
  show WA mX10_shares 8 (0, 0) 6 [(2, v0), (0, v1), (0, v2), (9, 0)] [(0, w4)] L μ3 Q
  refine wa_istore_n 7 [(2, v0), (0, v1), (0, v2), (0, w4)] dX10_shares_6 rfl rfl rfl ?_
  refine wa_iload_n 8 dX10_shares_7 rfl rfl ?_
  refine wa_if_eq 11 13 dX10_shares_8 rfl (by decide) (fun q => ?_) (fun q => ?_)
  · replace h := h.1 q
    refine wa_aload_n 14 dX10_shares_13 rfl rfl ?_
    have e5 : isK L (rf L v0 0) (21, 510) := lay_f hL k0 0 rfl
    refine wa_getR 17 0 dX10_shares_14 rfl wF_X10_9 rfl rfl ⟨k0, isK_pos e5⟩ ?_
    refine wa_aload_n 18 dX10_shares_17 rfl rfl ?_
    have e6 : isK L (rf L v0 1) (21, 510) := lay_f hL k0 1 rfl
    refine wa_getR 21 1 dX10_shares_18 rfl wF_X10_15 rfl rfl ⟨k0, isK_pos e6⟩ ?_
    refine wa_callS 24 0 2 (av := [(2, (rf L v0 0)), (2, (rf L v0 1))]) (rest := []) (k1 := (0, 0)) (k2 := (0, 0)) cvX10_copies dX10_shares_21 rfl wM_X10_189 ⟨rfl, Nat.le_of_ble_eq_true rfl, by decide, Nat.le_of_ble_eq_true rfl, rfl, rfl⟩ rfl (TR.mono h (fun r7 L8 μ9 h => ?_))
    obtain ⟨rfl, rfl, h⟩ := h
    show WA mX10_shares 8 (0, 0) 24 [(2, v0), (0, v1), (0, v2), (0, w4)] [] L μ9 Q
    refine wa_aload_n 25 dX10_shares_24 rfl rfl ?_
    refine wa_iload_n 26 dX10_shares_25 rfl rfl ?_
    refine wa_iload_n 27 dX10_shares_26 rfl rfl ?_
    refine wa_callV 30 7 2 10 (av := [(0, v1), (0, v2)]) (rest := []) (k1 := (0, 0)) (k2 := (0, 0)) cvX10_goes dX10_shares_27 rfl wM_X10_321 ⟨rfl, by decide, rfl, Nat.le_of_ble_eq_true rfl, by decide, Nat.le_of_ble_eq_true rfl, rfl, rfl⟩ rfl k0 (TR.mono h (fun r10 L11 μ12 h => ?_))
    obtain ⟨w13, rfl, rfl, h⟩ := h
    show WA mX10_shares 8 (0, 0) 30 [(2, v0), (0, v1), (0, v2), (0, w4)] [(0, w13)] L μ12 Q
    refine wa_if_ne 33 47 dX10_shares_30 rfl (by decide) (fun q => ?_) (fun q => ?_)
    · replace h := h.1 q
      refine wa_aload_n 48 dX10_shares_47 rfl rfl ?_
      refine wa_getR 51 0 dX10_shares_48 rfl wF_X10_9 rfl rfl ⟨k0, isK_pos e5⟩ ?_
      refine wa_iconst 52 dX10_shares_51 rfl (by decide) ?_
      refine wa_laload 53 dX10_shares_52 rfl (okA_of e5 ⟨by decide, by decide⟩) ?_
      obtain ⟨c14, h⟩ := h
      refine wa_l2i 54 dX10_shares_53 rfl c14 ?_
      exact wa_iret dX10_shares_54 rfl h
    · replace h := h.2 q
      refine wa_aload_n 34 dX10_shares_33 rfl rfl ?_
      refine wa_getR 37 1 dX10_shares_34 rfl wF_X10_15 rfl rfl ⟨k0, isK_pos e6⟩ ?_
      refine wa_aload_n 38 dX10_shares_37 rfl rfl ?_
      refine wa_getR 41 0 dX10_shares_38 rfl wF_X10_9 rfl rfl ⟨k0, isK_pos e5⟩ ?_
      refine wa_callS 44 0 2 (av := [(2, (rf L v0 1)), (2, (rf L v0 0))]) (rest := []) (k1 := (0, 0)) (k2 := (0, 0)) cvX10_copies dX10_shares_41 rfl wM_X10_189 ⟨rfl, Nat.le_of_ble_eq_true rfl, by decide, Nat.le_of_ble_eq_true rfl, rfl, rfl⟩ rfl (TR.mono h (fun r15 L16 μ17 h => ?_))
      obtain ⟨rfl, rfl, h⟩ := h
      show WA mX10_shares 8 (0, 0) 44 [(2, v0), (0, v1), (0, v2), (0, w4)] [] L μ17 Q
      refine wa_bipush 46 dX10_shares_44 rfl ⟨by decide, by decide⟩ ?_
      exact wa_iret dX10_shares_46 rfl h
  · replace h := h.2 q
    refine wa_iload_n 12 dX10_shares_11 rfl rfl ?_
    exact wa_iret dX10_shares_12 rfl h
set_option maxRecDepth 20000 in
theorem t_X10_sharesTrimmings (hL : LayOK L) {v0 v1 v2 v3 v4 v6 v8 v10 : Int} (k0 : isK L v0 (10, 0)) (h : TR mX10_thirds 4 (0, 0) [(2, v0), (0, v3), (1, v4), (1, v6), (1, v8), (1, v10)] L μ (fun r1 L2 μ3 => r1 = none ∧ L = L2 ∧ ((μ3 v0 11) = 0 → TR mX10_mostFor 4 (0, 0) [(2, v0), (0, v2), (0, 7)] L μ3 (fun r4 L5 μ6 => ∃ w7, r4 = some (0, w7) ∧ L = L5 ∧ TR mX10_takesPiece 2 (0, 0) [(2, v0), (0, v2), (0, w7)] L μ6 (fun r8 L9 μ10 => r8 = none ∧ L = L9 ∧ TR mX10_mostFor 4 (0, 0) [(2, v0), (0, v1), (0, (bAnd 7 ((bXor ((bShl 1 w7)) ((-1))))))] L μ10 (fun r11 L12 μ13 => ∃ w14, r11 = some (0, w14) ∧ L = L12 ∧ TR mX10_takesPiece 2 (0, 0) [(2, v0), (0, v1), (0, w14)] L μ13 (fun r15 L16 μ17 => r15 = none ∧ L = L16 ∧ (inI (3 - w7)) ∧ (inI ((3 - w7) - w14)) ∧ TR mX10_takesPiece 2 (0, 0) [(2, v0), (0, v3), (0, ((3 - w7) - w14))] L μ17 (fun r20 L21 μ22 => r20 = none ∧ L = L21 ∧ Q none L μ22)))))) ∧ (¬ (μ3 v0 11) = 0 → Q none L μ3))) : TR mX10_sharesTrimmings 5 (0, 0) [(2, v0), (0, v1), (0, v2), (0, v3), (1, v4), (1, v6), (1, v8), (1, v10)] L μ Q := by
  refine TR.of (ls := [(2, v0), (0, v1), (0, v2), (0, v3), (1, v4), (9, 0), (1, v6), (9, 0), (1, v8), (9, 0), (1, v10), (9, 0), (9, 0), (9, 0)]) (by decide) (by simp) rfl (Nat.le_of_ble_eq_true rfl) ?_
  refine wa_aload_n 1 dX10_sharesTrimmings_0 rfl rfl ?_
  refine wa_iload_n 2 dX10_sharesTrimmings_1 rfl rfl ?_
  refine wa_lload 4 dX10_sharesTrimmings_2 rfl rfl ?_
  refine wa_lload 6 dX10_sharesTrimmings_4 rfl rfl ?_
  refine wa_lload 8 dX10_sharesTrimmings_6 rfl rfl ?_
  refine wa_lload 10 dX10_sharesTrimmings_8 rfl rfl ?_
  refine wa_callV 13 4 5 10 (av := [(0, v3), (1, v4), (1, v6), (1, v8), (1, v10)]) (rest := []) (k1 := (0, 0)) (k2 := (0, 0)) cvX10_thirds dX10_sharesTrimmings_10 rfl wM_X10_287 ⟨rfl, by decide, rfl, Nat.le_of_ble_eq_true rfl, by decide, Nat.le_of_ble_eq_true rfl, rfl, rfl⟩ rfl k0 (TR.mono h (fun r1 L2 μ3 h => ?_))
  obtain ⟨rfl, rfl, h⟩ := h
  show WA mX10_sharesTrimmings 5 (0, 0) 13 [(2, v0), (0, v1), (0, v2), (0, v3), (1, v4), (9, 0), (1, v6), (9, 0), (1, v8), (9, 0), (1, v10), (9, 0), (9, 0), (9, 0)] [] L μ3 Q
  refine wa_aload_n 14 dX10_sharesTrimmings_13 rfl rfl ?_
  refine wa_getI 17 11 dX10_sharesTrimmings_14 rfl wF_X10_219 rfl rfl k0 ?_
  refine wa_if_eq 20 21 dX10_sharesTrimmings_17 rfl (by decide) (fun q => ?_) (fun q => ?_)
  · replace h := h.1 q
    refine wa_aload_n 22 dX10_sharesTrimmings_21 rfl rfl ?_
    refine wa_iload_n 23 dX10_sharesTrimmings_22 rfl rfl ?_
    refine wa_bipush 25 dX10_sharesTrimmings_23 rfl ⟨by decide, by decide⟩ ?_
    refine wa_callV 28 4 2 10 (av := [(0, v2), (0, 7)]) (rest := []) (k1 := (0, 0)) (k2 := (0, 0)) cvX10_mostFor dX10_sharesTrimmings_25 rfl wM_X10_290 ⟨rfl, by decide, rfl, Nat.le_of_ble_eq_true rfl, by decide, Nat.le_of_ble_eq_true rfl, rfl, rfl⟩ rfl k0 (TR.mono h (fun r4 L5 μ6 h => ?_))
    obtain ⟨w7, rfl, rfl, h⟩ := h
    show WA mX10_sharesTrimmings 5 (0, 0) 28 [(2, v0), (0, v1), (0, v2), (0, v3), (1, v4), (9, 0), (1, v6), (9, 0), (1, v8), (9, 0), (1, v10), (9, 0), (9, 0), (9, 0)] [(0, w7)] L μ6 Q
    refine wa_istore 30 [(2, v0), (0, v1), (0, v2), (0, v3), (1, v4), (9, 0), (1, v6), (9, 0), (1, v8), (9, 0), (1, v10), (9, 0), (0, w7), (9, 0)] dX10_sharesTrimmings_28 rfl rfl rfl ?_
    refine wa_aload_n 31 dX10_sharesTrimmings_30 rfl rfl ?_
    refine wa_iload_n 32 dX10_sharesTrimmings_31 rfl rfl ?_
    refine wa_iload 34 dX10_sharesTrimmings_32 rfl rfl ?_
    refine wa_callV 37 2 2 10 (av := [(0, v2), (0, w7)]) (rest := []) (k1 := (0, 0)) (k2 := (0, 0)) cvX10_takesPiece dX10_sharesTrimmings_34 rfl wM_X10_294 ⟨rfl, by decide, rfl, Nat.le_of_ble_eq_true rfl, by decide, Nat.le_of_ble_eq_true rfl, rfl, rfl⟩ rfl k0 (TR.mono h (fun r8 L9 μ10 h => ?_))
    obtain ⟨rfl, rfl, h⟩ := h
    show WA mX10_sharesTrimmings 5 (0, 0) 37 [(2, v0), (0, v1), (0, v2), (0, v3), (1, v4), (9, 0), (1, v6), (9, 0), (1, v8), (9, 0), (1, v10), (9, 0), (0, w7), (9, 0)] [] L μ10 Q
    refine wa_aload_n 38 dX10_sharesTrimmings_37 rfl rfl ?_
    refine wa_iload_n 39 dX10_sharesTrimmings_38 rfl rfl ?_
    refine wa_bipush 41 dX10_sharesTrimmings_39 rfl ⟨by decide, by decide⟩ ?_
    refine wa_iconst 42 dX10_sharesTrimmings_41 rfl (by decide) ?_
    refine wa_iload 44 dX10_sharesTrimmings_42 rfl rfl ?_
    refine wa_ishl 45 dX10_sharesTrimmings_44 rfl ?_
    refine wa_iconst 46 dX10_sharesTrimmings_45 rfl (by decide) ?_
    refine wa_ixor 47 dX10_sharesTrimmings_46 rfl ?_
    refine wa_iand 48 dX10_sharesTrimmings_47 rfl ?_
    refine wa_callV 51 4 2 10 (av := [(0, v1), (0, (bAnd 7 ((bXor ((bShl 1 w7)) ((-1))))))]) (rest := []) (k1 := (0, 0)) (k2 := (0, 0)) cvX10_mostFor dX10_sharesTrimmings_48 rfl wM_X10_290 ⟨rfl, by decide, rfl, Nat.le_of_ble_eq_true rfl, by decide, Nat.le_of_ble_eq_true rfl, rfl, rfl⟩ rfl k0 (TR.mono h (fun r11 L12 μ13 h => ?_))
    obtain ⟨w14, rfl, rfl, h⟩ := h
    show WA mX10_sharesTrimmings 5 (0, 0) 51 [(2, v0), (0, v1), (0, v2), (0, v3), (1, v4), (9, 0), (1, v6), (9, 0), (1, v8), (9, 0), (1, v10), (9, 0), (0, w7), (9, 0)] [(0, w14)] L μ13 Q
    refine wa_istore 53 [(2, v0), (0, v1), (0, v2), (0, v3), (1, v4), (9, 0), (1, v6), (9, 0), (1, v8), (9, 0), (1, v10), (9, 0), (0, w7), (0, w14)] dX10_sharesTrimmings_51 rfl rfl rfl ?_
    refine wa_aload_n 54 dX10_sharesTrimmings_53 rfl rfl ?_
    refine wa_iload_n 55 dX10_sharesTrimmings_54 rfl rfl ?_
    refine wa_iload 57 dX10_sharesTrimmings_55 rfl rfl ?_
    refine wa_callV 60 2 2 10 (av := [(0, v1), (0, w14)]) (rest := []) (k1 := (0, 0)) (k2 := (0, 0)) cvX10_takesPiece dX10_sharesTrimmings_57 rfl wM_X10_294 ⟨rfl, by decide, rfl, Nat.le_of_ble_eq_true rfl, by decide, Nat.le_of_ble_eq_true rfl, rfl, rfl⟩ rfl k0 (TR.mono h (fun r15 L16 μ17 h => ?_))
    obtain ⟨rfl, rfl, h⟩ := h
    show WA mX10_sharesTrimmings 5 (0, 0) 60 [(2, v0), (0, v1), (0, v2), (0, v3), (1, v4), (9, 0), (1, v6), (9, 0), (1, v8), (9, 0), (1, v10), (9, 0), (0, w7), (0, w14)] [] L μ17 Q
    refine wa_aload_n 61 dX10_sharesTrimmings_60 rfl rfl ?_
    refine wa_iload_n 62 dX10_sharesTrimmings_61 rfl rfl ?_
    refine wa_iconst 63 dX10_sharesTrimmings_62 rfl (by decide) ?_
    refine wa_iload 65 dX10_sharesTrimmings_63 rfl rfl ?_
    obtain ⟨c18, h⟩ := h
    refine wa_isub 66 dX10_sharesTrimmings_65 rfl c18 ?_
    refine wa_iload 68 dX10_sharesTrimmings_66 rfl rfl ?_
    obtain ⟨c19, h⟩ := h
    refine wa_isub 69 dX10_sharesTrimmings_68 rfl c19 ?_
    refine wa_callV 72 2 2 10 (av := [(0, v3), (0, ((3 - w7) - w14))]) (rest := []) (k1 := (0, 0)) (k2 := (0, 0)) cvX10_takesPiece dX10_sharesTrimmings_69 rfl wM_X10_294 ⟨rfl, by decide, rfl, Nat.le_of_ble_eq_true rfl, by decide, Nat.le_of_ble_eq_true rfl, rfl, rfl⟩ rfl k0 (TR.mono h (fun r20 L21 μ22 h => ?_))
    obtain ⟨rfl, rfl, h⟩ := h
    show WA mX10_sharesTrimmings 5 (0, 0) 72 [(2, v0), (0, v1), (0, v2), (0, v3), (1, v4), (9, 0), (1, v6), (9, 0), (1, v8), (9, 0), (1, v10), (9, 0), (0, w7), (0, w14)] [] L μ22 Q
    exact wa_vret dX10_sharesTrimmings_72 rfl h
  · replace h := h.2 q
    exact wa_vret dX10_sharesTrimmings_20 rfl h
set_option maxRecDepth 20000 in
theorem t_X10_span (hL : LayOK L) {v0 v1 v2 v3 v4 v5 v6 v7 : Int} (k0 : isK L v0 (10, 0)) (h : TR mX10_isAgent 1 (0, 0) [(2, v0), (0, v1)] L μ (fun r1 L2 μ3 => ∃ w4, r1 = some (0, w4) ∧ L = L2 ∧ (w4 = 0 → Q (some (1, (-9223372036854775808))) L μ3) ∧ (¬ w4 = 0 → TR mX10_in 0 (0, 0) [(1, v2), (1, 0), (1, 1)] L μ3 (fun r5 L6 μ7 => ∃ w8, r5 = some (0, w8) ∧ L = L6 ∧ (w8 = 0 → Q (some (1, (-9223372036854775808))) L μ7) ∧ (¬ w8 = 0 → TR mX10_in 0 (0, 0) [(1, v7), (1, 0), (1, 1)] L μ7 (fun r9 L10 μ11 => ∃ w12, r9 = some (0, w12) ∧ L = L10 ∧ (w12 = 0 → Q (some (1, (-9223372036854775808))) L μ11) ∧ (¬ w12 = 0 → TR mX10_in 0 (0, 0) [(1, v4), (1, 1), (1, 1000)] L μ11 (fun r13 L14 μ15 => ∃ w16, r13 = some (0, w16) ∧ L = L14 ∧ (w16 = 0 → Q (some (1, (-9223372036854775808))) L μ15) ∧ (¬ w16 = 0 → TR mX10_in 0 (0, 0) [(1, v6), (1, 1), (1, 1000)] L μ15 (fun r17 L18 μ19 => ∃ w20, r17 = some (0, w20) ∧ L = L18 ∧ (w20 = 0 → Q (some (1, (-9223372036854775808))) L μ19) ∧ (¬ w20 = 0 → (v3 < 0 → Q (some (1, (-9223372036854775808))) L μ19) ∧ (¬ v3 < 0 → (0 ≤ v5 → (inL ((μ19 ((rf L v0 0)) 0) * v4)) ∧ (((μ19 ((rf L v0 0)) 0) * v4) < v3 → Q (some (1, (-9223372036854775808))) L μ19) ∧ (¬ ((μ19 ((rf L v0 0)) 0) * v4) < v3 → (inL ((μ19 ((rf L v0 0)) 0) * v6)) ∧ (((μ19 ((rf L v0 0)) 0) * v6) < v5 → Q (some (1, (-9223372036854775808))) L μ19) ∧ (¬ ((μ19 ((rf L v0 0)) 0) * v6) < v5 → (inL (v5 * v4)) ∧ (inL (v3 * v6)) ∧ ((v3 * v6) ≤ (v5 * v4) → TR mX10_worthBetween 2 (0, 0) [(2, v0), (0, v1), (0, v2), (1, v3), (1, v4), (1, v5), (1, v6)] L μ19 (fun r26 L27 μ28 => r26 = none ∧ L = L27 ∧ TR mX10_partOf 0 (0, 0) [(2, v0), (0, v7)] L μ28 (fun r29 L30 μ31 => ∃ w32, r29 = some (1, w32) ∧ L = L30 ∧ Q (some (1, w32)) L μ31))) ∧ (¬ (v3 * v6) ≤ (v5 * v4) → Q (some (1, (-9223372036854775808))) L μ19)))) ∧ (¬ 0 ≤ v5 → Q (some (1, (-9223372036854775808))) L μ19))))))))))))) : TR mX10_span 3 (0, 0) [(2, v0), (0, v1), (0, v2), (0, v3), (0, v4), (0, v5), (0, v6), (0, v7)] L μ Q := by
  refine TR.of (ls := [(2, v0), (0, v1), (0, v2), (0, v3), (0, v4), (0, v5), (0, v6), (0, v7)]) (by decide) (by simp) rfl (Nat.le_of_ble_eq_true rfl) ?_
  refine wa_aload_n 1 dX10_span_0 rfl rfl ?_
  refine wa_iload_n 2 dX10_span_1 rfl rfl ?_
  refine wa_callV 5 1 1 10 (av := [(0, v1)]) (rest := []) (k1 := (0, 0)) (k2 := (0, 0)) cvX10_isAgent dX10_span_2 rfl wM_X10_79 ⟨rfl, by decide, rfl, Nat.le_of_ble_eq_true rfl, by decide, Nat.le_of_ble_eq_true rfl, rfl, rfl⟩ rfl k0 (TR.mono h (fun r1 L2 μ3 h => ?_))
  obtain ⟨w4, rfl, rfl, h⟩ := h
  show WA mX10_span 3 (0, 0) 5 [(2, v0), (0, v1), (0, v2), (0, v3), (0, v4), (0, v5), (0, v6), (0, v7)] [(0, w4)] L μ3 Q
  refine wa_if_eq 8 64 dX10_span_5 rfl (by decide) (fun q => ?_) (fun q => ?_)
  · replace h := h.1 q
    refine wa_ldc2 67 (-9223372036854775808) dX10_span_64 rfl wJ_X10_116 ⟨rfl, by decide⟩ ?_
    exact wa_lret dX10_span_67 rfl h
  · replace h := h.2 q
    refine wa_iload_n 9 dX10_span_8 rfl rfl ?_
    refine wa_i2l 10 dX10_span_9 rfl ?_
    refine wa_lconst 11 0 dX10_span_10 rfl ⟨rfl, by decide⟩ ?_
    refine wa_lconst 12 1 dX10_span_11 rfl ⟨rfl, by decide⟩ ?_
    refine wa_callS 15 0 3 (av := [(1, v2), (1, 0), (1, 1)]) (rest := []) (k1 := (0, 0)) (k2 := (0, 0)) cvX10_in dX10_span_12 rfl wM_X10_65 ⟨rfl, Nat.le_of_ble_eq_true rfl, by decide, Nat.le_of_ble_eq_true rfl, rfl, rfl⟩ rfl (TR.mono h (fun r5 L6 μ7 h => ?_))
    obtain ⟨w8, rfl, rfl, h⟩ := h
    show WA mX10_span 3 (0, 0) 15 [(2, v0), (0, v1), (0, v2), (0, v3), (0, v4), (0, v5), (0, v6), (0, v7)] [(0, w8)] L μ7 Q
    refine wa_if_eq 18 64 dX10_span_15 rfl (by decide) (fun q => ?_) (fun q => ?_)
    · replace h := h.1 q
      refine wa_ldc2 67 (-9223372036854775808) dX10_span_64 rfl wJ_X10_116 ⟨rfl, by decide⟩ ?_
      exact wa_lret dX10_span_67 rfl h
    · replace h := h.2 q
      refine wa_iload 20 dX10_span_18 rfl rfl ?_
      refine wa_i2l 21 dX10_span_20 rfl ?_
      refine wa_lconst 22 0 dX10_span_21 rfl ⟨rfl, by decide⟩ ?_
      refine wa_lconst 23 1 dX10_span_22 rfl ⟨rfl, by decide⟩ ?_
      refine wa_callS 26 0 3 (av := [(1, v7), (1, 0), (1, 1)]) (rest := []) (k1 := (0, 0)) (k2 := (0, 0)) cvX10_in dX10_span_23 rfl wM_X10_65 ⟨rfl, Nat.le_of_ble_eq_true rfl, by decide, Nat.le_of_ble_eq_true rfl, rfl, rfl⟩ rfl (TR.mono h (fun r9 L10 μ11 h => ?_))
      obtain ⟨w12, rfl, rfl, h⟩ := h
      show WA mX10_span 3 (0, 0) 26 [(2, v0), (0, v1), (0, v2), (0, v3), (0, v4), (0, v5), (0, v6), (0, v7)] [(0, w12)] L μ11 Q
      refine wa_if_eq 29 64 dX10_span_26 rfl (by decide) (fun q => ?_) (fun q => ?_)
      · replace h := h.1 q
        refine wa_ldc2 67 (-9223372036854775808) dX10_span_64 rfl wJ_X10_116 ⟨rfl, by decide⟩ ?_
        exact wa_lret dX10_span_67 rfl h
      · replace h := h.2 q
        refine wa_iload 31 dX10_span_29 rfl rfl ?_
        refine wa_i2l 32 dX10_span_31 rfl ?_
        refine wa_lconst 33 1 dX10_span_32 rfl ⟨rfl, by decide⟩ ?_
        refine wa_ldc2 36 1000 dX10_span_33 rfl wJ_X10_114 ⟨rfl, by decide⟩ ?_
        refine wa_callS 39 0 3 (av := [(1, v4), (1, 1), (1, 1000)]) (rest := []) (k1 := (0, 0)) (k2 := (0, 0)) cvX10_in dX10_span_36 rfl wM_X10_65 ⟨rfl, Nat.le_of_ble_eq_true rfl, by decide, Nat.le_of_ble_eq_true rfl, rfl, rfl⟩ rfl (TR.mono h (fun r13 L14 μ15 h => ?_))
        obtain ⟨w16, rfl, rfl, h⟩ := h
        show WA mX10_span 3 (0, 0) 39 [(2, v0), (0, v1), (0, v2), (0, v3), (0, v4), (0, v5), (0, v6), (0, v7)] [(0, w16)] L μ15 Q
        refine wa_if_eq 42 64 dX10_span_39 rfl (by decide) (fun q => ?_) (fun q => ?_)
        · replace h := h.1 q
          refine wa_ldc2 67 (-9223372036854775808) dX10_span_64 rfl wJ_X10_116 ⟨rfl, by decide⟩ ?_
          exact wa_lret dX10_span_67 rfl h
        · replace h := h.2 q
          refine wa_iload 44 dX10_span_42 rfl rfl ?_
          refine wa_i2l 45 dX10_span_44 rfl ?_
          refine wa_lconst 46 1 dX10_span_45 rfl ⟨rfl, by decide⟩ ?_
          refine wa_ldc2 49 1000 dX10_span_46 rfl wJ_X10_114 ⟨rfl, by decide⟩ ?_
          refine wa_callS 52 0 3 (av := [(1, v6), (1, 1), (1, 1000)]) (rest := []) (k1 := (0, 0)) (k2 := (0, 0)) cvX10_in dX10_span_49 rfl wM_X10_65 ⟨rfl, Nat.le_of_ble_eq_true rfl, by decide, Nat.le_of_ble_eq_true rfl, rfl, rfl⟩ rfl (TR.mono h (fun r17 L18 μ19 h => ?_))
          obtain ⟨w20, rfl, rfl, h⟩ := h
          show WA mX10_span 3 (0, 0) 52 [(2, v0), (0, v1), (0, v2), (0, v3), (0, v4), (0, v5), (0, v6), (0, v7)] [(0, w20)] L μ19 Q
          refine wa_if_eq 55 64 dX10_span_52 rfl (by decide) (fun q => ?_) (fun q => ?_)
          · replace h := h.1 q
            refine wa_ldc2 67 (-9223372036854775808) dX10_span_64 rfl wJ_X10_116 ⟨rfl, by decide⟩ ?_
            exact wa_lret dX10_span_67 rfl h
          · replace h := h.2 q
            refine wa_iload_n 56 dX10_span_55 rfl rfl ?_
            refine wa_if_lt 59 64 dX10_span_56 rfl (by decide) (fun q => ?_) (fun q => ?_)
            · replace h := h.1 q
              refine wa_ldc2 67 (-9223372036854775808) dX10_span_64 rfl wJ_X10_116 ⟨rfl, by decide⟩ ?_
              exact wa_lret dX10_span_67 rfl h
            · replace h := h.2 q
              refine wa_iload 61 dX10_span_59 rfl rfl ?_
              refine wa_if_ge 64 68 dX10_span_61 rfl (by decide) (fun q => ?_) (fun q => ?_)
              · replace h := h.1 q
                refine wa_iload_n 69 dX10_span_68 rfl rfl ?_
                refine wa_i2l 70 dX10_span_69 rfl ?_
                refine wa_aload_n 71 dX10_span_70 rfl rfl ?_
                have e21 : isK L (rf L v0 0) (21, 510) := lay_f hL k0 0 rfl
                refine wa_getR 74 0 dX10_span_71 rfl wF_X10_9 rfl rfl ⟨k0, isK_pos e21⟩ ?_
                refine wa_iconst 75 dX10_span_74 rfl (by decide) ?_
                refine wa_laload 76 dX10_span_75 rfl (okA_of e21 ⟨by decide, by decide⟩) ?_
                refine wa_iload 78 dX10_span_76 rfl rfl ?_
                refine wa_i2l 79 dX10_span_78 rfl ?_
                obtain ⟨c22, h⟩ := h
                refine wa_lmul 80 dX10_span_79 rfl c22 ?_
                refine wa_lc_gt 84 118 dX10_span_80 dX10_span_81 rfl (by decide) (fun q => ?_) (fun q => ?_)
                · replace h := h.1 q
                  refine wa_ldc2 121 (-9223372036854775808) dX10_span_118 rfl wJ_X10_116 ⟨rfl, by decide⟩ ?_
                  exact wa_lret dX10_span_121 rfl h
                · replace h := h.2 q
                  refine wa_iload 86 dX10_span_84 rfl rfl ?_
                  refine wa_i2l 87 dX10_span_86 rfl ?_
                  refine wa_aload_n 88 dX10_span_87 rfl rfl ?_
                  refine wa_getR 91 0 dX10_span_88 rfl wF_X10_9 rfl rfl ⟨k0, isK_pos e21⟩ ?_
                  refine wa_iconst 92 dX10_span_91 rfl (by decide) ?_
                  refine wa_laload 93 dX10_span_92 rfl (okA_of e21 ⟨by decide, by decide⟩) ?_
                  refine wa_iload 95 dX10_span_93 rfl rfl ?_
                  refine wa_i2l 96 dX10_span_95 rfl ?_
                  obtain ⟨c23, h⟩ := h
                  refine wa_lmul 97 dX10_span_96 rfl c23 ?_
                  refine wa_lc_gt 101 118 dX10_span_97 dX10_span_98 rfl (by decide) (fun q => ?_) (fun q => ?_)
                  · replace h := h.1 q
                    refine wa_ldc2 121 (-9223372036854775808) dX10_span_118 rfl wJ_X10_116 ⟨rfl, by decide⟩ ?_
                    exact wa_lret dX10_span_121 rfl h
                  · replace h := h.2 q
                    refine wa_iload 103 dX10_span_101 rfl rfl ?_
                    refine wa_i2l 104 dX10_span_103 rfl ?_
                    refine wa_iload 106 dX10_span_104 rfl rfl ?_
                    refine wa_i2l 107 dX10_span_106 rfl ?_
                    obtain ⟨c24, h⟩ := h
                    refine wa_lmul 108 dX10_span_107 rfl c24 ?_
                    refine wa_iload_n 109 dX10_span_108 rfl rfl ?_
                    refine wa_i2l 110 dX10_span_109 rfl ?_
                    refine wa_iload 112 dX10_span_110 rfl rfl ?_
                    refine wa_i2l 113 dX10_span_112 rfl ?_
                    obtain ⟨c25, h⟩ := h
                    refine wa_lmul 114 dX10_span_113 rfl c25 ?_
                    refine wa_lc_ge 118 122 dX10_span_114 dX10_span_115 rfl (by decide) (fun q => ?_) (fun q => ?_)
                    · replace h := h.1 q
                      refine wa_aload_n 123 dX10_span_122 rfl rfl ?_
                      refine wa_iload_n 124 dX10_span_123 rfl rfl ?_
                      refine wa_iload_n 125 dX10_span_124 rfl rfl ?_
                      refine wa_iload_n 126 dX10_span_125 rfl rfl ?_
                      refine wa_i2l 127 dX10_span_126 rfl ?_
                      refine wa_iload 129 dX10_span_127 rfl rfl ?_
                      refine wa_i2l 130 dX10_span_129 rfl ?_
                      refine wa_iload 132 dX10_span_130 rfl rfl ?_
                      refine wa_i2l 133 dX10_span_132 rfl ?_
                      refine wa_iload 135 dX10_span_133 rfl rfl ?_
                      refine wa_i2l 136 dX10_span_135 rfl ?_
                      refine wa_callV 139 2 6 10 (av := [(0, v1), (0, v2), (1, v3), (1, v4), (1, v5), (1, v6)]) (rest := []) (k1 := (0, 0)) (k2 := (0, 0)) cvX10_worthBetween dX10_span_136 rfl wM_X10_118 ⟨rfl, by decide, rfl, Nat.le_of_ble_eq_true rfl, by decide, Nat.le_of_ble_eq_true rfl, rfl, rfl⟩ rfl k0 (TR.mono h (fun r26 L27 μ28 h => ?_))
                      obtain ⟨rfl, rfl, h⟩ := h
                      show WA mX10_span 3 (0, 0) 139 [(2, v0), (0, v1), (0, v2), (0, v3), (0, v4), (0, v5), (0, v6), (0, v7)] [] L μ28 Q
                      refine wa_aload_n 140 dX10_span_139 rfl rfl ?_
                      refine wa_iload 142 dX10_span_140 rfl rfl ?_
                      refine wa_callV 145 0 1 10 (av := [(0, v7)]) (rest := []) (k1 := (0, 0)) (k2 := (0, 0)) cvX10_partOf dX10_span_142 rfl wM_X10_122 ⟨rfl, by decide, rfl, Nat.le_of_ble_eq_true rfl, by decide, Nat.le_of_ble_eq_true rfl, rfl, rfl⟩ rfl k0 (TR.mono h (fun r29 L30 μ31 h => ?_))
                      obtain ⟨w32, rfl, rfl, h⟩ := h
                      show WA mX10_span 3 (0, 0) 145 [(2, v0), (0, v1), (0, v2), (0, v3), (0, v4), (0, v5), (0, v6), (0, v7)] [(1, w32)] L μ31 Q
                      exact wa_lret dX10_span_145 rfl h
                    · replace h := h.2 q
                      refine wa_ldc2 121 (-9223372036854775808) dX10_span_118 rfl wJ_X10_116 ⟨rfl, by decide⟩ ?_
                      exact wa_lret dX10_span_121 rfl h
              · replace h := h.2 q
                refine wa_ldc2 67 (-9223372036854775808) dX10_span_64 rfl wJ_X10_116 ⟨rfl, by decide⟩ ?_
                exact wa_lret dX10_span_67 rfl h
set_option maxRecDepth 20000 in
theorem t_X10_strip (hL : LayOK L) {v0 v1 v2 v3 : Int} (k0 : isK L v0 (10, 0)) (h : TR mX10_isAgent 1 (0, 0) [(2, v0), (0, v1)] L μ (fun r1 L2 μ3 => ∃ w4, r1 = some (0, w4) ∧ L = L2 ∧ (w4 = 0 → Q (some (0, (-1))) L μ3) ∧ (¬ w4 = 0 → TR mX10_isStrip 1 (0, 0) [(2, v0), (0, v2)] L μ3 (fun r5 L6 μ7 => ∃ w8, r5 = some (0, w8) ∧ L = L6 ∧ (w8 = 0 → Q (some (0, (-1))) L μ7) ∧ (¬ w8 = 0 → TR mX10_in 0 (0, 0) [(1, v3), (1, 0), (1, 1)] L μ7 (fun r9 L10 μ11 => ∃ w12, r9 = some (0, w12) ∧ L = L10 ∧ (w12 = 0 → Q (some (0, (-1))) L μ11) ∧ (¬ w12 = 0 → TR mX10_worthOf 0 (0, 0) [(2, v0), (0, v1), (0, v2), (0, v3)] L μ11 (fun r13 L14 μ15 => ∃ w16, r13 = some (1, w16) ∧ L = L14 ∧ (inI w16) ∧ Q (some (0, w16)) L μ15)))))))) : TR mX10_strip 2 (0, 0) [(2, v0), (0, v1), (0, v2), (0, v3)] L μ Q := by
  refine TR.of (ls := [(2, v0), (0, v1), (0, v2), (0, v3)]) (by decide) (by simp) rfl (Nat.le_of_ble_eq_true rfl) ?_
  refine wa_aload_n 1 dX10_strip_0 rfl rfl ?_
  refine wa_iload_n 2 dX10_strip_1 rfl rfl ?_
  refine wa_callV 5 1 1 10 (av := [(0, v1)]) (rest := []) (k1 := (0, 0)) (k2 := (0, 0)) cvX10_isAgent dX10_strip_2 rfl wM_X10_79 ⟨rfl, by decide, rfl, Nat.le_of_ble_eq_true rfl, by decide, Nat.le_of_ble_eq_true rfl, rfl, rfl⟩ rfl k0 (TR.mono h (fun r1 L2 μ3 h => ?_))
  obtain ⟨w4, rfl, rfl, h⟩ := h
  show WA mX10_strip 2 (0, 0) 5 [(2, v0), (0, v1), (0, v2), (0, v3)] [(0, w4)] L μ3 Q
  refine wa_if_eq 8 37 dX10_strip_5 rfl (by decide) (fun q => ?_) (fun q => ?_)
  · replace h := h.1 q
    refine wa_iconst 38 dX10_strip_37 rfl (by decide) ?_
    exact wa_iret dX10_strip_38 rfl h
  · replace h := h.2 q
    refine wa_aload_n 9 dX10_strip_8 rfl rfl ?_
    refine wa_iload_n 10 dX10_strip_9 rfl rfl ?_
    refine wa_callV 13 1 1 10 (av := [(0, v2)]) (rest := []) (k1 := (0, 0)) (k2 := (0, 0)) cvX10_isStrip dX10_strip_10 rfl wM_X10_83 ⟨rfl, by decide, rfl, Nat.le_of_ble_eq_true rfl, by decide, Nat.le_of_ble_eq_true rfl, rfl, rfl⟩ rfl k0 (TR.mono h (fun r5 L6 μ7 h => ?_))
    obtain ⟨w8, rfl, rfl, h⟩ := h
    show WA mX10_strip 2 (0, 0) 13 [(2, v0), (0, v1), (0, v2), (0, v3)] [(0, w8)] L μ7 Q
    refine wa_if_eq 16 37 dX10_strip_13 rfl (by decide) (fun q => ?_) (fun q => ?_)
    · replace h := h.1 q
      refine wa_iconst 38 dX10_strip_37 rfl (by decide) ?_
      exact wa_iret dX10_strip_38 rfl h
    · replace h := h.2 q
      refine wa_iload_n 17 dX10_strip_16 rfl rfl ?_
      refine wa_i2l 18 dX10_strip_17 rfl ?_
      refine wa_lconst 19 0 dX10_strip_18 rfl ⟨rfl, by decide⟩ ?_
      refine wa_lconst 20 1 dX10_strip_19 rfl ⟨rfl, by decide⟩ ?_
      refine wa_callS 23 0 3 (av := [(1, v3), (1, 0), (1, 1)]) (rest := []) (k1 := (0, 0)) (k2 := (0, 0)) cvX10_in dX10_strip_20 rfl wM_X10_65 ⟨rfl, Nat.le_of_ble_eq_true rfl, by decide, Nat.le_of_ble_eq_true rfl, rfl, rfl⟩ rfl (TR.mono h (fun r9 L10 μ11 h => ?_))
      obtain ⟨w12, rfl, rfl, h⟩ := h
      show WA mX10_strip 2 (0, 0) 23 [(2, v0), (0, v1), (0, v2), (0, v3)] [(0, w12)] L μ11 Q
      refine wa_if_eq 26 37 dX10_strip_23 rfl (by decide) (fun q => ?_) (fun q => ?_)
      · replace h := h.1 q
        refine wa_iconst 38 dX10_strip_37 rfl (by decide) ?_
        exact wa_iret dX10_strip_38 rfl h
      · replace h := h.2 q
        refine wa_aload_n 27 dX10_strip_26 rfl rfl ?_
        refine wa_iload_n 28 dX10_strip_27 rfl rfl ?_
        refine wa_iload_n 29 dX10_strip_28 rfl rfl ?_
        refine wa_iload_n 30 dX10_strip_29 rfl rfl ?_
        refine wa_callV 33 0 3 10 (av := [(0, v1), (0, v2), (0, v3)]) (rest := []) (k1 := (0, 0)) (k2 := (0, 0)) cvX10_worthOf dX10_strip_30 rfl wM_X10_88 ⟨rfl, by decide, rfl, Nat.le_of_ble_eq_true rfl, by decide, Nat.le_of_ble_eq_true rfl, rfl, rfl⟩ rfl k0 (TR.mono h (fun r13 L14 μ15 h => ?_))
        obtain ⟨w16, rfl, rfl, h⟩ := h
        show WA mX10_strip 2 (0, 0) 33 [(2, v0), (0, v1), (0, v2), (0, v3)] [(1, w16)] L μ15 Q
        obtain ⟨c17, h⟩ := h
        refine wa_l2i 34 dX10_strip_33 rfl c17 ?_
        refine wa_goto 38 dX10_strip_34 (by decide) ?_
        exact wa_iret dX10_strip_38 rfl h
set_option maxRecDepth 20000 in
theorem t_X10_strips (hL : LayOK L) {v0 : Int} (k0 : isK L v0 (10, 0)) (h : (inI ((μ ((rf L v0 0)) 0))) ∧ Q (some (0, (μ ((rf L v0 0)) 0))) L μ) : TR mX10_strips 0 (0, 0) [(2, v0)] L μ Q := by
  refine TR.of (ls := [(2, v0)]) (by decide) (by simp) rfl (Nat.le_of_ble_eq_true rfl) ?_
  refine wa_aload_n 1 dX10_strips_0 rfl rfl ?_
  have e1 : isK L (rf L v0 0) (21, 510) := lay_f hL k0 0 rfl
  refine wa_getR 4 0 dX10_strips_1 rfl wF_X10_9 rfl rfl ⟨k0, isK_pos e1⟩ ?_
  refine wa_iconst 5 dX10_strips_4 rfl (by decide) ?_
  refine wa_laload 6 dX10_strips_5 rfl (okA_of e1 ⟨by decide, by decide⟩) ?_
  obtain ⟨c2, h⟩ := h
  refine wa_l2i 7 dX10_strips_6 rfl c2 ?_
  exact wa_iret dX10_strips_7 rfl h
set_option maxRecDepth 20000 in
theorem t_X10_takes (hL : LayOK L) {v0 v1 v2 v4 v6 v8 : Int} (k0 : isK L v0 (10, 0)) (h : TR mX10_happens 0 (0, 0) [(2, v0), (0, 3), (0, v1), (1, v2), (1, v4), (1, v6), (1, v8)] L μ (fun r1 L2 μ3 => r1 = none ∧ L = L2 ∧ TR mX10_adds 0 (0, 0) [(2, v0), (0, v1), (1, v2), (1, v4), (1, v6), (1, v8)] L μ3 (fun r4 L5 μ6 => r4 = none ∧ L = L5 ∧ Q none L μ6))) : TR mX10_takes 1 (0, 0) [(2, v0), (0, v1), (1, v2), (1, v4), (1, v6), (1, v8)] L μ Q := by
  refine TR.of (ls := [(2, v0), (0, v1), (1, v2), (9, 0), (1, v4), (9, 0), (1, v6), (9, 0), (1, v8), (9, 0)]) (by decide) (by simp) rfl (Nat.le_of_ble_eq_true rfl) ?_
  refine wa_aload_n 1 dX10_takes_0 rfl rfl ?_
  refine wa_iconst 2 dX10_takes_1 rfl (by decide) ?_
  refine wa_iload_n 3 dX10_takes_2 rfl rfl ?_
  refine wa_lload_n 4 dX10_takes_3 rfl rfl ?_
  refine wa_lload 6 dX10_takes_4 rfl rfl ?_
  refine wa_lload 8 dX10_takes_6 rfl rfl ?_
  refine wa_lload 10 dX10_takes_8 rfl rfl ?_
  refine wa_callV 13 0 6 10 (av := [(0, 3), (0, v1), (1, v2), (1, v4), (1, v6), (1, v8)]) (rest := []) (k1 := (0, 0)) (k2 := (0, 0)) cvX10_happens dX10_takes_10 rfl wM_X10_239 ⟨rfl, by decide, rfl, Nat.le_of_ble_eq_true rfl, by decide, Nat.le_of_ble_eq_true rfl, rfl, rfl⟩ rfl k0 (TR.mono h (fun r1 L2 μ3 h => ?_))
  obtain ⟨rfl, rfl, h⟩ := h
  show WA mX10_takes 1 (0, 0) 13 [(2, v0), (0, v1), (1, v2), (9, 0), (1, v4), (9, 0), (1, v6), (9, 0), (1, v8), (9, 0)] [] L μ3 Q
  refine wa_aload_n 14 dX10_takes_13 rfl rfl ?_
  refine wa_iload_n 15 dX10_takes_14 rfl rfl ?_
  refine wa_lload_n 16 dX10_takes_15 rfl rfl ?_
  refine wa_lload 18 dX10_takes_16 rfl rfl ?_
  refine wa_lload 20 dX10_takes_18 rfl rfl ?_
  refine wa_lload 22 dX10_takes_20 rfl rfl ?_
  refine wa_callV 25 0 5 10 (av := [(0, v1), (1, v2), (1, v4), (1, v6), (1, v8)]) (rest := []) (k1 := (0, 0)) (k2 := (0, 0)) cvX10_adds dX10_takes_22 rfl wM_X10_209 ⟨rfl, by decide, rfl, Nat.le_of_ble_eq_true rfl, by decide, Nat.le_of_ble_eq_true rfl, rfl, rfl⟩ rfl k0 (TR.mono h (fun r4 L5 μ6 h => ?_))
  obtain ⟨rfl, rfl, h⟩ := h
  show WA mX10_takes 1 (0, 0) 25 [(2, v0), (0, v1), (1, v2), (9, 0), (1, v4), (9, 0), (1, v6), (9, 0), (1, v8), (9, 0)] [] L μ6 Q
  exact wa_vret dX10_takes_25 rfl h
set_option maxRecDepth 20000 in
theorem t_X10_takesPiece (hL : LayOK L) {v0 v1 v2 : Int} (k0 : isK L v0 (10, 0)) (h : (inI (4 * v2)) ∧ (0 ≤ (4 * v2) ∧ (4 * v2) < 12) ∧ (inI ((4 * v2) + 1)) ∧ (0 ≤ ((4 * v2) + 1) ∧ ((4 * v2) + 1) < 12) ∧ (inI ((4 * v2) + 2)) ∧ (0 ≤ ((4 * v2) + 2) ∧ ((4 * v2) + 2) < 12) ∧ (inI ((4 * v2) + 3)) ∧ (0 ≤ ((4 * v2) + 3) ∧ ((4 * v2) + 3) < 12) ∧ TR mX10_takes 1 (0, 0) [(2, v0), (0, v1), (1, (μ ((rf L v0 19)) ((4 * v2)))), (1, (μ ((rf L v0 19)) (((4 * v2) + 1)))), (1, (μ ((rf L v0 19)) (((4 * v2) + 2)))), (1, (μ ((rf L v0 19)) (((4 * v2) + 3))))] L μ (fun r10 L11 μ12 => r10 = none ∧ L = L11 ∧ Q none L μ12)) : TR mX10_takesPiece 2 (0, 0) [(2, v0), (0, v1), (0, v2)] L μ Q := by
  refine TR.of (ls := [(2, v0), (0, v1), (0, v2)]) (by decide) (by simp) rfl (Nat.le_of_ble_eq_true rfl) ?_
  refine wa_aload_n 1 dX10_takesPiece_0 rfl rfl ?_
  refine wa_iload_n 2 dX10_takesPiece_1 rfl rfl ?_
  refine wa_aload_n 3 dX10_takesPiece_2 rfl rfl ?_
  have e1 : isK L (rf L v0 19) (21, 12) := lay_f hL k0 19 rfl
  refine wa_getR 6 19 dX10_takesPiece_3 rfl wF_X10_37 rfl rfl ⟨k0, isK_pos e1⟩ ?_
  refine wa_iconst 7 dX10_takesPiece_6 rfl (by decide) ?_
  refine wa_iload_n 8 dX10_takesPiece_7 rfl rfl ?_
  obtain ⟨c2, h⟩ := h
  refine wa_imul 9 dX10_takesPiece_8 rfl c2 ?_
  obtain ⟨c3, h⟩ := h
  refine wa_laload 10 dX10_takesPiece_9 rfl (okA_of e1 c3) ?_
  refine wa_aload_n 11 dX10_takesPiece_10 rfl rfl ?_
  refine wa_getR 14 19 dX10_takesPiece_11 rfl wF_X10_37 rfl rfl ⟨k0, isK_pos e1⟩ ?_
  refine wa_iconst 15 dX10_takesPiece_14 rfl (by decide) ?_
  refine wa_iload_n 16 dX10_takesPiece_15 rfl rfl ?_
  refine wa_imul 17 dX10_takesPiece_16 rfl c2 ?_
  refine wa_iconst 18 dX10_takesPiece_17 rfl (by decide) ?_
  obtain ⟨c4, h⟩ := h
  refine wa_iadd 19 dX10_takesPiece_18 rfl c4 ?_
  obtain ⟨c5, h⟩ := h
  refine wa_laload 20 dX10_takesPiece_19 rfl (okA_of e1 c5) ?_
  refine wa_aload_n 21 dX10_takesPiece_20 rfl rfl ?_
  refine wa_getR 24 19 dX10_takesPiece_21 rfl wF_X10_37 rfl rfl ⟨k0, isK_pos e1⟩ ?_
  refine wa_iconst 25 dX10_takesPiece_24 rfl (by decide) ?_
  refine wa_iload_n 26 dX10_takesPiece_25 rfl rfl ?_
  refine wa_imul 27 dX10_takesPiece_26 rfl c2 ?_
  refine wa_iconst 28 dX10_takesPiece_27 rfl (by decide) ?_
  obtain ⟨c6, h⟩ := h
  refine wa_iadd 29 dX10_takesPiece_28 rfl c6 ?_
  obtain ⟨c7, h⟩ := h
  refine wa_laload 30 dX10_takesPiece_29 rfl (okA_of e1 c7) ?_
  refine wa_aload_n 31 dX10_takesPiece_30 rfl rfl ?_
  refine wa_getR 34 19 dX10_takesPiece_31 rfl wF_X10_37 rfl rfl ⟨k0, isK_pos e1⟩ ?_
  refine wa_iconst 35 dX10_takesPiece_34 rfl (by decide) ?_
  refine wa_iload_n 36 dX10_takesPiece_35 rfl rfl ?_
  refine wa_imul 37 dX10_takesPiece_36 rfl c2 ?_
  refine wa_iconst 38 dX10_takesPiece_37 rfl (by decide) ?_
  obtain ⟨c8, h⟩ := h
  refine wa_iadd 39 dX10_takesPiece_38 rfl c8 ?_
  obtain ⟨c9, h⟩ := h
  refine wa_laload 40 dX10_takesPiece_39 rfl (okA_of e1 c9) ?_
  refine wa_callV 43 1 5 10 (av := [(0, v1), (1, (μ ((rf L v0 19)) ((4 * v2)))), (1, (μ ((rf L v0 19)) (((4 * v2) + 1)))), (1, (μ ((rf L v0 19)) (((4 * v2) + 2)))), (1, (μ ((rf L v0 19)) (((4 * v2) + 3))))]) (rest := []) (k1 := (0, 0)) (k2 := (0, 0)) cvX10_takes dX10_takesPiece_40 rfl wM_X10_253 ⟨rfl, by decide, rfl, Nat.le_of_ble_eq_true rfl, by decide, Nat.le_of_ble_eq_true rfl, rfl, rfl⟩ rfl k0 (TR.mono h (fun r10 L11 μ12 h => ?_))
  obtain ⟨rfl, rfl, h⟩ := h
  show WA mX10_takesPiece 2 (0, 0) 43 [(2, v0), (0, v1), (0, v2)] [] L μ12 Q
  exact wa_vret dX10_takesPiece_43 rfl h
set_option maxRecDepth 20000 in
theorem t_X10_tells (hL : LayOK L) {v0 v1 v2 v3 : Int} (k0 : isK L v0 (10, 0)) (h : TR mX10_isAgent 1 (0, 0) [(2, v0), (0, v1)] L μ (fun r1 L2 μ3 => ∃ w4, r1 = some (0, w4) ∧ L = L2 ∧ (w4 = 0 → Q (some (0, (-1))) L μ3) ∧ (¬ w4 = 0 → TR mX10_isStrip 1 (0, 0) [(2, v0), (0, v2)] L μ3 (fun r5 L6 μ7 => ∃ w8, r5 = some (0, w8) ∧ L = L6 ∧ (w8 = 0 → Q (some (0, (-1))) L μ7) ∧ (¬ w8 = 0 → TR mX10_in 0 (0, 0) [(1, v3), (1, 0), (1, 9)] L μ7 (fun r9 L10 μ11 => ∃ w12, r9 = some (0, w12) ∧ L = L10 ∧ (¬ w12 = 0 → TR mX10_worthOf 0 (0, 0) [(2, v0), (0, v1), (0, v2), (0, 1)] L μ11 (fun r13 L14 μ15 => ∃ w16, r13 = some (1, w16) ∧ L = L14 ∧ (inI w16) ∧ (inI (16 * v1)) ∧ (inI (85 + (16 * v1))) ∧ (inI ((85 + (16 * v1)) + v2)) ∧ (0 ≤ ((85 + (16 * v1)) + v2) ∧ ((85 + (16 * v1)) + v2) < 510) ∧ Q (some (0, w16)) L (up μ15 ((rf L v0 0)) (((85 + (16 * v1)) + v2)) v3))) ∧ (w12 = 0 → Q (some (0, (-1))) L μ11))))))) : TR mX10_tells 2 (0, 0) [(2, v0), (0, v1), (0, v2), (0, v3)] L μ Q := by
  refine TR.of (ls := [(2, v0), (0, v1), (0, v2), (0, v3), (9, 0)]) (by decide) (by simp) rfl (Nat.le_of_ble_eq_true rfl) ?_
  refine wa_aload_n 1 dX10_tells_0 rfl rfl ?_
  refine wa_iload_n 2 dX10_tells_1 rfl rfl ?_
  refine wa_callV 5 1 1 10 (av := [(0, v1)]) (rest := []) (k1 := (0, 0)) (k2 := (0, 0)) cvX10_isAgent dX10_tells_2 rfl wM_X10_79 ⟨rfl, by decide, rfl, Nat.le_of_ble_eq_true rfl, by decide, Nat.le_of_ble_eq_true rfl, rfl, rfl⟩ rfl k0 (TR.mono h (fun r1 L2 μ3 h => ?_))
  obtain ⟨w4, rfl, rfl, h⟩ := h
  show WA mX10_tells 2 (0, 0) 5 [(2, v0), (0, v1), (0, v2), (0, v3), (9, 0)] [(0, w4)] L μ3 Q
  refine wa_if_eq 8 28 dX10_tells_5 rfl (by decide) (fun q => ?_) (fun q => ?_)
  · replace h := h.1 q
    refine wa_iconst 29 dX10_tells_28 rfl (by decide) ?_
    exact wa_iret dX10_tells_29 rfl h
  · replace h := h.2 q
    refine wa_aload_n 9 dX10_tells_8 rfl rfl ?_
    refine wa_iload_n 10 dX10_tells_9 rfl rfl ?_
    refine wa_callV 13 1 1 10 (av := [(0, v2)]) (rest := []) (k1 := (0, 0)) (k2 := (0, 0)) cvX10_isStrip dX10_tells_10 rfl wM_X10_83 ⟨rfl, by decide, rfl, Nat.le_of_ble_eq_true rfl, by decide, Nat.le_of_ble_eq_true rfl, rfl, rfl⟩ rfl k0 (TR.mono h (fun r5 L6 μ7 h => ?_))
    obtain ⟨w8, rfl, rfl, h⟩ := h
    show WA mX10_tells 2 (0, 0) 13 [(2, v0), (0, v1), (0, v2), (0, v3), (9, 0)] [(0, w8)] L μ7 Q
    refine wa_if_eq 16 28 dX10_tells_13 rfl (by decide) (fun q => ?_) (fun q => ?_)
    · replace h := h.1 q
      refine wa_iconst 29 dX10_tells_28 rfl (by decide) ?_
      exact wa_iret dX10_tells_29 rfl h
    · replace h := h.2 q
      refine wa_iload_n 17 dX10_tells_16 rfl rfl ?_
      refine wa_i2l 18 dX10_tells_17 rfl ?_
      refine wa_lconst 19 0 dX10_tells_18 rfl ⟨rfl, by decide⟩ ?_
      refine wa_ldc2 22 9 dX10_tells_19 rfl wJ_X10_86 ⟨rfl, by decide⟩ ?_
      refine wa_callS 25 0 3 (av := [(1, v3), (1, 0), (1, 9)]) (rest := []) (k1 := (0, 0)) (k2 := (0, 0)) cvX10_in dX10_tells_22 rfl wM_X10_65 ⟨rfl, Nat.le_of_ble_eq_true rfl, by decide, Nat.le_of_ble_eq_true rfl, rfl, rfl⟩ rfl (TR.mono h (fun r9 L10 μ11 h => ?_))
      obtain ⟨w12, rfl, rfl, h⟩ := h
      show WA mX10_tells 2 (0, 0) 25 [(2, v0), (0, v1), (0, v2), (0, v3), (9, 0)] [(0, w12)] L μ11 Q
      refine wa_if_ne 28 30 dX10_tells_25 rfl (by decide) (fun q => ?_) (fun q => ?_)
      · replace h := h.1 q
        refine wa_aload_n 31 dX10_tells_30 rfl rfl ?_
        refine wa_iload_n 32 dX10_tells_31 rfl rfl ?_
        refine wa_iload_n 33 dX10_tells_32 rfl rfl ?_
        refine wa_iconst 34 dX10_tells_33 rfl (by decide) ?_
        refine wa_callV 37 0 3 10 (av := [(0, v1), (0, v2), (0, 1)]) (rest := []) (k1 := (0, 0)) (k2 := (0, 0)) cvX10_worthOf dX10_tells_34 rfl wM_X10_88 ⟨rfl, by decide, rfl, Nat.le_of_ble_eq_true rfl, by decide, Nat.le_of_ble_eq_true rfl, rfl, rfl⟩ rfl k0 (TR.mono h (fun r13 L14 μ15 h => ?_))
        obtain ⟨w16, rfl, rfl, h⟩ := h
        show WA mX10_tells 2 (0, 0) 37 [(2, v0), (0, v1), (0, v2), (0, v3), (9, 0)] [(1, w16)] L μ15 Q
        obtain ⟨c17, h⟩ := h
        refine wa_l2i 38 dX10_tells_37 rfl c17 ?_
        refine wa_istore 40 [(2, v0), (0, v1), (0, v2), (0, v3), (0, w16)] dX10_tells_38 rfl rfl rfl ?_
        refine wa_aload_n 41 dX10_tells_40 rfl rfl ?_
        have e18 : isK L (rf L v0 0) (21, 510) := lay_f hL k0 0 rfl
        refine wa_getR 44 0 dX10_tells_41 rfl wF_X10_9 rfl rfl ⟨k0, isK_pos e18⟩ ?_
        refine wa_bipush 46 dX10_tells_44 rfl ⟨by decide, by decide⟩ ?_
        refine wa_bipush 48 dX10_tells_46 rfl ⟨by decide, by decide⟩ ?_
        refine wa_iload_n 49 dX10_tells_48 rfl rfl ?_
        obtain ⟨c19, h⟩ := h
        refine wa_imul 50 dX10_tells_49 rfl c19 ?_
        obtain ⟨c20, h⟩ := h
        refine wa_iadd 51 dX10_tells_50 rfl c20 ?_
        refine wa_iload_n 52 dX10_tells_51 rfl rfl ?_
        obtain ⟨c21, h⟩ := h
        refine wa_iadd 53 dX10_tells_52 rfl c21 ?_
        refine wa_iload_n 54 dX10_tells_53 rfl rfl ?_
        refine wa_i2l 55 dX10_tells_54 rfl ?_
        obtain ⟨c22, h⟩ := h
        refine wa_lastore 56 dX10_tells_55 rfl (okA_of e18 c22) ?_
        refine wa_iload 58 dX10_tells_56 rfl rfl ?_
        exact wa_iret dX10_tells_58 rfl h
      · replace h := h.2 q
        refine wa_iconst 29 dX10_tells_28 rfl (by decide) ?_
        exact wa_iret dX10_tells_29 rfl h
set_option maxRecDepth 20000 in
theorem t_X10_tellsMore (hL : LayOK L) {v0 v1 v2 v3 : Int} (k0 : isK L v0 (10, 0)) (h : (inI (16 * v1)) ∧ (inI (85 + (16 * v1))) ∧ (inI ((85 + (16 * v1)) + v2)) ∧ (0 ≤ ((85 + (16 * v1)) + v2) ∧ ((85 + (16 * v1)) + v2) < 510) ∧ (inL ((μ ((rf L v0 0)) (((85 + (16 * v1)) + v2))) + v3)) ∧ Q none L (up μ ((rf L v0 0)) (((85 + (16 * v1)) + v2)) (((μ ((rf L v0 0)) (((85 + (16 * v1)) + v2))) + v3)))) : TR mX10_tellsMore 0 (0, 0) [(2, v0), (0, v1), (0, v2), (0, v3)] L μ Q := by
  refine TR.of (ls := [(2, v0), (0, v1), (0, v2), (0, v3)]) (by decide) (by simp) rfl (Nat.le_of_ble_eq_true rfl) ?_
  refine wa_aload_n 1 dX10_tellsMore_0 rfl rfl ?_
  have e1 : isK L (rf L v0 0) (21, 510) := lay_f hL k0 0 rfl
  refine wa_getR 4 0 dX10_tellsMore_1 rfl wF_X10_9 rfl rfl ⟨k0, isK_pos e1⟩ ?_
  refine wa_bipush 6 dX10_tellsMore_4 rfl ⟨by decide, by decide⟩ ?_
  refine wa_bipush 8 dX10_tellsMore_6 rfl ⟨by decide, by decide⟩ ?_
  refine wa_iload_n 9 dX10_tellsMore_8 rfl rfl ?_
  obtain ⟨c2, h⟩ := h
  refine wa_imul 10 dX10_tellsMore_9 rfl c2 ?_
  obtain ⟨c3, h⟩ := h
  refine wa_iadd 11 dX10_tellsMore_10 rfl c3 ?_
  refine wa_iload_n 12 dX10_tellsMore_11 rfl rfl ?_
  obtain ⟨c4, h⟩ := h
  refine wa_iadd 13 dX10_tellsMore_12 rfl c4 ?_
  refine wa_dup2 14 dX10_tellsMore_13 rfl ⟨Or.inl rfl, Or.inr rfl⟩ ?_
  obtain ⟨c5, h⟩ := h
  refine wa_laload 15 dX10_tellsMore_14 rfl (okA_of e1 c5) ?_
  refine wa_iload_n 16 dX10_tellsMore_15 rfl rfl ?_
  refine wa_i2l 17 dX10_tellsMore_16 rfl ?_
  obtain ⟨c6, h⟩ := h
  refine wa_ladd 18 dX10_tellsMore_17 rfl c6 ?_
  refine wa_lastore 19 dX10_tellsMore_18 rfl (okA_of e1 c5) ?_
  exact wa_vret dX10_tellsMore_19 rfl h
set_option maxRecDepth 20000 in
theorem t_X10_thirds (hL : LayOK L) {v0 v1 v2 v4 v6 v8 : Int} (k0 : isK L v0 (10, 0)) (h : TR mX10_worthBetween 2 (0, 0) [(2, v0), (0, v1), (0, 1), (1, v2), (1, v4), (1, v6), (1, v8)] L μ (fun r1 L2 μ3 => r1 = none ∧ L = L2 ∧ (inL (3 * (μ3 v0 5))) ∧ TR mX10_marksPoint 3 (0, 0) [(2, v0), (0, v1), (1, v2), (1, v4), (1, (μ3 v0 4)), (1, (3 * (μ3 v0 5))), (0, 1)] L μ3 (fun r5 L6 μ7 => r5 = none ∧ L = L6 ∧ (0 ≤ v1 ∧ v1 < 5) ∧ ((μ7 v0 11) = 0 → (inL (2 * (μ3 v0 4))) ∧ TR mX10_becomes 1 (0, 0) [(2, v0), (1, (2 * (μ3 v0 4))), (1, (3 * (μ3 v0 5)))] L μ7 (fun r12 L13 μ14 => r12 = none ∧ L = L13 ∧ TR mX10_marksPoint 3 (0, 0) [(2, v0), (0, v1), (1, v2), (1, v4), (1, (μ14 v0 4)), (1, (μ14 v0 5)), (0, 1)] L μ14 (fun r15 L16 μ17 => r15 = none ∧ L = L16 ∧ TR mX10_pieces 0 (0, 0) [(2, v0), (0, 0), (1, v2), (1, v4), (1, (μ7 ((rf L v0 13)) v1)), (1, (μ7 ((rf L v0 14)) v1))] L μ17 (fun r18 L19 μ20 => r18 = none ∧ L = L19 ∧ TR mX10_pieces 0 (0, 0) [(2, v0), (0, 1), (1, (μ7 ((rf L v0 13)) v1)), (1, (μ7 ((rf L v0 14)) v1)), (1, (μ20 ((rf L v0 13)) v1)), (1, (μ20 ((rf L v0 14)) v1))] L μ20 (fun r21 L22 μ23 => r21 = none ∧ L = L22 ∧ TR mX10_pieces 0 (0, 0) [(2, v0), (0, 2), (1, (μ23 ((rf L v0 13)) v1)), (1, (μ23 ((rf L v0 14)) v1)), (1, v6), (1, v8)] L μ23 (fun r24 L25 μ26 => r24 = none ∧ L = L25 ∧ Q none L μ26)))))) ∧ (¬ (μ7 v0 11) = 0 → Q none L μ7)))) : TR mX10_thirds 4 (0, 0) [(2, v0), (0, v1), (1, v2), (1, v4), (1, v6), (1, v8)] L μ Q := by
  refine TR.of (ls := [(2, v0), (0, v1), (1, v2), (9, 0), (1, v4), (9, 0), (1, v6), (9, 0), (1, v8), (9, 0), (9, 0), (9, 0), (9, 0), (9, 0), (9, 0), (9, 0), (9, 0), (9, 0)]) (by decide) (by simp) rfl (Nat.le_of_ble_eq_true rfl) ?_
  refine wa_aload_n 1 dX10_thirds_0 rfl rfl ?_
  refine wa_iload_n 2 dX10_thirds_1 rfl rfl ?_
  refine wa_iconst 3 dX10_thirds_2 rfl (by decide) ?_
  refine wa_lload_n 4 dX10_thirds_3 rfl rfl ?_
  refine wa_lload 6 dX10_thirds_4 rfl rfl ?_
  refine wa_lload 8 dX10_thirds_6 rfl rfl ?_
  refine wa_lload 10 dX10_thirds_8 rfl rfl ?_
  refine wa_callV 13 2 6 10 (av := [(0, v1), (0, 1), (1, v2), (1, v4), (1, v6), (1, v8)]) (rest := []) (k1 := (0, 0)) (k2 := (0, 0)) cvX10_worthBetween dX10_thirds_10 rfl wM_X10_118 ⟨rfl, by decide, rfl, Nat.le_of_ble_eq_true rfl, by decide, Nat.le_of_ble_eq_true rfl, rfl, rfl⟩ rfl k0 (TR.mono h (fun r1 L2 μ3 h => ?_))
  obtain ⟨rfl, rfl, h⟩ := h
  show WA mX10_thirds 4 (0, 0) 13 [(2, v0), (0, v1), (1, v2), (9, 0), (1, v4), (9, 0), (1, v6), (9, 0), (1, v8), (9, 0), (9, 0), (9, 0), (9, 0), (9, 0), (9, 0), (9, 0), (9, 0), (9, 0)] [] L μ3 Q
  refine wa_aload_n 14 dX10_thirds_13 rfl rfl ?_
  refine wa_getL 17 4 dX10_thirds_14 rfl wF_X10_99 rfl rfl k0 ?_
  refine wa_lstore 19 [(2, v0), (0, v1), (1, v2), (9, 0), (1, v4), (9, 0), (1, v6), (9, 0), (1, v8), (9, 0), (1, (μ3 v0 4)), (9, 0), (9, 0), (9, 0), (9, 0), (9, 0), (9, 0), (9, 0)] dX10_thirds_17 rfl rfl rfl ?_
  refine wa_aload_n 20 dX10_thirds_19 rfl rfl ?_
  refine wa_getL 23 5 dX10_thirds_20 rfl wF_X10_103 rfl rfl k0 ?_
  refine wa_lstore 25 [(2, v0), (0, v1), (1, v2), (9, 0), (1, v4), (9, 0), (1, v6), (9, 0), (1, v8), (9, 0), (1, (μ3 v0 4)), (9, 0), (1, (μ3 v0 5)), (9, 0), (9, 0), (9, 0), (9, 0), (9, 0)] dX10_thirds_23 rfl rfl rfl ?_
  refine wa_aload_n 26 dX10_thirds_25 rfl rfl ?_
  refine wa_iload_n 27 dX10_thirds_26 rfl rfl ?_
  refine wa_lload_n 28 dX10_thirds_27 rfl rfl ?_
  refine wa_lload 30 dX10_thirds_28 rfl rfl ?_
  refine wa_lload 32 dX10_thirds_30 rfl rfl ?_
  refine wa_ldc2 35 3 dX10_thirds_32 rfl wJ_X10_136 ⟨rfl, by decide⟩ ?_
  refine wa_lload 37 dX10_thirds_35 rfl rfl ?_
  obtain ⟨c4, h⟩ := h
  refine wa_lmul 38 dX10_thirds_37 rfl c4 ?_
  refine wa_iconst 39 dX10_thirds_38 rfl (by decide) ?_
  refine wa_callV 42 3 6 10 (av := [(0, v1), (1, v2), (1, v4), (1, (μ3 v0 4)), (1, (3 * (μ3 v0 5))), (0, 1)]) (rest := []) (k1 := (0, 0)) (k2 := (0, 0)) cvX10_marksPoint dX10_thirds_39 rfl wM_X10_245 ⟨rfl, by decide, rfl, Nat.le_of_ble_eq_true rfl, by decide, Nat.le_of_ble_eq_true rfl, rfl, rfl⟩ rfl k0 (TR.mono h (fun r5 L6 μ7 h => ?_))
  obtain ⟨rfl, rfl, h⟩ := h
  show WA mX10_thirds 4 (0, 0) 42 [(2, v0), (0, v1), (1, v2), (9, 0), (1, v4), (9, 0), (1, v6), (9, 0), (1, v8), (9, 0), (1, (μ3 v0 4)), (9, 0), (1, (μ3 v0 5)), (9, 0), (9, 0), (9, 0), (9, 0), (9, 0)] [] L μ7 Q
  refine wa_aload_n 43 dX10_thirds_42 rfl rfl ?_
  have e8 : isK L (rf L v0 13) (21, 5) := lay_f hL k0 13 rfl
  refine wa_getR 46 13 dX10_thirds_43 rfl wF_X10_25 rfl rfl ⟨k0, isK_pos e8⟩ ?_
  refine wa_iload_n 47 dX10_thirds_46 rfl rfl ?_
  obtain ⟨c9, h⟩ := h
  refine wa_laload 48 dX10_thirds_47 rfl (okA_of e8 c9) ?_
  refine wa_lstore 50 [(2, v0), (0, v1), (1, v2), (9, 0), (1, v4), (9, 0), (1, v6), (9, 0), (1, v8), (9, 0), (1, (μ3 v0 4)), (9, 0), (1, (μ3 v0 5)), (9, 0), (1, (μ7 ((rf L v0 13)) v1)), (9, 0), (9, 0), (9, 0)] dX10_thirds_48 rfl rfl rfl ?_
  refine wa_aload_n 51 dX10_thirds_50 rfl rfl ?_
  have e10 : isK L (rf L v0 14) (21, 5) := lay_f hL k0 14 rfl
  refine wa_getR 54 14 dX10_thirds_51 rfl wF_X10_28 rfl rfl ⟨k0, isK_pos e10⟩ ?_
  refine wa_iload_n 55 dX10_thirds_54 rfl rfl ?_
  refine wa_laload 56 dX10_thirds_55 rfl (okA_of e10 c9) ?_
  refine wa_lstore 58 [(2, v0), (0, v1), (1, v2), (9, 0), (1, v4), (9, 0), (1, v6), (9, 0), (1, v8), (9, 0), (1, (μ3 v0 4)), (9, 0), (1, (μ3 v0 5)), (9, 0), (1, (μ7 ((rf L v0 13)) v1)), (9, 0), (1, (μ7 ((rf L v0 14)) v1)), (9, 0)] dX10_thirds_56 rfl rfl rfl ?_
  refine wa_aload_n 59 dX10_thirds_58 rfl rfl ?_
  refine wa_getI 62 11 dX10_thirds_59 rfl wF_X10_219 rfl rfl k0 ?_
  refine wa_if_eq 65 66 dX10_thirds_62 rfl (by decide) (fun q => ?_) (fun q => ?_)
  · replace h := h.1 q
    refine wa_aload_n 67 dX10_thirds_66 rfl rfl ?_
    refine wa_ldc2 70 2 dX10_thirds_67 rfl wJ_X10_69 ⟨rfl, by decide⟩ ?_
    refine wa_lload 72 dX10_thirds_70 rfl rfl ?_
    obtain ⟨c11, h⟩ := h
    refine wa_lmul 73 dX10_thirds_72 rfl c11 ?_
    refine wa_ldc2 76 3 dX10_thirds_73 rfl wJ_X10_136 ⟨rfl, by decide⟩ ?_
    refine wa_lload 78 dX10_thirds_76 rfl rfl ?_
    refine wa_lmul 79 dX10_thirds_78 rfl c4 ?_
    refine wa_callV 82 1 2 10 (av := [(1, (2 * (μ3 v0 4))), (1, (3 * (μ3 v0 5)))]) (rest := []) (k1 := (0, 0)) (k2 := (0, 0)) cvX10_becomes dX10_thirds_79 rfl wM_X10_110 ⟨rfl, by decide, rfl, Nat.le_of_ble_eq_true rfl, by decide, Nat.le_of_ble_eq_true rfl, rfl, rfl⟩ rfl k0 (TR.mono h (fun r12 L13 μ14 h => ?_))
    obtain ⟨rfl, rfl, h⟩ := h
    show WA mX10_thirds 4 (0, 0) 82 [(2, v0), (0, v1), (1, v2), (9, 0), (1, v4), (9, 0), (1, v6), (9, 0), (1, v8), (9, 0), (1, (μ3 v0 4)), (9, 0), (1, (μ3 v0 5)), (9, 0), (1, (μ7 ((rf L v0 13)) v1)), (9, 0), (1, (μ7 ((rf L v0 14)) v1)), (9, 0)] [] L μ14 Q
    refine wa_aload_n 83 dX10_thirds_82 rfl rfl ?_
    refine wa_iload_n 84 dX10_thirds_83 rfl rfl ?_
    refine wa_lload_n 85 dX10_thirds_84 rfl rfl ?_
    refine wa_lload 87 dX10_thirds_85 rfl rfl ?_
    refine wa_aload_n 88 dX10_thirds_87 rfl rfl ?_
    refine wa_getL 91 4 dX10_thirds_88 rfl wF_X10_99 rfl rfl k0 ?_
    refine wa_aload_n 92 dX10_thirds_91 rfl rfl ?_
    refine wa_getL 95 5 dX10_thirds_92 rfl wF_X10_103 rfl rfl k0 ?_
    refine wa_iconst 96 dX10_thirds_95 rfl (by decide) ?_
    refine wa_callV 99 3 6 10 (av := [(0, v1), (1, v2), (1, v4), (1, (μ14 v0 4)), (1, (μ14 v0 5)), (0, 1)]) (rest := []) (k1 := (0, 0)) (k2 := (0, 0)) cvX10_marksPoint dX10_thirds_96 rfl wM_X10_245 ⟨rfl, by decide, rfl, Nat.le_of_ble_eq_true rfl, by decide, Nat.le_of_ble_eq_true rfl, rfl, rfl⟩ rfl k0 (TR.mono h (fun r15 L16 μ17 h => ?_))
    obtain ⟨rfl, rfl, h⟩ := h
    show WA mX10_thirds 4 (0, 0) 99 [(2, v0), (0, v1), (1, v2), (9, 0), (1, v4), (9, 0), (1, v6), (9, 0), (1, v8), (9, 0), (1, (μ3 v0 4)), (9, 0), (1, (μ3 v0 5)), (9, 0), (1, (μ7 ((rf L v0 13)) v1)), (9, 0), (1, (μ7 ((rf L v0 14)) v1)), (9, 0)] [] L μ17 Q
    refine wa_aload_n 100 dX10_thirds_99 rfl rfl ?_
    refine wa_iconst 101 dX10_thirds_100 rfl (by decide) ?_
    refine wa_lload_n 102 dX10_thirds_101 rfl rfl ?_
    refine wa_lload 104 dX10_thirds_102 rfl rfl ?_
    refine wa_lload 106 dX10_thirds_104 rfl rfl ?_
    refine wa_lload 108 dX10_thirds_106 rfl rfl ?_
    refine wa_callV 111 0 5 10 (av := [(0, 0), (1, v2), (1, v4), (1, (μ7 ((rf L v0 13)) v1)), (1, (μ7 ((rf L v0 14)) v1))]) (rest := []) (k1 := (0, 0)) (k2 := (0, 0)) cvX10_pieces dX10_thirds_108 rfl wM_X10_284 ⟨rfl, by decide, rfl, Nat.le_of_ble_eq_true rfl, by decide, Nat.le_of_ble_eq_true rfl, rfl, rfl⟩ rfl k0 (TR.mono h (fun r18 L19 μ20 h => ?_))
    obtain ⟨rfl, rfl, h⟩ := h
    show WA mX10_thirds 4 (0, 0) 111 [(2, v0), (0, v1), (1, v2), (9, 0), (1, v4), (9, 0), (1, v6), (9, 0), (1, v8), (9, 0), (1, (μ3 v0 4)), (9, 0), (1, (μ3 v0 5)), (9, 0), (1, (μ7 ((rf L v0 13)) v1)), (9, 0), (1, (μ7 ((rf L v0 14)) v1)), (9, 0)] [] L μ20 Q
    refine wa_aload_n 112 dX10_thirds_111 rfl rfl ?_
    refine wa_iconst 113 dX10_thirds_112 rfl (by decide) ?_
    refine wa_lload 115 dX10_thirds_113 rfl rfl ?_
    refine wa_lload 117 dX10_thirds_115 rfl rfl ?_
    refine wa_aload_n 118 dX10_thirds_117 rfl rfl ?_
    refine wa_getR 121 13 dX10_thirds_118 rfl wF_X10_25 rfl rfl ⟨k0, isK_pos e8⟩ ?_
    refine wa_iload_n 122 dX10_thirds_121 rfl rfl ?_
    refine wa_laload 123 dX10_thirds_122 rfl (okA_of e8 c9) ?_
    refine wa_aload_n 124 dX10_thirds_123 rfl rfl ?_
    refine wa_getR 127 14 dX10_thirds_124 rfl wF_X10_28 rfl rfl ⟨k0, isK_pos e10⟩ ?_
    refine wa_iload_n 128 dX10_thirds_127 rfl rfl ?_
    refine wa_laload 129 dX10_thirds_128 rfl (okA_of e10 c9) ?_
    refine wa_callV 132 0 5 10 (av := [(0, 1), (1, (μ7 ((rf L v0 13)) v1)), (1, (μ7 ((rf L v0 14)) v1)), (1, (μ20 ((rf L v0 13)) v1)), (1, (μ20 ((rf L v0 14)) v1))]) (rest := []) (k1 := (0, 0)) (k2 := (0, 0)) cvX10_pieces dX10_thirds_129 rfl wM_X10_284 ⟨rfl, by decide, rfl, Nat.le_of_ble_eq_true rfl, by decide, Nat.le_of_ble_eq_true rfl, rfl, rfl⟩ rfl k0 (TR.mono h (fun r21 L22 μ23 h => ?_))
    obtain ⟨rfl, rfl, h⟩ := h
    show WA mX10_thirds 4 (0, 0) 132 [(2, v0), (0, v1), (1, v2), (9, 0), (1, v4), (9, 0), (1, v6), (9, 0), (1, v8), (9, 0), (1, (μ3 v0 4)), (9, 0), (1, (μ3 v0 5)), (9, 0), (1, (μ7 ((rf L v0 13)) v1)), (9, 0), (1, (μ7 ((rf L v0 14)) v1)), (9, 0)] [] L μ23 Q
    refine wa_aload_n 133 dX10_thirds_132 rfl rfl ?_
    refine wa_iconst 134 dX10_thirds_133 rfl (by decide) ?_
    refine wa_aload_n 135 dX10_thirds_134 rfl rfl ?_
    refine wa_getR 138 13 dX10_thirds_135 rfl wF_X10_25 rfl rfl ⟨k0, isK_pos e8⟩ ?_
    refine wa_iload_n 139 dX10_thirds_138 rfl rfl ?_
    refine wa_laload 140 dX10_thirds_139 rfl (okA_of e8 c9) ?_
    refine wa_aload_n 141 dX10_thirds_140 rfl rfl ?_
    refine wa_getR 144 14 dX10_thirds_141 rfl wF_X10_28 rfl rfl ⟨k0, isK_pos e10⟩ ?_
    refine wa_iload_n 145 dX10_thirds_144 rfl rfl ?_
    refine wa_laload 146 dX10_thirds_145 rfl (okA_of e10 c9) ?_
    refine wa_lload 148 dX10_thirds_146 rfl rfl ?_
    refine wa_lload 150 dX10_thirds_148 rfl rfl ?_
    refine wa_callV 153 0 5 10 (av := [(0, 2), (1, (μ23 ((rf L v0 13)) v1)), (1, (μ23 ((rf L v0 14)) v1)), (1, v6), (1, v8)]) (rest := []) (k1 := (0, 0)) (k2 := (0, 0)) cvX10_pieces dX10_thirds_150 rfl wM_X10_284 ⟨rfl, by decide, rfl, Nat.le_of_ble_eq_true rfl, by decide, Nat.le_of_ble_eq_true rfl, rfl, rfl⟩ rfl k0 (TR.mono h (fun r24 L25 μ26 h => ?_))
    obtain ⟨rfl, rfl, h⟩ := h
    show WA mX10_thirds 4 (0, 0) 153 [(2, v0), (0, v1), (1, v2), (9, 0), (1, v4), (9, 0), (1, v6), (9, 0), (1, v8), (9, 0), (1, (μ3 v0 4)), (9, 0), (1, (μ3 v0 5)), (9, 0), (1, (μ7 ((rf L v0 13)) v1)), (9, 0), (1, (μ7 ((rf L v0 14)) v1)), (9, 0)] [] L μ26 Q
    exact wa_vret dX10_thirds_153 rfl h
  · replace h := h.2 q
    exact wa_vret dX10_thirds_65 rfl h
set_option maxRecDepth 20000 in
theorem t_X10_trims (hL : LayOK L) {v0 : Int} (k0 : isK L v0 (10, 0)) (h : TR mX10_ordered 1 (0, 0) [(2, v0), (0, 0)] L μ (fun r1 L2 μ3 => ∃ w4, r1 = some (0, w4) ∧ L = L2 ∧ TR mX10_ordered 1 (0, 0) [(2, v0), (0, 1)] L μ3 (fun r5 L6 μ7 => ∃ w8, r5 = some (0, w8) ∧ L = L6 ∧ TR mX10_ordered 1 (0, 0) [(2, v0), (0, 2)] L μ7 (fun r9 L10 μ11 => ∃ w12, r9 = some (0, w12) ∧ L = L10 ∧ TR mX10_ends 0 (0, 0) [(2, v0)] L μ11 (fun r13 L14 μ15 => ∃ w16, r13 = some (1, w16) ∧ L = L14 ∧ TR mX10_thirds 4 (0, 0) [(2, v0), (0, w4), (1, 0), (1, 1), (1, w16), (1, 1)] L μ15 (fun r17 L18 μ19 => r17 = none ∧ L = L18 ∧ ((μ19 v0 11) = 0 → TR mX10_mostFor 4 (0, 0) [(2, v0), (0, w8), (0, 7)] L μ19 (fun r20 L21 μ22 => ∃ w23, r20 = some (0, w23) ∧ L = L21 ∧ TR mX10_mostFor 4 (0, 0) [(2, v0), (0, w8), (0, (bAnd 7 ((bXor ((bShl 1 w23)) ((-1))))))] L μ22 (fun r24 L25 μ26 => ∃ w27, r24 = some (0, w27) ∧ L = L25 ∧ TR mX10_worthOfPiece 3 (0, 0) [(2, v0), (0, w8), (0, w23)] L μ26 (fun r28 L29 μ30 => r28 = none ∧ L = L29 ∧ TR mX10_worthOfPiece 3 (0, 0) [(2, v0), (0, w8), (0, w27)] L μ30 (fun r31 L32 μ33 => r31 = none ∧ L = L32 ∧ TR mX10_isLess 0 (0, 0) [(1, (μ33 v0 4)), (1, (μ33 v0 5)), (1, (μ30 v0 4)), (1, (μ30 v0 5))] L μ33 (fun r34 L35 μ36 => ∃ w37, r34 = some (0, w37) ∧ L = L35 ∧ (inI (4 * w23)) ∧ (inI ((4 * w23) + 2)) ∧ (0 ≤ ((4 * w23) + 2) ∧ ((4 * w23) + 2) < 12) ∧ (inI ((4 * w23) + 3)) ∧ (0 ≤ ((4 * w23) + 3) ∧ ((4 * w23) + 3) < 12) ∧ (w37 = 0 → TR mX10_happens 0 (0, 0) [(2, v0), (0, 2), (0, w8), (1, (μ36 ((rf L v0 19)) (((4 * w23) + 2)))), (1, (μ36 ((rf L v0 19)) (((4 * w23) + 3)))), (1, 0), (1, 1)] L μ36 (fun r44 L45 μ46 => r44 = none ∧ L = L45 ∧ WA mX10_trims 6 (0, 0) 250 [(2, v0), (0, w4), (0, w8), (0, w12), (0, w23), (9, 0), (9, 0), (9, 0), (9, 0), (9, 0), (0, w37), (1, (μ36 ((rf L v0 19)) (((4 * w23) + 2)))), (9, 0), (1, (μ36 ((rf L v0 19)) (((4 * w23) + 3)))), (9, 0), (9, 0), (9, 0), (9, 0)] [] L μ46 Q)) ∧ (¬ w37 = 0 → (0 ≤ (4 * w23) ∧ (4 * w23) < 12) ∧ (inI ((4 * w23) + 1)) ∧ (0 ≤ ((4 * w23) + 1) ∧ ((4 * w23) + 1) < 12) ∧ TR mX10_marksPoint 3 (0, 0) [(2, v0), (0, w8), (1, (μ36 ((rf L v0 19)) ((4 * w23)))), (1, (μ36 ((rf L v0 19)) (((4 * w23) + 1)))), (1, (μ36 v0 4)), (1, (μ36 v0 5)), (0, 0)] L μ36 (fun r50 L51 μ52 => r50 = none ∧ L = L51 ∧ ((μ52 v0 11) = 0 → (0 ≤ w8 ∧ w8 < 5) ∧ TR mX10_happens 0 (0, 0) [(2, v0), (0, 1), (0, w8), (1, (μ52 ((rf L v0 13)) w8)), (1, (μ52 ((rf L v0 14)) w8)), (1, (μ36 ((rf L v0 19)) (((4 * w23) + 2)))), (1, (μ36 ((rf L v0 19)) (((4 * w23) + 3))))] L μ52 (fun r56 L57 μ58 => r56 = none ∧ L = L57 ∧ WA mX10_trims 6 (0, 0) 250 [(2, v0), (0, w4), (0, w8), (0, w12), (0, w23), (9, 0), (9, 0), (9, 0), (9, 0), (9, 0), (0, w37), (1, (μ36 ((rf L v0 19)) (((4 * w23) + 2)))), (9, 0), (1, (μ36 ((rf L v0 19)) (((4 * w23) + 3)))), (9, 0), (9, 0), (9, 0), (9, 0)] [] L (up (up μ58 ((rf L v0 19)) (((4 * w23) + 2)) ((μ58 ((rf L v0 13)) w8))) ((rf L v0 19)) (((4 * w23) + 3)) (((up μ58 ((rf L v0 19)) (((4 * w23) + 2)) ((μ58 ((rf L v0 13)) w8))) ((rf L v0 14)) w8))) Q)) ∧ (¬ (μ52 v0 11) = 0 → Q none L μ52))))))))) ∧ (¬ (μ19 v0 11) = 0 → Q none L μ19))))))) : TR mX10_trims 6 (0, 0) [(2, v0)] L μ Q := by
  refine TR.of (ls := [(2, v0), (9, 0), (9, 0), (9, 0), (9, 0), (9, 0), (9, 0), (9, 0), (9, 0), (9, 0), (9, 0), (9, 0), (9, 0), (9, 0), (9, 0), (9, 0), (9, 0), (9, 0)]) (by decide) (by simp) rfl (Nat.le_of_ble_eq_true rfl) ?_
  refine wa_aload_n 1 dX10_trims_0 rfl rfl ?_
  refine wa_iconst 2 dX10_trims_1 rfl (by decide) ?_
  refine wa_callV 5 1 1 10 (av := [(0, 0)]) (rest := []) (k1 := (0, 0)) (k2 := (0, 0)) cvX10_ordered dX10_trims_2 rfl wM_X10_242 ⟨rfl, by decide, rfl, Nat.le_of_ble_eq_true rfl, by decide, Nat.le_of_ble_eq_true rfl, rfl, rfl⟩ rfl k0 (TR.mono h (fun r1 L2 μ3 h => ?_))
  obtain ⟨w4, rfl, rfl, h⟩ := h
  show WA mX10_trims 6 (0, 0) 5 [(2, v0), (9, 0), (9, 0), (9, 0), (9, 0), (9, 0), (9, 0), (9, 0), (9, 0), (9, 0), (9, 0), (9, 0), (9, 0), (9, 0), (9, 0), (9, 0), (9, 0), (9, 0)] [(0, w4)] L μ3 Q
  refine wa_istore_n 6 [(2, v0), (0, w4), (9, 0), (9, 0), (9, 0), (9, 0), (9, 0), (9, 0), (9, 0), (9, 0), (9, 0), (9, 0), (9, 0), (9, 0), (9, 0), (9, 0), (9, 0), (9, 0)] dX10_trims_5 rfl rfl rfl ?_
  refine wa_aload_n 7 dX10_trims_6 rfl rfl ?_
  refine wa_iconst 8 dX10_trims_7 rfl (by decide) ?_
  refine wa_callV 11 1 1 10 (av := [(0, 1)]) (rest := []) (k1 := (0, 0)) (k2 := (0, 0)) cvX10_ordered dX10_trims_8 rfl wM_X10_242 ⟨rfl, by decide, rfl, Nat.le_of_ble_eq_true rfl, by decide, Nat.le_of_ble_eq_true rfl, rfl, rfl⟩ rfl k0 (TR.mono h (fun r5 L6 μ7 h => ?_))
  obtain ⟨w8, rfl, rfl, h⟩ := h
  show WA mX10_trims 6 (0, 0) 11 [(2, v0), (0, w4), (9, 0), (9, 0), (9, 0), (9, 0), (9, 0), (9, 0), (9, 0), (9, 0), (9, 0), (9, 0), (9, 0), (9, 0), (9, 0), (9, 0), (9, 0), (9, 0)] [(0, w8)] L μ7 Q
  refine wa_istore_n 12 [(2, v0), (0, w4), (0, w8), (9, 0), (9, 0), (9, 0), (9, 0), (9, 0), (9, 0), (9, 0), (9, 0), (9, 0), (9, 0), (9, 0), (9, 0), (9, 0), (9, 0), (9, 0)] dX10_trims_11 rfl rfl rfl ?_
  refine wa_aload_n 13 dX10_trims_12 rfl rfl ?_
  refine wa_iconst 14 dX10_trims_13 rfl (by decide) ?_
  refine wa_callV 17 1 1 10 (av := [(0, 2)]) (rest := []) (k1 := (0, 0)) (k2 := (0, 0)) cvX10_ordered dX10_trims_14 rfl wM_X10_242 ⟨rfl, by decide, rfl, Nat.le_of_ble_eq_true rfl, by decide, Nat.le_of_ble_eq_true rfl, rfl, rfl⟩ rfl k0 (TR.mono h (fun r9 L10 μ11 h => ?_))
  obtain ⟨w12, rfl, rfl, h⟩ := h
  show WA mX10_trims 6 (0, 0) 17 [(2, v0), (0, w4), (0, w8), (9, 0), (9, 0), (9, 0), (9, 0), (9, 0), (9, 0), (9, 0), (9, 0), (9, 0), (9, 0), (9, 0), (9, 0), (9, 0), (9, 0), (9, 0)] [(0, w12)] L μ11 Q
  refine wa_istore_n 18 [(2, v0), (0, w4), (0, w8), (0, w12), (9, 0), (9, 0), (9, 0), (9, 0), (9, 0), (9, 0), (9, 0), (9, 0), (9, 0), (9, 0), (9, 0), (9, 0), (9, 0), (9, 0)] dX10_trims_17 rfl rfl rfl ?_
  refine wa_aload_n 19 dX10_trims_18 rfl rfl ?_
  refine wa_iload_n 20 dX10_trims_19 rfl rfl ?_
  refine wa_lconst 21 0 dX10_trims_20 rfl ⟨rfl, by decide⟩ ?_
  refine wa_lconst 22 1 dX10_trims_21 rfl ⟨rfl, by decide⟩ ?_
  refine wa_aload_n 23 dX10_trims_22 rfl rfl ?_
  refine wa_callV 26 0 0 10 (av := []) (rest := [(1, 1), (1, 0), (0, w4), (2, v0)]) (k1 := (0, 0)) (k2 := (0, 0)) cvX10_ends dX10_trims_23 rfl wM_X10_249 ⟨rfl, by decide, rfl, Nat.le_of_ble_eq_true rfl, by decide, Nat.le_of_ble_eq_true rfl, rfl, rfl⟩ rfl k0 (TR.mono h (fun r13 L14 μ15 h => ?_))
  obtain ⟨w16, rfl, rfl, h⟩ := h
  show WA mX10_trims 6 (0, 0) 26 [(2, v0), (0, w4), (0, w8), (0, w12), (9, 0), (9, 0), (9, 0), (9, 0), (9, 0), (9, 0), (9, 0), (9, 0), (9, 0), (9, 0), (9, 0), (9, 0), (9, 0), (9, 0)] [(1, w16), (1, 1), (1, 0), (0, w4), (2, v0)] L μ15 Q
  refine wa_lconst 27 1 dX10_trims_26 rfl ⟨rfl, by decide⟩ ?_
  refine wa_callV 30 4 5 10 (av := [(0, w4), (1, 0), (1, 1), (1, w16), (1, 1)]) (rest := []) (k1 := (0, 0)) (k2 := (0, 0)) cvX10_thirds dX10_trims_27 rfl wM_X10_287 ⟨rfl, by decide, rfl, Nat.le_of_ble_eq_true rfl, by decide, Nat.le_of_ble_eq_true rfl, rfl, rfl⟩ rfl k0 (TR.mono h (fun r17 L18 μ19 h => ?_))
  obtain ⟨rfl, rfl, h⟩ := h
  show WA mX10_trims 6 (0, 0) 30 [(2, v0), (0, w4), (0, w8), (0, w12), (9, 0), (9, 0), (9, 0), (9, 0), (9, 0), (9, 0), (9, 0), (9, 0), (9, 0), (9, 0), (9, 0), (9, 0), (9, 0), (9, 0)] [] L μ19 Q
  refine wa_aload_n 31 dX10_trims_30 rfl rfl ?_
  refine wa_getI 34 11 dX10_trims_31 rfl wF_X10_219 rfl rfl k0 ?_
  refine wa_if_eq 37 38 dX10_trims_34 rfl (by decide) (fun q => ?_) (fun q => ?_)
  · replace h := h.1 q
    refine wa_aload_n 39 dX10_trims_38 rfl rfl ?_
    refine wa_iload_n 40 dX10_trims_39 rfl rfl ?_
    refine wa_bipush 42 dX10_trims_40 rfl ⟨by decide, by decide⟩ ?_
    refine wa_callV 45 4 2 10 (av := [(0, w8), (0, 7)]) (rest := []) (k1 := (0, 0)) (k2 := (0, 0)) cvX10_mostFor dX10_trims_42 rfl wM_X10_290 ⟨rfl, by decide, rfl, Nat.le_of_ble_eq_true rfl, by decide, Nat.le_of_ble_eq_true rfl, rfl, rfl⟩ rfl k0 (TR.mono h (fun r20 L21 μ22 h => ?_))
    obtain ⟨w23, rfl, rfl, h⟩ := h
    show WA mX10_trims 6 (0, 0) 45 [(2, v0), (0, w4), (0, w8), (0, w12), (9, 0), (9, 0), (9, 0), (9, 0), (9, 0), (9, 0), (9, 0), (9, 0), (9, 0), (9, 0), (9, 0), (9, 0), (9, 0), (9, 0)] [(0, w23)] L μ22 Q
    refine wa_istore 47 [(2, v0), (0, w4), (0, w8), (0, w12), (0, w23), (9, 0), (9, 0), (9, 0), (9, 0), (9, 0), (9, 0), (9, 0), (9, 0), (9, 0), (9, 0), (9, 0), (9, 0), (9, 0)] dX10_trims_45 rfl rfl rfl ?_
    refine wa_aload_n 48 dX10_trims_47 rfl rfl ?_
    refine wa_iload_n 49 dX10_trims_48 rfl rfl ?_
    refine wa_bipush 51 dX10_trims_49 rfl ⟨by decide, by decide⟩ ?_
    refine wa_iconst 52 dX10_trims_51 rfl (by decide) ?_
    refine wa_iload 54 dX10_trims_52 rfl rfl ?_
    refine wa_ishl 55 dX10_trims_54 rfl ?_
    refine wa_iconst 56 dX10_trims_55 rfl (by decide) ?_
    refine wa_ixor 57 dX10_trims_56 rfl ?_
    refine wa_iand 58 dX10_trims_57 rfl ?_
    refine wa_callV 61 4 2 10 (av := [(0, w8), (0, (bAnd 7 ((bXor ((bShl 1 w23)) ((-1))))))]) (rest := []) (k1 := (0, 0)) (k2 := (0, 0)) cvX10_mostFor dX10_trims_58 rfl wM_X10_290 ⟨rfl, by decide, rfl, Nat.le_of_ble_eq_true rfl, by decide, Nat.le_of_ble_eq_true rfl, rfl, rfl⟩ rfl k0 (TR.mono h (fun r24 L25 μ26 h => ?_))
    obtain ⟨w27, rfl, rfl, h⟩ := h
    show WA mX10_trims 6 (0, 0) 61 [(2, v0), (0, w4), (0, w8), (0, w12), (0, w23), (9, 0), (9, 0), (9, 0), (9, 0), (9, 0), (9, 0), (9, 0), (9, 0), (9, 0), (9, 0), (9, 0), (9, 0), (9, 0)] [(0, w27)] L μ26 Q
    refine wa_istore 63 [(2, v0), (0, w4), (0, w8), (0, w12), (0, w23), (0, w27), (9, 0), (9, 0), (9, 0), (9, 0), (9, 0), (9, 0), (9, 0), (9, 0), (9, 0), (9, 0), (9, 0), (9, 0)] dX10_trims_61 rfl rfl rfl ?_
    refine wa_aload_n 64 dX10_trims_63 rfl rfl ?_
    refine wa_iload_n 65 dX10_trims_64 rfl rfl ?_
    refine wa_iload 67 dX10_trims_65 rfl rfl ?_
    refine wa_callV 70 3 2 10 (av := [(0, w8), (0, w23)]) (rest := []) (k1 := (0, 0)) (k2 := (0, 0)) cvX10_worthOfPiece dX10_trims_67 rfl wM_X10_281 ⟨rfl, by decide, rfl, Nat.le_of_ble_eq_true rfl, by decide, Nat.le_of_ble_eq_true rfl, rfl, rfl⟩ rfl k0 (TR.mono h (fun r28 L29 μ30 h => ?_))
    obtain ⟨rfl, rfl, h⟩ := h
    show WA mX10_trims 6 (0, 0) 70 [(2, v0), (0, w4), (0, w8), (0, w12), (0, w23), (0, w27), (9, 0), (9, 0), (9, 0), (9, 0), (9, 0), (9, 0), (9, 0), (9, 0), (9, 0), (9, 0), (9, 0), (9, 0)] [] L μ30 Q
    refine wa_aload_n 71 dX10_trims_70 rfl rfl ?_
    refine wa_getL 74 4 dX10_trims_71 rfl wF_X10_99 rfl rfl k0 ?_
    refine wa_lstore 76 [(2, v0), (0, w4), (0, w8), (0, w12), (0, w23), (0, w27), (1, (μ30 v0 4)), (9, 0), (9, 0), (9, 0), (9, 0), (9, 0), (9, 0), (9, 0), (9, 0), (9, 0), (9, 0), (9, 0)] dX10_trims_74 rfl rfl rfl ?_
    refine wa_aload_n 77 dX10_trims_76 rfl rfl ?_
    refine wa_getL 80 5 dX10_trims_77 rfl wF_X10_103 rfl rfl k0 ?_
    refine wa_lstore 82 [(2, v0), (0, w4), (0, w8), (0, w12), (0, w23), (0, w27), (1, (μ30 v0 4)), (9, 0), (1, (μ30 v0 5)), (9, 0), (9, 0), (9, 0), (9, 0), (9, 0), (9, 0), (9, 0), (9, 0), (9, 0)] dX10_trims_80 rfl rfl rfl ?_
    refine wa_aload_n 83 dX10_trims_82 rfl rfl ?_
    refine wa_iload_n 84 dX10_trims_83 rfl rfl ?_
    refine wa_iload 86 dX10_trims_84 rfl rfl ?_
    refine wa_callV 89 3 2 10 (av := [(0, w8), (0, w27)]) (rest := []) (k1 := (0, 0)) (k2 := (0, 0)) cvX10_worthOfPiece dX10_trims_86 rfl wM_X10_281 ⟨rfl, by decide, rfl, Nat.le_of_ble_eq_true rfl, by decide, Nat.le_of_ble_eq_true rfl, rfl, rfl⟩ rfl k0 (TR.mono h (fun r31 L32 μ33 h => ?_))
    obtain ⟨rfl, rfl, h⟩ := h
    show WA mX10_trims 6 (0, 0) 89 [(2, v0), (0, w4), (0, w8), (0, w12), (0, w23), (0, w27), (1, (μ30 v0 4)), (9, 0), (1, (μ30 v0 5)), (9, 0), (9, 0), (9, 0), (9, 0), (9, 0), (9, 0), (9, 0), (9, 0), (9, 0)] [] L μ33 Q
    refine wa_aload_n 90 dX10_trims_89 rfl rfl ?_
    refine wa_getL 93 4 dX10_trims_90 rfl wF_X10_99 rfl rfl k0 ?_
    refine wa_aload_n 94 dX10_trims_93 rfl rfl ?_
    refine wa_getL 97 5 dX10_trims_94 rfl wF_X10_103 rfl rfl k0 ?_
    refine wa_lload 99 dX10_trims_97 rfl rfl ?_
    refine wa_lload 101 dX10_trims_99 rfl rfl ?_
    refine wa_callS 104 0 4 (av := [(1, (μ33 v0 4)), (1, (μ33 v0 5)), (1, (μ30 v0 4)), (1, (μ30 v0 5))]) (rest := []) (k1 := (0, 0)) (k2 := (0, 0)) cvX10_isLess dX10_trims_101 rfl wM_X10_199 ⟨rfl, Nat.le_of_ble_eq_true rfl, by decide, Nat.le_of_ble_eq_true rfl, rfl, rfl⟩ rfl (TR.mono h (fun r34 L35 μ36 h => ?_))
    obtain ⟨w37, rfl, rfl, h⟩ := h
    show WA mX10_trims 6 (0, 0) 104 [(2, v0), (0, w4), (0, w8), (0, w12), (0, w23), (0, w27), (1, (μ30 v0 4)), (9, 0), (1, (μ30 v0 5)), (9, 0), (9, 0), (9, 0), (9, 0), (9, 0), (9, 0), (9, 0), (9, 0), (9, 0)] [(0, w37)] L μ36 Q
    refine wa_istore 106 [(2, v0), (0, w4), (0, w8), (0, w12), (0, w23), (0, w27), (1, (μ30 v0 4)), (9, 0), (1, (μ30 v0 5)), (9, 0), (0, w37), (9, 0), (9, 0), (9, 0), (9, 0), (9, 0), (9, 0), (9, 0)] dX10_trims_104 rfl rfl rfl ?_
    refine wa_aload_n 107 dX10_trims_106 rfl rfl ?_
    have e38 : isK L (rf L v0 19) (21, 12) := lay_f hL k0 19 rfl
    refine wa_getR 110 19 dX10_trims_107 rfl wF_X10_37 rfl rfl ⟨k0, isK_pos e38⟩ ?_
    refine wa_iconst 111 dX10_trims_110 rfl (by decide) ?_
    refine wa_iload 113 dX10_trims_111 rfl rfl ?_
    obtain ⟨c39, h⟩ := h
    refine wa_imul 114 dX10_trims_113 rfl c39 ?_
    refine wa_iconst 115 dX10_trims_114 rfl (by decide) ?_
    obtain ⟨c40, h⟩ := h
    refine wa_iadd 116 dX10_trims_115 rfl c40 ?_
    obtain ⟨c41, h⟩ := h
    refine wa_laload 117 dX10_trims_116 rfl (okA_of e38 c41) ?_
    refine wa_lstore 119 [(2, v0), (0, w4), (0, w8), (0, w12), (0, w23), (0, w27), (1, (μ30 v0 4)), (9, 0), (1, (μ30 v0 5)), (9, 0), (0, w37), (1, (μ36 ((rf L v0 19)) (((4 * w23) + 2)))), (9, 0), (9, 0), (9, 0), (9, 0), (9, 0), (9, 0)] dX10_trims_117 rfl rfl rfl ?_
    refine wa_aload_n 120 dX10_trims_119 rfl rfl ?_
    refine wa_getR 123 19 dX10_trims_120 rfl wF_X10_37 rfl rfl ⟨k0, isK_pos e38⟩ ?_
    refine wa_iconst 124 dX10_trims_123 rfl (by decide) ?_
    refine wa_iload 126 dX10_trims_124 rfl rfl ?_
    refine wa_imul 127 dX10_trims_126 rfl c39 ?_
    refine wa_iconst 128 dX10_trims_127 rfl (by decide) ?_
    obtain ⟨c42, h⟩ := h
    refine wa_iadd 129 dX10_trims_128 rfl c42 ?_
    obtain ⟨c43, h⟩ := h
    refine wa_laload 130 dX10_trims_129 rfl (okA_of e38 c43) ?_
    refine wa_lstore 132 [(2, v0), (0, w4), (0, w8), (0, w12), (0, w23), (0, w27), (1, (μ30 v0 4)), (9, 0), (1, (μ30 v0 5)), (9, 0), (0, w37), (1, (μ36 ((rf L v0 19)) (((4 * w23) + 2)))), (9, 0), (1, (μ36 ((rf L v0 19)) (((4 * w23) + 3)))), (9, 0), (9, 0), (9, 0), (9, 0)] dX10_trims_130 rfl rfl rfl ?_
    refine wa_iload 134 dX10_trims_132 rfl rfl ?_
    refine wa_if_eq 137 238 dX10_trims_134 rfl (by decide) (fun q => ?_) (fun q => ?_)
    · replace h := h.1 q
      refine wa_aload_n 239 dX10_trims_238 rfl rfl ?_
      refine wa_iconst 240 dX10_trims_239 rfl (by decide) ?_
      refine wa_iload_n 241 dX10_trims_240 rfl rfl ?_
      refine wa_lload 243 dX10_trims_241 rfl rfl ?_
      refine wa_lload 245 dX10_trims_243 rfl rfl ?_
      refine wa_lconst 246 0 dX10_trims_245 rfl ⟨rfl, by decide⟩ ?_
      refine wa_lconst 247 1 dX10_trims_246 rfl ⟨rfl, by decide⟩ ?_
      refine wa_callV 250 0 6 10 (av := [(0, 2), (0, w8), (1, (μ36 ((rf L v0 19)) (((4 * w23) + 2)))), (1, (μ36 ((rf L v0 19)) (((4 * w23) + 3)))), (1, 0), (1, 1)]) (rest := []) (k1 := (0, 0)) (k2 := (0, 0)) cvX10_happens dX10_trims_247 rfl wM_X10_239 ⟨rfl, by decide, rfl, Nat.le_of_ble_eq_true rfl, by decide, Nat.le_of_ble_eq_true rfl, rfl, rfl⟩ rfl k0 (TR.mono h (fun r44 L45 μ46 h => ?_))
      obtain ⟨rfl, rfl, h⟩ := h
      show WA mX10_trims 6 (0, 0) 250 [(2, v0), (0, w4), (0, w8), (0, w12), (0, w23), (0, w27), (1, (μ30 v0 4)), (9, 0), (1, (μ30 v0 5)), (9, 0), (0, w37), (1, (μ36 ((rf L v0 19)) (((4 * w23) + 2)))), (9, 0), (1, (μ36 ((rf L v0 19)) (((4 * w23) + 3)))), (9, 0), (9, 0), (9, 0), (9, 0)] [] L μ46 Q
      exact wa_weak [(2, v0), (0, w4), (0, w8), (0, w12), (0, w23), (9, 0), (9, 0), (9, 0), (9, 0), (9, 0), (0, w37), (1, (μ36 ((rf L v0 19)) (((4 * w23) + 2)))), (9, 0), (1, (μ36 ((rf L v0 19)) (((4 * w23) + 3)))), (9, 0), (9, 0), (9, 0), (9, 0)] ⟨Or.inl rfl, Or.inl rfl, Or.inl rfl, Or.inl rfl, Or.inl rfl, Or.inr rfl, Or.inr rfl, Or.inl rfl, Or.inr rfl, Or.inl rfl, Or.inl rfl, Or.inl rfl, Or.inl rfl, Or.inl rfl, Or.inl rfl, Or.inl rfl, Or.inl rfl, Or.inl rfl, trivial⟩ h
    · replace h := h.2 q
      refine wa_aload_n 138 dX10_trims_137 rfl rfl ?_
      refine wa_iload_n 139 dX10_trims_138 rfl rfl ?_
      refine wa_aload_n 140 dX10_trims_139 rfl rfl ?_
      refine wa_getR 143 19 dX10_trims_140 rfl wF_X10_37 rfl rfl ⟨k0, isK_pos e38⟩ ?_
      refine wa_iconst 144 dX10_trims_143 rfl (by decide) ?_
      refine wa_iload 146 dX10_trims_144 rfl rfl ?_
      refine wa_imul 147 dX10_trims_146 rfl c39 ?_
      obtain ⟨c47, h⟩ := h
      refine wa_laload 148 dX10_trims_147 rfl (okA_of e38 c47) ?_
      refine wa_aload_n 149 dX10_trims_148 rfl rfl ?_
      refine wa_getR 152 19 dX10_trims_149 rfl wF_X10_37 rfl rfl ⟨k0, isK_pos e38⟩ ?_
      refine wa_iconst 153 dX10_trims_152 rfl (by decide) ?_
      refine wa_iload 155 dX10_trims_153 rfl rfl ?_
      refine wa_imul 156 dX10_trims_155 rfl c39 ?_
      refine wa_iconst 157 dX10_trims_156 rfl (by decide) ?_
      obtain ⟨c48, h⟩ := h
      refine wa_iadd 158 dX10_trims_157 rfl c48 ?_
      obtain ⟨c49, h⟩ := h
      refine wa_laload 159 dX10_trims_158 rfl (okA_of e38 c49) ?_
      refine wa_aload_n 160 dX10_trims_159 rfl rfl ?_
      refine wa_getL 163 4 dX10_trims_160 rfl wF_X10_99 rfl rfl k0 ?_
      refine wa_aload_n 164 dX10_trims_163 rfl rfl ?_
      refine wa_getL 167 5 dX10_trims_164 rfl wF_X10_103 rfl rfl k0 ?_
      refine wa_iconst 168 dX10_trims_167 rfl (by decide) ?_
      refine wa_callV 171 3 6 10 (av := [(0, w8), (1, (μ36 ((rf L v0 19)) ((4 * w23)))), (1, (μ36 ((rf L v0 19)) (((4 * w23) + 1)))), (1, (μ36 v0 4)), (1, (μ36 v0 5)), (0, 0)]) (rest := []) (k1 := (0, 0)) (k2 := (0, 0)) cvX10_marksPoint dX10_trims_168 rfl wM_X10_245 ⟨rfl, by decide, rfl, Nat.le_of_ble_eq_true rfl, by decide, Nat.le_of_ble_eq_true rfl, rfl, rfl⟩ rfl k0 (TR.mono h (fun r50 L51 μ52 h => ?_))
      obtain ⟨rfl, rfl, h⟩ := h
      show WA mX10_trims 6 (0, 0) 171 [(2, v0), (0, w4), (0, w8), (0, w12), (0, w23), (0, w27), (1, (μ30 v0 4)), (9, 0), (1, (μ30 v0 5)), (9, 0), (0, w37), (1, (μ36 ((rf L v0 19)) (((4 * w23) + 2)))), (9, 0), (1, (μ36 ((rf L v0 19)) (((4 * w23) + 3)))), (9, 0), (9, 0), (9, 0), (9, 0)] [] L μ52 Q
      refine wa_aload_n 172 dX10_trims_171 rfl rfl ?_
      refine wa_getI 175 11 dX10_trims_172 rfl wF_X10_219 rfl rfl k0 ?_
      refine wa_if_eq 178 179 dX10_trims_175 rfl (by decide) (fun q => ?_) (fun q => ?_)
      · replace h := h.1 q
        refine wa_aload_n 180 dX10_trims_179 rfl rfl ?_
        refine wa_iconst 181 dX10_trims_180 rfl (by decide) ?_
        refine wa_iload_n 182 dX10_trims_181 rfl rfl ?_
        refine wa_aload_n 183 dX10_trims_182 rfl rfl ?_
        have e53 : isK L (rf L v0 13) (21, 5) := lay_f hL k0 13 rfl
        refine wa_getR 186 13 dX10_trims_183 rfl wF_X10_25 rfl rfl ⟨k0, isK_pos e53⟩ ?_
        refine wa_iload_n 187 dX10_trims_186 rfl rfl ?_
        obtain ⟨c54, h⟩ := h
        refine wa_laload 188 dX10_trims_187 rfl (okA_of e53 c54) ?_
        refine wa_aload_n 189 dX10_trims_188 rfl rfl ?_
        have e55 : isK L (rf L v0 14) (21, 5) := lay_f hL k0 14 rfl
        refine wa_getR 192 14 dX10_trims_189 rfl wF_X10_28 rfl rfl ⟨k0, isK_pos e55⟩ ?_
        refine wa_iload_n 193 dX10_trims_192 rfl rfl ?_
        refine wa_laload 194 dX10_trims_193 rfl (okA_of e55 c54) ?_
        refine wa_lload 196 dX10_trims_194 rfl rfl ?_
        refine wa_lload 198 dX10_trims_196 rfl rfl ?_
        refine wa_callV 201 0 6 10 (av := [(0, 1), (0, w8), (1, (μ52 ((rf L v0 13)) w8)), (1, (μ52 ((rf L v0 14)) w8)), (1, (μ36 ((rf L v0 19)) (((4 * w23) + 2)))), (1, (μ36 ((rf L v0 19)) (((4 * w23) + 3))))]) (rest := []) (k1 := (0, 0)) (k2 := (0, 0)) cvX10_happens dX10_trims_198 rfl wM_X10_239 ⟨rfl, by decide, rfl, Nat.le_of_ble_eq_true rfl, by decide, Nat.le_of_ble_eq_true rfl, rfl, rfl⟩ rfl k0 (TR.mono h (fun r56 L57 μ58 h => ?_))
        obtain ⟨rfl, rfl, h⟩ := h
        show WA mX10_trims 6 (0, 0) 201 [(2, v0), (0, w4), (0, w8), (0, w12), (0, w23), (0, w27), (1, (μ30 v0 4)), (9, 0), (1, (μ30 v0 5)), (9, 0), (0, w37), (1, (μ36 ((rf L v0 19)) (((4 * w23) + 2)))), (9, 0), (1, (μ36 ((rf L v0 19)) (((4 * w23) + 3)))), (9, 0), (9, 0), (9, 0), (9, 0)] [] L μ58 Q
        refine wa_aload_n 202 dX10_trims_201 rfl rfl ?_
        refine wa_getR 205 19 dX10_trims_202 rfl wF_X10_37 rfl rfl ⟨k0, isK_pos e38⟩ ?_
        refine wa_iconst 206 dX10_trims_205 rfl (by decide) ?_
        refine wa_iload 208 dX10_trims_206 rfl rfl ?_
        refine wa_imul 209 dX10_trims_208 rfl c39 ?_
        refine wa_iconst 210 dX10_trims_209 rfl (by decide) ?_
        refine wa_iadd 211 dX10_trims_210 rfl c40 ?_
        refine wa_aload_n 212 dX10_trims_211 rfl rfl ?_
        refine wa_getR 215 13 dX10_trims_212 rfl wF_X10_25 rfl rfl ⟨k0, isK_pos e53⟩ ?_
        refine wa_iload_n 216 dX10_trims_215 rfl rfl ?_
        refine wa_laload 217 dX10_trims_216 rfl (okA_of e53 c54) ?_
        refine wa_lastore 218 dX10_trims_217 rfl (okA_of e38 c41) ?_
        refine wa_aload_n 219 dX10_trims_218 rfl rfl ?_
        refine wa_getR 222 19 dX10_trims_219 rfl wF_X10_37 rfl rfl ⟨k0, isK_pos e38⟩ ?_
        refine wa_iconst 223 dX10_trims_222 rfl (by decide) ?_
        refine wa_iload 225 dX10_trims_223 rfl rfl ?_
        refine wa_imul 226 dX10_trims_225 rfl c39 ?_
        refine wa_iconst 227 dX10_trims_226 rfl (by decide) ?_
        refine wa_iadd 228 dX10_trims_227 rfl c42 ?_
        refine wa_aload_n 229 dX10_trims_228 rfl rfl ?_
        refine wa_getR 232 14 dX10_trims_229 rfl wF_X10_28 rfl rfl ⟨k0, isK_pos e55⟩ ?_
        refine wa_iload_n 233 dX10_trims_232 rfl rfl ?_
        refine wa_laload 234 dX10_trims_233 rfl (okA_of e55 c54) ?_
        refine wa_lastore 235 dX10_trims_234 rfl (okA_of e38 c43) ?_
        refine wa_goto 250 dX10_trims_235 (by decide) ?_
        exact wa_weak [(2, v0), (0, w4), (0, w8), (0, w12), (0, w23), (9, 0), (9, 0), (9, 0), (9, 0), (9, 0), (0, w37), (1, (μ36 ((rf L v0 19)) (((4 * w23) + 2)))), (9, 0), (1, (μ36 ((rf L v0 19)) (((4 * w23) + 3)))), (9, 0), (9, 0), (9, 0), (9, 0)] ⟨Or.inl rfl, Or.inl rfl, Or.inl rfl, Or.inl rfl, Or.inl rfl, Or.inr rfl, Or.inr rfl, Or.inl rfl, Or.inr rfl, Or.inl rfl, Or.inl rfl, Or.inl rfl, Or.inl rfl, Or.inl rfl, Or.inl rfl, Or.inl rfl, Or.inl rfl, Or.inl rfl, trivial⟩ h
      · replace h := h.2 q
        exact wa_vret dX10_trims_178 rfl h
  · replace h := h.2 q
    exact wa_vret dX10_trims_37 rfl h
set_option maxRecDepth 20000 in
theorem s_X10_trims_250 (hL : LayOK L) {v0 v1 v2 v3 v4 v10 v11 v13 : Int} (k0 : isK L v0 (10, 0)) (h : TR mX10_mostFor 4 (0, 0) [(2, v0), (0, v3), (0, 7)] L μ (fun r1 L2 μ3 => ∃ w4, r1 = some (0, w4) ∧ L = L2 ∧ TR mX10_takesPiece 2 (0, 0) [(2, v0), (0, v3), (0, w4)] L μ3 (fun r5 L6 μ7 => r5 = none ∧ L = L6 ∧ (v10 = 0 → TR mX10_mostFor 4 (0, 0) [(2, v0), (0, v2), (0, (bAnd 7 ((bXor ((bShl 1 w4)) ((-1))))))] L μ7 (fun r8 L9 μ10 => ∃ w11, r8 = some (0, w11) ∧ L = L9 ∧ WA mX10_trims 6 (0, 0) 301 [(2, v0), (0, v1), (0, v2), (0, v3), (0, v4), (9, 0), (9, 0), (9, 0), (9, 0), (9, 0), (0, v10), (1, v11), (9, 0), (1, v13), (9, 0), (0, w4), (0, (bAnd 7 ((bXor ((bShl 1 w4)) ((-1)))))), (9, 0)] [(0, w11)] L μ10 Q)) ∧ (¬ v10 = 0 → (w4 = v4 → TR mX10_mostFor 4 (0, 0) [(2, v0), (0, v2), (0, (bAnd 7 ((bXor ((bShl 1 w4)) ((-1))))))] L μ7 (fun r12 L13 μ14 => ∃ w15, r12 = some (0, w15) ∧ L = L13 ∧ WA mX10_trims 6 (0, 0) 301 [(2, v0), (0, v1), (0, v2), (0, v3), (0, v4), (9, 0), (9, 0), (9, 0), (9, 0), (9, 0), (0, v10), (1, v11), (9, 0), (1, v13), (9, 0), (0, w4), (0, (bAnd 7 ((bXor ((bShl 1 w4)) ((-1)))))), (9, 0)] [(0, w15)] L μ14 Q)) ∧ (¬ w4 = v4 → WA mX10_trims 6 (0, 0) 301 [(2, v0), (0, v1), (0, v2), (0, v3), (0, v4), (9, 0), (9, 0), (9, 0), (9, 0), (9, 0), (0, v10), (1, v11), (9, 0), (1, v13), (9, 0), (0, w4), (0, (bAnd 7 ((bXor ((bShl 1 w4)) ((-1)))))), (9, 0)] [(0, v4)] L μ7 Q))))) : WA mX10_trims 6 (0, 0) 250 [(2, v0), (0, v1), (0, v2), (0, v3), (0, v4), (9, 0), (9, 0), (9, 0), (9, 0), (9, 0), (0, v10), (1, v11), (9, 0), (1, v13), (9, 0), (9, 0), (9, 0), (9, 0)] [] L μ Q := by
  refine wa_aload_n 251 dX10_trims_250 rfl rfl ?_
  refine wa_iload_n 252 dX10_trims_251 rfl rfl ?_
  refine wa_bipush 254 dX10_trims_252 rfl ⟨by decide, by decide⟩ ?_
  refine wa_callV 257 4 2 10 (av := [(0, v3), (0, 7)]) (rest := []) (k1 := (0, 0)) (k2 := (0, 0)) cvX10_mostFor dX10_trims_254 rfl wM_X10_290 ⟨rfl, by decide, rfl, Nat.le_of_ble_eq_true rfl, by decide, Nat.le_of_ble_eq_true rfl, rfl, rfl⟩ rfl k0 (TR.mono h (fun r1 L2 μ3 h => ?_))
  obtain ⟨w4, rfl, rfl, h⟩ := h
  show WA mX10_trims 6 (0, 0) 257 [(2, v0), (0, v1), (0, v2), (0, v3), (0, v4), (9, 0), (9, 0), (9, 0), (9, 0), (9, 0), (0, v10), (1, v11), (9, 0), (1, v13), (9, 0), (9, 0), (9, 0), (9, 0)] [(0, w4)] L μ3 Q
  refine wa_istore 259 [(2, v0), (0, v1), (0, v2), (0, v3), (0, v4), (9, 0), (9, 0), (9, 0), (9, 0), (9, 0), (0, v10), (1, v11), (9, 0), (1, v13), (9, 0), (0, w4), (9, 0), (9, 0)] dX10_trims_257 rfl rfl rfl ?_
  refine wa_aload_n 260 dX10_trims_259 rfl rfl ?_
  refine wa_iload_n 261 dX10_trims_260 rfl rfl ?_
  refine wa_iload 263 dX10_trims_261 rfl rfl ?_
  refine wa_callV 266 2 2 10 (av := [(0, v3), (0, w4)]) (rest := []) (k1 := (0, 0)) (k2 := (0, 0)) cvX10_takesPiece dX10_trims_263 rfl wM_X10_294 ⟨rfl, by decide, rfl, Nat.le_of_ble_eq_true rfl, by decide, Nat.le_of_ble_eq_true rfl, rfl, rfl⟩ rfl k0 (TR.mono h (fun r5 L6 μ7 h => ?_))
  obtain ⟨rfl, rfl, h⟩ := h
  show WA mX10_trims 6 (0, 0) 266 [(2, v0), (0, v1), (0, v2), (0, v3), (0, v4), (9, 0), (9, 0), (9, 0), (9, 0), (9, 0), (0, v10), (1, v11), (9, 0), (1, v13), (9, 0), (0, w4), (9, 0), (9, 0)] [] L μ7 Q
  refine wa_bipush 268 dX10_trims_266 rfl ⟨by decide, by decide⟩ ?_
  refine wa_iconst 269 dX10_trims_268 rfl (by decide) ?_
  refine wa_iload 271 dX10_trims_269 rfl rfl ?_
  refine wa_ishl 272 dX10_trims_271 rfl ?_
  refine wa_iconst 273 dX10_trims_272 rfl (by decide) ?_
  refine wa_ixor 274 dX10_trims_273 rfl ?_
  refine wa_iand 275 dX10_trims_274 rfl ?_
  refine wa_istore 277 [(2, v0), (0, v1), (0, v2), (0, v3), (0, v4), (9, 0), (9, 0), (9, 0), (9, 0), (9, 0), (0, v10), (1, v11), (9, 0), (1, v13), (9, 0), (0, w4), (0, (bAnd 7 ((bXor ((bShl 1 w4)) ((-1)))))), (9, 0)] dX10_trims_275 rfl rfl rfl ?_
  refine wa_iload 279 dX10_trims_277 rfl rfl ?_
  refine wa_if_eq 282 294 dX10_trims_279 rfl (by decide) (fun q => ?_) (fun q => ?_)
  · replace h := h.1 q
    refine wa_aload_n 295 dX10_trims_294 rfl rfl ?_
    refine wa_iload_n 296 dX10_trims_295 rfl rfl ?_
    refine wa_iload 298 dX10_trims_296 rfl rfl ?_
    refine wa_callV 301 4 2 10 (av := [(0, v2), (0, (bAnd 7 ((bXor ((bShl 1 w4)) ((-1))))))]) (rest := []) (k1 := (0, 0)) (k2 := (0, 0)) cvX10_mostFor dX10_trims_298 rfl wM_X10_290 ⟨rfl, by decide, rfl, Nat.le_of_ble_eq_true rfl, by decide, Nat.le_of_ble_eq_true rfl, rfl, rfl⟩ rfl k0 (TR.mono h (fun r8 L9 μ10 h => ?_))
    obtain ⟨w11, rfl, rfl, h⟩ := h
    show WA mX10_trims 6 (0, 0) 301 [(2, v0), (0, v1), (0, v2), (0, v3), (0, v4), (9, 0), (9, 0), (9, 0), (9, 0), (9, 0), (0, v10), (1, v11), (9, 0), (1, v13), (9, 0), (0, w4), (0, (bAnd 7 ((bXor ((bShl 1 w4)) ((-1)))))), (9, 0)] [(0, w11)] L μ10 Q
    exact h
  · replace h := h.2 q
    refine wa_iload 284 dX10_trims_282 rfl rfl ?_
    refine wa_iload 286 dX10_trims_284 rfl rfl ?_
    refine wa_icmp_eq 289 294 dX10_trims_286 rfl (by decide) (fun q => ?_) (fun q => ?_)
    · replace h := h.1 q
      refine wa_aload_n 295 dX10_trims_294 rfl rfl ?_
      refine wa_iload_n 296 dX10_trims_295 rfl rfl ?_
      refine wa_iload 298 dX10_trims_296 rfl rfl ?_
      refine wa_callV 301 4 2 10 (av := [(0, v2), (0, (bAnd 7 ((bXor ((bShl 1 w4)) ((-1))))))]) (rest := []) (k1 := (0, 0)) (k2 := (0, 0)) cvX10_mostFor dX10_trims_298 rfl wM_X10_290 ⟨rfl, by decide, rfl, Nat.le_of_ble_eq_true rfl, by decide, Nat.le_of_ble_eq_true rfl, rfl, rfl⟩ rfl k0 (TR.mono h (fun r12 L13 μ14 h => ?_))
      obtain ⟨w15, rfl, rfl, h⟩ := h
      show WA mX10_trims 6 (0, 0) 301 [(2, v0), (0, v1), (0, v2), (0, v3), (0, v4), (9, 0), (9, 0), (9, 0), (9, 0), (9, 0), (0, v10), (1, v11), (9, 0), (1, v13), (9, 0), (0, w4), (0, (bAnd 7 ((bXor ((bShl 1 w4)) ((-1)))))), (9, 0)] [(0, w15)] L μ14 Q
      exact h
    · replace h := h.2 q
      refine wa_iload 291 dX10_trims_289 rfl rfl ?_
      refine wa_goto 301 dX10_trims_291 (by decide) ?_
      exact h
set_option maxRecDepth 20000 in
theorem s_X10_trims_301 (hL : LayOK L) {v0 v1 v2 v3 v4 v10 v11 v13 v15 v16 s0 : Int} (k0 : isK L v0 (10, 0)) (h : TR mX10_takesPiece 2 (0, 0) [(2, v0), (0, v2), (0, s0)] L μ (fun r1 L2 μ3 => r1 = none ∧ L = L2 ∧ TR mX10_mostFor 4 (0, 0) [(2, v0), (0, v1), (0, (bAnd v16 ((bXor ((bShl 1 s0)) ((-1))))))] L μ3 (fun r4 L5 μ6 => ∃ w7, r4 = some (0, w7) ∧ L = L5 ∧ TR mX10_takesPiece 2 (0, 0) [(2, v0), (0, v1), (0, w7)] L μ6 (fun r8 L9 μ10 => r8 = none ∧ L = L9 ∧ (v10 = 0 → Q none L μ10) ∧ (¬ v10 = 0 → (¬ v15 = v4 → (¬ v15 = v4 → WA mX10_trims 6 (0, 0) 360 [(2, v0), (9, 0), (9, 0), (9, 0), (0, v4), (9, 0), (9, 0), (9, 0), (9, 0), (9, 0), (9, 0), (1, v11), (9, 0), (1, v13), (9, 0), (9, 0), (9, 0), (9, 0)] [(0, v3), (0, v2), (0, v1), (2, v0)] L μ10 Q) ∧ (v15 = v4 → WA mX10_trims 6 (0, 0) 360 [(2, v0), (9, 0), (9, 0), (9, 0), (0, v4), (9, 0), (9, 0), (9, 0), (9, 0), (9, 0), (9, 0), (1, v11), (9, 0), (1, v13), (9, 0), (9, 0), (9, 0), (9, 0)] [(0, v2), (0, v2), (0, v1), (2, v0)] L μ10 Q)) ∧ (v15 = v4 → (¬ v15 = v4 → WA mX10_trims 6 (0, 0) 360 [(2, v0), (9, 0), (9, 0), (9, 0), (0, v4), (9, 0), (9, 0), (9, 0), (9, 0), (9, 0), (9, 0), (1, v11), (9, 0), (1, v13), (9, 0), (9, 0), (9, 0), (9, 0)] [(0, v3), (0, v3), (0, v1), (2, v0)] L μ10 Q) ∧ (v15 = v4 → WA mX10_trims 6 (0, 0) 360 [(2, v0), (9, 0), (9, 0), (9, 0), (0, v4), (9, 0), (9, 0), (9, 0), (9, 0), (9, 0), (9, 0), (1, v11), (9, 0), (1, v13), (9, 0), (9, 0), (9, 0), (9, 0)] [(0, v2), (0, v3), (0, v1), (2, v0)] L μ10 Q))))))) : WA mX10_trims 6 (0, 0) 301 [(2, v0), (0, v1), (0, v2), (0, v3), (0, v4), (9, 0), (9, 0), (9, 0), (9, 0), (9, 0), (0, v10), (1, v11), (9, 0), (1, v13), (9, 0), (0, v15), (0, v16), (9, 0)] [(0, s0)] L μ Q := by
  refine wa_istore 303 [(2, v0), (0, v1), (0, v2), (0, v3), (0, v4), (9, 0), (9, 0), (9, 0), (9, 0), (9, 0), (0, v10), (1, v11), (9, 0), (1, v13), (9, 0), (0, v15), (0, v16), (0, s0)] dX10_trims_301 rfl rfl rfl ?_
  refine wa_aload_n 304 dX10_trims_303 rfl rfl ?_
  refine wa_iload_n 305 dX10_trims_304 rfl rfl ?_
  refine wa_iload 307 dX10_trims_305 rfl rfl ?_
  refine wa_callV 310 2 2 10 (av := [(0, v2), (0, s0)]) (rest := []) (k1 := (0, 0)) (k2 := (0, 0)) cvX10_takesPiece dX10_trims_307 rfl wM_X10_294 ⟨rfl, by decide, rfl, Nat.le_of_ble_eq_true rfl, by decide, Nat.le_of_ble_eq_true rfl, rfl, rfl⟩ rfl k0 (TR.mono h (fun r1 L2 μ3 h => ?_))
  obtain ⟨rfl, rfl, h⟩ := h
  show WA mX10_trims 6 (0, 0) 310 [(2, v0), (0, v1), (0, v2), (0, v3), (0, v4), (9, 0), (9, 0), (9, 0), (9, 0), (9, 0), (0, v10), (1, v11), (9, 0), (1, v13), (9, 0), (0, v15), (0, v16), (0, s0)] [] L μ3 Q
  refine wa_aload_n 311 dX10_trims_310 rfl rfl ?_
  refine wa_iload_n 312 dX10_trims_311 rfl rfl ?_
  refine wa_aload_n 313 dX10_trims_312 rfl rfl ?_
  refine wa_iload_n 314 dX10_trims_313 rfl rfl ?_
  refine wa_iload 316 dX10_trims_314 rfl rfl ?_
  refine wa_iconst 317 dX10_trims_316 rfl (by decide) ?_
  refine wa_iload 319 dX10_trims_317 rfl rfl ?_
  refine wa_ishl 320 dX10_trims_319 rfl ?_
  refine wa_iconst 321 dX10_trims_320 rfl (by decide) ?_
  refine wa_ixor 322 dX10_trims_321 rfl ?_
  refine wa_iand 323 dX10_trims_322 rfl ?_
  refine wa_callV 326 4 2 10 (av := [(0, v1), (0, (bAnd v16 ((bXor ((bShl 1 s0)) ((-1))))))]) (rest := [(0, v1), (2, v0)]) (k1 := (0, 0)) (k2 := (0, 0)) cvX10_mostFor dX10_trims_323 rfl wM_X10_290 ⟨rfl, by decide, rfl, Nat.le_of_ble_eq_true rfl, by decide, Nat.le_of_ble_eq_true rfl, rfl, rfl⟩ rfl k0 (TR.mono h (fun r4 L5 μ6 h => ?_))
  obtain ⟨w7, rfl, rfl, h⟩ := h
  show WA mX10_trims 6 (0, 0) 326 [(2, v0), (0, v1), (0, v2), (0, v3), (0, v4), (9, 0), (9, 0), (9, 0), (9, 0), (9, 0), (0, v10), (1, v11), (9, 0), (1, v13), (9, 0), (0, v15), (0, v16), (0, s0)] [(0, w7), (0, v1), (2, v0)] L μ6 Q
  refine wa_callV 329 2 2 10 (av := [(0, v1), (0, w7)]) (rest := []) (k1 := (0, 0)) (k2 := (0, 0)) cvX10_takesPiece dX10_trims_326 rfl wM_X10_294 ⟨rfl, by decide, rfl, Nat.le_of_ble_eq_true rfl, by decide, Nat.le_of_ble_eq_true rfl, rfl, rfl⟩ rfl k0 (TR.mono h (fun r8 L9 μ10 h => ?_))
  obtain ⟨rfl, rfl, h⟩ := h
  show WA mX10_trims 6 (0, 0) 329 [(2, v0), (0, v1), (0, v2), (0, v3), (0, v4), (9, 0), (9, 0), (9, 0), (9, 0), (9, 0), (0, v10), (1, v11), (9, 0), (1, v13), (9, 0), (0, v15), (0, v16), (0, s0)] [] L μ10 Q
  refine wa_iload 331 dX10_trims_329 rfl rfl ?_
  refine wa_if_eq 334 389 dX10_trims_331 rfl (by decide) (fun q => ?_) (fun q => ?_)
  · replace h := h.1 q
    exact wa_vret dX10_trims_389 rfl h
  · replace h := h.2 q
    refine wa_aload_n 335 dX10_trims_334 rfl rfl ?_
    refine wa_iload_n 336 dX10_trims_335 rfl rfl ?_
    refine wa_iload 338 dX10_trims_336 rfl rfl ?_
    refine wa_iload 340 dX10_trims_338 rfl rfl ?_
    refine wa_icmp_ne 343 347 dX10_trims_340 rfl (by decide) (fun q => ?_) (fun q => ?_)
    · replace h := h.1 q
      refine wa_iload_n 348 dX10_trims_347 rfl rfl ?_
      refine wa_iload 350 dX10_trims_348 rfl rfl ?_
      refine wa_iload 352 dX10_trims_350 rfl rfl ?_
      refine wa_icmp_ne 355 359 dX10_trims_352 rfl (by decide) (fun q => ?_) (fun q => ?_)
      · replace h := h.1 q
        refine wa_iload_n 360 dX10_trims_359 rfl rfl ?_
        exact wa_weak [(2, v0), (9, 0), (9, 0), (9, 0), (0, v4), (9, 0), (9, 0), (9, 0), (9, 0), (9, 0), (9, 0), (1, v11), (9, 0), (1, v13), (9, 0), (9, 0), (9, 0), (9, 0)] ⟨Or.inl rfl, Or.inr rfl, Or.inr rfl, Or.inr rfl, Or.inl rfl, Or.inl rfl, Or.inl rfl, Or.inl rfl, Or.inl rfl, Or.inl rfl, Or.inr rfl, Or.inl rfl, Or.inl rfl, Or.inl rfl, Or.inl rfl, Or.inr rfl, Or.inr rfl, Or.inr rfl, trivial⟩ h
      · replace h := h.2 q
        refine wa_iload_n 356 dX10_trims_355 rfl rfl ?_
        refine wa_goto 360 dX10_trims_356 (by decide) ?_
        exact wa_weak [(2, v0), (9, 0), (9, 0), (9, 0), (0, v4), (9, 0), (9, 0), (9, 0), (9, 0), (9, 0), (9, 0), (1, v11), (9, 0), (1, v13), (9, 0), (9, 0), (9, 0), (9, 0)] ⟨Or.inl rfl, Or.inr rfl, Or.inr rfl, Or.inr rfl, Or.inl rfl, Or.inl rfl, Or.inl rfl, Or.inl rfl, Or.inl rfl, Or.inl rfl, Or.inr rfl, Or.inl rfl, Or.inl rfl, Or.inl rfl, Or.inl rfl, Or.inr rfl, Or.inr rfl, Or.inr rfl, trivial⟩ h
    · replace h := h.2 q
      refine wa_iload_n 344 dX10_trims_343 rfl rfl ?_
      refine wa_goto 348 dX10_trims_344 (by decide) ?_
      refine wa_iload 350 dX10_trims_348 rfl rfl ?_
      refine wa_iload 352 dX10_trims_350 rfl rfl ?_
      refine wa_icmp_ne 355 359 dX10_trims_352 rfl (by decide) (fun q => ?_) (fun q => ?_)
      · replace h := h.1 q
        refine wa_iload_n 360 dX10_trims_359 rfl rfl ?_
        exact wa_weak [(2, v0), (9, 0), (9, 0), (9, 0), (0, v4), (9, 0), (9, 0), (9, 0), (9, 0), (9, 0), (9, 0), (1, v11), (9, 0), (1, v13), (9, 0), (9, 0), (9, 0), (9, 0)] ⟨Or.inl rfl, Or.inr rfl, Or.inr rfl, Or.inr rfl, Or.inl rfl, Or.inl rfl, Or.inl rfl, Or.inl rfl, Or.inl rfl, Or.inl rfl, Or.inr rfl, Or.inl rfl, Or.inl rfl, Or.inl rfl, Or.inl rfl, Or.inr rfl, Or.inr rfl, Or.inr rfl, trivial⟩ h
      · replace h := h.2 q
        refine wa_iload_n 356 dX10_trims_355 rfl rfl ?_
        refine wa_goto 360 dX10_trims_356 (by decide) ?_
        exact wa_weak [(2, v0), (9, 0), (9, 0), (9, 0), (0, v4), (9, 0), (9, 0), (9, 0), (9, 0), (9, 0), (9, 0), (1, v11), (9, 0), (1, v13), (9, 0), (9, 0), (9, 0), (9, 0)] ⟨Or.inl rfl, Or.inr rfl, Or.inr rfl, Or.inr rfl, Or.inl rfl, Or.inl rfl, Or.inl rfl, Or.inl rfl, Or.inl rfl, Or.inl rfl, Or.inr rfl, Or.inl rfl, Or.inl rfl, Or.inl rfl, Or.inl rfl, Or.inr rfl, Or.inr rfl, Or.inr rfl, trivial⟩ h
set_option maxRecDepth 20000 in
theorem s_X10_trims_360 (hL : LayOK L) {v0 v4 v11 v13 s0 s1 s2 s3 : Int} (k0 : isK L v0 (10, 0)) (ks0 : isK L s0 (10, 0)) (h : (inI (4 * v4)) ∧ (inI ((4 * v4) + 2)) ∧ (0 ≤ ((4 * v4) + 2) ∧ ((4 * v4) + 2) < 12) ∧ (inI ((4 * v4) + 3)) ∧ (0 ≤ ((4 * v4) + 3) ∧ ((4 * v4) + 3) < 12) ∧ TR mX10_sharesTrimmings 5 (0, 0) [(2, s0), (0, s1), (0, s2), (0, s3), (1, (μ ((rf L v0 19)) (((4 * v4) + 2)))), (1, (μ ((rf L v0 19)) (((4 * v4) + 3)))), (1, v11), (1, v13)] L μ (fun r7 L8 μ9 => r7 = none ∧ L = L8 ∧ Q none L μ9)) : WA mX10_trims 6 (0, 0) 360 [(2, v0), (9, 0), (9, 0), (9, 0), (0, v4), (9, 0), (9, 0), (9, 0), (9, 0), (9, 0), (9, 0), (1, v11), (9, 0), (1, v13), (9, 0), (9, 0), (9, 0), (9, 0)] [(0, s3), (0, s2), (0, s1), (2, s0)] L μ Q := by
  refine wa_aload_n 361 dX10_trims_360 rfl rfl ?_
  have e1 : isK L (rf L v0 19) (21, 12) := lay_f hL k0 19 rfl
  refine wa_getR 364 19 dX10_trims_361 rfl wF_X10_37 rfl rfl ⟨k0, isK_pos e1⟩ ?_
  refine wa_iconst 365 dX10_trims_364 rfl (by decide) ?_
  refine wa_iload 367 dX10_trims_365 rfl rfl ?_
  obtain ⟨c2, h⟩ := h
  refine wa_imul 368 dX10_trims_367 rfl c2 ?_
  refine wa_iconst 369 dX10_trims_368 rfl (by decide) ?_
  obtain ⟨c3, h⟩ := h
  refine wa_iadd 370 dX10_trims_369 rfl c3 ?_
  obtain ⟨c4, h⟩ := h
  refine wa_laload 371 dX10_trims_370 rfl (okA_of e1 c4) ?_
  refine wa_aload_n 372 dX10_trims_371 rfl rfl ?_
  refine wa_getR 375 19 dX10_trims_372 rfl wF_X10_37 rfl rfl ⟨k0, isK_pos e1⟩ ?_
  refine wa_iconst 376 dX10_trims_375 rfl (by decide) ?_
  refine wa_iload 378 dX10_trims_376 rfl rfl ?_
  refine wa_imul 379 dX10_trims_378 rfl c2 ?_
  refine wa_iconst 380 dX10_trims_379 rfl (by decide) ?_
  obtain ⟨c5, h⟩ := h
  refine wa_iadd 381 dX10_trims_380 rfl c5 ?_
  obtain ⟨c6, h⟩ := h
  refine wa_laload 382 dX10_trims_381 rfl (okA_of e1 c6) ?_
  refine wa_lload 384 dX10_trims_382 rfl rfl ?_
  refine wa_lload 386 dX10_trims_384 rfl rfl ?_
  refine wa_callV 389 5 7 10 (av := [(0, s1), (0, s2), (0, s3), (1, (μ ((rf L v0 19)) (((4 * v4) + 2)))), (1, (μ ((rf L v0 19)) (((4 * v4) + 3)))), (1, v11), (1, v13)]) (rest := []) (k1 := (0, 0)) (k2 := (0, 0)) cvX10_sharesTrimmings dX10_trims_386 rfl wM_X10_297 ⟨rfl, by decide, rfl, Nat.le_of_ble_eq_true rfl, by decide, Nat.le_of_ble_eq_true rfl, rfl, rfl⟩ rfl ks0 (TR.mono h (fun r7 L8 μ9 h => ?_))
  obtain ⟨rfl, rfl, h⟩ := h
  show WA mX10_trims 6 (0, 0) 389 [(2, v0), (9, 0), (9, 0), (9, 0), (0, v4), (9, 0), (9, 0), (9, 0), (9, 0), (9, 0), (9, 0), (1, v11), (9, 0), (1, v13), (9, 0), (9, 0), (9, 0), (9, 0)] [] L μ9 Q
  exact wa_vret dX10_trims_389 rfl h
set_option maxRecDepth 20000 in
theorem t_X10_undivided (hL : LayOK L) {v0 : Int} (k0 : isK L v0 (10, 0)) (h : WA mX10_undivided 0 (0, 0) 23 [(2, v0), (0, 0)] [] L (up (up (up μ ((rf L v0 0)) 2 0) ((rf L v0 0)) 3 1) ((rf L v0 0)) 4 0) Q) : TR mX10_undivided 0 (0, 0) [(2, v0)] L μ Q := by
  refine TR.of (ls := [(2, v0), (9, 0)]) (by decide) (by simp) rfl (Nat.le_of_ble_eq_true rfl) ?_
  refine wa_aload_n 1 dX10_undivided_0 rfl rfl ?_
  have e1 : isK L (rf L v0 0) (21, 510) := lay_f hL k0 0 rfl
  refine wa_getR 4 0 dX10_undivided_1 rfl wF_X10_9 rfl rfl ⟨k0, isK_pos e1⟩ ?_
  refine wa_iconst 5 dX10_undivided_4 rfl (by decide) ?_
  refine wa_lconst 6 0 dX10_undivided_5 rfl ⟨rfl, by decide⟩ ?_
  refine wa_lastore 7 dX10_undivided_6 rfl (okA_of e1 ⟨by decide, by decide⟩) ?_
  refine wa_aload_n 8 dX10_undivided_7 rfl rfl ?_
  refine wa_getR 11 0 dX10_undivided_8 rfl wF_X10_9 rfl rfl ⟨k0, isK_pos e1⟩ ?_
  refine wa_iconst 12 dX10_undivided_11 rfl (by decide) ?_
  refine wa_lconst 13 1 dX10_undivided_12 rfl ⟨rfl, by decide⟩ ?_
  refine wa_lastore 14 dX10_undivided_13 rfl (okA_of e1 ⟨by decide, by decide⟩) ?_
  refine wa_aload_n 15 dX10_undivided_14 rfl rfl ?_
  refine wa_getR 18 0 dX10_undivided_15 rfl wF_X10_9 rfl rfl ⟨k0, isK_pos e1⟩ ?_
  refine wa_iconst 19 dX10_undivided_18 rfl (by decide) ?_
  refine wa_lconst 20 0 dX10_undivided_19 rfl ⟨rfl, by decide⟩ ?_
  refine wa_lastore 21 dX10_undivided_20 rfl (okA_of e1 ⟨by decide, by decide⟩) ?_
  refine wa_iconst 22 dX10_undivided_21 rfl (by decide) ?_
  refine wa_istore_n 23 [(2, v0), (0, 0)] dX10_undivided_22 rfl rfl rfl ?_
  exact h
set_option maxRecDepth 20000 in
theorem s_X10_undivided_23 (hL : LayOK L) {v0 v1 : Int} (k0 : isK L v0 (10, 0)) (h : (5 ≤ v1 → Q none L μ) ∧ (¬ 5 ≤ v1 → (inI (165 + v1)) ∧ (0 ≤ (165 + v1) ∧ (165 + v1) < 510) ∧ (inI (v1 + 1)) ∧ WA mX10_undivided 0 (0, 0) 23 [(2, v0), (0, (v1 + 1))] [] L (up μ ((rf L v0 0)) ((165 + v1)) 0) Q)) : WA mX10_undivided 0 (0, 0) 23 [(2, v0), (0, v1)] [] L μ Q := by
  refine wa_iload_n 24 dX10_undivided_23 rfl rfl ?_
  refine wa_iconst 25 dX10_undivided_24 rfl (by decide) ?_
  refine wa_icmp_ge 28 45 dX10_undivided_25 rfl (by decide) (fun q => ?_) (fun q => ?_)
  · replace h := h.1 q
    exact wa_vret dX10_undivided_45 rfl h
  · replace h := h.2 q
    refine wa_aload_n 29 dX10_undivided_28 rfl rfl ?_
    have e1 : isK L (rf L v0 0) (21, 510) := lay_f hL k0 0 rfl
    refine wa_getR 32 0 dX10_undivided_29 rfl wF_X10_9 rfl rfl ⟨k0, isK_pos e1⟩ ?_
    refine wa_sipush 35 dX10_undivided_32 rfl ⟨by decide, by decide⟩ ?_
    refine wa_iload_n 36 dX10_undivided_35 rfl rfl ?_
    obtain ⟨c2, h⟩ := h
    refine wa_iadd 37 dX10_undivided_36 rfl c2 ?_
    refine wa_lconst 38 0 dX10_undivided_37 rfl ⟨rfl, by decide⟩ ?_
    obtain ⟨c3, h⟩ := h
    refine wa_lastore 39 dX10_undivided_38 rfl (okA_of e1 c3) ?_
    obtain ⟨c4, h⟩ := h
    refine wa_iinc 42 [(2, v0), (0, (v1 + 1))] dX10_undivided_39 rfl rfl rfl c4 rfl ?_
    refine wa_goto 23 dX10_undivided_42 (by decide) ?_
    exact h
set_option maxRecDepth 20000 in
theorem t_X10_unites (hL : LayOK L) {v0 v1 : Int} (k0 : isK L v0 (10, 0)) (h : (¬ (μ v0 11) = 0 → WA mX10_unites 1 (0, 0) 40 [(2, v0), (9, 0), (9, 0), (9, 0), (9, 0)] [(1, 1000000001)] L μ Q) ∧ ((μ v0 11) = 0 → (v1 ≤ 1000000000 → TR mX10_divisor 0 (0, 0) [(1, (μ ((rf L v0 0)) 3)), (1, v1)] L μ (fun r2 L3 μ4 => ∃ w5, r2 = some (1, w5) ∧ L = L3 ∧ (0 ≤ (μ ((rf L v0 0)) 3) ∧ 0 < w5) ∧ (inL (((μ ((rf L v0 0)) 3) / w5) * v1)) ∧ WA mX10_unites 1 (0, 0) 40 [(2, v0), (9, 0), (9, 0), (9, 0), (9, 0)] [(1, (((μ ((rf L v0 0)) 3) / w5) * v1))] L μ4 Q)) ∧ (¬ v1 ≤ 1000000000 → WA mX10_unites 1 (0, 0) 40 [(2, v0), (9, 0), (9, 0), (9, 0), (9, 0)] [(1, 1000000001)] L μ Q))) : TR mX10_unites 1 (0, 0) [(2, v0), (1, v1)] L μ Q := by
  refine TR.of (ls := [(2, v0), (1, v1), (9, 0), (9, 0), (9, 0)]) (by decide) (by simp) rfl (Nat.le_of_ble_eq_true rfl) ?_
  refine wa_aload_n 1 dX10_unites_0 rfl rfl ?_
  refine wa_getI 4 11 dX10_unites_1 rfl wF_X10_219 rfl rfl k0 ?_
  refine wa_if_ne 7 15 dX10_unites_4 rfl (by decide) (fun q => ?_) (fun q => ?_)
  · replace h := h.1 q
    refine wa_ldc2 18 1000000001 dX10_unites_15 rfl wJ_X10_224 ⟨rfl, by decide⟩ ?_
    refine wa_goto 40 dX10_unites_18 (by decide) ?_
    exact wa_weak [(2, v0), (9, 0), (9, 0), (9, 0), (9, 0)] ⟨Or.inl rfl, Or.inr rfl, Or.inl rfl, Or.inl rfl, Or.inl rfl, trivial⟩ h
  · replace h := h.2 q
    refine wa_lload_n 8 dX10_unites_7 rfl rfl ?_
    refine wa_ldc2 11 1000000000 dX10_unites_8 rfl wJ_X10_222 ⟨rfl, by decide⟩ ?_
    refine wa_lc_le 15 21 dX10_unites_11 dX10_unites_12 rfl (by decide) (fun q => ?_) (fun q => ?_)
    · replace h := h.1 q
      refine wa_aload_n 22 dX10_unites_21 rfl rfl ?_
      have e1 : isK L (rf L v0 0) (21, 510) := lay_f hL k0 0 rfl
      refine wa_getR 25 0 dX10_unites_22 rfl wF_X10_9 rfl rfl ⟨k0, isK_pos e1⟩ ?_
      refine wa_iconst 26 dX10_unites_25 rfl (by decide) ?_
      refine wa_laload 27 dX10_unites_26 rfl (okA_of e1 ⟨by decide, by decide⟩) ?_
      refine wa_aload_n 28 dX10_unites_27 rfl rfl ?_
      refine wa_getR 31 0 dX10_unites_28 rfl wF_X10_9 rfl rfl ⟨k0, isK_pos e1⟩ ?_
      refine wa_iconst 32 dX10_unites_31 rfl (by decide) ?_
      refine wa_laload 33 dX10_unites_32 rfl (okA_of e1 ⟨by decide, by decide⟩) ?_
      refine wa_lload_n 34 dX10_unites_33 rfl rfl ?_
      refine wa_callS 37 0 2 (av := [(1, (μ ((rf L v0 0)) 3)), (1, v1)]) (rest := [(1, (μ ((rf L v0 0)) 3))]) (k1 := (0, 0)) (k2 := (0, 0)) cvX10_divisor dX10_unites_34 rfl wM_X10_95 ⟨rfl, Nat.le_of_ble_eq_true rfl, by decide, Nat.le_of_ble_eq_true rfl, rfl, rfl⟩ rfl (TR.mono h (fun r2 L3 μ4 h => ?_))
      obtain ⟨w5, rfl, rfl, h⟩ := h
      show WA mX10_unites 1 (0, 0) 37 [(2, v0), (1, v1), (9, 0), (9, 0), (9, 0)] [(1, w5), (1, (μ ((rf L v0 0)) 3))] L μ4 Q
      obtain ⟨c6, h⟩ := h
      refine wa_ldivE 38 dX10_unites_37 rfl c6 ?_
      refine wa_lload_n 39 dX10_unites_38 rfl rfl ?_
      obtain ⟨c7, h⟩ := h
      refine wa_lmul 40 dX10_unites_39 rfl c7 ?_
      exact wa_weak [(2, v0), (9, 0), (9, 0), (9, 0), (9, 0)] ⟨Or.inl rfl, Or.inr rfl, Or.inl rfl, Or.inl rfl, Or.inl rfl, trivial⟩ h
    · replace h := h.2 q
      refine wa_ldc2 18 1000000001 dX10_unites_15 rfl wJ_X10_224 ⟨rfl, by decide⟩ ?_
      refine wa_goto 40 dX10_unites_18 (by decide) ?_
      exact wa_weak [(2, v0), (9, 0), (9, 0), (9, 0), (9, 0)] ⟨Or.inl rfl, Or.inr rfl, Or.inl rfl, Or.inl rfl, Or.inl rfl, trivial⟩ h
set_option maxRecDepth 20000 in
theorem s_X10_unites_40 (hL : LayOK L) {v0 s0 : Int} (k0 : isK L v0 (10, 0)) (h : (s0 ≤ 1000000000 → (((up μ v0 11 0) v0 11) = 0 → Q none L (up (up μ v0 11 0) ((rf L v0 0)) 3 s0)) ∧ (¬ ((up μ v0 11 0) v0 11) = 0 → Q none L (up (up μ v0 11 0) ((rf L v0 0)) 3 (((up μ v0 11 0) ((rf L v0 0)) 3))))) ∧ (¬ s0 ≤ 1000000000 → (((up μ v0 11 1) v0 11) = 0 → Q none L (up (up μ v0 11 1) ((rf L v0 0)) 3 s0)) ∧ (¬ ((up μ v0 11 1) v0 11) = 0 → Q none L (up (up μ v0 11 1) ((rf L v0 0)) 3 (((up μ v0 11 1) ((rf L v0 0)) 3)))))) : WA mX10_unites 1 (0, 0) 40 [(2, v0), (9, 0), (9, 0), (9, 0), (9, 0)] [(1, s0)] L μ Q := by
  refine wa_lstore_n 41 [(2, v0), (9, 0), (9, 0), (1, s0), (9, 0)] dX10_unites_40 rfl rfl rfl ?_
  refine wa_aload_n 42 dX10_unites_41 rfl rfl ?_
  refine wa_lload_n 43 dX10_unites_42 rfl rfl ?_
  refine wa_ldc2 46 1000000000 dX10_unites_43 rfl wJ_X10_222 ⟨rfl, by decide⟩ ?_
  refine wa_lc_le 50 54 dX10_unites_46 dX10_unites_47 rfl (by decide) (fun q => ?_) (fun q => ?_)
  · replace h := h.1 q
    refine wa_iconst 55 dX10_unites_54 rfl (by decide) ?_
    refine wa_putI 58 11 dX10_unites_55 rfl wF_X10_219 rfl rfl k0 (Or.inl rfl) ?_
    refine wa_aload_n 59 dX10_unites_58 rfl rfl ?_
    have e1 : isK L (rf L v0 0) (21, 510) := lay_f hL k0 0 rfl
    refine wa_getR 62 0 dX10_unites_59 rfl wF_X10_9 rfl rfl ⟨k0, isK_pos e1⟩ ?_
    refine wa_iconst 63 dX10_unites_62 rfl (by decide) ?_
    refine wa_aload_n 64 dX10_unites_63 rfl rfl ?_
    refine wa_getI 67 11 dX10_unites_64 rfl wF_X10_219 rfl rfl k0 ?_
    refine wa_if_eq 70 79 dX10_unites_67 rfl (by decide) (fun q => ?_) (fun q => ?_)
    · replace h := h.1 q
      refine wa_lload_n 80 dX10_unites_79 rfl rfl ?_
      refine wa_lastore 81 dX10_unites_80 rfl (okA_of e1 ⟨by decide, by decide⟩) ?_
      exact wa_vret dX10_unites_81 rfl h
    · replace h := h.2 q
      refine wa_aload_n 71 dX10_unites_70 rfl rfl ?_
      refine wa_getR 74 0 dX10_unites_71 rfl wF_X10_9 rfl rfl ⟨k0, isK_pos e1⟩ ?_
      refine wa_iconst 75 dX10_unites_74 rfl (by decide) ?_
      refine wa_laload 76 dX10_unites_75 rfl (okA_of e1 ⟨by decide, by decide⟩) ?_
      refine wa_goto 80 dX10_unites_76 (by decide) ?_
      refine wa_lastore 81 dX10_unites_80 rfl (okA_of e1 ⟨by decide, by decide⟩) ?_
      exact wa_vret dX10_unites_81 rfl h
  · replace h := h.2 q
    refine wa_iconst 51 dX10_unites_50 rfl (by decide) ?_
    refine wa_goto 55 dX10_unites_51 (by decide) ?_
    refine wa_putI 58 11 dX10_unites_55 rfl wF_X10_219 rfl rfl k0 (Or.inr rfl) ?_
    refine wa_aload_n 59 dX10_unites_58 rfl rfl ?_
    have e2 : isK L (rf L v0 0) (21, 510) := lay_f hL k0 0 rfl
    refine wa_getR 62 0 dX10_unites_59 rfl wF_X10_9 rfl rfl ⟨k0, isK_pos e2⟩ ?_
    refine wa_iconst 63 dX10_unites_62 rfl (by decide) ?_
    refine wa_aload_n 64 dX10_unites_63 rfl rfl ?_
    refine wa_getI 67 11 dX10_unites_64 rfl wF_X10_219 rfl rfl k0 ?_
    refine wa_if_eq 70 79 dX10_unites_67 rfl (by decide) (fun q => ?_) (fun q => ?_)
    · replace h := h.1 q
      refine wa_lload_n 80 dX10_unites_79 rfl rfl ?_
      refine wa_lastore 81 dX10_unites_80 rfl (okA_of e2 ⟨by decide, by decide⟩) ?_
      exact wa_vret dX10_unites_81 rfl h
    · replace h := h.2 q
      refine wa_aload_n 71 dX10_unites_70 rfl rfl ?_
      refine wa_getR 74 0 dX10_unites_71 rfl wF_X10_9 rfl rfl ⟨k0, isK_pos e2⟩ ?_
      refine wa_iconst 75 dX10_unites_74 rfl (by decide) ?_
      refine wa_laload 76 dX10_unites_75 rfl (okA_of e2 ⟨by decide, by decide⟩) ?_
      refine wa_goto 80 dX10_unites_76 (by decide) ?_
      refine wa_lastore 81 dX10_unites_80 rfl (okA_of e2 ⟨by decide, by decide⟩) ?_
      exact wa_vret dX10_unites_81 rfl h
set_option maxRecDepth 20000 in
theorem t_X10_wants (hL : LayOK L) {v0 v1 : Int} (k0 : isK L v0 (10, 0)) (h : (¬ (μ v0 9) = 0 → (((up μ v0 9 1) v0 9) = 0 → (inI (((up μ v0 9 1) v0 8) + 1)) ∧ Q none L (up (up μ v0 9 1) v0 8 ((((up μ v0 9 1) v0 8) + 1)))) ∧ (¬ ((up μ v0 9 1) v0 9) = 0 → (inI (((up μ v0 9 1) v0 8) + 0)) ∧ Q none L (up (up μ v0 9 1) v0 8 ((((up μ v0 9 1) v0 8) + 0))))) ∧ ((μ v0 9) = 0 → TR mX10_here 0 (0, 0) [(2, v0)] L μ (fun r3 L4 μ5 => ∃ w6, r3 = some (0, w6) ∧ L = L4 ∧ (w6 = v1 → (((up μ5 v0 9 0) v0 9) = 0 → (inI (((up μ5 v0 9 0) v0 8) + 1)) ∧ Q none L (up (up μ5 v0 9 0) v0 8 ((((up μ5 v0 9 0) v0 8) + 1)))) ∧ (¬ ((up μ5 v0 9 0) v0 9) = 0 → (inI (((up μ5 v0 9 0) v0 8) + 0)) ∧ Q none L (up (up μ5 v0 9 0) v0 8 ((((up μ5 v0 9 0) v0 8) + 0))))) ∧ (¬ w6 = v1 → (((up μ5 v0 9 1) v0 9) = 0 → (inI (((up μ5 v0 9 1) v0 8) + 1)) ∧ Q none L (up (up μ5 v0 9 1) v0 8 ((((up μ5 v0 9 1) v0 8) + 1)))) ∧ (¬ ((up μ5 v0 9 1) v0 9) = 0 → (inI (((up μ5 v0 9 1) v0 8) + 0)) ∧ Q none L (up (up μ5 v0 9 1) v0 8 ((((up μ5 v0 9 1) v0 8) + 0)))))))) : TR mX10_wants 1 (0, 0) [(2, v0), (0, v1)] L μ Q := by
  refine TR.of (ls := [(2, v0), (0, v1)]) (by decide) (by simp) rfl (Nat.le_of_ble_eq_true rfl) ?_
  refine wa_aload_n 1 dX10_wants_0 rfl rfl ?_
  refine wa_aload_n 2 dX10_wants_1 rfl rfl ?_
  refine wa_getI 5 9 dX10_wants_2 rfl wF_X10_157 rfl rfl k0 ?_
  refine wa_if_ne 8 16 dX10_wants_5 rfl (by decide) (fun q => ?_) (fun q => ?_)
  · replace h := h.1 q
    refine wa_iconst 17 dX10_wants_16 rfl (by decide) ?_
    refine wa_goto 21 dX10_wants_17 (by decide) ?_
    refine wa_putI 24 9 dX10_wants_21 rfl wF_X10_157 rfl rfl k0 (Or.inr rfl) ?_
    refine wa_aload_n 25 dX10_wants_24 rfl rfl ?_
    refine wa_dup 26 dX10_wants_25 rfl (Or.inr rfl) ?_
    refine wa_getI 29 8 dX10_wants_26 rfl wF_X10_154 rfl rfl k0 ?_
    refine wa_aload_n 30 dX10_wants_29 rfl rfl ?_
    refine wa_getI 33 9 dX10_wants_30 rfl wF_X10_157 rfl rfl k0 ?_
    refine wa_if_eq 36 40 dX10_wants_33 rfl (by decide) (fun q => ?_) (fun q => ?_)
    · replace h := h.1 q
      refine wa_iconst 41 dX10_wants_40 rfl (by decide) ?_
      obtain ⟨c1, h⟩ := h
      refine wa_iadd 42 dX10_wants_41 rfl c1 ?_
      refine wa_putN 45 8 dX10_wants_42 rfl wF_X10_154 rfl rfl k0 ?_
      exact wa_vret dX10_wants_45 rfl h
    · replace h := h.2 q
      refine wa_iconst 37 dX10_wants_36 rfl (by decide) ?_
      refine wa_goto 41 dX10_wants_37 (by decide) ?_
      obtain ⟨c2, h⟩ := h
      refine wa_iadd 42 dX10_wants_41 rfl c2 ?_
      refine wa_putN 45 8 dX10_wants_42 rfl wF_X10_154 rfl rfl k0 ?_
      exact wa_vret dX10_wants_45 rfl h
  · replace h := h.2 q
    refine wa_aload_n 9 dX10_wants_8 rfl rfl ?_
    refine wa_callV 12 0 0 10 (av := []) (rest := [(2, v0)]) (k1 := (0, 0)) (k2 := (0, 0)) cvX10_here dX10_wants_9 rfl wM_X10_161 ⟨rfl, by decide, rfl, Nat.le_of_ble_eq_true rfl, by decide, Nat.le_of_ble_eq_true rfl, rfl, rfl⟩ rfl k0 (TR.mono h (fun r3 L4 μ5 h => ?_))
    obtain ⟨w6, rfl, rfl, h⟩ := h
    show WA mX10_wants 1 (0, 0) 12 [(2, v0), (0, v1)] [(0, w6), (2, v0)] L μ5 Q
    refine wa_iload_n 13 dX10_wants_12 rfl rfl ?_
    refine wa_icmp_eq 16 20 dX10_wants_13 rfl (by decide) (fun q => ?_) (fun q => ?_)
    · replace h := h.1 q
      refine wa_iconst 21 dX10_wants_20 rfl (by decide) ?_
      refine wa_putI 24 9 dX10_wants_21 rfl wF_X10_157 rfl rfl k0 (Or.inl rfl) ?_
      refine wa_aload_n 25 dX10_wants_24 rfl rfl ?_
      refine wa_dup 26 dX10_wants_25 rfl (Or.inr rfl) ?_
      refine wa_getI 29 8 dX10_wants_26 rfl wF_X10_154 rfl rfl k0 ?_
      refine wa_aload_n 30 dX10_wants_29 rfl rfl ?_
      refine wa_getI 33 9 dX10_wants_30 rfl wF_X10_157 rfl rfl k0 ?_
      refine wa_if_eq 36 40 dX10_wants_33 rfl (by decide) (fun q => ?_) (fun q => ?_)
      · replace h := h.1 q
        refine wa_iconst 41 dX10_wants_40 rfl (by decide) ?_
        obtain ⟨c7, h⟩ := h
        refine wa_iadd 42 dX10_wants_41 rfl c7 ?_
        refine wa_putN 45 8 dX10_wants_42 rfl wF_X10_154 rfl rfl k0 ?_
        exact wa_vret dX10_wants_45 rfl h
      · replace h := h.2 q
        refine wa_iconst 37 dX10_wants_36 rfl (by decide) ?_
        refine wa_goto 41 dX10_wants_37 (by decide) ?_
        obtain ⟨c8, h⟩ := h
        refine wa_iadd 42 dX10_wants_41 rfl c8 ?_
        refine wa_putN 45 8 dX10_wants_42 rfl wF_X10_154 rfl rfl k0 ?_
        exact wa_vret dX10_wants_45 rfl h
    · replace h := h.2 q
      refine wa_iconst 17 dX10_wants_16 rfl (by decide) ?_
      refine wa_goto 21 dX10_wants_17 (by decide) ?_
      refine wa_putI 24 9 dX10_wants_21 rfl wF_X10_157 rfl rfl k0 (Or.inr rfl) ?_
      refine wa_aload_n 25 dX10_wants_24 rfl rfl ?_
      refine wa_dup 26 dX10_wants_25 rfl (Or.inr rfl) ?_
      refine wa_getI 29 8 dX10_wants_26 rfl wF_X10_154 rfl rfl k0 ?_
      refine wa_aload_n 30 dX10_wants_29 rfl rfl ?_
      refine wa_getI 33 9 dX10_wants_30 rfl wF_X10_157 rfl rfl k0 ?_
      refine wa_if_eq 36 40 dX10_wants_33 rfl (by decide) (fun q => ?_) (fun q => ?_)
      · replace h := h.1 q
        refine wa_iconst 41 dX10_wants_40 rfl (by decide) ?_
        obtain ⟨c9, h⟩ := h
        refine wa_iadd 42 dX10_wants_41 rfl c9 ?_
        refine wa_putN 45 8 dX10_wants_42 rfl wF_X10_154 rfl rfl k0 ?_
        exact wa_vret dX10_wants_45 rfl h
      · replace h := h.2 q
        refine wa_iconst 37 dX10_wants_36 rfl (by decide) ?_
        refine wa_goto 41 dX10_wants_37 (by decide) ?_
        obtain ⟨c10, h⟩ := h
        refine wa_iadd 42 dX10_wants_41 rfl c10 ?_
        refine wa_putN 45 8 dX10_wants_42 rfl wF_X10_154 rfl rfl k0 ?_
        exact wa_vret dX10_wants_45 rfl h
set_option maxRecDepth 20000 in
theorem t_X10_worth (hL : LayOK L) {v0 v1 v2 v3 : Int} (k0 : isK L v0 (10, 0)) (h : TR mX10_isAgent 1 (0, 0) [(2, v0), (0, v1)] L μ (fun r1 L2 μ3 => ∃ w4, r1 = some (0, w4) ∧ L = L2 ∧ (w4 = 0 → Q (some (0, (-1))) L μ3) ∧ (¬ w4 = 0 → TR mX10_isStrip 1 (0, 0) [(2, v0), (0, v2)] L μ3 (fun r5 L6 μ7 => ∃ w8, r5 = some (0, w8) ∧ L = L6 ∧ (w8 = 0 → Q (some (0, (-1))) L μ7) ∧ (¬ w8 = 0 → TR mX10_in 0 (0, 0) [(1, v3), (1, 0), (1, 9)] L μ7 (fun r9 L10 μ11 => ∃ w12, r9 = some (0, w12) ∧ L = L10 ∧ (¬ w12 = 0 → TR mX10_worthOf 0 (0, 0) [(2, v0), (0, v1), (0, v2), (0, 0)] L μ11 (fun r13 L14 μ15 => ∃ w16, r13 = some (1, w16) ∧ L = L14 ∧ (inI w16) ∧ (inI (16 * v1)) ∧ (inI (5 + (16 * v1))) ∧ (inI ((5 + (16 * v1)) + v2)) ∧ (0 ≤ ((5 + (16 * v1)) + v2) ∧ ((5 + (16 * v1)) + v2) < 510) ∧ (inI (85 + (16 * v1))) ∧ (inI ((85 + (16 * v1)) + v2)) ∧ (0 ≤ ((85 + (16 * v1)) + v2) ∧ ((85 + (16 * v1)) + v2) < 510) ∧ Q (some (0, w16)) L (up (up μ15 ((rf L v0 0)) (((5 + (16 * v1)) + v2)) v3) ((rf L v0 0)) (((85 + (16 * v1)) + v2)) v3))) ∧ (w12 = 0 → Q (some (0, (-1))) L μ11))))))) : TR mX10_worth 2 (0, 0) [(2, v0), (0, v1), (0, v2), (0, v3)] L μ Q := by
  refine TR.of (ls := [(2, v0), (0, v1), (0, v2), (0, v3), (9, 0)]) (by decide) (by simp) rfl (Nat.le_of_ble_eq_true rfl) ?_
  refine wa_aload_n 1 dX10_worth_0 rfl rfl ?_
  refine wa_iload_n 2 dX10_worth_1 rfl rfl ?_
  refine wa_callV 5 1 1 10 (av := [(0, v1)]) (rest := []) (k1 := (0, 0)) (k2 := (0, 0)) cvX10_isAgent dX10_worth_2 rfl wM_X10_79 ⟨rfl, by decide, rfl, Nat.le_of_ble_eq_true rfl, by decide, Nat.le_of_ble_eq_true rfl, rfl, rfl⟩ rfl k0 (TR.mono h (fun r1 L2 μ3 h => ?_))
  obtain ⟨w4, rfl, rfl, h⟩ := h
  show WA mX10_worth 2 (0, 0) 5 [(2, v0), (0, v1), (0, v2), (0, v3), (9, 0)] [(0, w4)] L μ3 Q
  refine wa_if_eq 8 28 dX10_worth_5 rfl (by decide) (fun q => ?_) (fun q => ?_)
  · replace h := h.1 q
    refine wa_iconst 29 dX10_worth_28 rfl (by decide) ?_
    exact wa_iret dX10_worth_29 rfl h
  · replace h := h.2 q
    refine wa_aload_n 9 dX10_worth_8 rfl rfl ?_
    refine wa_iload_n 10 dX10_worth_9 rfl rfl ?_
    refine wa_callV 13 1 1 10 (av := [(0, v2)]) (rest := []) (k1 := (0, 0)) (k2 := (0, 0)) cvX10_isStrip dX10_worth_10 rfl wM_X10_83 ⟨rfl, by decide, rfl, Nat.le_of_ble_eq_true rfl, by decide, Nat.le_of_ble_eq_true rfl, rfl, rfl⟩ rfl k0 (TR.mono h (fun r5 L6 μ7 h => ?_))
    obtain ⟨w8, rfl, rfl, h⟩ := h
    show WA mX10_worth 2 (0, 0) 13 [(2, v0), (0, v1), (0, v2), (0, v3), (9, 0)] [(0, w8)] L μ7 Q
    refine wa_if_eq 16 28 dX10_worth_13 rfl (by decide) (fun q => ?_) (fun q => ?_)
    · replace h := h.1 q
      refine wa_iconst 29 dX10_worth_28 rfl (by decide) ?_
      exact wa_iret dX10_worth_29 rfl h
    · replace h := h.2 q
      refine wa_iload_n 17 dX10_worth_16 rfl rfl ?_
      refine wa_i2l 18 dX10_worth_17 rfl ?_
      refine wa_lconst 19 0 dX10_worth_18 rfl ⟨rfl, by decide⟩ ?_
      refine wa_ldc2 22 9 dX10_worth_19 rfl wJ_X10_86 ⟨rfl, by decide⟩ ?_
      refine wa_callS 25 0 3 (av := [(1, v3), (1, 0), (1, 9)]) (rest := []) (k1 := (0, 0)) (k2 := (0, 0)) cvX10_in dX10_worth_22 rfl wM_X10_65 ⟨rfl, Nat.le_of_ble_eq_true rfl, by decide, Nat.le_of_ble_eq_true rfl, rfl, rfl⟩ rfl (TR.mono h (fun r9 L10 μ11 h => ?_))
      obtain ⟨w12, rfl, rfl, h⟩ := h
      show WA mX10_worth 2 (0, 0) 25 [(2, v0), (0, v1), (0, v2), (0, v3), (9, 0)] [(0, w12)] L μ11 Q
      refine wa_if_ne 28 30 dX10_worth_25 rfl (by decide) (fun q => ?_) (fun q => ?_)
      · replace h := h.1 q
        refine wa_aload_n 31 dX10_worth_30 rfl rfl ?_
        refine wa_iload_n 32 dX10_worth_31 rfl rfl ?_
        refine wa_iload_n 33 dX10_worth_32 rfl rfl ?_
        refine wa_iconst 34 dX10_worth_33 rfl (by decide) ?_
        refine wa_callV 37 0 3 10 (av := [(0, v1), (0, v2), (0, 0)]) (rest := []) (k1 := (0, 0)) (k2 := (0, 0)) cvX10_worthOf dX10_worth_34 rfl wM_X10_88 ⟨rfl, by decide, rfl, Nat.le_of_ble_eq_true rfl, by decide, Nat.le_of_ble_eq_true rfl, rfl, rfl⟩ rfl k0 (TR.mono h (fun r13 L14 μ15 h => ?_))
        obtain ⟨w16, rfl, rfl, h⟩ := h
        show WA mX10_worth 2 (0, 0) 37 [(2, v0), (0, v1), (0, v2), (0, v3), (9, 0)] [(1, w16)] L μ15 Q
        obtain ⟨c17, h⟩ := h
        refine wa_l2i 38 dX10_worth_37 rfl c17 ?_
        refine wa_istore 40 [(2, v0), (0, v1), (0, v2), (0, v3), (0, w16)] dX10_worth_38 rfl rfl rfl ?_
        refine wa_aload_n 41 dX10_worth_40 rfl rfl ?_
        have e18 : isK L (rf L v0 0) (21, 510) := lay_f hL k0 0 rfl
        refine wa_getR 44 0 dX10_worth_41 rfl wF_X10_9 rfl rfl ⟨k0, isK_pos e18⟩ ?_
        refine wa_iconst 45 dX10_worth_44 rfl (by decide) ?_
        refine wa_bipush 47 dX10_worth_45 rfl ⟨by decide, by decide⟩ ?_
        refine wa_iload_n 48 dX10_worth_47 rfl rfl ?_
        obtain ⟨c19, h⟩ := h
        refine wa_imul 49 dX10_worth_48 rfl c19 ?_
        obtain ⟨c20, h⟩ := h
        refine wa_iadd 50 dX10_worth_49 rfl c20 ?_
        refine wa_iload_n 51 dX10_worth_50 rfl rfl ?_
        obtain ⟨c21, h⟩ := h
        refine wa_iadd 52 dX10_worth_51 rfl c21 ?_
        refine wa_iload_n 53 dX10_worth_52 rfl rfl ?_
        refine wa_i2l 54 dX10_worth_53 rfl ?_
        obtain ⟨c22, h⟩ := h
        refine wa_lastore 55 dX10_worth_54 rfl (okA_of e18 c22) ?_
        refine wa_aload_n 56 dX10_worth_55 rfl rfl ?_
        refine wa_getR 59 0 dX10_worth_56 rfl wF_X10_9 rfl rfl ⟨k0, isK_pos e18⟩ ?_
        refine wa_bipush 61 dX10_worth_59 rfl ⟨by decide, by decide⟩ ?_
        refine wa_bipush 63 dX10_worth_61 rfl ⟨by decide, by decide⟩ ?_
        refine wa_iload_n 64 dX10_worth_63 rfl rfl ?_
        refine wa_imul 65 dX10_worth_64 rfl c19 ?_
        obtain ⟨c23, h⟩ := h
        refine wa_iadd 66 dX10_worth_65 rfl c23 ?_
        refine wa_iload_n 67 dX10_worth_66 rfl rfl ?_
        obtain ⟨c24, h⟩ := h
        refine wa_iadd 68 dX10_worth_67 rfl c24 ?_
        refine wa_iload_n 69 dX10_worth_68 rfl rfl ?_
        refine wa_i2l 70 dX10_worth_69 rfl ?_
        obtain ⟨c25, h⟩ := h
        refine wa_lastore 71 dX10_worth_70 rfl (okA_of e18 c25) ?_
        refine wa_iload 73 dX10_worth_71 rfl rfl ?_
        exact wa_iret dX10_worth_73 rfl h
      · replace h := h.2 q
        refine wa_iconst 29 dX10_worth_28 rfl (by decide) ?_
        exact wa_iret dX10_worth_29 rfl h
set_option maxRecDepth 20000 in
theorem t_X10_worthBetween (hL : LayOK L) {v0 v1 v2 v3 v5 v7 v9 : Int} (k0 : isK L v0 (10, 0)) (h : TR mX10_divisor 0 (0, 0) [(1, v5), (1, v9)] L μ (fun r1 L2 μ3 => ∃ w4, r1 = some (1, w4) ∧ L = L2 ∧ (0 ≤ v5 ∧ 0 < w4) ∧ (inL ((v5 / w4) * v9)) ∧ TR mX10_aheadOf 1 (0, 0) [(2, v0), (0, v1), (0, v2), (1, v7), (1, v9)] L μ3 (fun r7 L8 μ9 => ∃ w10, r7 = some (1, w10) ∧ L = L8 ∧ (0 ≤ ((v5 / w4) * v9) ∧ 0 < v9) ∧ (inL (w10 * (((v5 / w4) * v9) / v9))) ∧ TR mX10_aheadOf 1 (0, 0) [(2, v0), (0, v1), (0, v2), (1, v3), (1, v5)] L μ9 (fun r13 L14 μ15 => ∃ w16, r13 = some (1, w16) ∧ L = L14 ∧ (0 ≤ ((v5 / w4) * v9) ∧ 0 < v5) ∧ (inL (w16 * (((v5 / w4) * v9) / v5))) ∧ (inL ((w10 * (((v5 / w4) * v9) / v9)) - (w16 * (((v5 / w4) * v9) / v5)))) ∧ TR mX10_becomes 1 (0, 0) [(2, v0), (1, ((w10 * (((v5 / w4) * v9) / v9)) - (w16 * (((v5 / w4) * v9) / v5)))), (1, ((v5 / w4) * v9))] L μ15 (fun r20 L21 μ22 => r20 = none ∧ L = L21 ∧ Q none L μ22))))) : TR mX10_worthBetween 2 (0, 0) [(2, v0), (0, v1), (0, v2), (1, v3), (1, v5), (1, v7), (1, v9)] L μ Q := by
  refine TR.of (ls := [(2, v0), (0, v1), (0, v2), (1, v3), (9, 0), (1, v5), (9, 0), (1, v7), (9, 0), (1, v9), (9, 0), (9, 0), (9, 0)]) (by decide) (by simp) rfl (Nat.le_of_ble_eq_true rfl) ?_
  refine wa_lload 2 dX10_worthBetween_0 rfl rfl ?_
  refine wa_lload 4 dX10_worthBetween_2 rfl rfl ?_
  refine wa_lload 6 dX10_worthBetween_4 rfl rfl ?_
  refine wa_callS 9 0 2 (av := [(1, v5), (1, v9)]) (rest := [(1, v5)]) (k1 := (0, 0)) (k2 := (0, 0)) cvX10_divisor dX10_worthBetween_6 rfl wM_X10_95 ⟨rfl, Nat.le_of_ble_eq_true rfl, by decide, Nat.le_of_ble_eq_true rfl, rfl, rfl⟩ rfl (TR.mono h (fun r1 L2 μ3 h => ?_))
  obtain ⟨w4, rfl, rfl, h⟩ := h
  show WA mX10_worthBetween 2 (0, 0) 9 [(2, v0), (0, v1), (0, v2), (1, v3), (9, 0), (1, v5), (9, 0), (1, v7), (9, 0), (1, v9), (9, 0), (9, 0), (9, 0)] [(1, w4), (1, v5)] L μ3 Q
  obtain ⟨c5, h⟩ := h
  refine wa_ldivE 10 dX10_worthBetween_9 rfl c5 ?_
  refine wa_lload 12 dX10_worthBetween_10 rfl rfl ?_
  obtain ⟨c6, h⟩ := h
  refine wa_lmul 13 dX10_worthBetween_12 rfl c6 ?_
  refine wa_lstore 15 [(2, v0), (0, v1), (0, v2), (1, v3), (9, 0), (1, v5), (9, 0), (1, v7), (9, 0), (1, v9), (9, 0), (1, ((v5 / w4) * v9)), (9, 0)] dX10_worthBetween_13 rfl rfl rfl ?_
  refine wa_aload_n 16 dX10_worthBetween_15 rfl rfl ?_
  refine wa_aload_n 17 dX10_worthBetween_16 rfl rfl ?_
  refine wa_iload_n 18 dX10_worthBetween_17 rfl rfl ?_
  refine wa_iload_n 19 dX10_worthBetween_18 rfl rfl ?_
  refine wa_lload 21 dX10_worthBetween_19 rfl rfl ?_
  refine wa_lload 23 dX10_worthBetween_21 rfl rfl ?_
  refine wa_callV 26 1 4 10 (av := [(0, v1), (0, v2), (1, v7), (1, v9)]) (rest := [(2, v0)]) (k1 := (0, 0)) (k2 := (0, 0)) cvX10_aheadOf dX10_worthBetween_23 rfl wM_X10_106 ⟨rfl, by decide, rfl, Nat.le_of_ble_eq_true rfl, by decide, Nat.le_of_ble_eq_true rfl, rfl, rfl⟩ rfl k0 (TR.mono h (fun r7 L8 μ9 h => ?_))
  obtain ⟨w10, rfl, rfl, h⟩ := h
  show WA mX10_worthBetween 2 (0, 0) 26 [(2, v0), (0, v1), (0, v2), (1, v3), (9, 0), (1, v5), (9, 0), (1, v7), (9, 0), (1, v9), (9, 0), (1, ((v5 / w4) * v9)), (9, 0)] [(1, w10), (2, v0)] L μ9 Q
  refine wa_lload 28 dX10_worthBetween_26 rfl rfl ?_
  refine wa_lload 30 dX10_worthBetween_28 rfl rfl ?_
  obtain ⟨c11, h⟩ := h
  refine wa_ldivE 31 dX10_worthBetween_30 rfl c11 ?_
  obtain ⟨c12, h⟩ := h
  refine wa_lmul 32 dX10_worthBetween_31 rfl c12 ?_
  refine wa_aload_n 33 dX10_worthBetween_32 rfl rfl ?_
  refine wa_iload_n 34 dX10_worthBetween_33 rfl rfl ?_
  refine wa_iload_n 35 dX10_worthBetween_34 rfl rfl ?_
  refine wa_lload_n 36 dX10_worthBetween_35 rfl rfl ?_
  refine wa_lload 38 dX10_worthBetween_36 rfl rfl ?_
  refine wa_callV 41 1 4 10 (av := [(0, v1), (0, v2), (1, v3), (1, v5)]) (rest := [(1, (w10 * (((v5 / w4) * v9) / v9))), (2, v0)]) (k1 := (0, 0)) (k2 := (0, 0)) cvX10_aheadOf dX10_worthBetween_38 rfl wM_X10_106 ⟨rfl, by decide, rfl, Nat.le_of_ble_eq_true rfl, by decide, Nat.le_of_ble_eq_true rfl, rfl, rfl⟩ rfl k0 (TR.mono h (fun r13 L14 μ15 h => ?_))
  obtain ⟨w16, rfl, rfl, h⟩ := h
  show WA mX10_worthBetween 2 (0, 0) 41 [(2, v0), (0, v1), (0, v2), (1, v3), (9, 0), (1, v5), (9, 0), (1, v7), (9, 0), (1, v9), (9, 0), (1, ((v5 / w4) * v9)), (9, 0)] [(1, w16), (1, (w10 * (((v5 / w4) * v9) / v9))), (2, v0)] L μ15 Q
  refine wa_lload 43 dX10_worthBetween_41 rfl rfl ?_
  refine wa_lload 45 dX10_worthBetween_43 rfl rfl ?_
  obtain ⟨c17, h⟩ := h
  refine wa_ldivE 46 dX10_worthBetween_45 rfl c17 ?_
  obtain ⟨c18, h⟩ := h
  refine wa_lmul 47 dX10_worthBetween_46 rfl c18 ?_
  obtain ⟨c19, h⟩ := h
  refine wa_lsub 48 dX10_worthBetween_47 rfl c19 ?_
  refine wa_lload 50 dX10_worthBetween_48 rfl rfl ?_
  refine wa_callV 53 1 2 10 (av := [(1, ((w10 * (((v5 / w4) * v9) / v9)) - (w16 * (((v5 / w4) * v9) / v5)))), (1, ((v5 / w4) * v9))]) (rest := []) (k1 := (0, 0)) (k2 := (0, 0)) cvX10_becomes dX10_worthBetween_50 rfl wM_X10_110 ⟨rfl, by decide, rfl, Nat.le_of_ble_eq_true rfl, by decide, Nat.le_of_ble_eq_true rfl, rfl, rfl⟩ rfl k0 (TR.mono h (fun r20 L21 μ22 h => ?_))
  obtain ⟨rfl, rfl, h⟩ := h
  show WA mX10_worthBetween 2 (0, 0) 53 [(2, v0), (0, v1), (0, v2), (1, v3), (9, 0), (1, v5), (9, 0), (1, v7), (9, 0), (1, v9), (9, 0), (1, ((v5 / w4) * v9)), (9, 0)] [] L μ22 Q
  exact wa_vret dX10_worthBetween_53 rfl h
set_option maxRecDepth 20000 in
theorem t_X10_worthOf (hL : LayOK L) {v0 v1 v2 v3 : Int} (k0 : isK L v0 (10, 0)) (h : (¬ v3 = 0 → (inI (16 * v1)) ∧ (inI (85 + (16 * v1))) ∧ (inI ((85 + (16 * v1)) + v2)) ∧ (0 ≤ ((85 + (16 * v1)) + v2) ∧ ((85 + (16 * v1)) + v2) < 510) ∧ Q (some (1, (μ ((rf L v0 0)) (((85 + (16 * v1)) + v2))))) L μ) ∧ (v3 = 0 → (inI (16 * v1)) ∧ (inI (5 + (16 * v1))) ∧ (inI ((5 + (16 * v1)) + v2)) ∧ (0 ≤ ((5 + (16 * v1)) + v2) ∧ ((5 + (16 * v1)) + v2) < 510) ∧ Q (some (1, (μ ((rf L v0 0)) (((5 + (16 * v1)) + v2))))) L μ)) : TR mX10_worthOf 0 (0, 0) [(2, v0), (0, v1), (0, v2), (0, v3)] L μ Q := by
  refine TR.of (ls := [(2, v0), (0, v1), (0, v2), (0, v3)]) (by decide) (by simp) rfl (Nat.le_of_ble_eq_true rfl) ?_
  refine wa_aload_n 1 dX10_worthOf_0 rfl rfl ?_
  have e1 : isK L (rf L v0 0) (21, 510) := lay_f hL k0 0 rfl
  refine wa_getR 4 0 dX10_worthOf_1 rfl wF_X10_9 rfl rfl ⟨k0, isK_pos e1⟩ ?_
  refine wa_iload_n 5 dX10_worthOf_4 rfl rfl ?_
  refine wa_if_ne 8 12 dX10_worthOf_5 rfl (by decide) (fun q => ?_) (fun q => ?_)
  · replace h := h.1 q
    refine wa_bipush 14 dX10_worthOf_12 rfl ⟨by decide, by decide⟩ ?_
    refine wa_bipush 16 dX10_worthOf_14 rfl ⟨by decide, by decide⟩ ?_
    refine wa_iload_n 17 dX10_worthOf_16 rfl rfl ?_
    obtain ⟨c2, h⟩ := h
    refine wa_imul 18 dX10_worthOf_17 rfl c2 ?_
    obtain ⟨c3, h⟩ := h
    refine wa_iadd 19 dX10_worthOf_18 rfl c3 ?_
    refine wa_iload_n 20 dX10_worthOf_19 rfl rfl ?_
    obtain ⟨c4, h⟩ := h
    refine wa_iadd 21 dX10_worthOf_20 rfl c4 ?_
    obtain ⟨c5, h⟩ := h
    refine wa_laload 22 dX10_worthOf_21 rfl (okA_of e1 c5) ?_
    exact wa_lret dX10_worthOf_22 rfl h
  · replace h := h.2 q
    refine wa_iconst 9 dX10_worthOf_8 rfl (by decide) ?_
    refine wa_goto 14 dX10_worthOf_9 (by decide) ?_
    refine wa_bipush 16 dX10_worthOf_14 rfl ⟨by decide, by decide⟩ ?_
    refine wa_iload_n 17 dX10_worthOf_16 rfl rfl ?_
    obtain ⟨c6, h⟩ := h
    refine wa_imul 18 dX10_worthOf_17 rfl c6 ?_
    obtain ⟨c7, h⟩ := h
    refine wa_iadd 19 dX10_worthOf_18 rfl c7 ?_
    refine wa_iload_n 20 dX10_worthOf_19 rfl rfl ?_
    obtain ⟨c8, h⟩ := h
    refine wa_iadd 21 dX10_worthOf_20 rfl c8 ?_
    obtain ⟨c9, h⟩ := h
    refine wa_laload 22 dX10_worthOf_21 rfl (okA_of e1 c9) ?_
    exact wa_lret dX10_worthOf_22 rfl h
set_option maxRecDepth 20000 in
theorem t_X10_worthOfPiece (hL : LayOK L) {v0 v1 v2 : Int} (k0 : isK L v0 (10, 0)) (h : (inI (4 * v2)) ∧ (0 ≤ (4 * v2) ∧ (4 * v2) < 12) ∧ (inI ((4 * v2) + 1)) ∧ (0 ≤ ((4 * v2) + 1) ∧ ((4 * v2) + 1) < 12) ∧ (inI ((4 * v2) + 2)) ∧ (0 ≤ ((4 * v2) + 2) ∧ ((4 * v2) + 2) < 12) ∧ (inI ((4 * v2) + 3)) ∧ (0 ≤ ((4 * v2) + 3) ∧ ((4 * v2) + 3) < 12) ∧ TR mX10_worthBetween 2 (0, 0) [(2, v0), (0, v1), (0, 1), (1, (μ ((rf L v0 19)) ((4 * v2)))), (1, (μ ((rf L v0 19)) (((4 * v2) + 1)))), (1, (μ ((rf L v0 19)) (((4 * v2) + 2)))), (1, (μ ((rf L v0 19)) (((4 * v2) + 3))))] L μ (fun r10 L11 μ12 => r10 = none ∧ L = L11 ∧ Q none L μ12)) : TR mX10_worthOfPiece 3 (0, 0) [(2, v0), (0, v1), (0, v2)] L μ Q := by
  refine TR.of (ls := [(2, v0), (0, v1), (0, v2)]) (by decide) (by simp) rfl (Nat.le_of_ble_eq_true rfl) ?_
  refine wa_aload_n 1 dX10_worthOfPiece_0 rfl rfl ?_
  refine wa_iload_n 2 dX10_worthOfPiece_1 rfl rfl ?_
  refine wa_iconst 3 dX10_worthOfPiece_2 rfl (by decide) ?_
  refine wa_aload_n 4 dX10_worthOfPiece_3 rfl rfl ?_
  have e1 : isK L (rf L v0 19) (21, 12) := lay_f hL k0 19 rfl
  refine wa_getR 7 19 dX10_worthOfPiece_4 rfl wF_X10_37 rfl rfl ⟨k0, isK_pos e1⟩ ?_
  refine wa_iconst 8 dX10_worthOfPiece_7 rfl (by decide) ?_
  refine wa_iload_n 9 dX10_worthOfPiece_8 rfl rfl ?_
  obtain ⟨c2, h⟩ := h
  refine wa_imul 10 dX10_worthOfPiece_9 rfl c2 ?_
  obtain ⟨c3, h⟩ := h
  refine wa_laload 11 dX10_worthOfPiece_10 rfl (okA_of e1 c3) ?_
  refine wa_aload_n 12 dX10_worthOfPiece_11 rfl rfl ?_
  refine wa_getR 15 19 dX10_worthOfPiece_12 rfl wF_X10_37 rfl rfl ⟨k0, isK_pos e1⟩ ?_
  refine wa_iconst 16 dX10_worthOfPiece_15 rfl (by decide) ?_
  refine wa_iload_n 17 dX10_worthOfPiece_16 rfl rfl ?_
  refine wa_imul 18 dX10_worthOfPiece_17 rfl c2 ?_
  refine wa_iconst 19 dX10_worthOfPiece_18 rfl (by decide) ?_
  obtain ⟨c4, h⟩ := h
  refine wa_iadd 20 dX10_worthOfPiece_19 rfl c4 ?_
  obtain ⟨c5, h⟩ := h
  refine wa_laload 21 dX10_worthOfPiece_20 rfl (okA_of e1 c5) ?_
  refine wa_aload_n 22 dX10_worthOfPiece_21 rfl rfl ?_
  refine wa_getR 25 19 dX10_worthOfPiece_22 rfl wF_X10_37 rfl rfl ⟨k0, isK_pos e1⟩ ?_
  refine wa_iconst 26 dX10_worthOfPiece_25 rfl (by decide) ?_
  refine wa_iload_n 27 dX10_worthOfPiece_26 rfl rfl ?_
  refine wa_imul 28 dX10_worthOfPiece_27 rfl c2 ?_
  refine wa_iconst 29 dX10_worthOfPiece_28 rfl (by decide) ?_
  obtain ⟨c6, h⟩ := h
  refine wa_iadd 30 dX10_worthOfPiece_29 rfl c6 ?_
  obtain ⟨c7, h⟩ := h
  refine wa_laload 31 dX10_worthOfPiece_30 rfl (okA_of e1 c7) ?_
  refine wa_aload_n 32 dX10_worthOfPiece_31 rfl rfl ?_
  refine wa_getR 35 19 dX10_worthOfPiece_32 rfl wF_X10_37 rfl rfl ⟨k0, isK_pos e1⟩ ?_
  refine wa_iconst 36 dX10_worthOfPiece_35 rfl (by decide) ?_
  refine wa_iload_n 37 dX10_worthOfPiece_36 rfl rfl ?_
  refine wa_imul 38 dX10_worthOfPiece_37 rfl c2 ?_
  refine wa_iconst 39 dX10_worthOfPiece_38 rfl (by decide) ?_
  obtain ⟨c8, h⟩ := h
  refine wa_iadd 40 dX10_worthOfPiece_39 rfl c8 ?_
  obtain ⟨c9, h⟩ := h
  refine wa_laload 41 dX10_worthOfPiece_40 rfl (okA_of e1 c9) ?_
  refine wa_callV 44 2 6 10 (av := [(0, v1), (0, 1), (1, (μ ((rf L v0 19)) ((4 * v2)))), (1, (μ ((rf L v0 19)) (((4 * v2) + 1)))), (1, (μ ((rf L v0 19)) (((4 * v2) + 2)))), (1, (μ ((rf L v0 19)) (((4 * v2) + 3))))]) (rest := []) (k1 := (0, 0)) (k2 := (0, 0)) cvX10_worthBetween dX10_worthOfPiece_41 rfl wM_X10_118 ⟨rfl, by decide, rfl, Nat.le_of_ble_eq_true rfl, by decide, Nat.le_of_ble_eq_true rfl, rfl, rfl⟩ rfl k0 (TR.mono h (fun r10 L11 μ12 h => ?_))
  obtain ⟨rfl, rfl, h⟩ := h
  show WA mX10_worthOfPiece 3 (0, 0) 44 [(2, v0), (0, v1), (0, v2)] [] L μ12 Q
  exact wa_vret dX10_worthOfPiece_44 rfl h
set_option maxRecDepth 20000 in
theorem t_X10_worthOfShare (hL : LayOK L) {v0 v1 v2 v3 : Int} (k0 : isK L v0 (10, 0)) (h : WA mX10_worthOfShare 4 (0, 0) 6 [(2, v0), (0, v1), (0, v2), (0, v3), (1, 0), (9, 0), (0, 0)] [] L μ Q) : TR mX10_worthOfShare 4 (0, 0) [(2, v0), (0, v1), (0, v2), (0, v3)] L μ Q := by
  refine TR.of (ls := [(2, v0), (0, v1), (0, v2), (0, v3), (9, 0), (9, 0), (9, 0)]) (by decide) (by simp) rfl (Nat.le_of_ble_eq_true rfl) ?_
  refine wa_lconst 1 0 dX10_worthOfShare_0 rfl ⟨rfl, by decide⟩ ?_
  refine wa_lstore 3 [(2, v0), (0, v1), (0, v2), (0, v3), (1, 0), (9, 0), (9, 0)] dX10_worthOfShare_1 rfl rfl rfl ?_
  refine wa_iconst 4 dX10_worthOfShare_3 rfl (by decide) ?_
  refine wa_istore 6 [(2, v0), (0, v1), (0, v2), (0, v3), (1, 0), (9, 0), (0, 0)] dX10_worthOfShare_4 rfl rfl rfl ?_
  exact h
set_option maxRecDepth 20000 in
theorem s_X10_worthOfShare_6 (hL : LayOK L) {v0 v1 v2 v3 v4 v6 : Int} (k0 : isK L v0 (10, 0)) (h : (inI (165 + v2)) ∧ (0 ≤ (165 + v2) ∧ (165 + v2) < 510) ∧ ((μ ((rf L v0 0)) ((165 + v2))) ≤ v6 → Q (some (1, v4)) L μ) ∧ (¬ (μ ((rf L v0 0)) ((165 + v2))) ≤ v6 → (inI (8 * v2)) ∧ (inI (170 + (8 * v2))) ∧ (inI (4 * v6)) ∧ (inI ((170 + (8 * v2)) + (4 * v6))) ∧ TR mX10_scaled 3 (0, 0) [(2, v0), (0, v1), (0, v3), (0, ((170 + (8 * v2)) + (4 * v6)))] L μ (fun r8 L9 μ10 => ∃ w11, r8 = some (1, w11) ∧ L = L9 ∧ (inL (v4 + w11)) ∧ (inI (v6 + 1)) ∧ WA mX10_worthOfShare 4 (0, 0) 6 [(2, v0), (0, v1), (0, v2), (0, v3), (1, (v4 + w11)), (9, 0), (0, (v6 + 1))] [] L μ10 Q))) : WA mX10_worthOfShare 4 (0, 0) 6 [(2, v0), (0, v1), (0, v2), (0, v3), (1, v4), (9, 0), (0, v6)] [] L μ Q := by
  refine wa_iload 8 dX10_worthOfShare_6 rfl rfl ?_
  refine wa_i2l 9 dX10_worthOfShare_8 rfl ?_
  refine wa_aload_n 10 dX10_worthOfShare_9 rfl rfl ?_
  have e1 : isK L (rf L v0 0) (21, 510) := lay_f hL k0 0 rfl
  refine wa_getR 13 0 dX10_worthOfShare_10 rfl wF_X10_9 rfl rfl ⟨k0, isK_pos e1⟩ ?_
  refine wa_sipush 16 dX10_worthOfShare_13 rfl ⟨by decide, by decide⟩ ?_
  refine wa_iload_n 17 dX10_worthOfShare_16 rfl rfl ?_
  obtain ⟨c2, h⟩ := h
  refine wa_iadd 18 dX10_worthOfShare_17 rfl c2 ?_
  obtain ⟨c3, h⟩ := h
  refine wa_laload 19 dX10_worthOfShare_18 rfl (okA_of e1 c3) ?_
  refine wa_lc_ge 23 53 dX10_worthOfShare_19 dX10_worthOfShare_20 rfl (by decide) (fun q => ?_) (fun q => ?_)
  · replace h := h.1 q
    refine wa_lload 55 dX10_worthOfShare_53 rfl rfl ?_
    exact wa_lret dX10_worthOfShare_55 rfl h
  · replace h := h.2 q
    refine wa_lload 25 dX10_worthOfShare_23 rfl rfl ?_
    refine wa_aload_n 26 dX10_worthOfShare_25 rfl rfl ?_
    refine wa_iload_n 27 dX10_worthOfShare_26 rfl rfl ?_
    refine wa_iload_n 28 dX10_worthOfShare_27 rfl rfl ?_
    refine wa_sipush 31 dX10_worthOfShare_28 rfl ⟨by decide, by decide⟩ ?_
    refine wa_bipush 33 dX10_worthOfShare_31 rfl ⟨by decide, by decide⟩ ?_
    refine wa_iload_n 34 dX10_worthOfShare_33 rfl rfl ?_
    obtain ⟨c4, h⟩ := h
    refine wa_imul 35 dX10_worthOfShare_34 rfl c4 ?_
    obtain ⟨c5, h⟩ := h
    refine wa_iadd 36 dX10_worthOfShare_35 rfl c5 ?_
    refine wa_iconst 37 dX10_worthOfShare_36 rfl (by decide) ?_
    refine wa_iload 39 dX10_worthOfShare_37 rfl rfl ?_
    obtain ⟨c6, h⟩ := h
    refine wa_imul 40 dX10_worthOfShare_39 rfl c6 ?_
    obtain ⟨c7, h⟩ := h
    refine wa_iadd 41 dX10_worthOfShare_40 rfl c7 ?_
    refine wa_callV 44 3 3 10 (av := [(0, v1), (0, v3), (0, ((170 + (8 * v2)) + (4 * v6)))]) (rest := [(1, v4)]) (k1 := (0, 0)) (k2 := (0, 0)) cvX10_scaled dX10_worthOfShare_41 rfl wM_X10_342 ⟨rfl, by decide, rfl, Nat.le_of_ble_eq_true rfl, by decide, Nat.le_of_ble_eq_true rfl, rfl, rfl⟩ rfl k0 (TR.mono h (fun r8 L9 μ10 h => ?_))
    obtain ⟨w11, rfl, rfl, h⟩ := h
    show WA mX10_worthOfShare 4 (0, 0) 44 [(2, v0), (0, v1), (0, v2), (0, v3), (1, v4), (9, 0), (0, v6)] [(1, w11), (1, v4)] L μ10 Q
    obtain ⟨c12, h⟩ := h
    refine wa_ladd 45 dX10_worthOfShare_44 rfl c12 ?_
    refine wa_lstore 47 [(2, v0), (0, v1), (0, v2), (0, v3), (1, (v4 + w11)), (9, 0), (0, v6)] dX10_worthOfShare_45 rfl rfl rfl ?_
    obtain ⟨c13, h⟩ := h
    refine wa_iinc 50 [(2, v0), (0, v1), (0, v2), (0, v3), (1, (v4 + w11)), (9, 0), (0, (v6 + 1))] dX10_worthOfShare_47 rfl rfl rfl c13 rfl ?_
    refine wa_goto 6 dX10_worthOfShare_50 (by decide) ?_
    exact h
set_option maxRecDepth 20000 in
theorem t_X10_worths (hL : LayOK L) {v0 : Int} (k0 : isK L v0 (10, 0)) (h : TR mX10_copies 0 (0, 0) [(2, (rf L v0 0)), (2, (rf L v0 1))] L μ (fun r3 L4 μ5 => r3 = none ∧ L = L4 ∧ TR mX10_readWorths 4 (0, 0) [(2, v0)] L (up (up μ5 v0 8 0) v0 9 0) (fun r6 L7 μ8 => r6 = none ∧ L = L7 ∧ WA mX10_worths 5 (0, 0) 27 [(2, v0), (0, 1)] [] L μ8 Q))) : TR mX10_worths 5 (0, 0) [(2, v0)] L μ Q := by
  refine TR.of (ls := [(2, v0), (9, 0)]) (by decide) (by simp) rfl (Nat.le_of_ble_eq_true rfl) ?_
  refine wa_aload_n 1 dX10_worths_0 rfl rfl ?_
  have e1 : isK L (rf L v0 0) (21, 510) := lay_f hL k0 0 rfl
  refine wa_getR 4 0 dX10_worths_1 rfl wF_X10_9 rfl rfl ⟨k0, isK_pos e1⟩ ?_
  refine wa_aload_n 5 dX10_worths_4 rfl rfl ?_
  have e2 : isK L (rf L v0 1) (21, 510) := lay_f hL k0 1 rfl
  refine wa_getR 8 1 dX10_worths_5 rfl wF_X10_15 rfl rfl ⟨k0, isK_pos e2⟩ ?_
  refine wa_callS 11 0 2 (av := [(2, (rf L v0 0)), (2, (rf L v0 1))]) (rest := []) (k1 := (0, 0)) (k2 := (0, 0)) cvX10_copies dX10_worths_8 rfl wM_X10_189 ⟨rfl, Nat.le_of_ble_eq_true rfl, by decide, Nat.le_of_ble_eq_true rfl, rfl, rfl⟩ rfl (TR.mono h (fun r3 L4 μ5 h => ?_))
  obtain ⟨rfl, rfl, h⟩ := h
  show WA mX10_worths 5 (0, 0) 11 [(2, v0), (9, 0)] [] L μ5 Q
  refine wa_aload_n 12 dX10_worths_11 rfl rfl ?_
  refine wa_iconst 13 dX10_worths_12 rfl (by decide) ?_
  refine wa_putN 16 8 dX10_worths_13 rfl wF_X10_154 rfl rfl k0 ?_
  refine wa_aload_n 17 dX10_worths_16 rfl rfl ?_
  refine wa_iconst 18 dX10_worths_17 rfl (by decide) ?_
  refine wa_putI 21 9 dX10_worths_18 rfl wF_X10_157 rfl rfl k0 (Or.inl rfl) ?_
  refine wa_iconst 22 dX10_worths_21 rfl (by decide) ?_
  refine wa_istore_n 23 [(2, v0), (0, 1)] dX10_worths_22 rfl rfl rfl ?_
  refine wa_aload_n 24 dX10_worths_23 rfl rfl ?_
  refine wa_callV 27 4 0 10 (av := []) (rest := []) (k1 := (0, 0)) (k2 := (0, 0)) cvX10_readWorths dX10_worths_24 rfl wM_X10_193 ⟨rfl, by decide, rfl, Nat.le_of_ble_eq_true rfl, by decide, Nat.le_of_ble_eq_true rfl, rfl, rfl⟩ rfl k0 (TR.mono h (fun r6 L7 μ8 h => ?_))
  obtain ⟨rfl, rfl, h⟩ := h
  show WA mX10_worths 5 (0, 0) 27 [(2, v0), (0, 1)] [] L μ8 Q
  exact h
set_option maxRecDepth 20000 in
theorem s_X10_worths_27 (hL : LayOK L) {v0 v1 : Int} (k0 : isK L v0 (10, 0)) (h : TR mX10_goesOn 1 (0, 0) [(2, v0), (0, 59)] L μ (fun r1 L2 μ3 => ∃ w4, r1 = some (0, w4) ∧ L = L2 ∧ (w4 = 0 → TR mX10_endsText 1 (0, 0) [(2, v0), (0, v1)] L μ3 (fun r5 L6 μ7 => ∃ w8, r5 = some (0, w8) ∧ L = L6 ∧ Q (some (0, w8)) L μ7)) ∧ (¬ w4 = 0 → TR mX10_readWorths 4 (0, 0) [(2, v0)] L μ3 (fun r9 L10 μ11 => r9 = none ∧ L = L10 ∧ (inI (v1 + 1)) ∧ WA mX10_worths 5 (0, 0) 27 [(2, v0), (0, (v1 + 1))] [] L μ11 Q)))) : WA mX10_worths 5 (0, 0) 27 [(2, v0), (0, v1)] [] L μ Q := by
  refine wa_aload_n 28 dX10_worths_27 rfl rfl ?_
  refine wa_bipush 30 dX10_worths_28 rfl ⟨by decide, by decide⟩ ?_
  refine wa_callV 33 1 1 10 (av := [(0, 59)]) (rest := []) (k1 := (0, 0)) (k2 := (0, 0)) cvX10_goesOn dX10_worths_30 rfl wM_X10_186 ⟨rfl, by decide, rfl, Nat.le_of_ble_eq_true rfl, by decide, Nat.le_of_ble_eq_true rfl, rfl, rfl⟩ rfl k0 (TR.mono h (fun r1 L2 μ3 h => ?_))
  obtain ⟨w4, rfl, rfl, h⟩ := h
  show WA mX10_worths 5 (0, 0) 33 [(2, v0), (0, v1)] [(0, w4)] L μ3 Q
  refine wa_if_eq 36 46 dX10_worths_33 rfl (by decide) (fun q => ?_) (fun q => ?_)
  · replace h := h.1 q
    refine wa_aload_n 47 dX10_worths_46 rfl rfl ?_
    refine wa_iload_n 48 dX10_worths_47 rfl rfl ?_
    refine wa_callV 51 1 1 10 (av := [(0, v1)]) (rest := []) (k1 := (0, 0)) (k2 := (0, 0)) cvX10_endsText dX10_worths_48 rfl wM_X10_196 ⟨rfl, by decide, rfl, Nat.le_of_ble_eq_true rfl, by decide, Nat.le_of_ble_eq_true rfl, rfl, rfl⟩ rfl k0 (TR.mono h (fun r5 L6 μ7 h => ?_))
    obtain ⟨w8, rfl, rfl, h⟩ := h
    show WA mX10_worths 5 (0, 0) 51 [(2, v0), (0, v1)] [(0, w8)] L μ7 Q
    exact wa_iret dX10_worths_51 rfl h
  · replace h := h.2 q
    refine wa_aload_n 37 dX10_worths_36 rfl rfl ?_
    refine wa_callV 40 4 0 10 (av := []) (rest := []) (k1 := (0, 0)) (k2 := (0, 0)) cvX10_readWorths dX10_worths_37 rfl wM_X10_193 ⟨rfl, by decide, rfl, Nat.le_of_ble_eq_true rfl, by decide, Nat.le_of_ble_eq_true rfl, rfl, rfl⟩ rfl k0 (TR.mono h (fun r9 L10 μ11 h => ?_))
    obtain ⟨rfl, rfl, h⟩ := h
    show WA mX10_worths 5 (0, 0) 40 [(2, v0), (0, v1)] [] L μ11 Q
    obtain ⟨c12, h⟩ := h
    refine wa_iinc 43 [(2, v0), (0, (v1 + 1))] dX10_worths_40 rfl rfl rfl c12 rfl ?_
    refine wa_goto 27 dX10_worths_43 (by decide) ?_
    exact h
set_option maxRecDepth 20000 in
theorem t_X10_would (hL : LayOK L) {v0 v1 v2 v3 v4 : Int} (k0 : isK L v0 (10, 0)) (h : TR mX10_mayWay 2 (0, 0) [(2, v0), (0, v1), (0, v2)] L μ (fun r1 L2 μ3 => ∃ w4, r1 = some (0, w4) ∧ L = L2 ∧ (¬ w4 = 0 → WA mX10_would 9 (0, 0) 33 [(2, v0), (0, v1), (0, v2), (0, v3), (0, v4), (9, 0)] [(0, 0)] L μ3 Q) ∧ (w4 = 0 → TR mX10_isAgent 1 (0, 0) [(2, v0), (0, v3)] L μ3 (fun r5 L6 μ7 => ∃ w8, r5 = some (0, w8) ∧ L = L6 ∧ (w8 = 0 → WA mX10_would 9 (0, 0) 33 [(2, v0), (0, v1), (0, v2), (0, v3), (0, v4), (9, 0)] [(0, 0)] L μ7 Q) ∧ (¬ w8 = 0 → TR mX10_in 0 (0, 0) [(1, v4), (1, 0), (1, 1)] L μ7 (fun r9 L10 μ11 => ∃ w12, r9 = some (0, w12) ∧ L = L10 ∧ (w12 = 0 → WA mX10_would 9 (0, 0) 33 [(2, v0), (0, v1), (0, v2), (0, v3), (0, v4), (9, 0)] [(0, 0)] L μ11 Q) ∧ (¬ w12 = 0 → WA mX10_would 9 (0, 0) 33 [(2, v0), (0, v1), (0, v2), (0, v3), (0, v4), (9, 0)] [(0, 1)] L μ11 Q))))))) : TR mX10_would 9 (0, 0) [(2, v0), (0, v1), (0, v2), (0, v3), (0, v4)] L μ Q := by
  refine TR.of (ls := [(2, v0), (0, v1), (0, v2), (0, v3), (0, v4), (9, 0)]) (by decide) (by simp) rfl (Nat.le_of_ble_eq_true rfl) ?_
  refine wa_aload_n 1 dX10_would_0 rfl rfl ?_
  refine wa_iload_n 2 dX10_would_1 rfl rfl ?_
  refine wa_iload_n 3 dX10_would_2 rfl rfl ?_
  refine wa_callV 6 2 2 10 (av := [(0, v1), (0, v2)]) (rest := []) (k1 := (0, 0)) (k2 := (0, 0)) cvX10_mayWay dX10_would_3 rfl wM_X10_318 ⟨rfl, by decide, rfl, Nat.le_of_ble_eq_true rfl, by decide, Nat.le_of_ble_eq_true rfl, rfl, rfl⟩ rfl k0 (TR.mono h (fun r1 L2 μ3 h => ?_))
  obtain ⟨w4, rfl, rfl, h⟩ := h
  show WA mX10_would 9 (0, 0) 6 [(2, v0), (0, v1), (0, v2), (0, v3), (0, v4), (9, 0)] [(0, w4)] L μ3 Q
  refine wa_if_ne 9 32 dX10_would_6 rfl (by decide) (fun q => ?_) (fun q => ?_)
  · replace h := h.1 q
    refine wa_iconst 33 dX10_would_32 rfl (by decide) ?_
    exact h
  · replace h := h.2 q
    refine wa_aload_n 10 dX10_would_9 rfl rfl ?_
    refine wa_iload_n 11 dX10_would_10 rfl rfl ?_
    refine wa_callV 14 1 1 10 (av := [(0, v3)]) (rest := []) (k1 := (0, 0)) (k2 := (0, 0)) cvX10_isAgent dX10_would_11 rfl wM_X10_79 ⟨rfl, by decide, rfl, Nat.le_of_ble_eq_true rfl, by decide, Nat.le_of_ble_eq_true rfl, rfl, rfl⟩ rfl k0 (TR.mono h (fun r5 L6 μ7 h => ?_))
    obtain ⟨w8, rfl, rfl, h⟩ := h
    show WA mX10_would 9 (0, 0) 14 [(2, v0), (0, v1), (0, v2), (0, v3), (0, v4), (9, 0)] [(0, w8)] L μ7 Q
    refine wa_if_eq 17 32 dX10_would_14 rfl (by decide) (fun q => ?_) (fun q => ?_)
    · replace h := h.1 q
      refine wa_iconst 33 dX10_would_32 rfl (by decide) ?_
      exact h
    · replace h := h.2 q
      refine wa_iload 19 dX10_would_17 rfl rfl ?_
      refine wa_i2l 20 dX10_would_19 rfl ?_
      refine wa_lconst 21 0 dX10_would_20 rfl ⟨rfl, by decide⟩ ?_
      refine wa_lconst 22 1 dX10_would_21 rfl ⟨rfl, by decide⟩ ?_
      refine wa_callS 25 0 3 (av := [(1, v4), (1, 0), (1, 1)]) (rest := []) (k1 := (0, 0)) (k2 := (0, 0)) cvX10_in dX10_would_22 rfl wM_X10_65 ⟨rfl, Nat.le_of_ble_eq_true rfl, by decide, Nat.le_of_ble_eq_true rfl, rfl, rfl⟩ rfl (TR.mono h (fun r9 L10 μ11 h => ?_))
      obtain ⟨w12, rfl, rfl, h⟩ := h
      show WA mX10_would 9 (0, 0) 25 [(2, v0), (0, v1), (0, v2), (0, v3), (0, v4), (9, 0)] [(0, w12)] L μ11 Q
      refine wa_if_eq 28 32 dX10_would_25 rfl (by decide) (fun q => ?_) (fun q => ?_)
      · replace h := h.1 q
        refine wa_iconst 33 dX10_would_32 rfl (by decide) ?_
        exact h
      · replace h := h.2 q
        refine wa_iconst 29 dX10_would_28 rfl (by decide) ?_
        refine wa_goto 33 dX10_would_29 (by decide) ?_
        exact h
set_option maxRecDepth 20000 in
theorem s_X10_would_33 (hL : LayOK L) {v0 v1 v2 v3 v4 s0 : Int} (k0 : isK L v0 (10, 0)) (h : (s0 = 0 → Q (some (1, (-9223372036854775808))) L μ) ∧ (¬ s0 = 0 → TR mX10_wouldBring 8 (0, 0) [(2, v0), (0, v1), (0, v2), (0, v3)] L μ (fun r1 L2 μ3 => ∃ w4, r1 = some (0, w4) ∧ L = L2 ∧ (w4 = 0 → Q (some (1, (-9223372036854775808))) L μ3) ∧ (¬ w4 = 0 → TR mX10_partOf 0 (0, 0) [(2, v0), (0, v4)] L μ3 (fun r5 L6 μ7 => ∃ w8, r5 = some (1, w8) ∧ L = L6 ∧ Q (some (1, w8)) L μ7))))) : WA mX10_would 9 (0, 0) 33 [(2, v0), (0, v1), (0, v2), (0, v3), (0, v4), (9, 0)] [(0, s0)] L μ Q := by
  refine wa_istore 35 [(2, v0), (0, v1), (0, v2), (0, v3), (0, v4), (0, s0)] dX10_would_33 rfl rfl rfl ?_
  refine wa_iload 37 dX10_would_35 rfl rfl ?_
  refine wa_if_eq 40 59 dX10_would_37 rfl (by decide) (fun q => ?_) (fun q => ?_)
  · replace h := h.1 q
    refine wa_ldc2 62 (-9223372036854775808) dX10_would_59 rfl wJ_X10_116 ⟨rfl, by decide⟩ ?_
    exact wa_lret dX10_would_62 rfl h
  · replace h := h.2 q
    refine wa_aload_n 41 dX10_would_40 rfl rfl ?_
    refine wa_iload_n 42 dX10_would_41 rfl rfl ?_
    refine wa_iload_n 43 dX10_would_42 rfl rfl ?_
    refine wa_iload_n 44 dX10_would_43 rfl rfl ?_
    refine wa_callV 47 8 3 10 (av := [(0, v1), (0, v2), (0, v3)]) (rest := []) (k1 := (0, 0)) (k2 := (0, 0)) cvX10_wouldBring dX10_would_44 rfl wM_X10_351 ⟨rfl, by decide, rfl, Nat.le_of_ble_eq_true rfl, by decide, Nat.le_of_ble_eq_true rfl, rfl, rfl⟩ rfl k0 (TR.mono h (fun r1 L2 μ3 h => ?_))
    obtain ⟨w4, rfl, rfl, h⟩ := h
    show WA mX10_would 9 (0, 0) 47 [(2, v0), (0, v1), (0, v2), (0, v3), (0, v4), (0, s0)] [(0, w4)] L μ3 Q
    refine wa_if_eq 50 59 dX10_would_47 rfl (by decide) (fun q => ?_) (fun q => ?_)
    · replace h := h.1 q
      refine wa_ldc2 62 (-9223372036854775808) dX10_would_59 rfl wJ_X10_116 ⟨rfl, by decide⟩ ?_
      exact wa_lret dX10_would_62 rfl h
    · replace h := h.2 q
      refine wa_aload_n 51 dX10_would_50 rfl rfl ?_
      refine wa_iload 53 dX10_would_51 rfl rfl ?_
      refine wa_callV 56 0 1 10 (av := [(0, v4)]) (rest := []) (k1 := (0, 0)) (k2 := (0, 0)) cvX10_partOf dX10_would_53 rfl wM_X10_122 ⟨rfl, by decide, rfl, Nat.le_of_ble_eq_true rfl, by decide, Nat.le_of_ble_eq_true rfl, rfl, rfl⟩ rfl k0 (TR.mono h (fun r5 L6 μ7 h => ?_))
      obtain ⟨w8, rfl, rfl, h⟩ := h
      show WA mX10_would 9 (0, 0) 56 [(2, v0), (0, v1), (0, v2), (0, v3), (0, v4), (0, s0)] [(1, w8)] L μ7 Q
      refine wa_goto 62 dX10_would_56 (by decide) ?_
      exact wa_lret dX10_would_62 rfl h
set_option maxRecDepth 20000 in
theorem t_X10_wouldBring (hL : LayOK L) {v0 v1 v2 v3 : Int} (k0 : isK L v0 (10, 0)) (h : TR mX10_copies 0 (0, 0) [(2, (rf L v0 0)), (2, (rf L v0 25))] L μ (fun r3 L4 μ5 => r3 = none ∧ L = L4 ∧ TR mX10_goes 7 (0, 0) [(2, v0), (0, v1), (0, v2)] L μ5 (fun r6 L7 μ8 => ∃ w9, r6 = some (0, w9) ∧ L = L7 ∧ (w9 = 0 → TR mX10_copies 0 (0, 0) [(2, (rf L v0 25)), (2, (rf L v0 0))] L μ8 (fun r10 L11 μ12 => r10 = none ∧ L = L11 ∧ (w9 = 0 ∨ w9 = 1) ∧ Q (some (0, w9)) L μ12)) ∧ (¬ w9 = 0 → TR mX10_worthOfShare 4 (0, 0) [(2, v0), (0, v3), (0, v3), (0, 0)] L μ8 (fun r14 L15 μ16 => ∃ w17, r14 = some (1, w17) ∧ L = L15 ∧ TR mX10_becomes 1 (0, 0) [(2, v0), (1, w17), (1, (μ16 ((rf L v0 0)) 3))] L μ16 (fun r18 L19 μ20 => r18 = none ∧ L = L19 ∧ TR mX10_copies 0 (0, 0) [(2, (rf L v0 25)), (2, (rf L v0 0))] L μ20 (fun r21 L22 μ23 => r21 = none ∧ L = L22 ∧ (w9 = 0 ∨ w9 = 1) ∧ Q (some (0, w9)) L μ23))))))) : TR mX10_wouldBring 8 (0, 0) [(2, v0), (0, v1), (0, v2), (0, v3)] L μ Q := by
  refine TR.of (ls := [(2, v0), (0, v1), (0, v2), (0, v3), (9, 0)]) (by decide) (by simp) rfl (Nat.le_of_ble_eq_true rfl) ?_
  refine wa_aload_n 1 dX10_wouldBring_0 rfl rfl ?_
  have e1 : isK L (rf L v0 0) (21, 510) := lay_f hL k0 0 rfl
  refine wa_getR 4 0 dX10_wouldBring_1 rfl wF_X10_9 rfl rfl ⟨k0, isK_pos e1⟩ ?_
  refine wa_aload_n 5 dX10_wouldBring_4 rfl rfl ?_
  have e2 : isK L (rf L v0 25) (21, 510) := lay_f hL k0 25 rfl
  refine wa_getR 8 25 dX10_wouldBring_5 rfl wF_X10_52 rfl rfl ⟨k0, isK_pos e2⟩ ?_
  refine wa_callS 11 0 2 (av := [(2, (rf L v0 0)), (2, (rf L v0 25))]) (rest := []) (k1 := (0, 0)) (k2 := (0, 0)) cvX10_copies dX10_wouldBring_8 rfl wM_X10_189 ⟨rfl, Nat.le_of_ble_eq_true rfl, by decide, Nat.le_of_ble_eq_true rfl, rfl, rfl⟩ rfl (TR.mono h (fun r3 L4 μ5 h => ?_))
  obtain ⟨rfl, rfl, h⟩ := h
  show WA mX10_wouldBring 8 (0, 0) 11 [(2, v0), (0, v1), (0, v2), (0, v3), (9, 0)] [] L μ5 Q
  refine wa_aload_n 12 dX10_wouldBring_11 rfl rfl ?_
  refine wa_iload_n 13 dX10_wouldBring_12 rfl rfl ?_
  refine wa_iload_n 14 dX10_wouldBring_13 rfl rfl ?_
  refine wa_callV 17 7 2 10 (av := [(0, v1), (0, v2)]) (rest := []) (k1 := (0, 0)) (k2 := (0, 0)) cvX10_goes dX10_wouldBring_14 rfl wM_X10_321 ⟨rfl, by decide, rfl, Nat.le_of_ble_eq_true rfl, by decide, Nat.le_of_ble_eq_true rfl, rfl, rfl⟩ rfl k0 (TR.mono h (fun r6 L7 μ8 h => ?_))
  obtain ⟨w9, rfl, rfl, h⟩ := h
  show WA mX10_wouldBring 8 (0, 0) 17 [(2, v0), (0, v1), (0, v2), (0, v3), (9, 0)] [(0, w9)] L μ8 Q
  refine wa_istore 19 [(2, v0), (0, v1), (0, v2), (0, v3), (0, w9)] dX10_wouldBring_17 rfl rfl rfl ?_
  refine wa_iload 21 dX10_wouldBring_19 rfl rfl ?_
  refine wa_if_eq 24 41 dX10_wouldBring_21 rfl (by decide) (fun q => ?_) (fun q => ?_)
  · replace h := h.1 q
    refine wa_aload_n 42 dX10_wouldBring_41 rfl rfl ?_
    refine wa_getR 45 25 dX10_wouldBring_42 rfl wF_X10_52 rfl rfl ⟨k0, isK_pos e2⟩ ?_
    refine wa_aload_n 46 dX10_wouldBring_45 rfl rfl ?_
    refine wa_getR 49 0 dX10_wouldBring_46 rfl wF_X10_9 rfl rfl ⟨k0, isK_pos e1⟩ ?_
    refine wa_callS 52 0 2 (av := [(2, (rf L v0 25)), (2, (rf L v0 0))]) (rest := []) (k1 := (0, 0)) (k2 := (0, 0)) cvX10_copies dX10_wouldBring_49 rfl wM_X10_189 ⟨rfl, Nat.le_of_ble_eq_true rfl, by decide, Nat.le_of_ble_eq_true rfl, rfl, rfl⟩ rfl (TR.mono h (fun r10 L11 μ12 h => ?_))
    obtain ⟨rfl, rfl, h⟩ := h
    show WA mX10_wouldBring 8 (0, 0) 52 [(2, v0), (0, v1), (0, v2), (0, v3), (0, w9)] [] L μ12 Q
    refine wa_iload 54 dX10_wouldBring_52 rfl rfl ?_
    obtain ⟨c13, h⟩ := h
    exact wa_zret dX10_wouldBring_54 rfl c13 h
  · replace h := h.2 q
    refine wa_aload_n 25 dX10_wouldBring_24 rfl rfl ?_
    refine wa_aload_n 26 dX10_wouldBring_25 rfl rfl ?_
    refine wa_iload_n 27 dX10_wouldBring_26 rfl rfl ?_
    refine wa_iload_n 28 dX10_wouldBring_27 rfl rfl ?_
    refine wa_iconst 29 dX10_wouldBring_28 rfl (by decide) ?_
    refine wa_callV 32 4 3 10 (av := [(0, v3), (0, v3), (0, 0)]) (rest := [(2, v0)]) (k1 := (0, 0)) (k2 := (0, 0)) cvX10_worthOfShare dX10_wouldBring_29 rfl wM_X10_345 ⟨rfl, by decide, rfl, Nat.le_of_ble_eq_true rfl, by decide, Nat.le_of_ble_eq_true rfl, rfl, rfl⟩ rfl k0 (TR.mono h (fun r14 L15 μ16 h => ?_))
    obtain ⟨w17, rfl, rfl, h⟩ := h
    show WA mX10_wouldBring 8 (0, 0) 32 [(2, v0), (0, v1), (0, v2), (0, v3), (0, w9)] [(1, w17), (2, v0)] L μ16 Q
    refine wa_aload_n 33 dX10_wouldBring_32 rfl rfl ?_
    refine wa_getR 36 0 dX10_wouldBring_33 rfl wF_X10_9 rfl rfl ⟨k0, isK_pos e1⟩ ?_
    refine wa_iconst 37 dX10_wouldBring_36 rfl (by decide) ?_
    refine wa_laload 38 dX10_wouldBring_37 rfl (okA_of e1 ⟨by decide, by decide⟩) ?_
    refine wa_callV 41 1 2 10 (av := [(1, w17), (1, (μ16 ((rf L v0 0)) 3))]) (rest := []) (k1 := (0, 0)) (k2 := (0, 0)) cvX10_becomes dX10_wouldBring_38 rfl wM_X10_110 ⟨rfl, by decide, rfl, Nat.le_of_ble_eq_true rfl, by decide, Nat.le_of_ble_eq_true rfl, rfl, rfl⟩ rfl k0 (TR.mono h (fun r18 L19 μ20 h => ?_))
    obtain ⟨rfl, rfl, h⟩ := h
    show WA mX10_wouldBring 8 (0, 0) 41 [(2, v0), (0, v1), (0, v2), (0, v3), (0, w9)] [] L μ20 Q
    refine wa_aload_n 42 dX10_wouldBring_41 rfl rfl ?_
    refine wa_getR 45 25 dX10_wouldBring_42 rfl wF_X10_52 rfl rfl ⟨k0, isK_pos e2⟩ ?_
    refine wa_aload_n 46 dX10_wouldBring_45 rfl rfl ?_
    refine wa_getR 49 0 dX10_wouldBring_46 rfl wF_X10_9 rfl rfl ⟨k0, isK_pos e1⟩ ?_
    refine wa_callS 52 0 2 (av := [(2, (rf L v0 25)), (2, (rf L v0 0))]) (rest := []) (k1 := (0, 0)) (k2 := (0, 0)) cvX10_copies dX10_wouldBring_49 rfl wM_X10_189 ⟨rfl, Nat.le_of_ble_eq_true rfl, by decide, Nat.le_of_ble_eq_true rfl, rfl, rfl⟩ rfl (TR.mono h (fun r21 L22 μ23 h => ?_))
    obtain ⟨rfl, rfl, h⟩ := h
    show WA mX10_wouldBring 8 (0, 0) 52 [(2, v0), (0, v1), (0, v2), (0, v3), (0, w9)] [] L μ23 Q
    refine wa_iload 54 dX10_wouldBring_52 rfl rfl ?_
    obtain ⟨c24, h⟩ := h
    exact wa_zret dX10_wouldBring_54 rfl c24 h
end
