/-! the reference, 2: each method from its entry and from its loops' heads: what must hold, and the run (laid by wip/whole/gen/vc.py) -/
section
variable {L : Lay} {μ : Mem} {Q : Option AV → Lay → Mem → Prop}
set_option maxRecDepth 20000 in
theorem t_X10_fair (hL : LayOK L) {v0 v1 : Int} (k0 : isK L v0 (10, 0)) (h : TR mX10_in 0 (0, 0) [(1, v1), (1, 0), (1, 1)] L μ (fun r1 L2 μ3 => ∃ w4, r1 = some (0, w4) ∧ L = L2 ∧ (¬ w4 = 0 → TR mX10_isDivided 0 (0, 0) [(2, v0)] L μ3 (fun r5 L6 μ7 => ∃ w8, r5 = some (0, w8) ∧ L = L6 ∧ (¬ w8 = 0 → WA mX10_fair 5 (0, 0) 26 [(2, v0), (0, v1), (0, 0), (0, 0)] [] L μ7 Q) ∧ (w8 = 0 → Q (some (0, (-5))) L μ7))) ∧ (w4 = 0 → Q (some (0, (-1))) L μ3))) : TR mX10_fair 5 (0, 0) [(2, v0), (0, v1)] L μ Q := by
  refine TR.of (ls := [(2, v0), (0, v1), (9, 0), (9, 0)]) (by decide) (by simp) rfl (Nat.le_of_ble_eq_true rfl) ?_
  refine wa_iload_n 1 dX10_fair_0 rfl rfl ?_
  refine wa_i2l 2 dX10_fair_1 rfl ?_
  refine wa_lconst 3 0 dX10_fair_2 rfl ⟨rfl, by decide⟩ ?_
  refine wa_lconst 4 1 dX10_fair_3 rfl ⟨rfl, by decide⟩ ?_
  refine wa_callS 7 0 3 (av := [(1, v1), (1, 0), (1, 1)]) (rest := []) (k1 := (0, 0)) (k2 := (0, 0)) cvX10_in dX10_fair_4 rfl wM_X10_65 ⟨rfl, Nat.le_of_ble_eq_true rfl, by decide, Nat.le_of_ble_eq_true rfl, rfl, rfl⟩ rfl (TR.mono h (fun r1 L2 μ3 h => ?_))
  obtain ⟨w4, rfl, rfl, h⟩ := h
  show WA mX10_fair 5 (0, 0) 7 [(2, v0), (0, v1), (9, 0), (9, 0)] [(0, w4)] L μ3 Q
  refine wa_if_ne 10 12 dX10_fair_7 rfl (by decide) (fun q => ?_) (fun q => ?_)
  · replace h := h.1 q
    refine wa_aload_n 13 dX10_fair_12 rfl rfl ?_
    refine wa_callV 16 0 0 10 (av := []) (rest := []) (k1 := (0, 0)) (k2 := (0, 0)) cvX10_isDivided dX10_fair_13 rfl wM_X10_325 ⟨rfl, by decide, rfl, Nat.le_of_ble_eq_true rfl, by decide, Nat.le_of_ble_eq_true rfl, rfl, rfl⟩ rfl k0 (TR.mono h (fun r5 L6 μ7 h => ?_))
    obtain ⟨w8, rfl, rfl, h⟩ := h
    show WA mX10_fair 5 (0, 0) 16 [(2, v0), (0, v1), (9, 0), (9, 0)] [(0, w8)] L μ7 Q
    refine wa_if_ne 19 22 dX10_fair_16 rfl (by decide) (fun q => ?_) (fun q => ?_)
    · replace h := h.1 q
      refine wa_iconst 23 dX10_fair_22 rfl (by decide) ?_
      refine wa_istore_n 24 [(2, v0), (0, v1), (0, 0), (9, 0)] dX10_fair_23 rfl rfl rfl ?_
      refine wa_iconst 25 dX10_fair_24 rfl (by decide) ?_
      refine wa_istore_n 26 [(2, v0), (0, v1), (0, 0), (0, 0)] dX10_fair_25 rfl rfl rfl ?_
      exact h
    · replace h := h.2 q
      refine wa_bipush 21 dX10_fair_19 rfl ⟨by decide, by decide⟩ ?_
      exact wa_iret dX10_fair_21 rfl h
  · replace h := h.2 q
    refine wa_iconst 11 dX10_fair_10 rfl (by decide) ?_
    exact wa_iret dX10_fair_11 rfl h
set_option maxRecDepth 20000 in
theorem s_X10_fair_26 (hL : LayOK L) {v0 v1 v2 v3 : Int} (k0 : isK L v0 (10, 0)) (h : TR mX10_agents 0 (0, 0) [(2, v0)] L μ (fun r1 L2 μ3 => ∃ w4, r1 = some (0, w4) ∧ L = L2 ∧ (w4 ≤ v3 → Q (some (0, v2)) L μ3) ∧ (¬ w4 ≤ v3 → TR mX10_worthOfShare 4 (0, 0) [(2, v0), (0, v3), (0, v3), (0, v1)] L μ3 (fun r5 L6 μ7 => ∃ w8, r5 = some (1, w8) ∧ L = L6 ∧ TR mX10_agents 0 (0, 0) [(2, v0)] L μ7 (fun r9 L10 μ11 => ∃ w12, r9 = some (0, w12) ∧ L = L10 ∧ (inL (w8 * w12)) ∧ TR mX10_allOf 2 (0, 0) [(2, v0), (0, v3), (0, v1)] L μ11 (fun r14 L15 μ16 => ∃ w17, r14 = some (1, w17) ∧ L = L15 ∧ (inL (w17 * (μ16 ((rf L v0 0)) 3))) ∧ ((w8 * w12) < (w17 * (μ16 ((rf L v0 0)) 3)) → (inI (v3 + 1)) ∧ WA mX10_fair 5 (0, 0) 26 [(2, v0), (0, v1), (0, (bOr v2 0)), (0, (v3 + 1))] [] L μ16 Q) ∧ (¬ (w8 * w12) < (w17 * (μ16 ((rf L v0 0)) 3)) → (inI (v3 + 1)) ∧ WA mX10_fair 5 (0, 0) 26 [(2, v0), (0, v1), (0, (bOr v2 ((bShl 1 v3)))), (0, (v3 + 1))] [] L μ16 Q))))))) : WA mX10_fair 5 (0, 0) 26 [(2, v0), (0, v1), (0, v2), (0, v3)] [] L μ Q := by
  refine wa_iload_n 27 dX10_fair_26 rfl rfl ?_
  refine wa_aload_n 28 dX10_fair_27 rfl rfl ?_
  refine wa_callV 31 0 0 10 (av := []) (rest := [(0, v3)]) (k1 := (0, 0)) (k2 := (0, 0)) cvX10_agents dX10_fair_28 rfl wM_X10_75 ⟨rfl, by decide, rfl, Nat.le_of_ble_eq_true rfl, by decide, Nat.le_of_ble_eq_true rfl, rfl, rfl⟩ rfl k0 (TR.mono h (fun r1 L2 μ3 h => ?_))
  obtain ⟨w4, rfl, rfl, h⟩ := h
  show WA mX10_fair 5 (0, 0) 31 [(2, v0), (0, v1), (0, v2), (0, v3)] [(0, w4), (0, v3)] L μ3 Q
  refine wa_icmp_ge 34 80 dX10_fair_31 rfl (by decide) (fun q => ?_) (fun q => ?_)
  · replace h := h.1 q
    refine wa_iload_n 81 dX10_fair_80 rfl rfl ?_
    exact wa_iret dX10_fair_81 rfl h
  · replace h := h.2 q
    refine wa_iload_n 35 dX10_fair_34 rfl rfl ?_
    refine wa_aload_n 36 dX10_fair_35 rfl rfl ?_
    refine wa_iload_n 37 dX10_fair_36 rfl rfl ?_
    refine wa_iload_n 38 dX10_fair_37 rfl rfl ?_
    refine wa_iload_n 39 dX10_fair_38 rfl rfl ?_
    refine wa_callV 42 4 3 10 (av := [(0, v3), (0, v3), (0, v1)]) (rest := [(0, v2)]) (k1 := (0, 0)) (k2 := (0, 0)) cvX10_worthOfShare dX10_fair_39 rfl wM_X10_345 ⟨rfl, by decide, rfl, Nat.le_of_ble_eq_true rfl, by decide, Nat.le_of_ble_eq_true rfl, rfl, rfl⟩ rfl k0 (TR.mono h (fun r5 L6 μ7 h => ?_))
    obtain ⟨w8, rfl, rfl, h⟩ := h
    show WA mX10_fair 5 (0, 0) 42 [(2, v0), (0, v1), (0, v2), (0, v3)] [(1, w8), (0, v2)] L μ7 Q
    refine wa_aload_n 43 dX10_fair_42 rfl rfl ?_
    refine wa_callV 46 0 0 10 (av := []) (rest := [(1, w8), (0, v2)]) (k1 := (0, 0)) (k2 := (0, 0)) cvX10_agents dX10_fair_43 rfl wM_X10_75 ⟨rfl, by decide, rfl, Nat.le_of_ble_eq_true rfl, by decide, Nat.le_of_ble_eq_true rfl, rfl, rfl⟩ rfl k0 (TR.mono h (fun r9 L10 μ11 h => ?_))
    obtain ⟨w12, rfl, rfl, h⟩ := h
    show WA mX10_fair 5 (0, 0) 46 [(2, v0), (0, v1), (0, v2), (0, v3)] [(0, w12), (1, w8), (0, v2)] L μ11 Q
    refine wa_i2l 47 dX10_fair_46 rfl ?_
    obtain ⟨c13, h⟩ := h
    refine wa_lmul 48 dX10_fair_47 rfl c13 ?_
    refine wa_aload_n 49 dX10_fair_48 rfl rfl ?_
    refine wa_iload_n 50 dX10_fair_49 rfl rfl ?_
    refine wa_iload_n 51 dX10_fair_50 rfl rfl ?_
    refine wa_callV 54 2 2 10 (av := [(0, v3), (0, v1)]) (rest := [(1, (w8 * w12)), (0, v2)]) (k1 := (0, 0)) (k2 := (0, 0)) cvX10_allOf dX10_fair_51 rfl wM_X10_128 ⟨rfl, by decide, rfl, Nat.le_of_ble_eq_true rfl, by decide, Nat.le_of_ble_eq_true rfl, rfl, rfl⟩ rfl k0 (TR.mono h (fun r14 L15 μ16 h => ?_))
    obtain ⟨w17, rfl, rfl, h⟩ := h
    show WA mX10_fair 5 (0, 0) 54 [(2, v0), (0, v1), (0, v2), (0, v3)] [(1, w17), (1, (w8 * w12)), (0, v2)] L μ16 Q
    refine wa_aload_n 55 dX10_fair_54 rfl rfl ?_
    have e18 : isK L (rf L v0 0) (21, 510) := lay_f hL k0 0 rfl
    refine wa_getR 58 0 dX10_fair_55 rfl wF_X10_9 rfl rfl ⟨k0, isK_pos e18⟩ ?_
    refine wa_iconst 59 dX10_fair_58 rfl (by decide) ?_
    refine wa_laload 60 dX10_fair_59 rfl (okA_of e18 ⟨by decide, by decide⟩) ?_
    obtain ⟨c19, h⟩ := h
    refine wa_lmul 61 dX10_fair_60 rfl c19 ?_
    refine wa_lc_lt 65 71 dX10_fair_61 dX10_fair_62 rfl (by decide) (fun q => ?_) (fun q => ?_)
    · replace h := h.1 q
      refine wa_iconst 72 dX10_fair_71 rfl (by decide) ?_
      refine wa_ior 73 dX10_fair_72 rfl ?_
      refine wa_istore_n 74 [(2, v0), (0, v1), (0, (bOr v2 0)), (0, v3)] dX10_fair_73 rfl rfl rfl ?_
      obtain ⟨c20, h⟩ := h
      refine wa_iinc 77 [(2, v0), (0, v1), (0, (bOr v2 0)), (0, (v3 + 1))] dX10_fair_74 rfl rfl rfl c20 rfl ?_
      refine wa_goto 26 dX10_fair_77 (by decide) ?_
      exact h
    · replace h := h.2 q
      refine wa_iconst 66 dX10_fair_65 rfl (by decide) ?_
      refine wa_iload_n 67 dX10_fair_66 rfl rfl ?_
      refine wa_ishl 68 dX10_fair_67 rfl ?_
      refine wa_goto 72 dX10_fair_68 (by decide) ?_
      refine wa_ior 73 dX10_fair_72 rfl ?_
      refine wa_istore_n 74 [(2, v0), (0, v1), (0, (bOr v2 ((bShl 1 v3)))), (0, v3)] dX10_fair_73 rfl rfl rfl ?_
      obtain ⟨c21, h⟩ := h
      refine wa_iinc 77 [(2, v0), (0, v1), (0, (bOr v2 ((bShl 1 v3)))), (0, (v3 + 1))] dX10_fair_74 rfl rfl rfl c21 rfl ?_
      refine wa_goto 26 dX10_fair_77 (by decide) ?_
      exact h
set_option maxRecDepth 20000 in
theorem t_X10_feed (hL : LayOK L) {v0 v1 : Int} (k0 : isK L v0 (10, 0)) (h : TR mX10_in 0 (0, 0) [(1, v1), (1, 1), (1, 127)] L μ (fun r1 L2 μ3 => ∃ w4, r1 = some (0, w4) ∧ L = L2 ∧ (¬ w4 = 0 → (¬ (μ3 v0 7) = 160 → (0 ≤ (μ3 v0 7) ∧ (μ3 v0 7) < 160) ∧ (inI (((up μ3 ((rf L v0 6)) ((μ3 v0 7)) v1) v0 7) + 1)) ∧ Q (some (0, ((up (up μ3 ((rf L v0 6)) ((μ3 v0 7)) v1) v0 7 ((((up μ3 ((rf L v0 6)) ((μ3 v0 7)) v1) v0 7) + 1))) v0 7))) L (up (up μ3 ((rf L v0 6)) ((μ3 v0 7)) v1) v0 7 ((((up μ3 ((rf L v0 6)) ((μ3 v0 7)) v1) v0 7) + 1)))) ∧ ((μ3 v0 7) = 160 → Q (some (0, (-3))) L μ3)) ∧ (w4 = 0 → Q (some (0, (-1))) L μ3))) : TR mX10_feed 1 (0, 0) [(2, v0), (0, v1)] L μ Q := by
  refine TR.of (ls := [(2, v0), (0, v1)]) (by decide) (by simp) rfl (Nat.le_of_ble_eq_true rfl) ?_
  refine wa_iload_n 1 dX10_feed_0 rfl rfl ?_
  refine wa_i2l 2 dX10_feed_1 rfl ?_
  refine wa_lconst 3 1 dX10_feed_2 rfl ⟨rfl, by decide⟩ ?_
  refine wa_ldc2 6 127 dX10_feed_3 rfl wJ_X10_148 ⟨rfl, by decide⟩ ?_
  refine wa_callS 9 0 3 (av := [(1, v1), (1, 1), (1, 127)]) (rest := []) (k1 := (0, 0)) (k2 := (0, 0)) cvX10_in dX10_feed_6 rfl wM_X10_65 ⟨rfl, Nat.le_of_ble_eq_true rfl, by decide, Nat.le_of_ble_eq_true rfl, rfl, rfl⟩ rfl (TR.mono h (fun r1 L2 μ3 h => ?_))
  obtain ⟨w4, rfl, rfl, h⟩ := h
  show WA mX10_feed 1 (0, 0) 9 [(2, v0), (0, v1)] [(0, w4)] L μ3 Q
  refine wa_if_ne 12 14 dX10_feed_9 rfl (by decide) (fun q => ?_) (fun q => ?_)
  · replace h := h.1 q
    refine wa_aload_n 15 dX10_feed_14 rfl rfl ?_
    refine wa_getI 18 7 dX10_feed_15 rfl wF_X10_150 rfl rfl k0 ?_
    refine wa_sipush 21 dX10_feed_18 rfl ⟨by decide, by decide⟩ ?_
    refine wa_icmp_ne 24 27 dX10_feed_21 rfl (by decide) (fun q => ?_) (fun q => ?_)
    · replace h := h.1 q
      refine wa_aload_n 28 dX10_feed_27 rfl rfl ?_
      have e5 : isK L (rf L v0 6) (20, 160) := lay_f hL k0 6 rfl
      refine wa_getR 31 6 dX10_feed_28 rfl wF_X10_21 rfl rfl ⟨k0, isK_pos e5⟩ ?_
      refine wa_aload_n 32 dX10_feed_31 rfl rfl ?_
      refine wa_getI 35 7 dX10_feed_32 rfl wF_X10_150 rfl rfl k0 ?_
      refine wa_iload_n 36 dX10_feed_35 rfl rfl ?_
      obtain ⟨c6, h⟩ := h
      refine wa_iastore 37 dX10_feed_36 rfl (okA_of e5 c6) ?_
      refine wa_aload_n 38 dX10_feed_37 rfl rfl ?_
      refine wa_dup 39 dX10_feed_38 rfl (Or.inr rfl) ?_
      refine wa_getI 42 7 dX10_feed_39 rfl wF_X10_150 rfl rfl k0 ?_
      refine wa_iconst 43 dX10_feed_42 rfl (by decide) ?_
      obtain ⟨c7, h⟩ := h
      refine wa_iadd 44 dX10_feed_43 rfl c7 ?_
      refine wa_putN 47 7 dX10_feed_44 rfl wF_X10_150 rfl rfl k0 ?_
      refine wa_aload_n 48 dX10_feed_47 rfl rfl ?_
      refine wa_getI 51 7 dX10_feed_48 rfl wF_X10_150 rfl rfl k0 ?_
      exact wa_iret dX10_feed_51 rfl h
    · replace h := h.2 q
      refine wa_bipush 26 dX10_feed_24 rfl ⟨by decide, by decide⟩ ?_
      exact wa_iret dX10_feed_26 rfl h
  · replace h := h.2 q
    refine wa_iconst 13 dX10_feed_12 rfl (by decide) ?_
    exact wa_iret dX10_feed_13 rfl h
set_option maxRecDepth 20000 in
theorem t_X10_fresh (hL : LayOK L) {v0 v1 v2 : Int} (k0 : isK L v0 (10, 0)) (h : WA mX10_fresh 0 (0, 0) 2 [(2, v0), (0, v1), (0, v2), (0, 0)] [] L μ Q) : TR mX10_fresh 0 (0, 0) [(2, v0), (0, v1), (0, v2)] L μ Q := by
  refine TR.of (ls := [(2, v0), (0, v1), (0, v2), (9, 0)]) (by decide) (by simp) rfl (Nat.le_of_ble_eq_true rfl) ?_
  refine wa_iconst 1 dX10_fresh_0 rfl (by decide) ?_
  refine wa_istore_n 2 [(2, v0), (0, v1), (0, v2), (0, 0)] dX10_fresh_1 rfl rfl rfl ?_
  exact h
set_option maxRecDepth 20000 in
theorem s_X10_fresh_2 (hL : LayOK L) {v0 v1 v2 v3 : Int} (k0 : isK L v0 (10, 0)) (h : (510 ≤ v3 → Q none L (up (up (up μ ((rf L v0 0)) 0 v1) ((rf L v0 0)) 1 v2) ((rf L v0 0)) 3 1)) ∧ (¬ 510 ≤ v3 → (v3 < 5 → (0 ≤ v3 ∧ v3 < 510) ∧ (inI (v3 + 1)) ∧ WA mX10_fresh 0 (0, 0) 2 [(2, v0), (0, v1), (0, v2), (0, (v3 + 1))] [] L (up μ ((rf L v0 0)) v3 0) Q) ∧ (¬ v3 < 5 → (165 ≤ v3 → (0 ≤ v3 ∧ v3 < 510) ∧ (inI (v3 + 1)) ∧ WA mX10_fresh 0 (0, 0) 2 [(2, v0), (0, v1), (0, v2), (0, (v3 + 1))] [] L (up μ ((rf L v0 0)) v3 0) Q) ∧ (¬ 165 ≤ v3 → (0 ≤ v3 ∧ v3 < 510) ∧ (inI (v3 + 1)) ∧ WA mX10_fresh 0 (0, 0) 2 [(2, v0), (0, v1), (0, v2), (0, (v3 + 1))] [] L (up μ ((rf L v0 0)) v3 1) Q)))) : WA mX10_fresh 0 (0, 0) 2 [(2, v0), (0, v1), (0, v2), (0, v3)] [] L μ Q := by
  refine wa_iload_n 3 dX10_fresh_2 rfl rfl ?_
  refine wa_sipush 6 dX10_fresh_3 rfl ⟨by decide, by decide⟩ ?_
  refine wa_icmp_ge 9 38 dX10_fresh_6 rfl (by decide) (fun q => ?_) (fun q => ?_)
  · replace h := h.1 q
    refine wa_aload_n 39 dX10_fresh_38 rfl rfl ?_
    have e1 : isK L (rf L v0 0) (21, 510) := lay_f hL k0 0 rfl
    refine wa_getR 42 0 dX10_fresh_39 rfl wF_X10_9 rfl rfl ⟨k0, isK_pos e1⟩ ?_
    refine wa_iconst 43 dX10_fresh_42 rfl (by decide) ?_
    refine wa_iload_n 44 dX10_fresh_43 rfl rfl ?_
    refine wa_i2l 45 dX10_fresh_44 rfl ?_
    refine wa_lastore 46 dX10_fresh_45 rfl (okA_of e1 ⟨by decide, by decide⟩) ?_
    refine wa_aload_n 47 dX10_fresh_46 rfl rfl ?_
    refine wa_getR 50 0 dX10_fresh_47 rfl wF_X10_9 rfl rfl ⟨k0, isK_pos e1⟩ ?_
    refine wa_iconst 51 dX10_fresh_50 rfl (by decide) ?_
    refine wa_iload_n 52 dX10_fresh_51 rfl rfl ?_
    refine wa_i2l 53 dX10_fresh_52 rfl ?_
    refine wa_lastore 54 dX10_fresh_53 rfl (okA_of e1 ⟨by decide, by decide⟩) ?_
    refine wa_aload_n 55 dX10_fresh_54 rfl rfl ?_
    refine wa_getR 58 0 dX10_fresh_55 rfl wF_X10_9 rfl rfl ⟨k0, isK_pos e1⟩ ?_
    refine wa_iconst 59 dX10_fresh_58 rfl (by decide) ?_
    refine wa_lconst 60 1 dX10_fresh_59 rfl ⟨rfl, by decide⟩ ?_
    refine wa_lastore 61 dX10_fresh_60 rfl (okA_of e1 ⟨by decide, by decide⟩) ?_
    exact wa_vret dX10_fresh_61 rfl h
  · replace h := h.2 q
    refine wa_aload_n 10 dX10_fresh_9 rfl rfl ?_
    have e2 : isK L (rf L v0 0) (21, 510) := lay_f hL k0 0 rfl
    refine wa_getR 13 0 dX10_fresh_10 rfl wF_X10_9 rfl rfl ⟨k0, isK_pos e2⟩ ?_
    refine wa_iload_n 14 dX10_fresh_13 rfl rfl ?_
    refine wa_iload_n 15 dX10_fresh_14 rfl rfl ?_
    refine wa_iconst 16 dX10_fresh_15 rfl (by decide) ?_
    refine wa_icmp_lt 19 30 dX10_fresh_16 rfl (by decide) (fun q => ?_) (fun q => ?_)
    · replace h := h.1 q
      refine wa_lconst 31 0 dX10_fresh_30 rfl ⟨rfl, by decide⟩ ?_
      obtain ⟨c3, h⟩ := h
      refine wa_lastore 32 dX10_fresh_31 rfl (okA_of e2 c3) ?_
      obtain ⟨c4, h⟩ := h
      refine wa_iinc 35 [(2, v0), (0, v1), (0, v2), (0, (v3 + 1))] dX10_fresh_32 rfl rfl rfl c4 rfl ?_
      refine wa_goto 2 dX10_fresh_35 (by decide) ?_
      exact h
    · replace h := h.2 q
      refine wa_iload_n 20 dX10_fresh_19 rfl rfl ?_
      refine wa_sipush 23 dX10_fresh_20 rfl ⟨by decide, by decide⟩ ?_
      refine wa_icmp_ge 26 30 dX10_fresh_23 rfl (by decide) (fun q => ?_) (fun q => ?_)
      · replace h := h.1 q
        refine wa_lconst 31 0 dX10_fresh_30 rfl ⟨rfl, by decide⟩ ?_
        obtain ⟨c5, h⟩ := h
        refine wa_lastore 32 dX10_fresh_31 rfl (okA_of e2 c5) ?_
        obtain ⟨c6, h⟩ := h
        refine wa_iinc 35 [(2, v0), (0, v1), (0, v2), (0, (v3 + 1))] dX10_fresh_32 rfl rfl rfl c6 rfl ?_
        refine wa_goto 2 dX10_fresh_35 (by decide) ?_
        exact h
      · replace h := h.2 q
        refine wa_lconst 27 1 dX10_fresh_26 rfl ⟨rfl, by decide⟩ ?_
        refine wa_goto 31 dX10_fresh_27 (by decide) ?_
        obtain ⟨c7, h⟩ := h
        refine wa_lastore 32 dX10_fresh_31 rfl (okA_of e2 c7) ?_
        obtain ⟨c8, h⟩ := h
        refine wa_iinc 35 [(2, v0), (0, v1), (0, v2), (0, (v3 + 1))] dX10_fresh_32 rfl rfl rfl c8 rfl ?_
        refine wa_goto 2 dX10_fresh_35 (by decide) ?_
        exact h
set_option maxRecDepth 20000 in
theorem t_X10_from (hL : LayOK L) {v0 v1 v2 v3 : Int} (k0 : isK L v0 (10, 0)) (h : TR mX10_mayRow 2 (0, 0) [(2, v0), (0, v1), (0, v2), (0, v3)] L μ (fun r1 L2 μ3 => ∃ w4, r1 = some (0, w4) ∧ L = L2 ∧ WA mX10_from 3 (0, 0) 12 [(2, v0), (0, v1), (0, v2), (0, v3), (0, w4), (0, 0)] [] L μ3 Q)) : TR mX10_from 3 (0, 0) [(2, v0), (0, v1), (0, v2), (0, v3)] L μ Q := by
  refine TR.of (ls := [(2, v0), (0, v1), (0, v2), (0, v3), (9, 0), (9, 0)]) (by decide) (by simp) rfl (Nat.le_of_ble_eq_true rfl) ?_
  refine wa_aload_n 1 dX10_from_0 rfl rfl ?_
  refine wa_iload_n 2 dX10_from_1 rfl rfl ?_
  refine wa_iload_n 3 dX10_from_2 rfl rfl ?_
  refine wa_iload_n 4 dX10_from_3 rfl rfl ?_
  refine wa_callV 7 2 3 10 (av := [(0, v1), (0, v2), (0, v3)]) (rest := []) (k1 := (0, 0)) (k2 := (0, 0)) cvX10_mayRow dX10_from_4 rfl wM_X10_365 ⟨rfl, by decide, rfl, Nat.le_of_ble_eq_true rfl, by decide, Nat.le_of_ble_eq_true rfl, rfl, rfl⟩ rfl k0 (TR.mono h (fun r1 L2 μ3 h => ?_))
  obtain ⟨w4, rfl, rfl, h⟩ := h
  show WA mX10_from 3 (0, 0) 7 [(2, v0), (0, v1), (0, v2), (0, v3), (9, 0), (9, 0)] [(0, w4)] L μ3 Q
  refine wa_istore 9 [(2, v0), (0, v1), (0, v2), (0, v3), (0, w4), (9, 0)] dX10_from_7 rfl rfl rfl ?_
  refine wa_iconst 10 dX10_from_9 rfl (by decide) ?_
  refine wa_istore 12 [(2, v0), (0, v1), (0, v2), (0, v3), (0, w4), (0, 0)] dX10_from_10 rfl rfl rfl ?_
  exact h
set_option maxRecDepth 20000 in
theorem s_X10_from_12 (hL : LayOK L) {v0 v1 v2 v3 v4 v5 : Int} (k0 : isK L v0 (10, 0)) (h : (¬ v4 = 0 → WA mX10_from 3 (0, 0) 104 [(9, 0), (9, 0), (9, 0), (9, 0), (0, v4), (0, v5)] [] L μ Q) ∧ (v4 = 0 → TR mX10_strips 0 (0, 0) [(2, v0)] L μ (fun r1 L2 μ3 => ∃ w4, r1 = some (0, w4) ∧ L = L2 ∧ (w4 ≤ v5 → WA mX10_from 3 (0, 0) 104 [(9, 0), (9, 0), (9, 0), (9, 0), (0, v4), (0, v5)] [] L μ3 Q) ∧ (¬ w4 ≤ v5 → (inL (v3 + v5)) ∧ (0 ≤ v2 ∧ v2 < 4) ∧ ((μ3 ((rf L v0 26)) v2) ≤ (v3 + v5) → WA mX10_from 3 (0, 0) 104 [(9, 0), (9, 0), (9, 0), (9, 0), (0, v4), (0, v5)] [] L μ3 Q) ∧ (¬ (μ3 ((rf L v0 26)) v2) ≤ (v3 + v5) → (inI (20 * v2)) ∧ (inI ((20 * v2) + v3)) ∧ (inI (((20 * v2) + v3) + v5)) ∧ (0 ≤ (((20 * v2) + v3) + v5) ∧ (((20 * v2) + v3) + v5) < 80) ∧ TR mX10_in 0 (0, 0) [(1, (μ3 ((rf L v0 27)) ((((20 * v2) + v3) + v5)))), (1, 0), (1, 9)] L μ3 (fun r13 L14 μ15 => ∃ w16, r13 = some (0, w16) ∧ L = L14 ∧ (w16 = 0 → WA mX10_from 3 (0, 0) 104 [(9, 0), (9, 0), (9, 0), (9, 0), (0, v4), (0, v5)] [] L μ15 Q) ∧ (¬ w16 = 0 → (inI (16 * v1)) ∧ (inI (85 + (16 * v1))) ∧ (inI ((85 + (16 * v1)) + v5)) ∧ (0 ≤ ((85 + (16 * v1)) + v5) ∧ ((85 + (16 * v1)) + v5) < 510) ∧ (inI (v5 + 1)) ∧ WA mX10_from 3 (0, 0) 12 [(2, v0), (0, v1), (0, v2), (0, v3), (0, v4), (0, (v5 + 1))] [] L (up μ15 ((rf L v0 0)) (((85 + (16 * v1)) + v5)) ((μ15 ((rf L v0 27)) ((((20 * v2) + v3) + v5))))) Q))))))) : WA mX10_from 3 (0, 0) 12 [(2, v0), (0, v1), (0, v2), (0, v3), (0, v4), (0, v5)] [] L μ Q := by
  refine wa_iload 14 dX10_from_12 rfl rfl ?_
  refine wa_if_ne 17 104 dX10_from_14 rfl (by decide) (fun q => ?_) (fun q => ?_)
  · replace h := h.1 q
    exact wa_weak [(9, 0), (9, 0), (9, 0), (9, 0), (0, v4), (0, v5)] ⟨Or.inr rfl, Or.inr rfl, Or.inr rfl, Or.inr rfl, Or.inl rfl, Or.inl rfl, trivial⟩ h
  · replace h := h.2 q
    refine wa_iload 19 dX10_from_17 rfl rfl ?_
    refine wa_aload_n 20 dX10_from_19 rfl rfl ?_
    refine wa_callV 23 0 0 10 (av := []) (rest := [(0, v5)]) (k1 := (0, 0)) (k2 := (0, 0)) cvX10_strips dX10_from_20 rfl wM_X10_92 ⟨rfl, by decide, rfl, Nat.le_of_ble_eq_true rfl, by decide, Nat.le_of_ble_eq_true rfl, rfl, rfl⟩ rfl k0 (TR.mono h (fun r1 L2 μ3 h => ?_))
    obtain ⟨w4, rfl, rfl, h⟩ := h
    show WA mX10_from 3 (0, 0) 23 [(2, v0), (0, v1), (0, v2), (0, v3), (0, v4), (0, v5)] [(0, w4), (0, v5)] L μ3 Q
    refine wa_icmp_ge 26 104 dX10_from_23 rfl (by decide) (fun q => ?_) (fun q => ?_)
    · replace h := h.1 q
      exact wa_weak [(9, 0), (9, 0), (9, 0), (9, 0), (0, v4), (0, v5)] ⟨Or.inr rfl, Or.inr rfl, Or.inr rfl, Or.inr rfl, Or.inl rfl, Or.inl rfl, trivial⟩ h
    · replace h := h.2 q
      refine wa_iload_n 27 dX10_from_26 rfl rfl ?_
      refine wa_i2l 28 dX10_from_27 rfl ?_
      refine wa_iload 30 dX10_from_28 rfl rfl ?_
      refine wa_i2l 31 dX10_from_30 rfl ?_
      obtain ⟨c5, h⟩ := h
      refine wa_ladd 32 dX10_from_31 rfl c5 ?_
      refine wa_aload_n 33 dX10_from_32 rfl rfl ?_
      have e6 : isK L (rf L v0 26) (20, 4) := lay_f hL k0 26 rfl
      refine wa_getR 36 26 dX10_from_33 rfl wF_X10_55 rfl rfl ⟨k0, isK_pos e6⟩ ?_
      refine wa_iload_n 37 dX10_from_36 rfl rfl ?_
      obtain ⟨c7, h⟩ := h
      refine wa_iaload 38 dX10_from_37 rfl (okA_of e6 c7) ?_
      refine wa_i2l 39 dX10_from_38 rfl ?_
      refine wa_lc_ge 43 104 dX10_from_39 dX10_from_40 rfl (by decide) (fun q => ?_) (fun q => ?_)
      · replace h := h.1 q
        exact wa_weak [(9, 0), (9, 0), (9, 0), (9, 0), (0, v4), (0, v5)] ⟨Or.inr rfl, Or.inr rfl, Or.inr rfl, Or.inr rfl, Or.inl rfl, Or.inl rfl, trivial⟩ h
      · replace h := h.2 q
        refine wa_aload_n 44 dX10_from_43 rfl rfl ?_
        have e8 : isK L (rf L v0 27) (20, 80) := lay_f hL k0 27 rfl
        refine wa_getR 47 27 dX10_from_44 rfl wF_X10_58 rfl rfl ⟨k0, isK_pos e8⟩ ?_
        refine wa_bipush 49 dX10_from_47 rfl ⟨by decide, by decide⟩ ?_
        refine wa_iload_n 50 dX10_from_49 rfl rfl ?_
        obtain ⟨c9, h⟩ := h
        refine wa_imul 51 dX10_from_50 rfl c9 ?_
        refine wa_iload_n 52 dX10_from_51 rfl rfl ?_
        obtain ⟨c10, h⟩ := h
        refine wa_iadd 53 dX10_from_52 rfl c10 ?_
        refine wa_iload 55 dX10_from_53 rfl rfl ?_
        obtain ⟨c11, h⟩ := h
        refine wa_iadd 56 dX10_from_55 rfl c11 ?_
        obtain ⟨c12, h⟩ := h
        refine wa_iaload 57 dX10_from_56 rfl (okA_of e8 c12) ?_
        refine wa_i2l 58 dX10_from_57 rfl ?_
        refine wa_lconst 59 0 dX10_from_58 rfl ⟨rfl, by decide⟩ ?_
        refine wa_ldc2 62 9 dX10_from_59 rfl wJ_X10_86 ⟨rfl, by decide⟩ ?_
        refine wa_callS 65 0 3 (av := [(1, (μ3 ((rf L v0 27)) ((((20 * v2) + v3) + v5)))), (1, 0), (1, 9)]) (rest := []) (k1 := (0, 0)) (k2 := (0, 0)) cvX10_in dX10_from_62 rfl wM_X10_65 ⟨rfl, Nat.le_of_ble_eq_true rfl, by decide, Nat.le_of_ble_eq_true rfl, rfl, rfl⟩ rfl (TR.mono h (fun r13 L14 μ15 h => ?_))
        obtain ⟨w16, rfl, rfl, h⟩ := h
        show WA mX10_from 3 (0, 0) 65 [(2, v0), (0, v1), (0, v2), (0, v3), (0, v4), (0, v5)] [(0, w16)] L μ15 Q
        refine wa_if_eq 68 104 dX10_from_65 rfl (by decide) (fun q => ?_) (fun q => ?_)
        · replace h := h.1 q
          exact wa_weak [(9, 0), (9, 0), (9, 0), (9, 0), (0, v4), (0, v5)] ⟨Or.inr rfl, Or.inr rfl, Or.inr rfl, Or.inr rfl, Or.inl rfl, Or.inl rfl, trivial⟩ h
        · replace h := h.2 q
          refine wa_aload_n 69 dX10_from_68 rfl rfl ?_
          have e17 : isK L (rf L v0 0) (21, 510) := lay_f hL k0 0 rfl
          refine wa_getR 72 0 dX10_from_69 rfl wF_X10_9 rfl rfl ⟨k0, isK_pos e17⟩ ?_
          refine wa_bipush 74 dX10_from_72 rfl ⟨by decide, by decide⟩ ?_
          refine wa_bipush 76 dX10_from_74 rfl ⟨by decide, by decide⟩ ?_
          refine wa_iload_n 77 dX10_from_76 rfl rfl ?_
          obtain ⟨c18, h⟩ := h
          refine wa_imul 78 dX10_from_77 rfl c18 ?_
          obtain ⟨c19, h⟩ := h
          refine wa_iadd 79 dX10_from_78 rfl c19 ?_
          refine wa_iload 81 dX10_from_79 rfl rfl ?_
          obtain ⟨c20, h⟩ := h
          refine wa_iadd 82 dX10_from_81 rfl c20 ?_
          refine wa_aload_n 83 dX10_from_82 rfl rfl ?_
          refine wa_getR 86 27 dX10_from_83 rfl wF_X10_58 rfl rfl ⟨k0, isK_pos e8⟩ ?_
          refine wa_bipush 88 dX10_from_86 rfl ⟨by decide, by decide⟩ ?_
          refine wa_iload_n 89 dX10_from_88 rfl rfl ?_
          refine wa_imul 90 dX10_from_89 rfl c9 ?_
          refine wa_iload_n 91 dX10_from_90 rfl rfl ?_
          refine wa_iadd 92 dX10_from_91 rfl c10 ?_
          refine wa_iload 94 dX10_from_92 rfl rfl ?_
          refine wa_iadd 95 dX10_from_94 rfl c11 ?_
          refine wa_iaload 96 dX10_from_95 rfl (okA_of e8 c12) ?_
          refine wa_i2l 97 dX10_from_96 rfl ?_
          obtain ⟨c21, h⟩ := h
          refine wa_lastore 98 dX10_from_97 rfl (okA_of e17 c21) ?_
          obtain ⟨c22, h⟩ := h
          refine wa_iinc 101 [(2, v0), (0, v1), (0, v2), (0, v3), (0, v4), (0, (v5 + 1))] dX10_from_98 rfl rfl rfl c22 rfl ?_
          refine wa_goto 12 dX10_from_101 (by decide) ?_
          exact h
set_option maxRecDepth 20000 in
theorem s_X10_from_104 (hL : LayOK L) {v4 v5 : Int}  (h : (¬ v4 = 0 → Q (some (0, v4)) L μ) ∧ (v4 = 0 → Q (some (0, v5)) L μ)) : WA mX10_from 3 (0, 0) 104 [(9, 0), (9, 0), (9, 0), (9, 0), (0, v4), (0, v5)] [] L μ Q := by
  refine wa_iload 106 dX10_from_104 rfl rfl ?_
  refine wa_if_ne 109 114 dX10_from_106 rfl (by decide) (fun q => ?_) (fun q => ?_)
  · replace h := h.1 q
    refine wa_iload 116 dX10_from_114 rfl rfl ?_
    exact wa_iret dX10_from_116 rfl h
  · replace h := h.2 q
    refine wa_iload 111 dX10_from_109 rfl rfl ?_
    refine wa_goto 116 dX10_from_111 (by decide) ?_
    exact wa_iret dX10_from_116 rfl h
set_option maxRecDepth 20000 in
theorem t_X10_get (hL : LayOK L) {v0 v1 v2 : Int} (k0 : isK L v0 (10, 0)) (h : TR mX10_isList 1 (0, 0) [(0, v1)] L μ (fun r1 L2 μ3 => ∃ w4, r1 = some (0, w4) ∧ L = L2 ∧ (w4 = 0 → Q (some (1, (-9223372036854775808))) L μ3) ∧ (¬ w4 = 0 → (0 ≤ v1 ∧ v1 < 4) ∧ (inI ((μ3 ((rf L v0 26)) v1) - 1)) ∧ TR mX10_in 0 (0, 0) [(1, v2), (1, 0), (1, ((μ3 ((rf L v0 26)) v1) - 1))] L μ3 (fun r8 L9 μ10 => ∃ w11, r8 = some (0, w11) ∧ L = L9 ∧ (w11 = 0 → Q (some (1, (-9223372036854775808))) L μ10) ∧ (¬ w11 = 0 → (inI (20 * v1)) ∧ (inI ((20 * v1) + v2)) ∧ (0 ≤ ((20 * v1) + v2) ∧ ((20 * v1) + v2) < 80) ∧ Q (some (1, (μ10 ((rf L v0 27)) (((20 * v1) + v2))))) L μ10))))) : TR mX10_get 2 (0, 0) [(2, v0), (0, v1), (0, v2)] L μ Q := by
  refine TR.of (ls := [(2, v0), (0, v1), (0, v2)]) (by decide) (by simp) rfl (Nat.le_of_ble_eq_true rfl) ?_
  refine wa_iload_n 1 dX10_get_0 rfl rfl ?_
  refine wa_callS 4 1 1 (av := [(0, v1)]) (rest := []) (k1 := (0, 0)) (k2 := (0, 0)) cvX10_isList dX10_get_1 rfl wM_X10_362 ⟨rfl, Nat.le_of_ble_eq_true rfl, by decide, Nat.le_of_ble_eq_true rfl, rfl, rfl⟩ rfl (TR.mono h (fun r1 L2 μ3 h => ?_))
  obtain ⟨w4, rfl, rfl, h⟩ := h
  show WA mX10_get 2 (0, 0) 4 [(2, v0), (0, v1), (0, v2)] [(0, w4)] L μ3 Q
  refine wa_if_eq 7 40 dX10_get_4 rfl (by decide) (fun q => ?_) (fun q => ?_)
  · replace h := h.1 q
    refine wa_ldc2 43 (-9223372036854775808) dX10_get_40 rfl wJ_X10_116 ⟨rfl, by decide⟩ ?_
    exact wa_lret dX10_get_43 rfl h
  · replace h := h.2 q
    refine wa_iload_n 8 dX10_get_7 rfl rfl ?_
    refine wa_i2l 9 dX10_get_8 rfl ?_
    refine wa_lconst 10 0 dX10_get_9 rfl ⟨rfl, by decide⟩ ?_
    refine wa_aload_n 11 dX10_get_10 rfl rfl ?_
    have e5 : isK L (rf L v0 26) (20, 4) := lay_f hL k0 26 rfl
    refine wa_getR 14 26 dX10_get_11 rfl wF_X10_55 rfl rfl ⟨k0, isK_pos e5⟩ ?_
    refine wa_iload_n 15 dX10_get_14 rfl rfl ?_
    obtain ⟨c6, h⟩ := h
    refine wa_iaload 16 dX10_get_15 rfl (okA_of e5 c6) ?_
    refine wa_iconst 17 dX10_get_16 rfl (by decide) ?_
    obtain ⟨c7, h⟩ := h
    refine wa_isub 18 dX10_get_17 rfl c7 ?_
    refine wa_i2l 19 dX10_get_18 rfl ?_
    refine wa_callS 22 0 3 (av := [(1, v2), (1, 0), (1, ((μ3 ((rf L v0 26)) v1) - 1))]) (rest := []) (k1 := (0, 0)) (k2 := (0, 0)) cvX10_in dX10_get_19 rfl wM_X10_65 ⟨rfl, Nat.le_of_ble_eq_true rfl, by decide, Nat.le_of_ble_eq_true rfl, rfl, rfl⟩ rfl (TR.mono h (fun r8 L9 μ10 h => ?_))
    obtain ⟨w11, rfl, rfl, h⟩ := h
    show WA mX10_get 2 (0, 0) 22 [(2, v0), (0, v1), (0, v2)] [(0, w11)] L μ10 Q
    refine wa_if_eq 25 40 dX10_get_22 rfl (by decide) (fun q => ?_) (fun q => ?_)
    · replace h := h.1 q
      refine wa_ldc2 43 (-9223372036854775808) dX10_get_40 rfl wJ_X10_116 ⟨rfl, by decide⟩ ?_
      exact wa_lret dX10_get_43 rfl h
    · replace h := h.2 q
      refine wa_aload_n 26 dX10_get_25 rfl rfl ?_
      have e12 : isK L (rf L v0 27) (20, 80) := lay_f hL k0 27 rfl
      refine wa_getR 29 27 dX10_get_26 rfl wF_X10_58 rfl rfl ⟨k0, isK_pos e12⟩ ?_
      refine wa_bipush 31 dX10_get_29 rfl ⟨by decide, by decide⟩ ?_
      refine wa_iload_n 32 dX10_get_31 rfl rfl ?_
      obtain ⟨c13, h⟩ := h
      refine wa_imul 33 dX10_get_32 rfl c13 ?_
      refine wa_iload_n 34 dX10_get_33 rfl rfl ?_
      obtain ⟨c14, h⟩ := h
      refine wa_iadd 35 dX10_get_34 rfl c14 ?_
      obtain ⟨c15, h⟩ := h
      refine wa_iaload 36 dX10_get_35 rfl (okA_of e12 c15) ?_
      refine wa_i2l 37 dX10_get_36 rfl ?_
      refine wa_goto 43 dX10_get_37 (by decide) ?_
      exact wa_lret dX10_get_43 rfl h
set_option maxRecDepth 20000 in
theorem t_X10_gets (hL : LayOK L) {v0 v1 v2 v3 v4 : Int} (k0 : isK L v0 (10, 0)) (h : TR mX10_isAgent 1 (0, 0) [(2, v0), (0, v1)] L μ (fun r1 L2 μ3 => ∃ w4, r1 = some (0, w4) ∧ L = L2 ∧ (w4 = 0 → Q (some (1, (-9223372036854775808))) L μ3) ∧ (¬ w4 = 0 → TR mX10_isAgent 1 (0, 0) [(2, v0), (0, v2)] L μ3 (fun r5 L6 μ7 => ∃ w8, r5 = some (0, w8) ∧ L = L6 ∧ (w8 = 0 → Q (some (1, (-9223372036854775808))) L μ7) ∧ (¬ w8 = 0 → TR mX10_in 0 (0, 0) [(1, v3), (1, 0), (1, 1)] L μ7 (fun r9 L10 μ11 => ∃ w12, r9 = some (0, w12) ∧ L = L10 ∧ (w12 = 0 → Q (some (1, (-9223372036854775808))) L μ11) ∧ (¬ w12 = 0 → TR mX10_in 0 (0, 0) [(1, v4), (1, 0), (1, 1)] L μ11 (fun r13 L14 μ15 => ∃ w16, r13 = some (0, w16) ∧ L = L14 ∧ (w16 = 0 → Q (some (1, (-9223372036854775808))) L μ15) ∧ (¬ w16 = 0 → TR mX10_isDivided 0 (0, 0) [(2, v0)] L μ15 (fun r17 L18 μ19 => ∃ w20, r17 = some (0, w20) ∧ L = L18 ∧ (¬ w20 = 0 → TR mX10_worthOfShare 4 (0, 0) [(2, v0), (0, v1), (0, v2), (0, v3)] L μ19 (fun r21 L22 μ23 => ∃ w24, r21 = some (1, w24) ∧ L = L22 ∧ TR mX10_becomes 1 (0, 0) [(2, v0), (1, w24), (1, (μ23 ((rf L v0 0)) 3))] L μ23 (fun r26 L27 μ28 => r26 = none ∧ L = L27 ∧ TR mX10_partOf 0 (0, 0) [(2, v0), (0, v4)] L μ28 (fun r29 L30 μ31 => ∃ w32, r29 = some (1, w32) ∧ L = L30 ∧ Q (some (1, w32)) L μ31)))) ∧ (w20 = 0 → Q (some (1, (-9223372036854775808))) L μ19))))))))))) : TR mX10_gets 5 (0, 0) [(2, v0), (0, v1), (0, v2), (0, v3), (0, v4)] L μ Q := by
  refine TR.of (ls := [(2, v0), (0, v1), (0, v2), (0, v3), (0, v4)]) (by decide) (by simp) rfl (Nat.le_of_ble_eq_true rfl) ?_
  refine wa_aload_n 1 dX10_gets_0 rfl rfl ?_
  refine wa_iload_n 2 dX10_gets_1 rfl rfl ?_
  refine wa_callV 5 1 1 10 (av := [(0, v1)]) (rest := []) (k1 := (0, 0)) (k2 := (0, 0)) cvX10_isAgent dX10_gets_2 rfl wM_X10_79 ⟨rfl, by decide, rfl, Nat.le_of_ble_eq_true rfl, by decide, Nat.le_of_ble_eq_true rfl, rfl, rfl⟩ rfl k0 (TR.mono h (fun r1 L2 μ3 h => ?_))
  obtain ⟨w4, rfl, rfl, h⟩ := h
  show WA mX10_gets 5 (0, 0) 5 [(2, v0), (0, v1), (0, v2), (0, v3), (0, v4)] [(0, w4)] L μ3 Q
  refine wa_if_eq 8 44 dX10_gets_5 rfl (by decide) (fun q => ?_) (fun q => ?_)
  · replace h := h.1 q
    refine wa_ldc2 47 (-9223372036854775808) dX10_gets_44 rfl wJ_X10_116 ⟨rfl, by decide⟩ ?_
    exact wa_lret dX10_gets_47 rfl h
  · replace h := h.2 q
    refine wa_aload_n 9 dX10_gets_8 rfl rfl ?_
    refine wa_iload_n 10 dX10_gets_9 rfl rfl ?_
    refine wa_callV 13 1 1 10 (av := [(0, v2)]) (rest := []) (k1 := (0, 0)) (k2 := (0, 0)) cvX10_isAgent dX10_gets_10 rfl wM_X10_79 ⟨rfl, by decide, rfl, Nat.le_of_ble_eq_true rfl, by decide, Nat.le_of_ble_eq_true rfl, rfl, rfl⟩ rfl k0 (TR.mono h (fun r5 L6 μ7 h => ?_))
    obtain ⟨w8, rfl, rfl, h⟩ := h
    show WA mX10_gets 5 (0, 0) 13 [(2, v0), (0, v1), (0, v2), (0, v3), (0, v4)] [(0, w8)] L μ7 Q
    refine wa_if_eq 16 44 dX10_gets_13 rfl (by decide) (fun q => ?_) (fun q => ?_)
    · replace h := h.1 q
      refine wa_ldc2 47 (-9223372036854775808) dX10_gets_44 rfl wJ_X10_116 ⟨rfl, by decide⟩ ?_
      exact wa_lret dX10_gets_47 rfl h
    · replace h := h.2 q
      refine wa_iload_n 17 dX10_gets_16 rfl rfl ?_
      refine wa_i2l 18 dX10_gets_17 rfl ?_
      refine wa_lconst 19 0 dX10_gets_18 rfl ⟨rfl, by decide⟩ ?_
      refine wa_lconst 20 1 dX10_gets_19 rfl ⟨rfl, by decide⟩ ?_
      refine wa_callS 23 0 3 (av := [(1, v3), (1, 0), (1, 1)]) (rest := []) (k1 := (0, 0)) (k2 := (0, 0)) cvX10_in dX10_gets_20 rfl wM_X10_65 ⟨rfl, Nat.le_of_ble_eq_true rfl, by decide, Nat.le_of_ble_eq_true rfl, rfl, rfl⟩ rfl (TR.mono h (fun r9 L10 μ11 h => ?_))
      obtain ⟨w12, rfl, rfl, h⟩ := h
      show WA mX10_gets 5 (0, 0) 23 [(2, v0), (0, v1), (0, v2), (0, v3), (0, v4)] [(0, w12)] L μ11 Q
      refine wa_if_eq 26 44 dX10_gets_23 rfl (by decide) (fun q => ?_) (fun q => ?_)
      · replace h := h.1 q
        refine wa_ldc2 47 (-9223372036854775808) dX10_gets_44 rfl wJ_X10_116 ⟨rfl, by decide⟩ ?_
        exact wa_lret dX10_gets_47 rfl h
      · replace h := h.2 q
        refine wa_iload 28 dX10_gets_26 rfl rfl ?_
        refine wa_i2l 29 dX10_gets_28 rfl ?_
        refine wa_lconst 30 0 dX10_gets_29 rfl ⟨rfl, by decide⟩ ?_
        refine wa_lconst 31 1 dX10_gets_30 rfl ⟨rfl, by decide⟩ ?_
        refine wa_callS 34 0 3 (av := [(1, v4), (1, 0), (1, 1)]) (rest := []) (k1 := (0, 0)) (k2 := (0, 0)) cvX10_in dX10_gets_31 rfl wM_X10_65 ⟨rfl, Nat.le_of_ble_eq_true rfl, by decide, Nat.le_of_ble_eq_true rfl, rfl, rfl⟩ rfl (TR.mono h (fun r13 L14 μ15 h => ?_))
        obtain ⟨w16, rfl, rfl, h⟩ := h
        show WA mX10_gets 5 (0, 0) 34 [(2, v0), (0, v1), (0, v2), (0, v3), (0, v4)] [(0, w16)] L μ15 Q
        refine wa_if_eq 37 44 dX10_gets_34 rfl (by decide) (fun q => ?_) (fun q => ?_)
        · replace h := h.1 q
          refine wa_ldc2 47 (-9223372036854775808) dX10_gets_44 rfl wJ_X10_116 ⟨rfl, by decide⟩ ?_
          exact wa_lret dX10_gets_47 rfl h
        · replace h := h.2 q
          refine wa_aload_n 38 dX10_gets_37 rfl rfl ?_
          refine wa_callV 41 0 0 10 (av := []) (rest := []) (k1 := (0, 0)) (k2 := (0, 0)) cvX10_isDivided dX10_gets_38 rfl wM_X10_325 ⟨rfl, by decide, rfl, Nat.le_of_ble_eq_true rfl, by decide, Nat.le_of_ble_eq_true rfl, rfl, rfl⟩ rfl k0 (TR.mono h (fun r17 L18 μ19 h => ?_))
          obtain ⟨w20, rfl, rfl, h⟩ := h
          show WA mX10_gets 5 (0, 0) 41 [(2, v0), (0, v1), (0, v2), (0, v3), (0, v4)] [(0, w20)] L μ19 Q
          refine wa_if_ne 44 48 dX10_gets_41 rfl (by decide) (fun q => ?_) (fun q => ?_)
          · replace h := h.1 q
            refine wa_aload_n 49 dX10_gets_48 rfl rfl ?_
            refine wa_aload_n 50 dX10_gets_49 rfl rfl ?_
            refine wa_iload_n 51 dX10_gets_50 rfl rfl ?_
            refine wa_iload_n 52 dX10_gets_51 rfl rfl ?_
            refine wa_iload_n 53 dX10_gets_52 rfl rfl ?_
            refine wa_callV 56 4 3 10 (av := [(0, v1), (0, v2), (0, v3)]) (rest := [(2, v0)]) (k1 := (0, 0)) (k2 := (0, 0)) cvX10_worthOfShare dX10_gets_53 rfl wM_X10_345 ⟨rfl, by decide, rfl, Nat.le_of_ble_eq_true rfl, by decide, Nat.le_of_ble_eq_true rfl, rfl, rfl⟩ rfl k0 (TR.mono h (fun r21 L22 μ23 h => ?_))
            obtain ⟨w24, rfl, rfl, h⟩ := h
            show WA mX10_gets 5 (0, 0) 56 [(2, v0), (0, v1), (0, v2), (0, v3), (0, v4)] [(1, w24), (2, v0)] L μ23 Q
            refine wa_aload_n 57 dX10_gets_56 rfl rfl ?_
            have e25 : isK L (rf L v0 0) (21, 510) := lay_f hL k0 0 rfl
            refine wa_getR 60 0 dX10_gets_57 rfl wF_X10_9 rfl rfl ⟨k0, isK_pos e25⟩ ?_
            refine wa_iconst 61 dX10_gets_60 rfl (by decide) ?_
            refine wa_laload 62 dX10_gets_61 rfl (okA_of e25 ⟨by decide, by decide⟩) ?_
            refine wa_callV 65 1 2 10 (av := [(1, w24), (1, (μ23 ((rf L v0 0)) 3))]) (rest := []) (k1 := (0, 0)) (k2 := (0, 0)) cvX10_becomes dX10_gets_62 rfl wM_X10_110 ⟨rfl, by decide, rfl, Nat.le_of_ble_eq_true rfl, by decide, Nat.le_of_ble_eq_true rfl, rfl, rfl⟩ rfl k0 (TR.mono h (fun r26 L27 μ28 h => ?_))
            obtain ⟨rfl, rfl, h⟩ := h
            show WA mX10_gets 5 (0, 0) 65 [(2, v0), (0, v1), (0, v2), (0, v3), (0, v4)] [] L μ28 Q
            refine wa_aload_n 66 dX10_gets_65 rfl rfl ?_
            refine wa_iload 68 dX10_gets_66 rfl rfl ?_
            refine wa_callV 71 0 1 10 (av := [(0, v4)]) (rest := []) (k1 := (0, 0)) (k2 := (0, 0)) cvX10_partOf dX10_gets_68 rfl wM_X10_122 ⟨rfl, by decide, rfl, Nat.le_of_ble_eq_true rfl, by decide, Nat.le_of_ble_eq_true rfl, rfl, rfl⟩ rfl k0 (TR.mono h (fun r29 L30 μ31 h => ?_))
            obtain ⟨w32, rfl, rfl, h⟩ := h
            show WA mX10_gets 5 (0, 0) 71 [(2, v0), (0, v1), (0, v2), (0, v3), (0, v4)] [(1, w32)] L μ31 Q
            exact wa_lret dX10_gets_71 rfl h
          · replace h := h.2 q
            refine wa_ldc2 47 (-9223372036854775808) dX10_gets_44 rfl wJ_X10_116 ⟨rfl, by decide⟩ ?_
            exact wa_lret dX10_gets_47 rfl h
set_option maxRecDepth 20000 in
theorem t_X10_goes (hL : LayOK L) {v0 v1 v2 : Int} (k0 : isK L v0 (10, 0)) (h : TR mX10_undivided 0 (0, 0) [(2, v0)] L μ (fun r1 L2 μ3 => r1 = none ∧ L = L2 ∧ ((v1 = 0 → TR mX10_chooses 4 (0, 0) [(2, v0)] L (up (up (up μ3 ((rf L v0 0)) 2 1) v0 11 0) v0 12 v2) (fun r5 L6 μ7 => r5 = none ∧ L = L6 ∧ (¬ (μ7 v0 11) = 0 → Q (some (0, 0)) L μ7) ∧ ((μ7 v0 11) = 0 → Q (some (0, 1)) L μ7))) ∧ (v1 = 1 → TR mX10_knife 4 (0, 0) [(2, v0)] L (up (up (up μ3 ((rf L v0 0)) 2 1) v0 11 0) v0 12 v2) (fun r8 L9 μ10 => r8 = none ∧ L = L9 ∧ (¬ (μ10 v0 11) = 0 → Q (some (0, 0)) L μ10) ∧ ((μ10 v0 11) = 0 → Q (some (0, 1)) L μ10))) ∧ (v1 = 2 → TR mX10_diminish 5 (0, 0) [(2, v0)] L (up (up (up μ3 ((rf L v0 0)) 2 1) v0 11 0) v0 12 v2) (fun r11 L12 μ13 => r11 = none ∧ L = L12 ∧ (¬ (μ13 v0 11) = 0 → Q (some (0, 0)) L μ13) ∧ ((μ13 v0 11) = 0 → Q (some (0, 1)) L μ13))) ∧ (v1 = 3 → TR mX10_halves 5 (0, 0) [(2, v0)] L (up (up (up μ3 ((rf L v0 0)) 2 1) v0 11 0) v0 12 v2) (fun r14 L15 μ16 => r14 = none ∧ L = L15 ∧ (¬ (μ16 v0 11) = 0 → Q (some (0, 0)) L μ16) ∧ ((μ16 v0 11) = 0 → Q (some (0, 1)) L μ16)))) ∧ (v1 < 0 ∨ 3 < v1 → TR mX10_trims 6 (0, 0) [(2, v0)] L (up (up (up μ3 ((rf L v0 0)) 2 1) v0 11 0) v0 12 v2) (fun r17 L18 μ19 => r17 = none ∧ L = L18 ∧ (¬ (μ19 v0 11) = 0 → Q (some (0, 0)) L μ19) ∧ ((μ19 v0 11) = 0 → Q (some (0, 1)) L μ19))))) : TR mX10_goes 7 (0, 0) [(2, v0), (0, v1), (0, v2)] L μ Q := by
  refine TR.of (ls := [(2, v0), (0, v1), (0, v2)]) (by decide) (by simp) rfl (Nat.le_of_ble_eq_true rfl) ?_
  refine wa_aload_n 1 dX10_goes_0 rfl rfl ?_
  refine wa_callV 4 0 0 10 (av := []) (rest := []) (k1 := (0, 0)) (k2 := (0, 0)) cvX10_undivided dX10_goes_1 rfl wM_X10_226 ⟨rfl, by decide, rfl, Nat.le_of_ble_eq_true rfl, by decide, Nat.le_of_ble_eq_true rfl, rfl, rfl⟩ rfl k0 (TR.mono h (fun r1 L2 μ3 h => ?_))
  obtain ⟨rfl, rfl, h⟩ := h
  show WA mX10_goes 7 (0, 0) 4 [(2, v0), (0, v1), (0, v2)] [] L μ3 Q
  refine wa_aload_n 5 dX10_goes_4 rfl rfl ?_
  have e4 : isK L (rf L v0 0) (21, 510) := lay_f hL k0 0 rfl
  refine wa_getR 8 0 dX10_goes_5 rfl wF_X10_9 rfl rfl ⟨k0, isK_pos e4⟩ ?_
  refine wa_iconst 9 dX10_goes_8 rfl (by decide) ?_
  refine wa_lconst 10 1 dX10_goes_9 rfl ⟨rfl, by decide⟩ ?_
  refine wa_lastore 11 dX10_goes_10 rfl (okA_of e4 ⟨by decide, by decide⟩) ?_
  refine wa_aload_n 12 dX10_goes_11 rfl rfl ?_
  refine wa_iconst 13 dX10_goes_12 rfl (by decide) ?_
  refine wa_putI 16 11 dX10_goes_13 rfl wF_X10_219 rfl rfl k0 (Or.inl rfl) ?_
  refine wa_aload_n 17 dX10_goes_16 rfl rfl ?_
  refine wa_iload_n 18 dX10_goes_17 rfl rfl ?_
  refine wa_putN 21 12 dX10_goes_18 rfl wF_X10_236 rfl rfl k0 ?_
  refine wa_iload_n 22 dX10_goes_21 rfl rfl ?_
  refine wa_switch (fun j => match j with | 0 => 52 | 1 => 59 | 2 => 66 | _ => 73) 80 (n := 4) dX10_goes_22 rfl (by decide) (by decide) (fun j hj hx => ?_) (fun hx => ?_)
  · have h := h.1
    rcases (show j = 0 ∨ j = 1 ∨ j = 2 ∨ j = 3 by omega) with rfl | rfl | rfl | rfl
    · replace h := h.1 (by simpa using hx)
      refine wa_aload_n 53 dX10_goes_52 rfl rfl ?_
      refine wa_callV 56 4 0 10 (av := []) (rest := []) (k1 := (0, 0)) (k2 := (0, 0)) cvX10_chooses dX10_goes_53 rfl wM_X10_303 ⟨rfl, by decide, rfl, Nat.le_of_ble_eq_true rfl, by decide, Nat.le_of_ble_eq_true rfl, rfl, rfl⟩ rfl k0 (TR.mono h (fun r5 L6 μ7 h => ?_))
      obtain ⟨rfl, rfl, h⟩ := h
      show WA mX10_goes 7 (0, 0) 56 [(2, v0), (0, v1), (0, v2)] [] L μ7 Q
      refine wa_goto 84 dX10_goes_56 (by decide) ?_
      refine wa_aload_n 85 dX10_goes_84 rfl rfl ?_
      refine wa_getI 88 11 dX10_goes_85 rfl wF_X10_219 rfl rfl k0 ?_
      refine wa_if_ne 91 95 dX10_goes_88 rfl (by decide) (fun q => ?_) (fun q => ?_)
      · replace h := h.1 q
        refine wa_iconst 96 dX10_goes_95 rfl (by decide) ?_
        exact wa_zret dX10_goes_96 rfl (Or.inl rfl) h
      · replace h := h.2 q
        refine wa_iconst 92 dX10_goes_91 rfl (by decide) ?_
        refine wa_goto 96 dX10_goes_92 (by decide) ?_
        exact wa_zret dX10_goes_96 rfl (Or.inr rfl) h
    · replace h := h.2.1 (by simpa using hx)
      refine wa_aload_n 60 dX10_goes_59 rfl rfl ?_
      refine wa_callV 63 4 0 10 (av := []) (rest := []) (k1 := (0, 0)) (k2 := (0, 0)) cvX10_knife dX10_goes_60 rfl wM_X10_306 ⟨rfl, by decide, rfl, Nat.le_of_ble_eq_true rfl, by decide, Nat.le_of_ble_eq_true rfl, rfl, rfl⟩ rfl k0 (TR.mono h (fun r8 L9 μ10 h => ?_))
      obtain ⟨rfl, rfl, h⟩ := h
      show WA mX10_goes 7 (0, 0) 63 [(2, v0), (0, v1), (0, v2)] [] L μ10 Q
      refine wa_goto 84 dX10_goes_63 (by decide) ?_
      refine wa_aload_n 85 dX10_goes_84 rfl rfl ?_
      refine wa_getI 88 11 dX10_goes_85 rfl wF_X10_219 rfl rfl k0 ?_
      refine wa_if_ne 91 95 dX10_goes_88 rfl (by decide) (fun q => ?_) (fun q => ?_)
      · replace h := h.1 q
        refine wa_iconst 96 dX10_goes_95 rfl (by decide) ?_
        exact wa_zret dX10_goes_96 rfl (Or.inl rfl) h
      · replace h := h.2 q
        refine wa_iconst 92 dX10_goes_91 rfl (by decide) ?_
        refine wa_goto 96 dX10_goes_92 (by decide) ?_
        exact wa_zret dX10_goes_96 rfl (Or.inr rfl) h
    · replace h := h.2.2.1 (by simpa using hx)
      refine wa_aload_n 67 dX10_goes_66 rfl rfl ?_
      refine wa_callV 70 5 0 10 (av := []) (rest := []) (k1 := (0, 0)) (k2 := (0, 0)) cvX10_diminish dX10_goes_67 rfl wM_X10_309 ⟨rfl, by decide, rfl, Nat.le_of_ble_eq_true rfl, by decide, Nat.le_of_ble_eq_true rfl, rfl, rfl⟩ rfl k0 (TR.mono h (fun r11 L12 μ13 h => ?_))
      obtain ⟨rfl, rfl, h⟩ := h
      show WA mX10_goes 7 (0, 0) 70 [(2, v0), (0, v1), (0, v2)] [] L μ13 Q
      refine wa_goto 84 dX10_goes_70 (by decide) ?_
      refine wa_aload_n 85 dX10_goes_84 rfl rfl ?_
      refine wa_getI 88 11 dX10_goes_85 rfl wF_X10_219 rfl rfl k0 ?_
      refine wa_if_ne 91 95 dX10_goes_88 rfl (by decide) (fun q => ?_) (fun q => ?_)
      · replace h := h.1 q
        refine wa_iconst 96 dX10_goes_95 rfl (by decide) ?_
        exact wa_zret dX10_goes_96 rfl (Or.inl rfl) h
      · replace h := h.2 q
        refine wa_iconst 92 dX10_goes_91 rfl (by decide) ?_
        refine wa_goto 96 dX10_goes_92 (by decide) ?_
        exact wa_zret dX10_goes_96 rfl (Or.inr rfl) h
    · replace h := h.2.2.2 (by simpa using hx)
      refine wa_aload_n 74 dX10_goes_73 rfl rfl ?_
      refine wa_callV 77 5 0 10 (av := []) (rest := []) (k1 := (0, 0)) (k2 := (0, 0)) cvX10_halves dX10_goes_74 rfl wM_X10_312 ⟨rfl, by decide, rfl, Nat.le_of_ble_eq_true rfl, by decide, Nat.le_of_ble_eq_true rfl, rfl, rfl⟩ rfl k0 (TR.mono h (fun r14 L15 μ16 h => ?_))
      obtain ⟨rfl, rfl, h⟩ := h
      show WA mX10_goes 7 (0, 0) 77 [(2, v0), (0, v1), (0, v2)] [] L μ16 Q
      refine wa_goto 84 dX10_goes_77 (by decide) ?_
      refine wa_aload_n 85 dX10_goes_84 rfl rfl ?_
      refine wa_getI 88 11 dX10_goes_85 rfl wF_X10_219 rfl rfl k0 ?_
      refine wa_if_ne 91 95 dX10_goes_88 rfl (by decide) (fun q => ?_) (fun q => ?_)
      · replace h := h.1 q
        refine wa_iconst 96 dX10_goes_95 rfl (by decide) ?_
        exact wa_zret dX10_goes_96 rfl (Or.inl rfl) h
      · replace h := h.2 q
        refine wa_iconst 92 dX10_goes_91 rfl (by decide) ?_
        refine wa_goto 96 dX10_goes_92 (by decide) ?_
        exact wa_zret dX10_goes_96 rfl (Or.inr rfl) h
  · replace h := h.2 hx
    refine wa_aload_n 81 dX10_goes_80 rfl rfl ?_
    refine wa_callV 84 6 0 10 (av := []) (rest := []) (k1 := (0, 0)) (k2 := (0, 0)) cvX10_trims dX10_goes_81 rfl wM_X10_315 ⟨rfl, by decide, rfl, Nat.le_of_ble_eq_true rfl, by decide, Nat.le_of_ble_eq_true rfl, rfl, rfl⟩ rfl k0 (TR.mono h (fun r17 L18 μ19 h => ?_))
    obtain ⟨rfl, rfl, h⟩ := h
    show WA mX10_goes 7 (0, 0) 84 [(2, v0), (0, v1), (0, v2)] [] L μ19 Q
    refine wa_aload_n 85 dX10_goes_84 rfl rfl ?_
    refine wa_getI 88 11 dX10_goes_85 rfl wF_X10_219 rfl rfl k0 ?_
    refine wa_if_ne 91 95 dX10_goes_88 rfl (by decide) (fun q => ?_) (fun q => ?_)
    · replace h := h.1 q
      refine wa_iconst 96 dX10_goes_95 rfl (by decide) ?_
      exact wa_zret dX10_goes_96 rfl (Or.inl rfl) h
    · replace h := h.2 q
      refine wa_iconst 92 dX10_goes_91 rfl (by decide) ?_
      refine wa_goto 96 dX10_goes_92 (by decide) ?_
      exact wa_zret dX10_goes_96 rfl (Or.inr rfl) h
set_option maxRecDepth 20000 in
theorem t_X10_goesOn (hL : LayOK L) {v0 v1 : Int} (k0 : isK L v0 (10, 0)) (h : (¬ (μ v0 9) = 0 → (inI ((μ v0 8) + 0)) ∧ Q (some (0, 0)) L (up μ v0 8 (((μ v0 8) + 0)))) ∧ ((μ v0 9) = 0 → TR mX10_here 0 (0, 0) [(2, v0)] L μ (fun r2 L3 μ4 => ∃ w5, r2 = some (0, w5) ∧ L = L3 ∧ (¬ w5 = v1 → (inI ((μ4 v0 8) + 0)) ∧ Q (some (0, 0)) L (up μ4 v0 8 (((μ4 v0 8) + 0)))) ∧ (w5 = v1 → (inI ((μ4 v0 8) + 1)) ∧ Q (some (0, 1)) L (up μ4 v0 8 (((μ4 v0 8) + 1))))))) : TR mX10_goesOn 1 (0, 0) [(2, v0), (0, v1)] L μ Q := by
  refine TR.of (ls := [(2, v0), (0, v1), (9, 0)]) (by decide) (by simp) rfl (Nat.le_of_ble_eq_true rfl) ?_
  refine wa_aload_n 1 dX10_goesOn_0 rfl rfl ?_
  refine wa_getI 4 9 dX10_goesOn_1 rfl wF_X10_157 rfl rfl k0 ?_
  refine wa_if_ne 7 19 dX10_goesOn_4 rfl (by decide) (fun q => ?_) (fun q => ?_)
  · replace h := h.1 q
    refine wa_iconst 20 dX10_goesOn_19 rfl (by decide) ?_
    refine wa_istore_n 21 [(2, v0), (0, v1), (0, 0)] dX10_goesOn_20 rfl rfl rfl ?_
    refine wa_aload_n 22 dX10_goesOn_21 rfl rfl ?_
    refine wa_dup 23 dX10_goesOn_22 rfl (Or.inr rfl) ?_
    refine wa_getI 26 8 dX10_goesOn_23 rfl wF_X10_154 rfl rfl k0 ?_
    refine wa_iload_n 27 dX10_goesOn_26 rfl rfl ?_
    refine wa_if_eq 30 34 dX10_goesOn_27 rfl (by decide) (fun q => ?_) (fun q => ?_)
    · skip
      refine wa_iconst 35 dX10_goesOn_34 rfl (by decide) ?_
      obtain ⟨c1, h⟩ := h
      refine wa_iadd 36 dX10_goesOn_35 rfl c1 ?_
      refine wa_putN 39 8 dX10_goesOn_36 rfl wF_X10_154 rfl rfl k0 ?_
      refine wa_iload_n 40 dX10_goesOn_39 rfl rfl ?_
      exact wa_zret dX10_goesOn_40 rfl (Or.inl rfl) h
    · exact absurd q (by decide)
  · replace h := h.2 q
    refine wa_aload_n 8 dX10_goesOn_7 rfl rfl ?_
    refine wa_callV 11 0 0 10 (av := []) (rest := []) (k1 := (0, 0)) (k2 := (0, 0)) cvX10_here dX10_goesOn_8 rfl wM_X10_161 ⟨rfl, by decide, rfl, Nat.le_of_ble_eq_true rfl, by decide, Nat.le_of_ble_eq_true rfl, rfl, rfl⟩ rfl k0 (TR.mono h (fun r2 L3 μ4 h => ?_))
    obtain ⟨w5, rfl, rfl, h⟩ := h
    show WA mX10_goesOn 1 (0, 0) 11 [(2, v0), (0, v1), (9, 0)] [(0, w5)] L μ4 Q
    refine wa_iload_n 12 dX10_goesOn_11 rfl rfl ?_
    refine wa_icmp_ne 15 19 dX10_goesOn_12 rfl (by decide) (fun q => ?_) (fun q => ?_)
    · replace h := h.1 q
      refine wa_iconst 20 dX10_goesOn_19 rfl (by decide) ?_
      refine wa_istore_n 21 [(2, v0), (0, v1), (0, 0)] dX10_goesOn_20 rfl rfl rfl ?_
      refine wa_aload_n 22 dX10_goesOn_21 rfl rfl ?_
      refine wa_dup 23 dX10_goesOn_22 rfl (Or.inr rfl) ?_
      refine wa_getI 26 8 dX10_goesOn_23 rfl wF_X10_154 rfl rfl k0 ?_
      refine wa_iload_n 27 dX10_goesOn_26 rfl rfl ?_
      refine wa_if_eq 30 34 dX10_goesOn_27 rfl (by decide) (fun q => ?_) (fun q => ?_)
      · skip
        refine wa_iconst 35 dX10_goesOn_34 rfl (by decide) ?_
        obtain ⟨c6, h⟩ := h
        refine wa_iadd 36 dX10_goesOn_35 rfl c6 ?_
        refine wa_putN 39 8 dX10_goesOn_36 rfl wF_X10_154 rfl rfl k0 ?_
        refine wa_iload_n 40 dX10_goesOn_39 rfl rfl ?_
        exact wa_zret dX10_goesOn_40 rfl (Or.inl rfl) h
      · exact absurd q (by decide)
    · replace h := h.2 q
      refine wa_iconst 16 dX10_goesOn_15 rfl (by decide) ?_
      refine wa_goto 20 dX10_goesOn_16 (by decide) ?_
      refine wa_istore_n 21 [(2, v0), (0, v1), (0, 1)] dX10_goesOn_20 rfl rfl rfl ?_
      refine wa_aload_n 22 dX10_goesOn_21 rfl rfl ?_
      refine wa_dup 23 dX10_goesOn_22 rfl (Or.inr rfl) ?_
      refine wa_getI 26 8 dX10_goesOn_23 rfl wF_X10_154 rfl rfl k0 ?_
      refine wa_iload_n 27 dX10_goesOn_26 rfl rfl ?_
      refine wa_if_eq 30 34 dX10_goesOn_27 rfl (by decide) (fun q => ?_) (fun q => ?_)
      · exact absurd q (by decide)
      · skip
        refine wa_iconst 31 dX10_goesOn_30 rfl (by decide) ?_
        refine wa_goto 35 dX10_goesOn_31 (by decide) ?_
        obtain ⟨c7, h⟩ := h
        refine wa_iadd 36 dX10_goesOn_35 rfl c7 ?_
        refine wa_putN 39 8 dX10_goesOn_36 rfl wF_X10_154 rfl rfl k0 ?_
        refine wa_iload_n 40 dX10_goesOn_39 rfl rfl ?_
        exact wa_zret dX10_goesOn_40 rfl (Or.inr rfl) h
set_option maxRecDepth 20000 in
theorem t_X10_halves (hL : LayOK L) {v0 : Int} (k0 : isK L v0 (10, 0)) (h : TR mX10_agents 0 (0, 0) [(2, v0)] L (up μ v0 18 0) (fun r1 L2 μ3 => ∃ w4, r1 = some (0, w4) ∧ L = L2 ∧ (inI ((bShl 1 w4) - 1)) ∧ TR mX10_ends 0 (0, 0) [(2, v0)] L μ3 (fun r6 L7 μ8 => ∃ w9, r6 = some (1, w9) ∧ L = L7 ∧ TR mX10_lays 0 (0, 0) [(2, v0), (0, ((bShl 1 w4) - 1)), (1, 0), (1, 1), (1, w9), (1, 1)] L μ8 (fun r10 L11 μ12 => r10 = none ∧ L = L11 ∧ WA mX10_halves 5 (0, 0) 24 [(2, v0), (9, 0), (9, 0), (9, 0), (9, 0), (9, 0), (9, 0), (9, 0), (9, 0), (9, 0)] [] L μ12 Q)))) : TR mX10_halves 5 (0, 0) [(2, v0)] L μ Q := by
  refine TR.of (ls := [(2, v0), (9, 0), (9, 0), (9, 0), (9, 0), (9, 0), (9, 0), (9, 0), (9, 0), (9, 0)]) (by decide) (by simp) rfl (Nat.le_of_ble_eq_true rfl) ?_
  refine wa_aload_n 1 dX10_halves_0 rfl rfl ?_
  refine wa_iconst 2 dX10_halves_1 rfl (by decide) ?_
  refine wa_putN 5 18 dX10_halves_2 rfl wF_X10_266 rfl rfl k0 ?_
  refine wa_aload_n 6 dX10_halves_5 rfl rfl ?_
  refine wa_iconst 7 dX10_halves_6 rfl (by decide) ?_
  refine wa_aload_n 8 dX10_halves_7 rfl rfl ?_
  refine wa_callV 11 0 0 10 (av := []) (rest := [(0, 1), (2, v0)]) (k1 := (0, 0)) (k2 := (0, 0)) cvX10_agents dX10_halves_8 rfl wM_X10_75 ⟨rfl, by decide, rfl, Nat.le_of_ble_eq_true rfl, by decide, Nat.le_of_ble_eq_true rfl, rfl, rfl⟩ rfl k0 (TR.mono h (fun r1 L2 μ3 h => ?_))
  obtain ⟨w4, rfl, rfl, h⟩ := h
  show WA mX10_halves 5 (0, 0) 11 [(2, v0), (9, 0), (9, 0), (9, 0), (9, 0), (9, 0), (9, 0), (9, 0), (9, 0), (9, 0)] [(0, w4), (0, 1), (2, v0)] L μ3 Q
  refine wa_ishl 12 dX10_halves_11 rfl ?_
  refine wa_iconst 13 dX10_halves_12 rfl (by decide) ?_
  obtain ⟨c5, h⟩ := h
  refine wa_isub 14 dX10_halves_13 rfl c5 ?_
  refine wa_lconst 15 0 dX10_halves_14 rfl ⟨rfl, by decide⟩ ?_
  refine wa_lconst 16 1 dX10_halves_15 rfl ⟨rfl, by decide⟩ ?_
  refine wa_aload_n 17 dX10_halves_16 rfl rfl ?_
  refine wa_callV 20 0 0 10 (av := []) (rest := [(1, 1), (1, 0), (0, ((bShl 1 w4) - 1)), (2, v0)]) (k1 := (0, 0)) (k2 := (0, 0)) cvX10_ends dX10_halves_17 rfl wM_X10_249 ⟨rfl, by decide, rfl, Nat.le_of_ble_eq_true rfl, by decide, Nat.le_of_ble_eq_true rfl, rfl, rfl⟩ rfl k0 (TR.mono h (fun r6 L7 μ8 h => ?_))
  obtain ⟨w9, rfl, rfl, h⟩ := h
  show WA mX10_halves 5 (0, 0) 20 [(2, v0), (9, 0), (9, 0), (9, 0), (9, 0), (9, 0), (9, 0), (9, 0), (9, 0), (9, 0)] [(1, w9), (1, 1), (1, 0), (0, ((bShl 1 w4) - 1)), (2, v0)] L μ8 Q
  refine wa_lconst 21 1 dX10_halves_20 rfl ⟨rfl, by decide⟩ ?_
  refine wa_callV 24 0 5 10 (av := [(0, ((bShl 1 w4) - 1)), (1, 0), (1, 1), (1, w9), (1, 1)]) (rest := []) (k1 := (0, 0)) (k2 := (0, 0)) cvX10_lays dX10_halves_21 rfl wM_X10_275 ⟨rfl, by decide, rfl, Nat.le_of_ble_eq_true rfl, by decide, Nat.le_of_ble_eq_true rfl, rfl, rfl⟩ rfl k0 (TR.mono h (fun r10 L11 μ12 h => ?_))
  obtain ⟨rfl, rfl, h⟩ := h
  show WA mX10_halves 5 (0, 0) 24 [(2, v0), (9, 0), (9, 0), (9, 0), (9, 0), (9, 0), (9, 0), (9, 0), (9, 0), (9, 0)] [] L μ12 Q
  exact h
set_option maxRecDepth 20000 in
theorem s_X10_halves_24 (hL : LayOK L) {v0 : Int} (k0 : isK L v0 (10, 0)) (h : ((μ v0 18) ≤ 0 → Q none L μ) ∧ (¬ (μ v0 18) ≤ 0 → (¬ (μ v0 11) = 0 → Q none L μ) ∧ ((μ v0 11) = 0 → (inI ((μ v0 18) - 1)) ∧ (0 ≤ ((up μ v0 18 (((μ v0 18) - 1))) v0 18) ∧ ((up μ v0 18 (((μ v0 18) - 1))) v0 18) < 10) ∧ (inI (4 * ((up μ v0 18 (((μ v0 18) - 1))) v0 18))) ∧ (0 ≤ (4 * ((up μ v0 18 (((μ v0 18) - 1))) v0 18)) ∧ (4 * ((up μ v0 18 (((μ v0 18) - 1))) v0 18)) < 40) ∧ (inI ((4 * ((up μ v0 18 (((μ v0 18) - 1))) v0 18)) + 1)) ∧ (0 ≤ ((4 * ((up μ v0 18 (((μ v0 18) - 1))) v0 18)) + 1) ∧ ((4 * ((up μ v0 18 (((μ v0 18) - 1))) v0 18)) + 1) < 40) ∧ (inI ((4 * ((up μ v0 18 (((μ v0 18) - 1))) v0 18)) + 2)) ∧ (0 ≤ ((4 * ((up μ v0 18 (((μ v0 18) - 1))) v0 18)) + 2) ∧ ((4 * ((up μ v0 18 (((μ v0 18) - 1))) v0 18)) + 2) < 40) ∧ (inI ((4 * ((up μ v0 18 (((μ v0 18) - 1))) v0 18)) + 3)) ∧ (0 ≤ ((4 * ((up μ v0 18 (((μ v0 18) - 1))) v0 18)) + 3) ∧ ((4 * ((up μ v0 18 (((μ v0 18) - 1))) v0 18)) + 3) < 40) ∧ TR mX10_countOf 0 (0, 0) [(0, ((up μ v0 18 (((μ v0 18) - 1))) ((rf L v0 16)) (((up μ v0 18 (((μ v0 18) - 1))) v0 18))))] L (up μ v0 18 (((μ v0 18) - 1))) (fun r13 L14 μ15 => ∃ w16, r13 = some (0, w16) ∧ L = L14 ∧ (¬ w16 = 1 → TR mX10_parts 4 (0, 0) [(2, v0), (0, ((up μ v0 18 (((μ v0 18) - 1))) ((rf L v0 16)) (((up μ v0 18 (((μ v0 18) - 1))) v0 18)))), (1, ((up μ v0 18 (((μ v0 18) - 1))) ((rf L v0 17)) ((4 * ((up μ v0 18 (((μ v0 18) - 1))) v0 18))))), (1, ((up μ v0 18 (((μ v0 18) - 1))) ((rf L v0 17)) (((4 * ((up μ v0 18 (((μ v0 18) - 1))) v0 18)) + 1)))), (1, ((up μ v0 18 (((μ v0 18) - 1))) ((rf L v0 17)) (((4 * ((up μ v0 18 (((μ v0 18) - 1))) v0 18)) + 2)))), (1, ((up μ v0 18 (((μ v0 18) - 1))) ((rf L v0 17)) (((4 * ((up μ v0 18 (((μ v0 18) - 1))) v0 18)) + 3))))] L μ15 (fun r17 L18 μ19 => r17 = none ∧ L = L18 ∧ WA mX10_halves 5 (0, 0) 24 [(2, v0), (9, 0), (9, 0), (9, 0), (9, 0), (9, 0), (9, 0), (9, 0), (9, 0), (9, 0)] [] L μ19 Q)) ∧ (w16 = 1 → TR mX10_lastOf 1 (0, 0) [(2, v0), (0, ((up μ v0 18 (((μ v0 18) - 1))) ((rf L v0 16)) (((up μ v0 18 (((μ v0 18) - 1))) v0 18))))] L μ15 (fun r20 L21 μ22 => ∃ w23, r20 = some (0, w23) ∧ L = L21 ∧ TR mX10_takes 1 (0, 0) [(2, v0), (0, w23), (1, ((up μ v0 18 (((μ v0 18) - 1))) ((rf L v0 17)) ((4 * ((up μ v0 18 (((μ v0 18) - 1))) v0 18))))), (1, ((up μ v0 18 (((μ v0 18) - 1))) ((rf L v0 17)) (((4 * ((up μ v0 18 (((μ v0 18) - 1))) v0 18)) + 1)))), (1, ((up μ v0 18 (((μ v0 18) - 1))) ((rf L v0 17)) (((4 * ((up μ v0 18 (((μ v0 18) - 1))) v0 18)) + 2)))), (1, ((up μ v0 18 (((μ v0 18) - 1))) ((rf L v0 17)) (((4 * ((up μ v0 18 (((μ v0 18) - 1))) v0 18)) + 3))))] L μ22 (fun r24 L25 μ26 => r24 = none ∧ L = L25 ∧ WA mX10_halves 5 (0, 0) 24 [(2, v0), (9, 0), (9, 0), (9, 0), (9, 0), (9, 0), (9, 0), (9, 0), (9, 0), (9, 0)] [] L μ26 Q))))))) : WA mX10_halves 5 (0, 0) 24 [(2, v0), (9, 0), (9, 0), (9, 0), (9, 0), (9, 0), (9, 0), (9, 0), (9, 0), (9, 0)] [] L μ Q := by
  refine wa_aload_n 25 dX10_halves_24 rfl rfl ?_
  refine wa_getI 28 18 dX10_halves_25 rfl wF_X10_266 rfl rfl k0 ?_
  refine wa_if_le 31 157 dX10_halves_28 rfl (by decide) (fun q => ?_) (fun q => ?_)
  · replace h := h.1 q
    exact wa_vret dX10_halves_157 rfl h
  · replace h := h.2 q
    refine wa_aload_n 32 dX10_halves_31 rfl rfl ?_
    refine wa_getI 35 11 dX10_halves_32 rfl wF_X10_219 rfl rfl k0 ?_
    refine wa_if_ne 38 157 dX10_halves_35 rfl (by decide) (fun q => ?_) (fun q => ?_)
    · replace h := h.1 q
      exact wa_vret dX10_halves_157 rfl h
    · replace h := h.2 q
      refine wa_aload_n 39 dX10_halves_38 rfl rfl ?_
      refine wa_dup 40 dX10_halves_39 rfl (Or.inr rfl) ?_
      refine wa_getI 43 18 dX10_halves_40 rfl wF_X10_266 rfl rfl k0 ?_
      refine wa_iconst 44 dX10_halves_43 rfl (by decide) ?_
      obtain ⟨c1, h⟩ := h
      refine wa_isub 45 dX10_halves_44 rfl c1 ?_
      refine wa_putN 48 18 dX10_halves_45 rfl wF_X10_266 rfl rfl k0 ?_
      refine wa_aload_n 49 dX10_halves_48 rfl rfl ?_
      have e2 : isK L (rf L v0 16) (20, 10) := lay_f hL k0 16 rfl
      refine wa_getR 52 16 dX10_halves_49 rfl wF_X10_31 rfl rfl ⟨k0, isK_pos e2⟩ ?_
      refine wa_aload_n 53 dX10_halves_52 rfl rfl ?_
      refine wa_getI 56 18 dX10_halves_53 rfl wF_X10_266 rfl rfl k0 ?_
      obtain ⟨c3, h⟩ := h
      refine wa_iaload 57 dX10_halves_56 rfl (okA_of e2 c3) ?_
      refine wa_istore_n 58 [(2, v0), (0, ((up μ v0 18 (((μ v0 18) - 1))) ((rf L v0 16)) (((up μ v0 18 (((μ v0 18) - 1))) v0 18)))), (9, 0), (9, 0), (9, 0), (9, 0), (9, 0), (9, 0), (9, 0), (9, 0)] dX10_halves_57 rfl rfl rfl ?_
      refine wa_aload_n 59 dX10_halves_58 rfl rfl ?_
      have e4 : isK L (rf L v0 17) (21, 40) := lay_f hL k0 17 rfl
      refine wa_getR 62 17 dX10_halves_59 rfl wF_X10_34 rfl rfl ⟨k0, isK_pos e4⟩ ?_
      refine wa_iconst 63 dX10_halves_62 rfl (by decide) ?_
      refine wa_aload_n 64 dX10_halves_63 rfl rfl ?_
      refine wa_getI 67 18 dX10_halves_64 rfl wF_X10_266 rfl rfl k0 ?_
      obtain ⟨c5, h⟩ := h
      refine wa_imul 68 dX10_halves_67 rfl c5 ?_
      obtain ⟨c6, h⟩ := h
      refine wa_laload 69 dX10_halves_68 rfl (okA_of e4 c6) ?_
      refine wa_lstore_n 70 [(2, v0), (0, ((up μ v0 18 (((μ v0 18) - 1))) ((rf L v0 16)) (((up μ v0 18 (((μ v0 18) - 1))) v0 18)))), (1, ((up μ v0 18 (((μ v0 18) - 1))) ((rf L v0 17)) ((4 * ((up μ v0 18 (((μ v0 18) - 1))) v0 18))))), (9, 0), (9, 0), (9, 0), (9, 0), (9, 0), (9, 0), (9, 0)] dX10_halves_69 rfl rfl rfl ?_
      refine wa_aload_n 71 dX10_halves_70 rfl rfl ?_
      refine wa_getR 74 17 dX10_halves_71 rfl wF_X10_34 rfl rfl ⟨k0, isK_pos e4⟩ ?_
      refine wa_iconst 75 dX10_halves_74 rfl (by decide) ?_
      refine wa_aload_n 76 dX10_halves_75 rfl rfl ?_
      refine wa_getI 79 18 dX10_halves_76 rfl wF_X10_266 rfl rfl k0 ?_
      refine wa_imul 80 dX10_halves_79 rfl c5 ?_
      refine wa_iconst 81 dX10_halves_80 rfl (by decide) ?_
      obtain ⟨c7, h⟩ := h
      refine wa_iadd 82 dX10_halves_81 rfl c7 ?_
      obtain ⟨c8, h⟩ := h
      refine wa_laload 83 dX10_halves_82 rfl (okA_of e4 c8) ?_
      refine wa_lstore 85 [(2, v0), (0, ((up μ v0 18 (((μ v0 18) - 1))) ((rf L v0 16)) (((up μ v0 18 (((μ v0 18) - 1))) v0 18)))), (1, ((up μ v0 18 (((μ v0 18) - 1))) ((rf L v0 17)) ((4 * ((up μ v0 18 (((μ v0 18) - 1))) v0 18))))), (9, 0), (1, ((up μ v0 18 (((μ v0 18) - 1))) ((rf L v0 17)) (((4 * ((up μ v0 18 (((μ v0 18) - 1))) v0 18)) + 1)))), (9, 0), (9, 0), (9, 0), (9, 0), (9, 0)] dX10_halves_83 rfl rfl rfl ?_
      refine wa_aload_n 86 dX10_halves_85 rfl rfl ?_
      refine wa_getR 89 17 dX10_halves_86 rfl wF_X10_34 rfl rfl ⟨k0, isK_pos e4⟩ ?_
      refine wa_iconst 90 dX10_halves_89 rfl (by decide) ?_
      refine wa_aload_n 91 dX10_halves_90 rfl rfl ?_
      refine wa_getI 94 18 dX10_halves_91 rfl wF_X10_266 rfl rfl k0 ?_
      refine wa_imul 95 dX10_halves_94 rfl c5 ?_
      refine wa_iconst 96 dX10_halves_95 rfl (by decide) ?_
      obtain ⟨c9, h⟩ := h
      refine wa_iadd 97 dX10_halves_96 rfl c9 ?_
      obtain ⟨c10, h⟩ := h
      refine wa_laload 98 dX10_halves_97 rfl (okA_of e4 c10) ?_
      refine wa_lstore 100 [(2, v0), (0, ((up μ v0 18 (((μ v0 18) - 1))) ((rf L v0 16)) (((up μ v0 18 (((μ v0 18) - 1))) v0 18)))), (1, ((up μ v0 18 (((μ v0 18) - 1))) ((rf L v0 17)) ((4 * ((up μ v0 18 (((μ v0 18) - 1))) v0 18))))), (9, 0), (1, ((up μ v0 18 (((μ v0 18) - 1))) ((rf L v0 17)) (((4 * ((up μ v0 18 (((μ v0 18) - 1))) v0 18)) + 1)))), (9, 0), (1, ((up μ v0 18 (((μ v0 18) - 1))) ((rf L v0 17)) (((4 * ((up μ v0 18 (((μ v0 18) - 1))) v0 18)) + 2)))), (9, 0), (9, 0), (9, 0)] dX10_halves_98 rfl rfl rfl ?_
      refine wa_aload_n 101 dX10_halves_100 rfl rfl ?_
      refine wa_getR 104 17 dX10_halves_101 rfl wF_X10_34 rfl rfl ⟨k0, isK_pos e4⟩ ?_
      refine wa_iconst 105 dX10_halves_104 rfl (by decide) ?_
      refine wa_aload_n 106 dX10_halves_105 rfl rfl ?_
      refine wa_getI 109 18 dX10_halves_106 rfl wF_X10_266 rfl rfl k0 ?_
      refine wa_imul 110 dX10_halves_109 rfl c5 ?_
      refine wa_iconst 111 dX10_halves_110 rfl (by decide) ?_
      obtain ⟨c11, h⟩ := h
      refine wa_iadd 112 dX10_halves_111 rfl c11 ?_
      obtain ⟨c12, h⟩ := h
      refine wa_laload 113 dX10_halves_112 rfl (okA_of e4 c12) ?_
      refine wa_lstore 115 [(2, v0), (0, ((up μ v0 18 (((μ v0 18) - 1))) ((rf L v0 16)) (((up μ v0 18 (((μ v0 18) - 1))) v0 18)))), (1, ((up μ v0 18 (((μ v0 18) - 1))) ((rf L v0 17)) ((4 * ((up μ v0 18 (((μ v0 18) - 1))) v0 18))))), (9, 0), (1, ((up μ v0 18 (((μ v0 18) - 1))) ((rf L v0 17)) (((4 * ((up μ v0 18 (((μ v0 18) - 1))) v0 18)) + 1)))), (9, 0), (1, ((up μ v0 18 (((μ v0 18) - 1))) ((rf L v0 17)) (((4 * ((up μ v0 18 (((μ v0 18) - 1))) v0 18)) + 2)))), (9, 0), (1, ((up μ v0 18 (((μ v0 18) - 1))) ((rf L v0 17)) (((4 * ((up μ v0 18 (((μ v0 18) - 1))) v0 18)) + 3)))), (9, 0)] dX10_halves_113 rfl rfl rfl ?_
      refine wa_iload_n 116 dX10_halves_115 rfl rfl ?_
      refine wa_callS 119 0 1 (av := [(0, ((up μ v0 18 (((μ v0 18) - 1))) ((rf L v0 16)) (((up μ v0 18 (((μ v0 18) - 1))) v0 18))))]) (rest := []) (k1 := (0, 0)) (k2 := (0, 0)) cvX10_countOf dX10_halves_116 rfl wM_X10_269 ⟨rfl, Nat.le_of_ble_eq_true rfl, by decide, Nat.le_of_ble_eq_true rfl, rfl, rfl⟩ rfl (TR.mono h (fun r13 L14 μ15 h => ?_))
      obtain ⟨w16, rfl, rfl, h⟩ := h
      show WA mX10_halves 5 (0, 0) 119 [(2, v0), (0, ((up μ v0 18 (((μ v0 18) - 1))) ((rf L v0 16)) (((up μ v0 18 (((μ v0 18) - 1))) v0 18)))), (1, ((up μ v0 18 (((μ v0 18) - 1))) ((rf L v0 17)) ((4 * ((up μ v0 18 (((μ v0 18) - 1))) v0 18))))), (9, 0), (1, ((up μ v0 18 (((μ v0 18) - 1))) ((rf L v0 17)) (((4 * ((up μ v0 18 (((μ v0 18) - 1))) v0 18)) + 1)))), (9, 0), (1, ((up μ v0 18 (((μ v0 18) - 1))) ((rf L v0 17)) (((4 * ((up μ v0 18 (((μ v0 18) - 1))) v0 18)) + 2)))), (9, 0), (1, ((up μ v0 18 (((μ v0 18) - 1))) ((rf L v0 17)) (((4 * ((up μ v0 18 (((μ v0 18) - 1))) v0 18)) + 3)))), (9, 0)] [(0, w16)] L μ15 Q
      refine wa_iconst 120 dX10_halves_119 rfl (by decide) ?_
      refine wa_icmp_ne 123 142 dX10_halves_120 rfl (by decide) (fun q => ?_) (fun q => ?_)
      · replace h := h.1 q
        refine wa_aload_n 143 dX10_halves_142 rfl rfl ?_
        refine wa_iload_n 144 dX10_halves_143 rfl rfl ?_
        refine wa_lload_n 145 dX10_halves_144 rfl rfl ?_
        refine wa_lload 147 dX10_halves_145 rfl rfl ?_
        refine wa_lload 149 dX10_halves_147 rfl rfl ?_
        refine wa_lload 151 dX10_halves_149 rfl rfl ?_
        refine wa_callV 154 4 5 10 (av := [(0, ((up μ v0 18 (((μ v0 18) - 1))) ((rf L v0 16)) (((up μ v0 18 (((μ v0 18) - 1))) v0 18)))), (1, ((up μ v0 18 (((μ v0 18) - 1))) ((rf L v0 17)) ((4 * ((up μ v0 18 (((μ v0 18) - 1))) v0 18))))), (1, ((up μ v0 18 (((μ v0 18) - 1))) ((rf L v0 17)) (((4 * ((up μ v0 18 (((μ v0 18) - 1))) v0 18)) + 1)))), (1, ((up μ v0 18 (((μ v0 18) - 1))) ((rf L v0 17)) (((4 * ((up μ v0 18 (((μ v0 18) - 1))) v0 18)) + 2)))), (1, ((up μ v0 18 (((μ v0 18) - 1))) ((rf L v0 17)) (((4 * ((up μ v0 18 (((μ v0 18) - 1))) v0 18)) + 3))))]) (rest := []) (k1 := (0, 0)) (k2 := (0, 0)) cvX10_parts dX10_halves_151 rfl wM_X10_278 ⟨rfl, by decide, rfl, Nat.le_of_ble_eq_true rfl, by decide, Nat.le_of_ble_eq_true rfl, rfl, rfl⟩ rfl k0 (TR.mono h (fun r17 L18 μ19 h => ?_))
        obtain ⟨rfl, rfl, h⟩ := h
        show WA mX10_halves 5 (0, 0) 154 [(2, v0), (0, ((up μ v0 18 (((μ v0 18) - 1))) ((rf L v0 16)) (((up μ v0 18 (((μ v0 18) - 1))) v0 18)))), (1, ((up μ v0 18 (((μ v0 18) - 1))) ((rf L v0 17)) ((4 * ((up μ v0 18 (((μ v0 18) - 1))) v0 18))))), (9, 0), (1, ((up μ v0 18 (((μ v0 18) - 1))) ((rf L v0 17)) (((4 * ((up μ v0 18 (((μ v0 18) - 1))) v0 18)) + 1)))), (9, 0), (1, ((up μ v0 18 (((μ v0 18) - 1))) ((rf L v0 17)) (((4 * ((up μ v0 18 (((μ v0 18) - 1))) v0 18)) + 2)))), (9, 0), (1, ((up μ v0 18 (((μ v0 18) - 1))) ((rf L v0 17)) (((4 * ((up μ v0 18 (((μ v0 18) - 1))) v0 18)) + 3)))), (9, 0)] [] L μ19 Q
        refine wa_goto 24 dX10_halves_154 (by decide) ?_
        exact wa_weak [(2, v0), (9, 0), (9, 0), (9, 0), (9, 0), (9, 0), (9, 0), (9, 0), (9, 0), (9, 0)] ⟨Or.inl rfl, Or.inr rfl, Or.inr rfl, Or.inl rfl, Or.inr rfl, Or.inl rfl, Or.inr rfl, Or.inl rfl, Or.inr rfl, Or.inl rfl, trivial⟩ h
      · replace h := h.2 q
        refine wa_aload_n 124 dX10_halves_123 rfl rfl ?_
        refine wa_aload_n 125 dX10_halves_124 rfl rfl ?_
        refine wa_iload_n 126 dX10_halves_125 rfl rfl ?_
        refine wa_callV 129 1 1 10 (av := [(0, ((up μ v0 18 (((μ v0 18) - 1))) ((rf L v0 16)) (((up μ v0 18 (((μ v0 18) - 1))) v0 18))))]) (rest := [(2, v0)]) (k1 := (0, 0)) (k2 := (0, 0)) cvX10_lastOf dX10_halves_126 rfl wM_X10_256 ⟨rfl, by decide, rfl, Nat.le_of_ble_eq_true rfl, by decide, Nat.le_of_ble_eq_true rfl, rfl, rfl⟩ rfl k0 (TR.mono h (fun r20 L21 μ22 h => ?_))
        obtain ⟨w23, rfl, rfl, h⟩ := h
        show WA mX10_halves 5 (0, 0) 129 [(2, v0), (0, ((up μ v0 18 (((μ v0 18) - 1))) ((rf L v0 16)) (((up μ v0 18 (((μ v0 18) - 1))) v0 18)))), (1, ((up μ v0 18 (((μ v0 18) - 1))) ((rf L v0 17)) ((4 * ((up μ v0 18 (((μ v0 18) - 1))) v0 18))))), (9, 0), (1, ((up μ v0 18 (((μ v0 18) - 1))) ((rf L v0 17)) (((4 * ((up μ v0 18 (((μ v0 18) - 1))) v0 18)) + 1)))), (9, 0), (1, ((up μ v0 18 (((μ v0 18) - 1))) ((rf L v0 17)) (((4 * ((up μ v0 18 (((μ v0 18) - 1))) v0 18)) + 2)))), (9, 0), (1, ((up μ v0 18 (((μ v0 18) - 1))) ((rf L v0 17)) (((4 * ((up μ v0 18 (((μ v0 18) - 1))) v0 18)) + 3)))), (9, 0)] [(0, w23), (2, v0)] L μ22 Q
        refine wa_lload_n 130 dX10_halves_129 rfl rfl ?_
        refine wa_lload 132 dX10_halves_130 rfl rfl ?_
        refine wa_lload 134 dX10_halves_132 rfl rfl ?_
        refine wa_lload 136 dX10_halves_134 rfl rfl ?_
        refine wa_callV 139 1 5 10 (av := [(0, w23), (1, ((up μ v0 18 (((μ v0 18) - 1))) ((rf L v0 17)) ((4 * ((up μ v0 18 (((μ v0 18) - 1))) v0 18))))), (1, ((up μ v0 18 (((μ v0 18) - 1))) ((rf L v0 17)) (((4 * ((up μ v0 18 (((μ v0 18) - 1))) v0 18)) + 1)))), (1, ((up μ v0 18 (((μ v0 18) - 1))) ((rf L v0 17)) (((4 * ((up μ v0 18 (((μ v0 18) - 1))) v0 18)) + 2)))), (1, ((up μ v0 18 (((μ v0 18) - 1))) ((rf L v0 17)) (((4 * ((up μ v0 18 (((μ v0 18) - 1))) v0 18)) + 3))))]) (rest := []) (k1 := (0, 0)) (k2 := (0, 0)) cvX10_takes dX10_halves_136 rfl wM_X10_253 ⟨rfl, by decide, rfl, Nat.le_of_ble_eq_true rfl, by decide, Nat.le_of_ble_eq_true rfl, rfl, rfl⟩ rfl k0 (TR.mono h (fun r24 L25 μ26 h => ?_))
        obtain ⟨rfl, rfl, h⟩ := h
        show WA mX10_halves 5 (0, 0) 139 [(2, v0), (0, ((up μ v0 18 (((μ v0 18) - 1))) ((rf L v0 16)) (((up μ v0 18 (((μ v0 18) - 1))) v0 18)))), (1, ((up μ v0 18 (((μ v0 18) - 1))) ((rf L v0 17)) ((4 * ((up μ v0 18 (((μ v0 18) - 1))) v0 18))))), (9, 0), (1, ((up μ v0 18 (((μ v0 18) - 1))) ((rf L v0 17)) (((4 * ((up μ v0 18 (((μ v0 18) - 1))) v0 18)) + 1)))), (9, 0), (1, ((up μ v0 18 (((μ v0 18) - 1))) ((rf L v0 17)) (((4 * ((up μ v0 18 (((μ v0 18) - 1))) v0 18)) + 2)))), (9, 0), (1, ((up μ v0 18 (((μ v0 18) - 1))) ((rf L v0 17)) (((4 * ((up μ v0 18 (((μ v0 18) - 1))) v0 18)) + 3)))), (9, 0)] [] L μ26 Q
        refine wa_goto 154 dX10_halves_139 (by decide) ?_
        refine wa_goto 24 dX10_halves_154 (by decide) ?_
        exact wa_weak [(2, v0), (9, 0), (9, 0), (9, 0), (9, 0), (9, 0), (9, 0), (9, 0), (9, 0), (9, 0)] ⟨Or.inl rfl, Or.inr rfl, Or.inr rfl, Or.inl rfl, Or.inr rfl, Or.inl rfl, Or.inr rfl, Or.inl rfl, Or.inr rfl, Or.inl rfl, trivial⟩ h
set_option maxRecDepth 20000 in
theorem t_X10_happens (hL : LayOK L) {v0 v1 v2 v3 v5 v7 v9 : Int} (k0 : isK L v0 (10, 0)) (h : (inI ((μ ((rf L v0 0)) 4))) ∧ (inI (6 * (μ ((rf L v0 0)) 4))) ∧ (inI (210 + (6 * (μ ((rf L v0 0)) 4)))) ∧ (0 ≤ (210 + (6 * (μ ((rf L v0 0)) 4))) ∧ (210 + (6 * (μ ((rf L v0 0)) 4))) < 510) ∧ (inI ((210 + (6 * (μ ((rf L v0 0)) 4))) + 1)) ∧ (0 ≤ ((210 + (6 * (μ ((rf L v0 0)) 4))) + 1) ∧ ((210 + (6 * (μ ((rf L v0 0)) 4))) + 1) < 510) ∧ (inI ((210 + (6 * (μ ((rf L v0 0)) 4))) + 2)) ∧ (0 ≤ ((210 + (6 * (μ ((rf L v0 0)) 4))) + 2) ∧ ((210 + (6 * (μ ((rf L v0 0)) 4))) + 2) < 510) ∧ (inI ((210 + (6 * (μ ((rf L v0 0)) 4))) + 3)) ∧ (0 ≤ ((210 + (6 * (μ ((rf L v0 0)) 4))) + 3) ∧ ((210 + (6 * (μ ((rf L v0 0)) 4))) + 3) < 510) ∧ (inI ((210 + (6 * (μ ((rf L v0 0)) 4))) + 4)) ∧ (0 ≤ ((210 + (6 * (μ ((rf L v0 0)) 4))) + 4) ∧ ((210 + (6 * (μ ((rf L v0 0)) 4))) + 4) < 510) ∧ (inI ((210 + (6 * (μ ((rf L v0 0)) 4))) + 5)) ∧ (0 ≤ ((210 + (6 * (μ ((rf L v0 0)) 4))) + 5) ∧ ((210 + (6 * (μ ((rf L v0 0)) 4))) + 5) < 510) ∧ (inL (((up (up (up (up (up (up μ ((rf L v0 0)) ((210 + (6 * (μ ((rf L v0 0)) 4)))) v1) ((rf L v0 0)) (((210 + (6 * (μ ((rf L v0 0)) 4))) + 1)) v2) ((rf L v0 0)) (((210 + (6 * (μ ((rf L v0 0)) 4))) + 2)) v3) ((rf L v0 0)) (((210 + (6 * (μ ((rf L v0 0)) 4))) + 3)) v5) ((rf L v0 0)) (((210 + (6 * (μ ((rf L v0 0)) 4))) + 4)) v7) ((rf L v0 0)) (((210 + (6 * (μ ((rf L v0 0)) 4))) + 5)) v9) ((rf L v0 0)) 4) + 1)) ∧ Q none L (up (up (up (up (up (up (up μ ((rf L v0 0)) ((210 + (6 * (μ ((rf L v0 0)) 4)))) v1) ((rf L v0 0)) (((210 + (6 * (μ ((rf L v0 0)) 4))) + 1)) v2) ((rf L v0 0)) (((210 + (6 * (μ ((rf L v0 0)) 4))) + 2)) v3) ((rf L v0 0)) (((210 + (6 * (μ ((rf L v0 0)) 4))) + 3)) v5) ((rf L v0 0)) (((210 + (6 * (μ ((rf L v0 0)) 4))) + 4)) v7) ((rf L v0 0)) (((210 + (6 * (μ ((rf L v0 0)) 4))) + 5)) v9) ((rf L v0 0)) 4 ((((up (up (up (up (up (up μ ((rf L v0 0)) ((210 + (6 * (μ ((rf L v0 0)) 4)))) v1) ((rf L v0 0)) (((210 + (6 * (μ ((rf L v0 0)) 4))) + 1)) v2) ((rf L v0 0)) (((210 + (6 * (μ ((rf L v0 0)) 4))) + 2)) v3) ((rf L v0 0)) (((210 + (6 * (μ ((rf L v0 0)) 4))) + 3)) v5) ((rf L v0 0)) (((210 + (6 * (μ ((rf L v0 0)) 4))) + 4)) v7) ((rf L v0 0)) (((210 + (6 * (μ ((rf L v0 0)) 4))) + 5)) v9) ((rf L v0 0)) 4) + 1)))) : TR mX10_happens 0 (0, 0) [(2, v0), (0, v1), (0, v2), (1, v3), (1, v5), (1, v7), (1, v9)] L μ Q := by
  refine TR.of (ls := [(2, v0), (0, v1), (0, v2), (1, v3), (9, 0), (1, v5), (9, 0), (1, v7), (9, 0), (1, v9), (9, 0), (9, 0)]) (by decide) (by simp) rfl (Nat.le_of_ble_eq_true rfl) ?_
  refine wa_sipush 3 dX10_happens_0 rfl ⟨by decide, by decide⟩ ?_
  refine wa_bipush 5 dX10_happens_3 rfl ⟨by decide, by decide⟩ ?_
  refine wa_aload_n 6 dX10_happens_5 rfl rfl ?_
  have e1 : isK L (rf L v0 0) (21, 510) := lay_f hL k0 0 rfl
  refine wa_getR 9 0 dX10_happens_6 rfl wF_X10_9 rfl rfl ⟨k0, isK_pos e1⟩ ?_
  refine wa_iconst 10 dX10_happens_9 rfl (by decide) ?_
  refine wa_laload 11 dX10_happens_10 rfl (okA_of e1 ⟨by decide, by decide⟩) ?_
  obtain ⟨c2, h⟩ := h
  refine wa_l2i 12 dX10_happens_11 rfl c2 ?_
  obtain ⟨c3, h⟩ := h
  refine wa_imul 13 dX10_happens_12 rfl c3 ?_
  obtain ⟨c4, h⟩ := h
  refine wa_iadd 14 dX10_happens_13 rfl c4 ?_
  refine wa_istore 16 [(2, v0), (0, v1), (0, v2), (1, v3), (9, 0), (1, v5), (9, 0), (1, v7), (9, 0), (1, v9), (9, 0), (0, (210 + (6 * (μ ((rf L v0 0)) 4))))] dX10_happens_14 rfl rfl rfl ?_
  refine wa_aload_n 17 dX10_happens_16 rfl rfl ?_
  refine wa_getR 20 0 dX10_happens_17 rfl wF_X10_9 rfl rfl ⟨k0, isK_pos e1⟩ ?_
  refine wa_iload 22 dX10_happens_20 rfl rfl ?_
  refine wa_iload_n 23 dX10_happens_22 rfl rfl ?_
  refine wa_i2l 24 dX10_happens_23 rfl ?_
  obtain ⟨c5, h⟩ := h
  refine wa_lastore 25 dX10_happens_24 rfl (okA_of e1 c5) ?_
  refine wa_aload_n 26 dX10_happens_25 rfl rfl ?_
  refine wa_getR 29 0 dX10_happens_26 rfl wF_X10_9 rfl rfl ⟨k0, isK_pos e1⟩ ?_
  refine wa_iload 31 dX10_happens_29 rfl rfl ?_
  refine wa_iconst 32 dX10_happens_31 rfl (by decide) ?_
  obtain ⟨c6, h⟩ := h
  refine wa_iadd 33 dX10_happens_32 rfl c6 ?_
  refine wa_iload_n 34 dX10_happens_33 rfl rfl ?_
  refine wa_i2l 35 dX10_happens_34 rfl ?_
  obtain ⟨c7, h⟩ := h
  refine wa_lastore 36 dX10_happens_35 rfl (okA_of e1 c7) ?_
  refine wa_aload_n 37 dX10_happens_36 rfl rfl ?_
  refine wa_getR 40 0 dX10_happens_37 rfl wF_X10_9 rfl rfl ⟨k0, isK_pos e1⟩ ?_
  refine wa_iload 42 dX10_happens_40 rfl rfl ?_
  refine wa_iconst 43 dX10_happens_42 rfl (by decide) ?_
  obtain ⟨c8, h⟩ := h
  refine wa_iadd 44 dX10_happens_43 rfl c8 ?_
  refine wa_lload_n 45 dX10_happens_44 rfl rfl ?_
  obtain ⟨c9, h⟩ := h
  refine wa_lastore 46 dX10_happens_45 rfl (okA_of e1 c9) ?_
  refine wa_aload_n 47 dX10_happens_46 rfl rfl ?_
  refine wa_getR 50 0 dX10_happens_47 rfl wF_X10_9 rfl rfl ⟨k0, isK_pos e1⟩ ?_
  refine wa_iload 52 dX10_happens_50 rfl rfl ?_
  refine wa_iconst 53 dX10_happens_52 rfl (by decide) ?_
  obtain ⟨c10, h⟩ := h
  refine wa_iadd 54 dX10_happens_53 rfl c10 ?_
  refine wa_lload 56 dX10_happens_54 rfl rfl ?_
  obtain ⟨c11, h⟩ := h
  refine wa_lastore 57 dX10_happens_56 rfl (okA_of e1 c11) ?_
  refine wa_aload_n 58 dX10_happens_57 rfl rfl ?_
  refine wa_getR 61 0 dX10_happens_58 rfl wF_X10_9 rfl rfl ⟨k0, isK_pos e1⟩ ?_
  refine wa_iload 63 dX10_happens_61 rfl rfl ?_
  refine wa_iconst 64 dX10_happens_63 rfl (by decide) ?_
  obtain ⟨c12, h⟩ := h
  refine wa_iadd 65 dX10_happens_64 rfl c12 ?_
  refine wa_lload 67 dX10_happens_65 rfl rfl ?_
  obtain ⟨c13, h⟩ := h
  refine wa_lastore 68 dX10_happens_67 rfl (okA_of e1 c13) ?_
  refine wa_aload_n 69 dX10_happens_68 rfl rfl ?_
  refine wa_getR 72 0 dX10_happens_69 rfl wF_X10_9 rfl rfl ⟨k0, isK_pos e1⟩ ?_
  refine wa_iload 74 dX10_happens_72 rfl rfl ?_
  refine wa_iconst 75 dX10_happens_74 rfl (by decide) ?_
  obtain ⟨c14, h⟩ := h
  refine wa_iadd 76 dX10_happens_75 rfl c14 ?_
  refine wa_lload 78 dX10_happens_76 rfl rfl ?_
  obtain ⟨c15, h⟩ := h
  refine wa_lastore 79 dX10_happens_78 rfl (okA_of e1 c15) ?_
  refine wa_aload_n 80 dX10_happens_79 rfl rfl ?_
  refine wa_getR 83 0 dX10_happens_80 rfl wF_X10_9 rfl rfl ⟨k0, isK_pos e1⟩ ?_
  refine wa_iconst 84 dX10_happens_83 rfl (by decide) ?_
  refine wa_dup2 85 dX10_happens_84 rfl ⟨Or.inl rfl, Or.inr rfl⟩ ?_
  refine wa_laload 86 dX10_happens_85 rfl (okA_of e1 ⟨by decide, by decide⟩) ?_
  refine wa_lconst 87 1 dX10_happens_86 rfl ⟨rfl, by decide⟩ ?_
  obtain ⟨c16, h⟩ := h
  refine wa_ladd 88 dX10_happens_87 rfl c16 ?_
  refine wa_lastore 89 dX10_happens_88 rfl (okA_of e1 ⟨by decide, by decide⟩) ?_
  exact wa_vret dX10_happens_89 rfl h
set_option maxRecDepth 20000 in
theorem t_X10_here (hL : LayOK L) {v0 : Int} (k0 : isK L v0 (10, 0)) (h : ((μ v0 7) ≤ (μ v0 8) → Q (some (0, (-1))) L μ) ∧ (¬ (μ v0 7) ≤ (μ v0 8) → (0 ≤ (μ v0 8) ∧ (μ v0 8) < 160) ∧ Q (some (0, (μ ((rf L v0 6)) ((μ v0 8))))) L μ)) : TR mX10_here 0 (0, 0) [(2, v0)] L μ Q := by
  refine TR.of (ls := [(2, v0)]) (by decide) (by simp) rfl (Nat.le_of_ble_eq_true rfl) ?_
  refine wa_aload_n 1 dX10_here_0 rfl rfl ?_
  refine wa_getI 4 8 dX10_here_1 rfl wF_X10_154 rfl rfl k0 ?_
  refine wa_aload_n 5 dX10_here_4 rfl rfl ?_
  refine wa_getI 8 7 dX10_here_5 rfl wF_X10_150 rfl rfl k0 ?_
  refine wa_icmp_ge 11 23 dX10_here_8 rfl (by decide) (fun q => ?_) (fun q => ?_)
  · replace h := h.1 q
    refine wa_iconst 24 dX10_here_23 rfl (by decide) ?_
    exact wa_iret dX10_here_24 rfl h
  · replace h := h.2 q
    refine wa_aload_n 12 dX10_here_11 rfl rfl ?_
    have e1 : isK L (rf L v0 6) (20, 160) := lay_f hL k0 6 rfl
    refine wa_getR 15 6 dX10_here_12 rfl wF_X10_21 rfl rfl ⟨k0, isK_pos e1⟩ ?_
    refine wa_aload_n 16 dX10_here_15 rfl rfl ?_
    refine wa_getI 19 8 dX10_here_16 rfl wF_X10_154 rfl rfl k0 ?_
    obtain ⟨c2, h⟩ := h
    refine wa_iaload 20 dX10_here_19 rfl (okA_of e1 c2) ?_
    refine wa_goto 24 dX10_here_20 (by decide) ?_
    exact wa_iret dX10_here_24 rfl h
set_option maxRecDepth 20000 in
theorem t_X10_honest (hL : LayOK L) {v0 v1 : Int} (k0 : isK L v0 (10, 0)) (h : TR mX10_isAgent 1 (0, 0) [(2, v0), (0, v1)] L μ (fun r1 L2 μ3 => ∃ w4, r1 = some (0, w4) ∧ L = L2 ∧ (¬ w4 = 0 → WA mX10_honest 2 (0, 0) 14 [(2, v0), (0, v1), (0, 0), (0, 0)] [] L μ3 Q) ∧ (w4 = 0 → Q (some (0, (-1))) L μ3))) : TR mX10_honest 2 (0, 0) [(2, v0), (0, v1)] L μ Q := by
  refine TR.of (ls := [(2, v0), (0, v1), (9, 0), (9, 0)]) (by decide) (by simp) rfl (Nat.le_of_ble_eq_true rfl) ?_
  refine wa_aload_n 1 dX10_honest_0 rfl rfl ?_
  refine wa_iload_n 2 dX10_honest_1 rfl rfl ?_
  refine wa_callV 5 1 1 10 (av := [(0, v1)]) (rest := []) (k1 := (0, 0)) (k2 := (0, 0)) cvX10_isAgent dX10_honest_2 rfl wM_X10_79 ⟨rfl, by decide, rfl, Nat.le_of_ble_eq_true rfl, by decide, Nat.le_of_ble_eq_true rfl, rfl, rfl⟩ rfl k0 (TR.mono h (fun r1 L2 μ3 h => ?_))
  obtain ⟨w4, rfl, rfl, h⟩ := h
  show WA mX10_honest 2 (0, 0) 5 [(2, v0), (0, v1), (9, 0), (9, 0)] [(0, w4)] L μ3 Q
  refine wa_if_ne 8 10 dX10_honest_5 rfl (by decide) (fun q => ?_) (fun q => ?_)
  · replace h := h.1 q
    refine wa_iconst 11 dX10_honest_10 rfl (by decide) ?_
    refine wa_istore_n 12 [(2, v0), (0, v1), (0, 0), (9, 0)] dX10_honest_11 rfl rfl rfl ?_
    refine wa_iconst 13 dX10_honest_12 rfl (by decide) ?_
    refine wa_istore_n 14 [(2, v0), (0, v1), (0, 0), (0, 0)] dX10_honest_13 rfl rfl rfl ?_
    exact h
  · replace h := h.2 q
    refine wa_iconst 9 dX10_honest_8 rfl (by decide) ?_
    exact wa_iret dX10_honest_9 rfl h
set_option maxRecDepth 20000 in
theorem s_X10_honest_14 (hL : LayOK L) {v0 v1 v2 v3 : Int} (k0 : isK L v0 (10, 0)) (h : TR mX10_strips 0 (0, 0) [(2, v0)] L μ (fun r1 L2 μ3 => ∃ w4, r1 = some (0, w4) ∧ L = L2 ∧ (w4 ≤ v3 → Q (some (0, v2)) L μ3) ∧ (¬ w4 ≤ v3 → TR mX10_worthOf 0 (0, 0) [(2, v0), (0, v1), (0, v3), (0, 0)] L μ3 (fun r5 L6 μ7 => ∃ w8, r5 = some (1, w8) ∧ L = L6 ∧ TR mX10_worthOf 0 (0, 0) [(2, v0), (0, v1), (0, v3), (0, 1)] L μ7 (fun r9 L10 μ11 => ∃ w12, r9 = some (1, w12) ∧ L = L10 ∧ (¬ w8 = w12 → (inI (v2 + 1)) ∧ (inI (16 * v1)) ∧ (inI (85 + (16 * v1))) ∧ (inI ((85 + (16 * v1)) + v3)) ∧ TR mX10_worthOf 0 (0, 0) [(2, v0), (0, v1), (0, v3), (0, 0)] L μ11 (fun r18 L19 μ20 => ∃ w21, r18 = some (1, w21) ∧ L = L19 ∧ (0 ≤ ((85 + (16 * v1)) + v3) ∧ ((85 + (16 * v1)) + v3) < 510) ∧ (inI (v3 + 1)) ∧ WA mX10_honest 2 (0, 0) 14 [(2, v0), (0, v1), (0, (v2 + 1)), (0, (v3 + 1))] [] L (up μ20 ((rf L v0 0)) (((85 + (16 * v1)) + v3)) w21) Q)) ∧ (w8 = w12 → (inI (v2 + 0)) ∧ (inI (16 * v1)) ∧ (inI (85 + (16 * v1))) ∧ (inI ((85 + (16 * v1)) + v3)) ∧ TR mX10_worthOf 0 (0, 0) [(2, v0), (0, v1), (0, v3), (0, 0)] L μ11 (fun r29 L30 μ31 => ∃ w32, r29 = some (1, w32) ∧ L = L30 ∧ (0 ≤ ((85 + (16 * v1)) + v3) ∧ ((85 + (16 * v1)) + v3) < 510) ∧ (inI (v3 + 1)) ∧ WA mX10_honest 2 (0, 0) 14 [(2, v0), (0, v1), (0, (v2 + 0)), (0, (v3 + 1))] [] L (up μ31 ((rf L v0 0)) (((85 + (16 * v1)) + v3)) w32) Q))))))) : WA mX10_honest 2 (0, 0) 14 [(2, v0), (0, v1), (0, v2), (0, v3)] [] L μ Q := by
  refine wa_iload_n 15 dX10_honest_14 rfl rfl ?_
  refine wa_aload_n 16 dX10_honest_15 rfl rfl ?_
  refine wa_callV 19 0 0 10 (av := []) (rest := [(0, v3)]) (k1 := (0, 0)) (k2 := (0, 0)) cvX10_strips dX10_honest_16 rfl wM_X10_92 ⟨rfl, by decide, rfl, Nat.le_of_ble_eq_true rfl, by decide, Nat.le_of_ble_eq_true rfl, rfl, rfl⟩ rfl k0 (TR.mono h (fun r1 L2 μ3 h => ?_))
  obtain ⟨w4, rfl, rfl, h⟩ := h
  show WA mX10_honest 2 (0, 0) 19 [(2, v0), (0, v1), (0, v2), (0, v3)] [(0, w4), (0, v3)] L μ3 Q
  refine wa_icmp_ge 22 75 dX10_honest_19 rfl (by decide) (fun q => ?_) (fun q => ?_)
  · replace h := h.1 q
    refine wa_iload_n 76 dX10_honest_75 rfl rfl ?_
    exact wa_iret dX10_honest_76 rfl h
  · replace h := h.2 q
    refine wa_iload_n 23 dX10_honest_22 rfl rfl ?_
    refine wa_aload_n 24 dX10_honest_23 rfl rfl ?_
    refine wa_iload_n 25 dX10_honest_24 rfl rfl ?_
    refine wa_iload_n 26 dX10_honest_25 rfl rfl ?_
    refine wa_iconst 27 dX10_honest_26 rfl (by decide) ?_
    refine wa_callV 30 0 3 10 (av := [(0, v1), (0, v3), (0, 0)]) (rest := [(0, v2)]) (k1 := (0, 0)) (k2 := (0, 0)) cvX10_worthOf dX10_honest_27 rfl wM_X10_88 ⟨rfl, by decide, rfl, Nat.le_of_ble_eq_true rfl, by decide, Nat.le_of_ble_eq_true rfl, rfl, rfl⟩ rfl k0 (TR.mono h (fun r5 L6 μ7 h => ?_))
    obtain ⟨w8, rfl, rfl, h⟩ := h
    show WA mX10_honest 2 (0, 0) 30 [(2, v0), (0, v1), (0, v2), (0, v3)] [(1, w8), (0, v2)] L μ7 Q
    refine wa_aload_n 31 dX10_honest_30 rfl rfl ?_
    refine wa_iload_n 32 dX10_honest_31 rfl rfl ?_
    refine wa_iload_n 33 dX10_honest_32 rfl rfl ?_
    refine wa_iconst 34 dX10_honest_33 rfl (by decide) ?_
    refine wa_callV 37 0 3 10 (av := [(0, v1), (0, v3), (0, 1)]) (rest := [(1, w8), (0, v2)]) (k1 := (0, 0)) (k2 := (0, 0)) cvX10_worthOf dX10_honest_34 rfl wM_X10_88 ⟨rfl, by decide, rfl, Nat.le_of_ble_eq_true rfl, by decide, Nat.le_of_ble_eq_true rfl, rfl, rfl⟩ rfl k0 (TR.mono h (fun r9 L10 μ11 h => ?_))
    obtain ⟨w12, rfl, rfl, h⟩ := h
    show WA mX10_honest 2 (0, 0) 37 [(2, v0), (0, v1), (0, v2), (0, v3)] [(1, w12), (1, w8), (0, v2)] L μ11 Q
    refine wa_lc_ne 41 45 dX10_honest_37 dX10_honest_38 rfl (by decide) (fun q => ?_) (fun q => ?_)
    · replace h := h.1 q
      refine wa_iconst 46 dX10_honest_45 rfl (by decide) ?_
      obtain ⟨c13, h⟩ := h
      refine wa_iadd 47 dX10_honest_46 rfl c13 ?_
      refine wa_istore_n 48 [(2, v0), (0, v1), (0, (v2 + 1)), (0, v3)] dX10_honest_47 rfl rfl rfl ?_
      refine wa_aload_n 49 dX10_honest_48 rfl rfl ?_
      have e14 : isK L (rf L v0 0) (21, 510) := lay_f hL k0 0 rfl
      refine wa_getR 52 0 dX10_honest_49 rfl wF_X10_9 rfl rfl ⟨k0, isK_pos e14⟩ ?_
      refine wa_bipush 54 dX10_honest_52 rfl ⟨by decide, by decide⟩ ?_
      refine wa_bipush 56 dX10_honest_54 rfl ⟨by decide, by decide⟩ ?_
      refine wa_iload_n 57 dX10_honest_56 rfl rfl ?_
      obtain ⟨c15, h⟩ := h
      refine wa_imul 58 dX10_honest_57 rfl c15 ?_
      obtain ⟨c16, h⟩ := h
      refine wa_iadd 59 dX10_honest_58 rfl c16 ?_
      refine wa_iload_n 60 dX10_honest_59 rfl rfl ?_
      obtain ⟨c17, h⟩ := h
      refine wa_iadd 61 dX10_honest_60 rfl c17 ?_
      refine wa_aload_n 62 dX10_honest_61 rfl rfl ?_
      refine wa_iload_n 63 dX10_honest_62 rfl rfl ?_
      refine wa_iload_n 64 dX10_honest_63 rfl rfl ?_
      refine wa_iconst 65 dX10_honest_64 rfl (by decide) ?_
      refine wa_callV 68 0 3 10 (av := [(0, v1), (0, v3), (0, 0)]) (rest := [(0, ((85 + (16 * v1)) + v3)), (2, (rf L v0 0))]) (k1 := (0, 0)) (k2 := (0, 0)) cvX10_worthOf dX10_honest_65 rfl wM_X10_88 ⟨rfl, by decide, rfl, Nat.le_of_ble_eq_true rfl, by decide, Nat.le_of_ble_eq_true rfl, rfl, rfl⟩ rfl k0 (TR.mono h (fun r18 L19 μ20 h => ?_))
      obtain ⟨w21, rfl, rfl, h⟩ := h
      show WA mX10_honest 2 (0, 0) 68 [(2, v0), (0, v1), (0, (v2 + 1)), (0, v3)] [(1, w21), (0, ((85 + (16 * v1)) + v3)), (2, (rf L v0 0))] L μ20 Q
      obtain ⟨c22, h⟩ := h
      refine wa_lastore 69 dX10_honest_68 rfl (okA_of e14 c22) ?_
      obtain ⟨c23, h⟩ := h
      refine wa_iinc 72 [(2, v0), (0, v1), (0, (v2 + 1)), (0, (v3 + 1))] dX10_honest_69 rfl rfl rfl c23 rfl ?_
      refine wa_goto 14 dX10_honest_72 (by decide) ?_
      exact h
    · replace h := h.2 q
      refine wa_iconst 42 dX10_honest_41 rfl (by decide) ?_
      refine wa_goto 46 dX10_honest_42 (by decide) ?_
      obtain ⟨c24, h⟩ := h
      refine wa_iadd 47 dX10_honest_46 rfl c24 ?_
      refine wa_istore_n 48 [(2, v0), (0, v1), (0, (v2 + 0)), (0, v3)] dX10_honest_47 rfl rfl rfl ?_
      refine wa_aload_n 49 dX10_honest_48 rfl rfl ?_
      have e25 : isK L (rf L v0 0) (21, 510) := lay_f hL k0 0 rfl
      refine wa_getR 52 0 dX10_honest_49 rfl wF_X10_9 rfl rfl ⟨k0, isK_pos e25⟩ ?_
      refine wa_bipush 54 dX10_honest_52 rfl ⟨by decide, by decide⟩ ?_
      refine wa_bipush 56 dX10_honest_54 rfl ⟨by decide, by decide⟩ ?_
      refine wa_iload_n 57 dX10_honest_56 rfl rfl ?_
      obtain ⟨c26, h⟩ := h
      refine wa_imul 58 dX10_honest_57 rfl c26 ?_
      obtain ⟨c27, h⟩ := h
      refine wa_iadd 59 dX10_honest_58 rfl c27 ?_
      refine wa_iload_n 60 dX10_honest_59 rfl rfl ?_
      obtain ⟨c28, h⟩ := h
      refine wa_iadd 61 dX10_honest_60 rfl c28 ?_
      refine wa_aload_n 62 dX10_honest_61 rfl rfl ?_
      refine wa_iload_n 63 dX10_honest_62 rfl rfl ?_
      refine wa_iload_n 64 dX10_honest_63 rfl rfl ?_
      refine wa_iconst 65 dX10_honest_64 rfl (by decide) ?_
      refine wa_callV 68 0 3 10 (av := [(0, v1), (0, v3), (0, 0)]) (rest := [(0, ((85 + (16 * v1)) + v3)), (2, (rf L v0 0))]) (k1 := (0, 0)) (k2 := (0, 0)) cvX10_worthOf dX10_honest_65 rfl wM_X10_88 ⟨rfl, by decide, rfl, Nat.le_of_ble_eq_true rfl, by decide, Nat.le_of_ble_eq_true rfl, rfl, rfl⟩ rfl k0 (TR.mono h (fun r29 L30 μ31 h => ?_))
      obtain ⟨w32, rfl, rfl, h⟩ := h
      show WA mX10_honest 2 (0, 0) 68 [(2, v0), (0, v1), (0, (v2 + 0)), (0, v3)] [(1, w32), (0, ((85 + (16 * v1)) + v3)), (2, (rf L v0 0))] L μ31 Q
      obtain ⟨c33, h⟩ := h
      refine wa_lastore 69 dX10_honest_68 rfl (okA_of e25 c33) ?_
      obtain ⟨c34, h⟩ := h
      refine wa_iinc 72 [(2, v0), (0, v1), (0, (v2 + 0)), (0, (v3 + 1))] dX10_honest_69 rfl rfl rfl c34 rfl ?_
      refine wa_goto 14 dX10_honest_72 (by decide) ?_
      exact h
set_option maxRecDepth 20000 in
theorem t_X10_image (hL : LayOK L) {v0 : Int} (k0 : isK L v0 (10, 0)) (h : TR mX10_copies 0 (0, 0) [(2, (rf L v0 0)), (2, (rf L v0 2))] L (up μ v0 3 1) (fun r3 L4 μ5 => r3 = none ∧ L = L4 ∧ TR mX10_agents 0 (0, 0) [(2, v0)] L μ5 (fun r6 L7 μ8 => ∃ w9, r6 = some (0, w9) ∧ L = L7 ∧ Q (some (0, w9)) L μ8))) : TR mX10_image 1 (0, 0) [(2, v0)] L μ Q := by
  refine TR.of (ls := [(2, v0)]) (by decide) (by simp) rfl (Nat.le_of_ble_eq_true rfl) ?_
  refine wa_aload_n 1 dX10_image_0 rfl rfl ?_
  refine wa_iconst 2 dX10_image_1 rfl (by decide) ?_
  refine wa_putI 5 3 dX10_image_2 rfl wF_X10_369 rfl rfl k0 (Or.inr rfl) ?_
  refine wa_aload_n 6 dX10_image_5 rfl rfl ?_
  have e1 : isK L (rf L v0 0) (21, 510) := lay_f hL k0 0 rfl
  refine wa_getR 9 0 dX10_image_6 rfl wF_X10_9 rfl rfl ⟨k0, isK_pos e1⟩ ?_
  refine wa_aload_n 10 dX10_image_9 rfl rfl ?_
  have e2 : isK L (rf L v0 2) (21, 510) := lay_f hL k0 2 rfl
  refine wa_getR 13 2 dX10_image_10 rfl wF_X10_18 rfl rfl ⟨k0, isK_pos e2⟩ ?_
  refine wa_callS 16 0 2 (av := [(2, (rf L v0 0)), (2, (rf L v0 2))]) (rest := []) (k1 := (0, 0)) (k2 := (0, 0)) cvX10_copies dX10_image_13 rfl wM_X10_189 ⟨rfl, Nat.le_of_ble_eq_true rfl, by decide, Nat.le_of_ble_eq_true rfl, rfl, rfl⟩ rfl (TR.mono h (fun r3 L4 μ5 h => ?_))
  obtain ⟨rfl, rfl, h⟩ := h
  show WA mX10_image 1 (0, 0) 16 [(2, v0)] [] L μ5 Q
  refine wa_aload_n 17 dX10_image_16 rfl rfl ?_
  refine wa_callV 20 0 0 10 (av := []) (rest := []) (k1 := (0, 0)) (k2 := (0, 0)) cvX10_agents dX10_image_17 rfl wM_X10_75 ⟨rfl, by decide, rfl, Nat.le_of_ble_eq_true rfl, by decide, Nat.le_of_ble_eq_true rfl, rfl, rfl⟩ rfl k0 (TR.mono h (fun r6 L7 μ8 h => ?_))
  obtain ⟨w9, rfl, rfl, h⟩ := h
  show WA mX10_image 1 (0, 0) 20 [(2, v0)] [(0, w9)] L μ8 Q
  exact wa_iret dX10_image_20 rfl h
set_option maxRecDepth 20000 in
theorem t_X10_in (hL : LayOK L) {v0 v2 v4 : Int}  (h : (v0 < v2 → Q (some (0, 0)) L μ) ∧ (¬ v0 < v2 → (v4 < v0 → Q (some (0, 0)) L μ) ∧ (¬ v4 < v0 → Q (some (0, 1)) L μ))) : TR mX10_in 0 (0, 0) [(1, v0), (1, v2), (1, v4)] L μ Q := by
  refine TR.of (ls := [(1, v0), (9, 0), (1, v2), (9, 0), (1, v4), (9, 0)]) (by decide) (by simp) rfl (Nat.le_of_ble_eq_true rfl) ?_
  refine wa_lload_n 1 dX10_in_0 rfl rfl ?_
  refine wa_lload_n 2 dX10_in_1 rfl rfl ?_
  refine wa_lc_lt 6 17 dX10_in_2 dX10_in_3 rfl (by decide) (fun q => ?_) (fun q => ?_)
  · replace h := h.1 q
    refine wa_iconst 18 dX10_in_17 rfl (by decide) ?_
    exact wa_zret dX10_in_18 rfl (Or.inl rfl) h
  · replace h := h.2 q
    refine wa_lload_n 7 dX10_in_6 rfl rfl ?_
    refine wa_lload 9 dX10_in_7 rfl rfl ?_
    refine wa_lc_gt 13 17 dX10_in_9 dX10_in_10 rfl (by decide) (fun q => ?_) (fun q => ?_)
    · replace h := h.1 q
      refine wa_iconst 18 dX10_in_17 rfl (by decide) ?_
      exact wa_zret dX10_in_18 rfl (Or.inl rfl) h
    · replace h := h.2 q
      refine wa_iconst 14 dX10_in_13 rfl (by decide) ?_
      refine wa_goto 18 dX10_in_14 (by decide) ?_
      exact wa_zret dX10_in_18 rfl (Or.inr rfl) h
set_option maxRecDepth 20000 in
theorem t_X10_into (hL : LayOK L) {v0 v1 v2 v3 : Int} (k0 : isK L v0 (10, 0)) (h : TR mX10_mayRow 2 (0, 0) [(2, v0), (0, v1), (0, v2), (0, v3)] L μ (fun r1 L2 μ3 => ∃ w4, r1 = some (0, w4) ∧ L = L2 ∧ WA mX10_into 3 (0, 0) 12 [(2, v0), (0, v1), (0, v2), (0, v3), (0, w4), (0, 0)] [] L μ3 Q)) : TR mX10_into 3 (0, 0) [(2, v0), (0, v1), (0, v2), (0, v3)] L μ Q := by
  refine TR.of (ls := [(2, v0), (0, v1), (0, v2), (0, v3), (9, 0), (9, 0)]) (by decide) (by simp) rfl (Nat.le_of_ble_eq_true rfl) ?_
  refine wa_aload_n 1 dX10_into_0 rfl rfl ?_
  refine wa_iload_n 2 dX10_into_1 rfl rfl ?_
  refine wa_iload_n 3 dX10_into_2 rfl rfl ?_
  refine wa_iload_n 4 dX10_into_3 rfl rfl ?_
  refine wa_callV 7 2 3 10 (av := [(0, v1), (0, v2), (0, v3)]) (rest := []) (k1 := (0, 0)) (k2 := (0, 0)) cvX10_mayRow dX10_into_4 rfl wM_X10_365 ⟨rfl, by decide, rfl, Nat.le_of_ble_eq_true rfl, by decide, Nat.le_of_ble_eq_true rfl, rfl, rfl⟩ rfl k0 (TR.mono h (fun r1 L2 μ3 h => ?_))
  obtain ⟨w4, rfl, rfl, h⟩ := h
  show WA mX10_into 3 (0, 0) 7 [(2, v0), (0, v1), (0, v2), (0, v3), (9, 0), (9, 0)] [(0, w4)] L μ3 Q
  refine wa_istore 9 [(2, v0), (0, v1), (0, v2), (0, v3), (0, w4), (9, 0)] dX10_into_7 rfl rfl rfl ?_
  refine wa_iconst 10 dX10_into_9 rfl (by decide) ?_
  refine wa_istore 12 [(2, v0), (0, v1), (0, v2), (0, v3), (0, w4), (0, 0)] dX10_into_10 rfl rfl rfl ?_
  exact h
set_option maxRecDepth 20000 in
theorem s_X10_into_12 (hL : LayOK L) {v0 v1 v2 v3 v4 v5 : Int} (k0 : isK L v0 (10, 0)) (h : (¬ v4 = 0 → (¬ v4 = 0 → Q (some (0, v4)) L μ) ∧ (v4 = 0 → Q (some (0, v5)) L μ)) ∧ (v4 = 0 → TR mX10_strips 0 (0, 0) [(2, v0)] L μ (fun r1 L2 μ3 => ∃ w4, r1 = some (0, w4) ∧ L = L2 ∧ (w4 ≤ v5 → (¬ v4 = 0 → Q (some (0, v4)) L μ3) ∧ (v4 = 0 → Q (some (0, v5)) L μ3)) ∧ (¬ w4 ≤ v5 → (inL (v3 + v5)) ∧ (0 ≤ v2 ∧ v2 < 4) ∧ ((μ3 ((rf L v0 26)) v2) ≤ (v3 + v5) → (¬ v4 = 0 → Q (some (0, v4)) L μ3) ∧ (v4 = 0 → Q (some (0, v5)) L μ3)) ∧ (¬ (μ3 ((rf L v0 26)) v2) ≤ (v3 + v5) → (inI (20 * v2)) ∧ (inI ((20 * v2) + v3)) ∧ (inI (((20 * v2) + v3) + v5)) ∧ TR mX10_worthOf 0 (0, 0) [(2, v0), (0, v1), (0, v5), (0, 1)] L μ3 (fun r12 L13 μ14 => ∃ w15, r12 = some (1, w15) ∧ L = L13 ∧ (inI w15) ∧ (0 ≤ (((20 * v2) + v3) + v5) ∧ (((20 * v2) + v3) + v5) < 80) ∧ (inI (v5 + 1)) ∧ WA mX10_into 3 (0, 0) 12 [(2, v0), (0, v1), (0, v2), (0, v3), (0, v4), (0, (v5 + 1))] [] L (up μ14 ((rf L v0 27)) ((((20 * v2) + v3) + v5)) w15) Q)))))) : WA mX10_into 3 (0, 0) 12 [(2, v0), (0, v1), (0, v2), (0, v3), (0, v4), (0, v5)] [] L μ Q := by
  refine wa_iload 14 dX10_into_12 rfl rfl ?_
  refine wa_if_ne 17 72 dX10_into_14 rfl (by decide) (fun q => ?_) (fun q => ?_)
  · replace h := h.1 q
    refine wa_iload 74 dX10_into_72 rfl rfl ?_
    refine wa_if_ne 77 82 dX10_into_74 rfl (by decide) (fun q => ?_) (fun q => ?_)
    · replace h := h.1 q
      refine wa_iload 84 dX10_into_82 rfl rfl ?_
      exact wa_iret dX10_into_84 rfl h
    · replace h := h.2 q
      refine wa_iload 79 dX10_into_77 rfl rfl ?_
      refine wa_goto 84 dX10_into_79 (by decide) ?_
      exact wa_iret dX10_into_84 rfl h
  · replace h := h.2 q
    refine wa_iload 19 dX10_into_17 rfl rfl ?_
    refine wa_aload_n 20 dX10_into_19 rfl rfl ?_
    refine wa_callV 23 0 0 10 (av := []) (rest := [(0, v5)]) (k1 := (0, 0)) (k2 := (0, 0)) cvX10_strips dX10_into_20 rfl wM_X10_92 ⟨rfl, by decide, rfl, Nat.le_of_ble_eq_true rfl, by decide, Nat.le_of_ble_eq_true rfl, rfl, rfl⟩ rfl k0 (TR.mono h (fun r1 L2 μ3 h => ?_))
    obtain ⟨w4, rfl, rfl, h⟩ := h
    show WA mX10_into 3 (0, 0) 23 [(2, v0), (0, v1), (0, v2), (0, v3), (0, v4), (0, v5)] [(0, w4), (0, v5)] L μ3 Q
    refine wa_icmp_ge 26 72 dX10_into_23 rfl (by decide) (fun q => ?_) (fun q => ?_)
    · replace h := h.1 q
      refine wa_iload 74 dX10_into_72 rfl rfl ?_
      refine wa_if_ne 77 82 dX10_into_74 rfl (by decide) (fun q => ?_) (fun q => ?_)
      · replace h := h.1 q
        refine wa_iload 84 dX10_into_82 rfl rfl ?_
        exact wa_iret dX10_into_84 rfl h
      · replace h := h.2 q
        refine wa_iload 79 dX10_into_77 rfl rfl ?_
        refine wa_goto 84 dX10_into_79 (by decide) ?_
        exact wa_iret dX10_into_84 rfl h
    · replace h := h.2 q
      refine wa_iload_n 27 dX10_into_26 rfl rfl ?_
      refine wa_i2l 28 dX10_into_27 rfl ?_
      refine wa_iload 30 dX10_into_28 rfl rfl ?_
      refine wa_i2l 31 dX10_into_30 rfl ?_
      obtain ⟨c5, h⟩ := h
      refine wa_ladd 32 dX10_into_31 rfl c5 ?_
      refine wa_aload_n 33 dX10_into_32 rfl rfl ?_
      have e6 : isK L (rf L v0 26) (20, 4) := lay_f hL k0 26 rfl
      refine wa_getR 36 26 dX10_into_33 rfl wF_X10_55 rfl rfl ⟨k0, isK_pos e6⟩ ?_
      refine wa_iload_n 37 dX10_into_36 rfl rfl ?_
      obtain ⟨c7, h⟩ := h
      refine wa_iaload 38 dX10_into_37 rfl (okA_of e6 c7) ?_
      refine wa_i2l 39 dX10_into_38 rfl ?_
      refine wa_lc_ge 43 72 dX10_into_39 dX10_into_40 rfl (by decide) (fun q => ?_) (fun q => ?_)
      · replace h := h.1 q
        refine wa_iload 74 dX10_into_72 rfl rfl ?_
        refine wa_if_ne 77 82 dX10_into_74 rfl (by decide) (fun q => ?_) (fun q => ?_)
        · replace h := h.1 q
          refine wa_iload 84 dX10_into_82 rfl rfl ?_
          exact wa_iret dX10_into_84 rfl h
        · replace h := h.2 q
          refine wa_iload 79 dX10_into_77 rfl rfl ?_
          refine wa_goto 84 dX10_into_79 (by decide) ?_
          exact wa_iret dX10_into_84 rfl h
      · replace h := h.2 q
        refine wa_aload_n 44 dX10_into_43 rfl rfl ?_
        have e8 : isK L (rf L v0 27) (20, 80) := lay_f hL k0 27 rfl
        refine wa_getR 47 27 dX10_into_44 rfl wF_X10_58 rfl rfl ⟨k0, isK_pos e8⟩ ?_
        refine wa_bipush 49 dX10_into_47 rfl ⟨by decide, by decide⟩ ?_
        refine wa_iload_n 50 dX10_into_49 rfl rfl ?_
        obtain ⟨c9, h⟩ := h
        refine wa_imul 51 dX10_into_50 rfl c9 ?_
        refine wa_iload_n 52 dX10_into_51 rfl rfl ?_
        obtain ⟨c10, h⟩ := h
        refine wa_iadd 53 dX10_into_52 rfl c10 ?_
        refine wa_iload 55 dX10_into_53 rfl rfl ?_
        obtain ⟨c11, h⟩ := h
        refine wa_iadd 56 dX10_into_55 rfl c11 ?_
        refine wa_aload_n 57 dX10_into_56 rfl rfl ?_
        refine wa_iload_n 58 dX10_into_57 rfl rfl ?_
        refine wa_iload 60 dX10_into_58 rfl rfl ?_
        refine wa_iconst 61 dX10_into_60 rfl (by decide) ?_
        refine wa_callV 64 0 3 10 (av := [(0, v1), (0, v5), (0, 1)]) (rest := [(0, (((20 * v2) + v3) + v5)), (2, (rf L v0 27))]) (k1 := (0, 0)) (k2 := (0, 0)) cvX10_worthOf dX10_into_61 rfl wM_X10_88 ⟨rfl, by decide, rfl, Nat.le_of_ble_eq_true rfl, by decide, Nat.le_of_ble_eq_true rfl, rfl, rfl⟩ rfl k0 (TR.mono h (fun r12 L13 μ14 h => ?_))
        obtain ⟨w15, rfl, rfl, h⟩ := h
        show WA mX10_into 3 (0, 0) 64 [(2, v0), (0, v1), (0, v2), (0, v3), (0, v4), (0, v5)] [(1, w15), (0, (((20 * v2) + v3) + v5)), (2, (rf L v0 27))] L μ14 Q
        obtain ⟨c16, h⟩ := h
        refine wa_l2i 65 dX10_into_64 rfl c16 ?_
        obtain ⟨c17, h⟩ := h
        refine wa_iastore 66 dX10_into_65 rfl (okA_of e8 c17) ?_
        obtain ⟨c18, h⟩ := h
        refine wa_iinc 69 [(2, v0), (0, v1), (0, v2), (0, v3), (0, v4), (0, (v5 + 1))] dX10_into_66 rfl rfl rfl c18 rfl ?_
        refine wa_goto 12 dX10_into_69 (by decide) ?_
        exact h
set_option maxRecDepth 20000 in
theorem t_X10_isAgent (hL : LayOK L) {v0 v1 : Int} (k0 : isK L v0 (10, 0)) (h : (inL ((μ ((rf L v0 0)) 1) - 1)) ∧ TR mX10_in 0 (0, 0) [(1, v1), (1, 0), (1, ((μ ((rf L v0 0)) 1) - 1))] L μ (fun r3 L4 μ5 => ∃ w6, r3 = some (0, w6) ∧ L = L4 ∧ (w6 = 0 ∨ w6 = 1) ∧ Q (some (0, w6)) L μ5)) : TR mX10_isAgent 1 (0, 0) [(2, v0), (0, v1)] L μ Q := by
  refine TR.of (ls := [(2, v0), (0, v1)]) (by decide) (by simp) rfl (Nat.le_of_ble_eq_true rfl) ?_
  refine wa_iload_n 1 dX10_isAgent_0 rfl rfl ?_
  refine wa_i2l 2 dX10_isAgent_1 rfl ?_
  refine wa_lconst 3 0 dX10_isAgent_2 rfl ⟨rfl, by decide⟩ ?_
  refine wa_aload_n 4 dX10_isAgent_3 rfl rfl ?_
  have e1 : isK L (rf L v0 0) (21, 510) := lay_f hL k0 0 rfl
  refine wa_getR 7 0 dX10_isAgent_4 rfl wF_X10_9 rfl rfl ⟨k0, isK_pos e1⟩ ?_
  refine wa_iconst 8 dX10_isAgent_7 rfl (by decide) ?_
  refine wa_laload 9 dX10_isAgent_8 rfl (okA_of e1 ⟨by decide, by decide⟩) ?_
  refine wa_lconst 10 1 dX10_isAgent_9 rfl ⟨rfl, by decide⟩ ?_
  obtain ⟨c2, h⟩ := h
  refine wa_lsub 11 dX10_isAgent_10 rfl c2 ?_
  refine wa_callS 14 0 3 (av := [(1, v1), (1, 0), (1, ((μ ((rf L v0 0)) 1) - 1))]) (rest := []) (k1 := (0, 0)) (k2 := (0, 0)) cvX10_in dX10_isAgent_11 rfl wM_X10_65 ⟨rfl, Nat.le_of_ble_eq_true rfl, by decide, Nat.le_of_ble_eq_true rfl, rfl, rfl⟩ rfl (TR.mono h (fun r3 L4 μ5 h => ?_))
  obtain ⟨w6, rfl, rfl, h⟩ := h
  show WA mX10_isAgent 1 (0, 0) 14 [(2, v0), (0, v1)] [(0, w6)] L μ5 Q
  obtain ⟨c7, h⟩ := h
  exact wa_zret dX10_isAgent_14 rfl c7 h
set_option maxRecDepth 20000 in
theorem t_X10_isDivided (hL : LayOK L) {v0 : Int} (k0 : isK L v0 (10, 0)) (h : (¬ (μ ((rf L v0 0)) 2) = 1 → Q (some (0, 0)) L μ) ∧ ((μ ((rf L v0 0)) 2) = 1 → Q (some (0, 1)) L μ)) : TR mX10_isDivided 0 (0, 0) [(2, v0)] L μ Q := by
  refine TR.of (ls := [(2, v0)]) (by decide) (by simp) rfl (Nat.le_of_ble_eq_true rfl) ?_
  refine wa_aload_n 1 dX10_isDivided_0 rfl rfl ?_
  have e1 : isK L (rf L v0 0) (21, 510) := lay_f hL k0 0 rfl
  refine wa_getR 4 0 dX10_isDivided_1 rfl wF_X10_9 rfl rfl ⟨k0, isK_pos e1⟩ ?_
  refine wa_iconst 5 dX10_isDivided_4 rfl (by decide) ?_
  refine wa_laload 6 dX10_isDivided_5 rfl (okA_of e1 ⟨by decide, by decide⟩) ?_
  refine wa_lconst 7 1 dX10_isDivided_6 rfl ⟨rfl, by decide⟩ ?_
  refine wa_lc_ne 11 15 dX10_isDivided_7 dX10_isDivided_8 rfl (by decide) (fun q => ?_) (fun q => ?_)
  · replace h := h.1 q
    refine wa_iconst 16 dX10_isDivided_15 rfl (by decide) ?_
    exact wa_zret dX10_isDivided_16 rfl (Or.inl rfl) h
  · replace h := h.2 q
    refine wa_iconst 12 dX10_isDivided_11 rfl (by decide) ?_
    refine wa_goto 16 dX10_isDivided_12 (by decide) ?_
    exact wa_zret dX10_isDivided_16 rfl (Or.inr rfl) h
set_option maxRecDepth 20000 in
theorem t_X10_isFigure (hL : LayOK L) {v0 : Int} (k0 : isK L v0 (10, 0)) (h : (¬ (μ v0 9) = 0 → Q (some (0, 0)) L μ) ∧ ((μ v0 9) = 0 → TR mX10_here 0 (0, 0) [(2, v0)] L μ (fun r1 L2 μ3 => ∃ w4, r1 = some (0, w4) ∧ L = L2 ∧ TR mX10_in 0 (0, 0) [(1, w4), (1, 48), (1, 57)] L μ3 (fun r5 L6 μ7 => ∃ w8, r5 = some (0, w8) ∧ L = L6 ∧ (w8 = 0 → Q (some (0, 0)) L μ7) ∧ (¬ w8 = 0 → Q (some (0, 1)) L μ7))))) : TR mX10_isFigure 1 (0, 0) [(2, v0)] L μ Q := by
  refine TR.of (ls := [(2, v0)]) (by decide) (by simp) rfl (Nat.le_of_ble_eq_true rfl) ?_
  refine wa_aload_n 1 dX10_isFigure_0 rfl rfl ?_
  refine wa_getI 4 9 dX10_isFigure_1 rfl wF_X10_157 rfl rfl k0 ?_
  refine wa_if_ne 7 28 dX10_isFigure_4 rfl (by decide) (fun q => ?_) (fun q => ?_)
  · replace h := h.1 q
    refine wa_iconst 29 dX10_isFigure_28 rfl (by decide) ?_
    exact wa_zret dX10_isFigure_29 rfl (Or.inl rfl) h
  · replace h := h.2 q
    refine wa_aload_n 8 dX10_isFigure_7 rfl rfl ?_
    refine wa_callV 11 0 0 10 (av := []) (rest := []) (k1 := (0, 0)) (k2 := (0, 0)) cvX10_here dX10_isFigure_8 rfl wM_X10_161 ⟨rfl, by decide, rfl, Nat.le_of_ble_eq_true rfl, by decide, Nat.le_of_ble_eq_true rfl, rfl, rfl⟩ rfl k0 (TR.mono h (fun r1 L2 μ3 h => ?_))
    obtain ⟨w4, rfl, rfl, h⟩ := h
    show WA mX10_isFigure 1 (0, 0) 11 [(2, v0)] [(0, w4)] L μ3 Q
    refine wa_i2l 12 dX10_isFigure_11 rfl ?_
    refine wa_ldc2 15 48 dX10_isFigure_12 rfl wJ_X10_164 ⟨rfl, by decide⟩ ?_
    refine wa_ldc2 18 57 dX10_isFigure_15 rfl wJ_X10_166 ⟨rfl, by decide⟩ ?_
    refine wa_callS 21 0 3 (av := [(1, w4), (1, 48), (1, 57)]) (rest := []) (k1 := (0, 0)) (k2 := (0, 0)) cvX10_in dX10_isFigure_18 rfl wM_X10_65 ⟨rfl, Nat.le_of_ble_eq_true rfl, by decide, Nat.le_of_ble_eq_true rfl, rfl, rfl⟩ rfl (TR.mono h (fun r5 L6 μ7 h => ?_))
    obtain ⟨w8, rfl, rfl, h⟩ := h
    show WA mX10_isFigure 1 (0, 0) 21 [(2, v0)] [(0, w8)] L μ7 Q
    refine wa_if_eq 24 28 dX10_isFigure_21 rfl (by decide) (fun q => ?_) (fun q => ?_)
    · replace h := h.1 q
      refine wa_iconst 29 dX10_isFigure_28 rfl (by decide) ?_
      exact wa_zret dX10_isFigure_29 rfl (Or.inl rfl) h
    · replace h := h.2 q
      refine wa_iconst 25 dX10_isFigure_24 rfl (by decide) ?_
      refine wa_goto 29 dX10_isFigure_25 (by decide) ?_
      exact wa_zret dX10_isFigure_29 rfl (Or.inr rfl) h
set_option maxRecDepth 20000 in
theorem t_X10_isLess (hL : LayOK L) {v0 v2 v4 v6 : Int}  (h : (0 ≤ v0 ∧ 0 < v2) ∧ (0 ≤ v4 ∧ 0 < v6) ∧ ((v0 / v2) = (v4 / v6) → (inL ((v0 % v2) * v6)) ∧ (inL ((v4 % v6) * v2)) ∧ (((v4 % v6) * v2) ≤ ((v0 % v2) * v6) → Q (some (0, 0)) L μ) ∧ (¬ ((v4 % v6) * v2) ≤ ((v0 % v2) * v6) → Q (some (0, 1)) L μ)) ∧ (¬ (v0 / v2) = (v4 / v6) → ((v4 / v6) ≤ (v0 / v2) → Q (some (0, 0)) L μ) ∧ (¬ (v4 / v6) ≤ (v0 / v2) → Q (some (0, 1)) L μ))) : TR mX10_isLess 0 (0, 0) [(1, v0), (1, v2), (1, v4), (1, v6)] L μ Q := by
  refine TR.of (ls := [(1, v0), (9, 0), (1, v2), (9, 0), (1, v4), (9, 0), (1, v6), (9, 0)]) (by decide) (by simp) rfl (Nat.le_of_ble_eq_true rfl) ?_
  refine wa_lload_n 1 dX10_isLess_0 rfl rfl ?_
  refine wa_lload_n 2 dX10_isLess_1 rfl rfl ?_
  obtain ⟨c1, h⟩ := h
  refine wa_ldivE 3 dX10_isLess_2 rfl c1 ?_
  refine wa_lload 5 dX10_isLess_3 rfl rfl ?_
  refine wa_lload 7 dX10_isLess_5 rfl rfl ?_
  obtain ⟨c2, h⟩ := h
  refine wa_ldivE 8 dX10_isLess_7 rfl c2 ?_
  refine wa_lc_eq 12 32 dX10_isLess_8 dX10_isLess_9 rfl (by decide) (fun q => ?_) (fun q => ?_)
  · replace h := h.1 q
    refine wa_lload_n 33 dX10_isLess_32 rfl rfl ?_
    refine wa_lload_n 34 dX10_isLess_33 rfl rfl ?_
    refine wa_lremE 35 dX10_isLess_34 rfl c1 ?_
    refine wa_lload 37 dX10_isLess_35 rfl rfl ?_
    obtain ⟨c3, h⟩ := h
    refine wa_lmul 38 dX10_isLess_37 rfl c3 ?_
    refine wa_lload 40 dX10_isLess_38 rfl rfl ?_
    refine wa_lload 42 dX10_isLess_40 rfl rfl ?_
    refine wa_lremE 43 dX10_isLess_42 rfl c2 ?_
    refine wa_lload_n 44 dX10_isLess_43 rfl rfl ?_
    obtain ⟨c4, h⟩ := h
    refine wa_lmul 45 dX10_isLess_44 rfl c4 ?_
    refine wa_lc_ge 49 53 dX10_isLess_45 dX10_isLess_46 rfl (by decide) (fun q => ?_) (fun q => ?_)
    · replace h := h.1 q
      refine wa_iconst 54 dX10_isLess_53 rfl (by decide) ?_
      exact wa_zret dX10_isLess_54 rfl (Or.inl rfl) h
    · replace h := h.2 q
      refine wa_iconst 50 dX10_isLess_49 rfl (by decide) ?_
      refine wa_goto 54 dX10_isLess_50 (by decide) ?_
      exact wa_zret dX10_isLess_54 rfl (Or.inr rfl) h
  · replace h := h.2 q
    refine wa_lload_n 13 dX10_isLess_12 rfl rfl ?_
    refine wa_lload_n 14 dX10_isLess_13 rfl rfl ?_
    refine wa_ldivE 15 dX10_isLess_14 rfl c1 ?_
    refine wa_lload 17 dX10_isLess_15 rfl rfl ?_
    refine wa_lload 19 dX10_isLess_17 rfl rfl ?_
    refine wa_ldivE 20 dX10_isLess_19 rfl c2 ?_
    refine wa_lc_ge 24 28 dX10_isLess_20 dX10_isLess_21 rfl (by decide) (fun q => ?_) (fun q => ?_)
    · replace h := h.1 q
      refine wa_iconst 29 dX10_isLess_28 rfl (by decide) ?_
      refine wa_goto 54 dX10_isLess_29 (by decide) ?_
      exact wa_zret dX10_isLess_54 rfl (Or.inl rfl) h
    · replace h := h.2 q
      refine wa_iconst 25 dX10_isLess_24 rfl (by decide) ?_
      refine wa_goto 54 dX10_isLess_25 (by decide) ?_
      exact wa_zret dX10_isLess_54 rfl (Or.inr rfl) h
set_option maxRecDepth 20000 in
theorem t_X10_isList (hL : LayOK L) {v0 : Int}  (h : TR mX10_in 0 (0, 0) [(1, v0), (1, 0), (1, 3)] L μ (fun r1 L2 μ3 => ∃ w4, r1 = some (0, w4) ∧ L = L2 ∧ (w4 = 0 ∨ w4 = 1) ∧ Q (some (0, w4)) L μ3)) : TR mX10_isList 1 (0, 0) [(0, v0)] L μ Q := by
  refine TR.of (ls := [(0, v0)]) (by decide) (by simp) rfl (Nat.le_of_ble_eq_true rfl) ?_
  refine wa_iload_n 1 dX10_isList_0 rfl rfl ?_
  refine wa_i2l 2 dX10_isList_1 rfl ?_
  refine wa_lconst 3 0 dX10_isList_2 rfl ⟨rfl, by decide⟩ ?_
  refine wa_ldc2 6 3 dX10_isList_3 rfl wJ_X10_136 ⟨rfl, by decide⟩ ?_
  refine wa_callS 9 0 3 (av := [(1, v0), (1, 0), (1, 3)]) (rest := []) (k1 := (0, 0)) (k2 := (0, 0)) cvX10_in dX10_isList_6 rfl wM_X10_65 ⟨rfl, Nat.le_of_ble_eq_true rfl, by decide, Nat.le_of_ble_eq_true rfl, rfl, rfl⟩ rfl (TR.mono h (fun r1 L2 μ3 h => ?_))
  obtain ⟨w4, rfl, rfl, h⟩ := h
  show WA mX10_isList 1 (0, 0) 9 [(0, v0)] [(0, w4)] L μ3 Q
  obtain ⟨c5, h⟩ := h
  exact wa_zret dX10_isList_9 rfl c5 h
set_option maxRecDepth 20000 in
theorem t_X10_isStrip (hL : LayOK L) {v0 v1 : Int} (k0 : isK L v0 (10, 0)) (h : (inL ((μ ((rf L v0 0)) 0) - 1)) ∧ TR mX10_in 0 (0, 0) [(1, v1), (1, 0), (1, ((μ ((rf L v0 0)) 0) - 1))] L μ (fun r3 L4 μ5 => ∃ w6, r3 = some (0, w6) ∧ L = L4 ∧ (w6 = 0 ∨ w6 = 1) ∧ Q (some (0, w6)) L μ5)) : TR mX10_isStrip 1 (0, 0) [(2, v0), (0, v1)] L μ Q := by
  refine TR.of (ls := [(2, v0), (0, v1)]) (by decide) (by simp) rfl (Nat.le_of_ble_eq_true rfl) ?_
  refine wa_iload_n 1 dX10_isStrip_0 rfl rfl ?_
  refine wa_i2l 2 dX10_isStrip_1 rfl ?_
  refine wa_lconst 3 0 dX10_isStrip_2 rfl ⟨rfl, by decide⟩ ?_
  refine wa_aload_n 4 dX10_isStrip_3 rfl rfl ?_
  have e1 : isK L (rf L v0 0) (21, 510) := lay_f hL k0 0 rfl
  refine wa_getR 7 0 dX10_isStrip_4 rfl wF_X10_9 rfl rfl ⟨k0, isK_pos e1⟩ ?_
  refine wa_iconst 8 dX10_isStrip_7 rfl (by decide) ?_
  refine wa_laload 9 dX10_isStrip_8 rfl (okA_of e1 ⟨by decide, by decide⟩) ?_
  refine wa_lconst 10 1 dX10_isStrip_9 rfl ⟨rfl, by decide⟩ ?_
  obtain ⟨c2, h⟩ := h
  refine wa_lsub 11 dX10_isStrip_10 rfl c2 ?_
  refine wa_callS 14 0 3 (av := [(1, v1), (1, 0), (1, ((μ ((rf L v0 0)) 0) - 1))]) (rest := []) (k1 := (0, 0)) (k2 := (0, 0)) cvX10_in dX10_isStrip_11 rfl wM_X10_65 ⟨rfl, Nat.le_of_ble_eq_true rfl, by decide, Nat.le_of_ble_eq_true rfl, rfl, rfl⟩ rfl (TR.mono h (fun r3 L4 μ5 h => ?_))
  obtain ⟨w6, rfl, rfl, h⟩ := h
  show WA mX10_isStrip 1 (0, 0) 14 [(2, v0), (0, v1)] [(0, w6)] L μ5 Q
  obtain ⟨c7, h⟩ := h
  exact wa_zret dX10_isStrip_14 rfl c7 h
set_option maxRecDepth 20000 in
theorem t_X10_knife (hL : LayOK L) {v0 : Int} (k0 : isK L v0 (10, 0)) (h : TR mX10_agents 0 (0, 0) [(2, v0)] L μ (fun r1 L2 μ3 => ∃ w4, r1 = some (0, w4) ∧ L = L2 ∧ (inI ((bShl 1 w4) - 1)) ∧ TR mX10_agents 0 (0, 0) [(2, v0)] L μ3 (fun r6 L7 μ8 => ∃ w9, r6 = some (0, w9) ∧ L = L7 ∧ WA mX10_knife 4 (0, 0) 20 [(2, v0), (0, ((bShl 1 w4) - 1)), (1, 0), (9, 0), (1, 1), (9, 0), (0, w9), (9, 0), (9, 0), (9, 0)] [] L μ8 Q))) : TR mX10_knife 4 (0, 0) [(2, v0)] L μ Q := by
  refine TR.of (ls := [(2, v0), (9, 0), (9, 0), (9, 0), (9, 0), (9, 0), (9, 0), (9, 0), (9, 0), (9, 0)]) (by decide) (by simp) rfl (Nat.le_of_ble_eq_true rfl) ?_
  refine wa_iconst 1 dX10_knife_0 rfl (by decide) ?_
  refine wa_aload_n 2 dX10_knife_1 rfl rfl ?_
  refine wa_callV 5 0 0 10 (av := []) (rest := [(0, 1)]) (k1 := (0, 0)) (k2 := (0, 0)) cvX10_agents dX10_knife_2 rfl wM_X10_75 ⟨rfl, by decide, rfl, Nat.le_of_ble_eq_true rfl, by decide, Nat.le_of_ble_eq_true rfl, rfl, rfl⟩ rfl k0 (TR.mono h (fun r1 L2 μ3 h => ?_))
  obtain ⟨w4, rfl, rfl, h⟩ := h
  show WA mX10_knife 4 (0, 0) 5 [(2, v0), (9, 0), (9, 0), (9, 0), (9, 0), (9, 0), (9, 0), (9, 0), (9, 0), (9, 0)] [(0, w4), (0, 1)] L μ3 Q
  refine wa_ishl 6 dX10_knife_5 rfl ?_
  refine wa_iconst 7 dX10_knife_6 rfl (by decide) ?_
  obtain ⟨c5, h⟩ := h
  refine wa_isub 8 dX10_knife_7 rfl c5 ?_
  refine wa_istore_n 9 [(2, v0), (0, ((bShl 1 w4) - 1)), (9, 0), (9, 0), (9, 0), (9, 0), (9, 0), (9, 0), (9, 0), (9, 0)] dX10_knife_8 rfl rfl rfl ?_
  refine wa_lconst 10 0 dX10_knife_9 rfl ⟨rfl, by decide⟩ ?_
  refine wa_lstore_n 11 [(2, v0), (0, ((bShl 1 w4) - 1)), (1, 0), (9, 0), (9, 0), (9, 0), (9, 0), (9, 0), (9, 0), (9, 0)] dX10_knife_10 rfl rfl rfl ?_
  refine wa_lconst 12 1 dX10_knife_11 rfl ⟨rfl, by decide⟩ ?_
  refine wa_lstore 14 [(2, v0), (0, ((bShl 1 w4) - 1)), (1, 0), (9, 0), (1, 1), (9, 0), (9, 0), (9, 0), (9, 0), (9, 0)] dX10_knife_12 rfl rfl rfl ?_
  refine wa_aload_n 15 dX10_knife_14 rfl rfl ?_
  refine wa_callV 18 0 0 10 (av := []) (rest := []) (k1 := (0, 0)) (k2 := (0, 0)) cvX10_agents dX10_knife_15 rfl wM_X10_75 ⟨rfl, by decide, rfl, Nat.le_of_ble_eq_true rfl, by decide, Nat.le_of_ble_eq_true rfl, rfl, rfl⟩ rfl k0 (TR.mono h (fun r6 L7 μ8 h => ?_))
  obtain ⟨w9, rfl, rfl, h⟩ := h
  show WA mX10_knife 4 (0, 0) 18 [(2, v0), (0, ((bShl 1 w4) - 1)), (1, 0), (9, 0), (1, 1), (9, 0), (9, 0), (9, 0), (9, 0), (9, 0)] [(0, w9)] L μ8 Q
  refine wa_istore 20 [(2, v0), (0, ((bShl 1 w4) - 1)), (1, 0), (9, 0), (1, 1), (9, 0), (0, w9), (9, 0), (9, 0), (9, 0)] dX10_knife_18 rfl rfl rfl ?_
  exact h
set_option maxRecDepth 20000 in
theorem s_X10_knife_20 (hL : LayOK L) {v0 v1 v2 v4 v6 : Int} (k0 : isK L v0 (10, 0)) (h : (v6 ≤ 1 → TR mX10_lastOf 1 (0, 0) [(2, v0), (0, v1)] L μ (fun r1 L2 μ3 => ∃ w4, r1 = some (0, w4) ∧ L = L2 ∧ TR mX10_ends 0 (0, 0) [(2, v0)] L μ3 (fun r5 L6 μ7 => ∃ w8, r5 = some (1, w8) ∧ L = L6 ∧ TR mX10_takes 1 (0, 0) [(2, v0), (0, w4), (1, v2), (1, v4), (1, w8), (1, 1)] L μ7 (fun r9 L10 μ11 => r9 = none ∧ L = L10 ∧ Q none L μ11)))) ∧ (¬ v6 ≤ 1 → WA mX10_knife 4 (0, 0) 32 [(2, v0), (0, v1), (1, v2), (9, 0), (1, v4), (9, 0), (0, v6), (0, (-1)), (0, 0), (9, 0)] [] L μ Q)) : WA mX10_knife 4 (0, 0) 20 [(2, v0), (0, v1), (1, v2), (9, 0), (1, v4), (9, 0), (0, v6), (9, 0), (9, 0), (9, 0)] [] L μ Q := by
  refine wa_iload 22 dX10_knife_20 rfl rfl ?_
  refine wa_iconst 23 dX10_knife_22 rfl (by decide) ?_
  refine wa_icmp_le 26 205 dX10_knife_23 rfl (by decide) (fun q => ?_) (fun q => ?_)
  · replace h := h.1 q
    refine wa_aload_n 206 dX10_knife_205 rfl rfl ?_
    refine wa_aload_n 207 dX10_knife_206 rfl rfl ?_
    refine wa_iload_n 208 dX10_knife_207 rfl rfl ?_
    refine wa_callV 211 1 1 10 (av := [(0, v1)]) (rest := [(2, v0)]) (k1 := (0, 0)) (k2 := (0, 0)) cvX10_lastOf dX10_knife_208 rfl wM_X10_256 ⟨rfl, by decide, rfl, Nat.le_of_ble_eq_true rfl, by decide, Nat.le_of_ble_eq_true rfl, rfl, rfl⟩ rfl k0 (TR.mono h (fun r1 L2 μ3 h => ?_))
    obtain ⟨w4, rfl, rfl, h⟩ := h
    show WA mX10_knife 4 (0, 0) 211 [(2, v0), (0, v1), (1, v2), (9, 0), (1, v4), (9, 0), (0, v6), (9, 0), (9, 0), (9, 0)] [(0, w4), (2, v0)] L μ3 Q
    refine wa_lload_n 212 dX10_knife_211 rfl rfl ?_
    refine wa_lload 214 dX10_knife_212 rfl rfl ?_
    refine wa_aload_n 215 dX10_knife_214 rfl rfl ?_
    refine wa_callV 218 0 0 10 (av := []) (rest := [(1, v4), (1, v2), (0, w4), (2, v0)]) (k1 := (0, 0)) (k2 := (0, 0)) cvX10_ends dX10_knife_215 rfl wM_X10_249 ⟨rfl, by decide, rfl, Nat.le_of_ble_eq_true rfl, by decide, Nat.le_of_ble_eq_true rfl, rfl, rfl⟩ rfl k0 (TR.mono h (fun r5 L6 μ7 h => ?_))
    obtain ⟨w8, rfl, rfl, h⟩ := h
    show WA mX10_knife 4 (0, 0) 218 [(2, v0), (0, v1), (1, v2), (9, 0), (1, v4), (9, 0), (0, v6), (9, 0), (9, 0), (9, 0)] [(1, w8), (1, v4), (1, v2), (0, w4), (2, v0)] L μ7 Q
    refine wa_lconst 219 1 dX10_knife_218 rfl ⟨rfl, by decide⟩ ?_
    refine wa_callV 222 1 5 10 (av := [(0, w4), (1, v2), (1, v4), (1, w8), (1, 1)]) (rest := []) (k1 := (0, 0)) (k2 := (0, 0)) cvX10_takes dX10_knife_219 rfl wM_X10_253 ⟨rfl, by decide, rfl, Nat.le_of_ble_eq_true rfl, by decide, Nat.le_of_ble_eq_true rfl, rfl, rfl⟩ rfl k0 (TR.mono h (fun r9 L10 μ11 h => ?_))
    obtain ⟨rfl, rfl, h⟩ := h
    show WA mX10_knife 4 (0, 0) 222 [(2, v0), (0, v1), (1, v2), (9, 0), (1, v4), (9, 0), (0, v6), (9, 0), (9, 0), (9, 0)] [] L μ11 Q
    exact wa_vret dX10_knife_222 rfl h
  · replace h := h.2 q
    refine wa_iconst 27 dX10_knife_26 rfl (by decide) ?_
    refine wa_istore 29 [(2, v0), (0, v1), (1, v2), (9, 0), (1, v4), (9, 0), (0, v6), (0, (-1)), (9, 0), (9, 0)] dX10_knife_27 rfl rfl rfl ?_
    refine wa_iconst 30 dX10_knife_29 rfl (by decide) ?_
    refine wa_istore 32 [(2, v0), (0, v1), (1, v2), (9, 0), (1, v4), (9, 0), (0, v6), (0, (-1)), (0, 0), (9, 0)] dX10_knife_30 rfl rfl rfl ?_
    exact h
set_option maxRecDepth 20000 in
theorem s_X10_knife_32 (hL : LayOK L) {v0 v1 v2 v4 v6 v7 v8 : Int} (k0 : isK L v0 (10, 0)) (h : TR mX10_agents 0 (0, 0) [(2, v0)] L μ (fun r1 L2 μ3 => ∃ w4, r1 = some (0, w4) ∧ L = L2 ∧ (w4 ≤ v8 → WA mX10_knife 4 (0, 0) 142 [(2, v0), (0, v1), (1, v2), (9, 0), (1, v4), (9, 0), (0, v6), (0, v7), (9, 0), (9, 0)] [] L μ3 Q) ∧ (¬ w4 ≤ v8 → (¬ (μ3 v0 11) = 0 → WA mX10_knife 4 (0, 0) 142 [(2, v0), (0, v1), (1, v2), (9, 0), (1, v4), (9, 0), (0, v6), (0, v7), (9, 0), (9, 0)] [] L μ3 Q) ∧ ((μ3 v0 11) = 0 → TR mX10_ordered 1 (0, 0) [(2, v0), (0, v8)] L μ3 (fun r5 L6 μ7 => ∃ w8, r5 = some (0, w8) ∧ L = L6 ∧ (¬ (bAnd ((bShr v1 w8)) 1) = 1 → (inI (v8 + 1)) ∧ WA mX10_knife 4 (0, 0) 32 [(2, v0), (0, v1), (1, v2), (9, 0), (1, v4), (9, 0), (0, v6), (0, v7), (0, (v8 + 1)), (9, 0)] [] L μ7 Q) ∧ ((bAnd ((bShr v1 w8)) 1) = 1 → TR mX10_allOf 2 (0, 0) [(2, v0), (0, w8), (0, 1)] L μ7 (fun r10 L11 μ12 => ∃ w13, r10 = some (1, w13) ∧ L = L11 ∧ TR mX10_agents 0 (0, 0) [(2, v0)] L μ12 (fun r14 L15 μ16 => ∃ w17, r14 = some (0, w17) ∧ L = L15 ∧ TR mX10_marksPoint 3 (0, 0) [(2, v0), (0, w8), (1, v2), (1, v4), (1, w13), (1, w17), (0, 1)] L μ16 (fun r18 L19 μ20 => r18 = none ∧ L = L19 ∧ (v7 < 0 → (inI (v8 + 1)) ∧ WA mX10_knife 4 (0, 0) 32 [(2, v0), (0, v1), (1, v2), (9, 0), (1, v4), (9, 0), (0, v6), (0, w8), (0, (v8 + 1)), (9, 0)] [] L μ20 Q) ∧ (¬ v7 < 0 → (0 ≤ w8 ∧ w8 < 5) ∧ (0 ≤ v7 ∧ v7 < 5) ∧ TR mX10_isLess 0 (0, 0) [(1, (μ20 ((rf L v0 13)) w8)), (1, (μ20 ((rf L v0 14)) w8)), (1, (μ20 ((rf L v0 13)) v7)), (1, (μ20 ((rf L v0 14)) v7))] L μ20 (fun r26 L27 μ28 => ∃ w29, r26 = some (0, w29) ∧ L = L27 ∧ (w29 = 0 → (inI (v8 + 1)) ∧ WA mX10_knife 4 (0, 0) 32 [(2, v0), (0, v1), (1, v2), (9, 0), (1, v4), (9, 0), (0, v6), (0, v7), (0, (v8 + 1)), (9, 0)] [] L μ28 Q) ∧ (¬ w29 = 0 → (inI (v8 + 1)) ∧ WA mX10_knife 4 (0, 0) 32 [(2, v0), (0, v1), (1, v2), (9, 0), (1, v4), (9, 0), (0, v6), (0, w8), (0, (v8 + 1)), (9, 0)] [] L μ28 Q)))))))))))) : WA mX10_knife 4 (0, 0) 32 [(2, v0), (0, v1), (1, v2), (9, 0), (1, v4), (9, 0), (0, v6), (0, v7), (0, v8), (9, 0)] [] L μ Q := by
  refine wa_iload 34 dX10_knife_32 rfl rfl ?_
  refine wa_aload_n 35 dX10_knife_34 rfl rfl ?_
  refine wa_callV 38 0 0 10 (av := []) (rest := [(0, v8)]) (k1 := (0, 0)) (k2 := (0, 0)) cvX10_agents dX10_knife_35 rfl wM_X10_75 ⟨rfl, by decide, rfl, Nat.le_of_ble_eq_true rfl, by decide, Nat.le_of_ble_eq_true rfl, rfl, rfl⟩ rfl k0 (TR.mono h (fun r1 L2 μ3 h => ?_))
  obtain ⟨w4, rfl, rfl, h⟩ := h
  show WA mX10_knife 4 (0, 0) 38 [(2, v0), (0, v1), (1, v2), (9, 0), (1, v4), (9, 0), (0, v6), (0, v7), (0, v8), (9, 0)] [(0, w4), (0, v8)] L μ3 Q
  refine wa_icmp_ge 41 142 dX10_knife_38 rfl (by decide) (fun q => ?_) (fun q => ?_)
  · replace h := h.1 q
    exact wa_weak [(2, v0), (0, v1), (1, v2), (9, 0), (1, v4), (9, 0), (0, v6), (0, v7), (9, 0), (9, 0)] ⟨Or.inl rfl, Or.inl rfl, Or.inl rfl, Or.inl rfl, Or.inl rfl, Or.inl rfl, Or.inl rfl, Or.inl rfl, Or.inr rfl, Or.inl rfl, trivial⟩ h
  · replace h := h.2 q
    refine wa_aload_n 42 dX10_knife_41 rfl rfl ?_
    refine wa_getI 45 11 dX10_knife_42 rfl wF_X10_219 rfl rfl k0 ?_
    refine wa_if_ne 48 142 dX10_knife_45 rfl (by decide) (fun q => ?_) (fun q => ?_)
    · replace h := h.1 q
      exact wa_weak [(2, v0), (0, v1), (1, v2), (9, 0), (1, v4), (9, 0), (0, v6), (0, v7), (9, 0), (9, 0)] ⟨Or.inl rfl, Or.inl rfl, Or.inl rfl, Or.inl rfl, Or.inl rfl, Or.inl rfl, Or.inl rfl, Or.inl rfl, Or.inr rfl, Or.inl rfl, trivial⟩ h
    · replace h := h.2 q
      refine wa_aload_n 49 dX10_knife_48 rfl rfl ?_
      refine wa_iload 51 dX10_knife_49 rfl rfl ?_
      refine wa_callV 54 1 1 10 (av := [(0, v8)]) (rest := []) (k1 := (0, 0)) (k2 := (0, 0)) cvX10_ordered dX10_knife_51 rfl wM_X10_242 ⟨rfl, by decide, rfl, Nat.le_of_ble_eq_true rfl, by decide, Nat.le_of_ble_eq_true rfl, rfl, rfl⟩ rfl k0 (TR.mono h (fun r5 L6 μ7 h => ?_))
      obtain ⟨w8, rfl, rfl, h⟩ := h
      show WA mX10_knife 4 (0, 0) 54 [(2, v0), (0, v1), (1, v2), (9, 0), (1, v4), (9, 0), (0, v6), (0, v7), (0, v8), (9, 0)] [(0, w8)] L μ7 Q
      refine wa_istore 56 [(2, v0), (0, v1), (1, v2), (9, 0), (1, v4), (9, 0), (0, v6), (0, v7), (0, v8), (0, w8)] dX10_knife_54 rfl rfl rfl ?_
      refine wa_iload_n 57 dX10_knife_56 rfl rfl ?_
      refine wa_iload 59 dX10_knife_57 rfl rfl ?_
      refine wa_ishr 60 dX10_knife_59 rfl ?_
      refine wa_iconst 61 dX10_knife_60 rfl (by decide) ?_
      refine wa_iand 62 dX10_knife_61 rfl ?_
      refine wa_iconst 63 dX10_knife_62 rfl (by decide) ?_
      refine wa_icmp_ne 66 136 dX10_knife_63 rfl (by decide) (fun q => ?_) (fun q => ?_)
      · replace h := h.1 q
        obtain ⟨c9, h⟩ := h
        refine wa_iinc 139 [(2, v0), (0, v1), (1, v2), (9, 0), (1, v4), (9, 0), (0, v6), (0, v7), (0, (v8 + 1)), (0, w8)] dX10_knife_136 rfl rfl rfl c9 rfl ?_
        refine wa_goto 32 dX10_knife_139 (by decide) ?_
        exact wa_weak [(2, v0), (0, v1), (1, v2), (9, 0), (1, v4), (9, 0), (0, v6), (0, v7), (0, (v8 + 1)), (9, 0)] ⟨Or.inl rfl, Or.inl rfl, Or.inl rfl, Or.inl rfl, Or.inl rfl, Or.inl rfl, Or.inl rfl, Or.inl rfl, Or.inl rfl, Or.inr rfl, trivial⟩ h
      · replace h := h.2 q
        refine wa_aload_n 67 dX10_knife_66 rfl rfl ?_
        refine wa_iload 69 dX10_knife_67 rfl rfl ?_
        refine wa_lload_n 70 dX10_knife_69 rfl rfl ?_
        refine wa_lload 72 dX10_knife_70 rfl rfl ?_
        refine wa_aload_n 73 dX10_knife_72 rfl rfl ?_
        refine wa_iload 75 dX10_knife_73 rfl rfl ?_
        refine wa_iconst 76 dX10_knife_75 rfl (by decide) ?_
        refine wa_callV 79 2 2 10 (av := [(0, w8), (0, 1)]) (rest := [(1, v4), (1, v2), (0, w8), (2, v0)]) (k1 := (0, 0)) (k2 := (0, 0)) cvX10_allOf dX10_knife_76 rfl wM_X10_128 ⟨rfl, by decide, rfl, Nat.le_of_ble_eq_true rfl, by decide, Nat.le_of_ble_eq_true rfl, rfl, rfl⟩ rfl k0 (TR.mono h (fun r10 L11 μ12 h => ?_))
        obtain ⟨w13, rfl, rfl, h⟩ := h
        show WA mX10_knife 4 (0, 0) 79 [(2, v0), (0, v1), (1, v2), (9, 0), (1, v4), (9, 0), (0, v6), (0, v7), (0, v8), (0, w8)] [(1, w13), (1, v4), (1, v2), (0, w8), (2, v0)] L μ12 Q
        refine wa_aload_n 80 dX10_knife_79 rfl rfl ?_
        refine wa_callV 83 0 0 10 (av := []) (rest := [(1, w13), (1, v4), (1, v2), (0, w8), (2, v0)]) (k1 := (0, 0)) (k2 := (0, 0)) cvX10_agents dX10_knife_80 rfl wM_X10_75 ⟨rfl, by decide, rfl, Nat.le_of_ble_eq_true rfl, by decide, Nat.le_of_ble_eq_true rfl, rfl, rfl⟩ rfl k0 (TR.mono h (fun r14 L15 μ16 h => ?_))
        obtain ⟨w17, rfl, rfl, h⟩ := h
        show WA mX10_knife 4 (0, 0) 83 [(2, v0), (0, v1), (1, v2), (9, 0), (1, v4), (9, 0), (0, v6), (0, v7), (0, v8), (0, w8)] [(0, w17), (1, w13), (1, v4), (1, v2), (0, w8), (2, v0)] L μ16 Q
        refine wa_i2l 84 dX10_knife_83 rfl ?_
        refine wa_iconst 85 dX10_knife_84 rfl (by decide) ?_
        refine wa_callV 88 3 6 10 (av := [(0, w8), (1, v2), (1, v4), (1, w13), (1, w17), (0, 1)]) (rest := []) (k1 := (0, 0)) (k2 := (0, 0)) cvX10_marksPoint dX10_knife_85 rfl wM_X10_245 ⟨rfl, by decide, rfl, Nat.le_of_ble_eq_true rfl, by decide, Nat.le_of_ble_eq_true rfl, rfl, rfl⟩ rfl k0 (TR.mono h (fun r18 L19 μ20 h => ?_))
        obtain ⟨rfl, rfl, h⟩ := h
        show WA mX10_knife 4 (0, 0) 88 [(2, v0), (0, v1), (1, v2), (9, 0), (1, v4), (9, 0), (0, v6), (0, v7), (0, v8), (0, w8)] [] L μ20 Q
        refine wa_iload 90 dX10_knife_88 rfl rfl ?_
        refine wa_if_lt 93 127 dX10_knife_90 rfl (by decide) (fun q => ?_) (fun q => ?_)
        · replace h := h.1 q
          refine wa_iload 129 dX10_knife_127 rfl rfl ?_
          refine wa_goto 134 dX10_knife_129 (by decide) ?_
          refine wa_istore 136 [(2, v0), (0, v1), (1, v2), (9, 0), (1, v4), (9, 0), (0, v6), (0, w8), (0, v8), (0, w8)] dX10_knife_134 rfl rfl rfl ?_
          obtain ⟨c21, h⟩ := h
          refine wa_iinc 139 [(2, v0), (0, v1), (1, v2), (9, 0), (1, v4), (9, 0), (0, v6), (0, w8), (0, (v8 + 1)), (0, w8)] dX10_knife_136 rfl rfl rfl c21 rfl ?_
          refine wa_goto 32 dX10_knife_139 (by decide) ?_
          exact wa_weak [(2, v0), (0, v1), (1, v2), (9, 0), (1, v4), (9, 0), (0, v6), (0, w8), (0, (v8 + 1)), (9, 0)] ⟨Or.inl rfl, Or.inl rfl, Or.inl rfl, Or.inl rfl, Or.inl rfl, Or.inl rfl, Or.inl rfl, Or.inl rfl, Or.inl rfl, Or.inr rfl, trivial⟩ h
        · replace h := h.2 q
          refine wa_aload_n 94 dX10_knife_93 rfl rfl ?_
          have e22 : isK L (rf L v0 13) (21, 5) := lay_f hL k0 13 rfl
          refine wa_getR 97 13 dX10_knife_94 rfl wF_X10_25 rfl rfl ⟨k0, isK_pos e22⟩ ?_
          refine wa_iload 99 dX10_knife_97 rfl rfl ?_
          obtain ⟨c23, h⟩ := h
          refine wa_laload 100 dX10_knife_99 rfl (okA_of e22 c23) ?_
          refine wa_aload_n 101 dX10_knife_100 rfl rfl ?_
          have e24 : isK L (rf L v0 14) (21, 5) := lay_f hL k0 14 rfl
          refine wa_getR 104 14 dX10_knife_101 rfl wF_X10_28 rfl rfl ⟨k0, isK_pos e24⟩ ?_
          refine wa_iload 106 dX10_knife_104 rfl rfl ?_
          refine wa_laload 107 dX10_knife_106 rfl (okA_of e24 c23) ?_
          refine wa_aload_n 108 dX10_knife_107 rfl rfl ?_
          refine wa_getR 111 13 dX10_knife_108 rfl wF_X10_25 rfl rfl ⟨k0, isK_pos e22⟩ ?_
          refine wa_iload 113 dX10_knife_111 rfl rfl ?_
          obtain ⟨c25, h⟩ := h
          refine wa_laload 114 dX10_knife_113 rfl (okA_of e22 c25) ?_
          refine wa_aload_n 115 dX10_knife_114 rfl rfl ?_
          refine wa_getR 118 14 dX10_knife_115 rfl wF_X10_28 rfl rfl ⟨k0, isK_pos e24⟩ ?_
          refine wa_iload 120 dX10_knife_118 rfl rfl ?_
          refine wa_laload 121 dX10_knife_120 rfl (okA_of e24 c25) ?_
          refine wa_callS 124 0 4 (av := [(1, (μ20 ((rf L v0 13)) w8)), (1, (μ20 ((rf L v0 14)) w8)), (1, (μ20 ((rf L v0 13)) v7)), (1, (μ20 ((rf L v0 14)) v7))]) (rest := []) (k1 := (0, 0)) (k2 := (0, 0)) cvX10_isLess dX10_knife_121 rfl wM_X10_199 ⟨rfl, Nat.le_of_ble_eq_true rfl, by decide, Nat.le_of_ble_eq_true rfl, rfl, rfl⟩ rfl (TR.mono h (fun r26 L27 μ28 h => ?_))
          obtain ⟨w29, rfl, rfl, h⟩ := h
          show WA mX10_knife 4 (0, 0) 124 [(2, v0), (0, v1), (1, v2), (9, 0), (1, v4), (9, 0), (0, v6), (0, v7), (0, v8), (0, w8)] [(0, w29)] L μ28 Q
          refine wa_if_eq 127 132 dX10_knife_124 rfl (by decide) (fun q => ?_) (fun q => ?_)
          · replace h := h.1 q
            refine wa_iload 134 dX10_knife_132 rfl rfl ?_
            refine wa_istore 136 [(2, v0), (0, v1), (1, v2), (9, 0), (1, v4), (9, 0), (0, v6), (0, v7), (0, v8), (0, w8)] dX10_knife_134 rfl rfl rfl ?_
            obtain ⟨c30, h⟩ := h
            refine wa_iinc 139 [(2, v0), (0, v1), (1, v2), (9, 0), (1, v4), (9, 0), (0, v6), (0, v7), (0, (v8 + 1)), (0, w8)] dX10_knife_136 rfl rfl rfl c30 rfl ?_
            refine wa_goto 32 dX10_knife_139 (by decide) ?_
            exact wa_weak [(2, v0), (0, v1), (1, v2), (9, 0), (1, v4), (9, 0), (0, v6), (0, v7), (0, (v8 + 1)), (9, 0)] ⟨Or.inl rfl, Or.inl rfl, Or.inl rfl, Or.inl rfl, Or.inl rfl, Or.inl rfl, Or.inl rfl, Or.inl rfl, Or.inl rfl, Or.inr rfl, trivial⟩ h
          · replace h := h.2 q
            refine wa_iload 129 dX10_knife_127 rfl rfl ?_
            refine wa_goto 134 dX10_knife_129 (by decide) ?_
            refine wa_istore 136 [(2, v0), (0, v1), (1, v2), (9, 0), (1, v4), (9, 0), (0, v6), (0, w8), (0, v8), (0, w8)] dX10_knife_134 rfl rfl rfl ?_
            obtain ⟨c31, h⟩ := h
            refine wa_iinc 139 [(2, v0), (0, v1), (1, v2), (9, 0), (1, v4), (9, 0), (0, v6), (0, w8), (0, (v8 + 1)), (0, w8)] dX10_knife_136 rfl rfl rfl c31 rfl ?_
            refine wa_goto 32 dX10_knife_139 (by decide) ?_
            exact wa_weak [(2, v0), (0, v1), (1, v2), (9, 0), (1, v4), (9, 0), (0, v6), (0, w8), (0, (v8 + 1)), (9, 0)] ⟨Or.inl rfl, Or.inl rfl, Or.inl rfl, Or.inl rfl, Or.inl rfl, Or.inl rfl, Or.inl rfl, Or.inl rfl, Or.inl rfl, Or.inr rfl, trivial⟩ h
set_option maxRecDepth 20000 in
theorem s_X10_knife_142 (hL : LayOK L) {v0 v1 v2 v4 v6 v7 : Int} (k0 : isK L v0 (10, 0)) (h : ((μ v0 11) = 0 → (0 ≤ v7 ∧ v7 < 5) ∧ TR mX10_takes 1 (0, 0) [(2, v0), (0, v7), (1, v2), (1, v4), (1, (μ ((rf L v0 13)) v7)), (1, (μ ((rf L v0 14)) v7))] L μ (fun r4 L5 μ6 => r4 = none ∧ L = L5 ∧ (inI (v6 + (-1))) ∧ WA mX10_knife 4 (0, 0) 20 [(2, v0), (0, (bAnd v1 ((bXor ((bShl 1 v7)) ((-1)))))), (1, (μ6 ((rf L v0 13)) v7)), (9, 0), (1, (μ6 ((rf L v0 14)) v7)), (9, 0), (0, (v6 + (-1))), (9, 0), (9, 0), (9, 0)] [] L μ6 Q)) ∧ (¬ (μ v0 11) = 0 → Q none L μ)) : WA mX10_knife 4 (0, 0) 142 [(2, v0), (0, v1), (1, v2), (9, 0), (1, v4), (9, 0), (0, v6), (0, v7), (9, 0), (9, 0)] [] L μ Q := by
  refine wa_aload_n 143 dX10_knife_142 rfl rfl ?_
  refine wa_getI 146 11 dX10_knife_143 rfl wF_X10_219 rfl rfl k0 ?_
  refine wa_if_eq 149 150 dX10_knife_146 rfl (by decide) (fun q => ?_) (fun q => ?_)
  · replace h := h.1 q
    refine wa_aload_n 151 dX10_knife_150 rfl rfl ?_
    refine wa_iload 153 dX10_knife_151 rfl rfl ?_
    refine wa_lload_n 154 dX10_knife_153 rfl rfl ?_
    refine wa_lload 156 dX10_knife_154 rfl rfl ?_
    refine wa_aload_n 157 dX10_knife_156 rfl rfl ?_
    have e1 : isK L (rf L v0 13) (21, 5) := lay_f hL k0 13 rfl
    refine wa_getR 160 13 dX10_knife_157 rfl wF_X10_25 rfl rfl ⟨k0, isK_pos e1⟩ ?_
    refine wa_iload 162 dX10_knife_160 rfl rfl ?_
    obtain ⟨c2, h⟩ := h
    refine wa_laload 163 dX10_knife_162 rfl (okA_of e1 c2) ?_
    refine wa_aload_n 164 dX10_knife_163 rfl rfl ?_
    have e3 : isK L (rf L v0 14) (21, 5) := lay_f hL k0 14 rfl
    refine wa_getR 167 14 dX10_knife_164 rfl wF_X10_28 rfl rfl ⟨k0, isK_pos e3⟩ ?_
    refine wa_iload 169 dX10_knife_167 rfl rfl ?_
    refine wa_laload 170 dX10_knife_169 rfl (okA_of e3 c2) ?_
    refine wa_callV 173 1 5 10 (av := [(0, v7), (1, v2), (1, v4), (1, (μ ((rf L v0 13)) v7)), (1, (μ ((rf L v0 14)) v7))]) (rest := []) (k1 := (0, 0)) (k2 := (0, 0)) cvX10_takes dX10_knife_170 rfl wM_X10_253 ⟨rfl, by decide, rfl, Nat.le_of_ble_eq_true rfl, by decide, Nat.le_of_ble_eq_true rfl, rfl, rfl⟩ rfl k0 (TR.mono h (fun r4 L5 μ6 h => ?_))
    obtain ⟨rfl, rfl, h⟩ := h
    show WA mX10_knife 4 (0, 0) 173 [(2, v0), (0, v1), (1, v2), (9, 0), (1, v4), (9, 0), (0, v6), (0, v7), (9, 0), (9, 0)] [] L μ6 Q
    refine wa_aload_n 174 dX10_knife_173 rfl rfl ?_
    refine wa_getR 177 13 dX10_knife_174 rfl wF_X10_25 rfl rfl ⟨k0, isK_pos e1⟩ ?_
    refine wa_iload 179 dX10_knife_177 rfl rfl ?_
    refine wa_laload 180 dX10_knife_179 rfl (okA_of e1 c2) ?_
    refine wa_lstore_n 181 [(2, v0), (0, v1), (1, (μ6 ((rf L v0 13)) v7)), (9, 0), (1, v4), (9, 0), (0, v6), (0, v7), (9, 0), (9, 0)] dX10_knife_180 rfl rfl rfl ?_
    refine wa_aload_n 182 dX10_knife_181 rfl rfl ?_
    refine wa_getR 185 14 dX10_knife_182 rfl wF_X10_28 rfl rfl ⟨k0, isK_pos e3⟩ ?_
    refine wa_iload 187 dX10_knife_185 rfl rfl ?_
    refine wa_laload 188 dX10_knife_187 rfl (okA_of e3 c2) ?_
    refine wa_lstore 190 [(2, v0), (0, v1), (1, (μ6 ((rf L v0 13)) v7)), (9, 0), (1, (μ6 ((rf L v0 14)) v7)), (9, 0), (0, v6), (0, v7), (9, 0), (9, 0)] dX10_knife_188 rfl rfl rfl ?_
    refine wa_iload_n 191 dX10_knife_190 rfl rfl ?_
    refine wa_iconst 192 dX10_knife_191 rfl (by decide) ?_
    refine wa_iload 194 dX10_knife_192 rfl rfl ?_
    refine wa_ishl 195 dX10_knife_194 rfl ?_
    refine wa_iconst 196 dX10_knife_195 rfl (by decide) ?_
    refine wa_ixor 197 dX10_knife_196 rfl ?_
    refine wa_iand 198 dX10_knife_197 rfl ?_
    refine wa_istore_n 199 [(2, v0), (0, (bAnd v1 ((bXor ((bShl 1 v7)) ((-1)))))), (1, (μ6 ((rf L v0 13)) v7)), (9, 0), (1, (μ6 ((rf L v0 14)) v7)), (9, 0), (0, v6), (0, v7), (9, 0), (9, 0)] dX10_knife_198 rfl rfl rfl ?_
    obtain ⟨c7, h⟩ := h
    refine wa_iinc 202 [(2, v0), (0, (bAnd v1 ((bXor ((bShl 1 v7)) ((-1)))))), (1, (μ6 ((rf L v0 13)) v7)), (9, 0), (1, (μ6 ((rf L v0 14)) v7)), (9, 0), (0, (v6 + (-1))), (0, v7), (9, 0), (9, 0)] dX10_knife_199 rfl rfl rfl c7 rfl ?_
    refine wa_goto 20 dX10_knife_202 (by decide) ?_
    exact wa_weak [(2, v0), (0, (bAnd v1 ((bXor ((bShl 1 v7)) ((-1)))))), (1, (μ6 ((rf L v0 13)) v7)), (9, 0), (1, (μ6 ((rf L v0 14)) v7)), (9, 0), (0, (v6 + (-1))), (9, 0), (9, 0), (9, 0)] ⟨Or.inl rfl, Or.inl rfl, Or.inl rfl, Or.inl rfl, Or.inl rfl, Or.inl rfl, Or.inl rfl, Or.inr rfl, Or.inl rfl, Or.inl rfl, trivial⟩ h
  · replace h := h.2 q
    exact wa_vret dX10_knife_149 rfl h
set_option maxRecDepth 20000 in
theorem t_X10_lastOf (hL : LayOK L) {v0 v1 : Int} (k0 : isK L v0 (10, 0)) (h : WA mX10_lastOf 1 (0, 0) 4 [(2, v0), (0, v1), (0, (-1)), (0, 0)] [] L μ Q) : TR mX10_lastOf 1 (0, 0) [(2, v0), (0, v1)] L μ Q := by
  refine TR.of (ls := [(2, v0), (0, v1), (9, 0), (9, 0)]) (by decide) (by simp) rfl (Nat.le_of_ble_eq_true rfl) ?_
  refine wa_iconst 1 dX10_lastOf_0 rfl (by decide) ?_
  refine wa_istore_n 2 [(2, v0), (0, v1), (0, (-1)), (9, 0)] dX10_lastOf_1 rfl rfl rfl ?_
  refine wa_iconst 3 dX10_lastOf_2 rfl (by decide) ?_
  refine wa_istore_n 4 [(2, v0), (0, v1), (0, (-1)), (0, 0)] dX10_lastOf_3 rfl rfl rfl ?_
  exact h
set_option maxRecDepth 20000 in
theorem s_X10_lastOf_4 (hL : LayOK L) {v0 v1 v2 v3 : Int} (k0 : isK L v0 (10, 0)) (h : TR mX10_agents 0 (0, 0) [(2, v0)] L μ (fun r1 L2 μ3 => ∃ w4, r1 = some (0, w4) ∧ L = L2 ∧ (w4 ≤ v3 → Q (some (0, v2)) L μ3) ∧ (¬ w4 ≤ v3 → (¬ (bAnd ((bShr v1 v3)) 1) = 1 → (inI (v3 + 1)) ∧ WA mX10_lastOf 1 (0, 0) 4 [(2, v0), (0, v1), (0, v2), (0, (v3 + 1))] [] L μ3 Q) ∧ ((bAnd ((bShr v1 v3)) 1) = 1 → (inI (v3 + 1)) ∧ WA mX10_lastOf 1 (0, 0) 4 [(2, v0), (0, v1), (0, v3), (0, (v3 + 1))] [] L μ3 Q)))) : WA mX10_lastOf 1 (0, 0) 4 [(2, v0), (0, v1), (0, v2), (0, v3)] [] L μ Q := by
  refine wa_iload_n 5 dX10_lastOf_4 rfl rfl ?_
  refine wa_aload_n 6 dX10_lastOf_5 rfl rfl ?_
  refine wa_callV 9 0 0 10 (av := []) (rest := [(0, v3)]) (k1 := (0, 0)) (k2 := (0, 0)) cvX10_agents dX10_lastOf_6 rfl wM_X10_75 ⟨rfl, by decide, rfl, Nat.le_of_ble_eq_true rfl, by decide, Nat.le_of_ble_eq_true rfl, rfl, rfl⟩ rfl k0 (TR.mono h (fun r1 L2 μ3 h => ?_))
  obtain ⟨w4, rfl, rfl, h⟩ := h
  show WA mX10_lastOf 1 (0, 0) 9 [(2, v0), (0, v1), (0, v2), (0, v3)] [(0, w4), (0, v3)] L μ3 Q
  refine wa_icmp_ge 12 33 dX10_lastOf_9 rfl (by decide) (fun q => ?_) (fun q => ?_)
  · replace h := h.1 q
    refine wa_iload_n 34 dX10_lastOf_33 rfl rfl ?_
    exact wa_iret dX10_lastOf_34 rfl h
  · replace h := h.2 q
    refine wa_iload_n 13 dX10_lastOf_12 rfl rfl ?_
    refine wa_iload_n 14 dX10_lastOf_13 rfl rfl ?_
    refine wa_ishr 15 dX10_lastOf_14 rfl ?_
    refine wa_iconst 16 dX10_lastOf_15 rfl (by decide) ?_
    refine wa_iand 17 dX10_lastOf_16 rfl ?_
    refine wa_iconst 18 dX10_lastOf_17 rfl (by decide) ?_
    refine wa_icmp_ne 21 25 dX10_lastOf_18 rfl (by decide) (fun q => ?_) (fun q => ?_)
    · replace h := h.1 q
      refine wa_iload_n 26 dX10_lastOf_25 rfl rfl ?_
      refine wa_istore_n 27 [(2, v0), (0, v1), (0, v2), (0, v3)] dX10_lastOf_26 rfl rfl rfl ?_
      obtain ⟨c5, h⟩ := h
      refine wa_iinc 30 [(2, v0), (0, v1), (0, v2), (0, (v3 + 1))] dX10_lastOf_27 rfl rfl rfl c5 rfl ?_
      refine wa_goto 4 dX10_lastOf_30 (by decide) ?_
      exact h
    · replace h := h.2 q
      refine wa_iload_n 22 dX10_lastOf_21 rfl rfl ?_
      refine wa_goto 26 dX10_lastOf_22 (by decide) ?_
      refine wa_istore_n 27 [(2, v0), (0, v1), (0, v3), (0, v3)] dX10_lastOf_26 rfl rfl rfl ?_
      obtain ⟨c6, h⟩ := h
      refine wa_iinc 30 [(2, v0), (0, v1), (0, v3), (0, (v3 + 1))] dX10_lastOf_27 rfl rfl rfl c6 rfl ?_
      refine wa_goto 4 dX10_lastOf_30 (by decide) ?_
      exact h
set_option maxRecDepth 20000 in
theorem t_X10_lays (hL : LayOK L) {v0 v1 v2 v4 v6 v8 : Int} (k0 : isK L v0 (10, 0)) (h : (0 ≤ (μ v0 18) ∧ (μ v0 18) < 10) ∧ (inI (4 * ((up μ ((rf L v0 16)) ((μ v0 18)) v1) v0 18))) ∧ (0 ≤ (4 * ((up μ ((rf L v0 16)) ((μ v0 18)) v1) v0 18)) ∧ (4 * ((up μ ((rf L v0 16)) ((μ v0 18)) v1) v0 18)) < 40) ∧ (inI (4 * ((up (up μ ((rf L v0 16)) ((μ v0 18)) v1) ((rf L v0 17)) ((4 * ((up μ ((rf L v0 16)) ((μ v0 18)) v1) v0 18))) v2) v0 18))) ∧ (inI ((4 * ((up (up μ ((rf L v0 16)) ((μ v0 18)) v1) ((rf L v0 17)) ((4 * ((up μ ((rf L v0 16)) ((μ v0 18)) v1) v0 18))) v2) v0 18)) + 1)) ∧ (0 ≤ ((4 * ((up (up μ ((rf L v0 16)) ((μ v0 18)) v1) ((rf L v0 17)) ((4 * ((up μ ((rf L v0 16)) ((μ v0 18)) v1) v0 18))) v2) v0 18)) + 1) ∧ ((4 * ((up (up μ ((rf L v0 16)) ((μ v0 18)) v1) ((rf L v0 17)) ((4 * ((up μ ((rf L v0 16)) ((μ v0 18)) v1) v0 18))) v2) v0 18)) + 1) < 40) ∧ (inI (4 * ((up (up (up μ ((rf L v0 16)) ((μ v0 18)) v1) ((rf L v0 17)) ((4 * ((up μ ((rf L v0 16)) ((μ v0 18)) v1) v0 18))) v2) ((rf L v0 17)) (((4 * ((up (up μ ((rf L v0 16)) ((μ v0 18)) v1) ((rf L v0 17)) ((4 * ((up μ ((rf L v0 16)) ((μ v0 18)) v1) v0 18))) v2) v0 18)) + 1)) v4) v0 18))) ∧ (inI ((4 * ((up (up (up μ ((rf L v0 16)) ((μ v0 18)) v1) ((rf L v0 17)) ((4 * ((up μ ((rf L v0 16)) ((μ v0 18)) v1) v0 18))) v2) ((rf L v0 17)) (((4 * ((up (up μ ((rf L v0 16)) ((μ v0 18)) v1) ((rf L v0 17)) ((4 * ((up μ ((rf L v0 16)) ((μ v0 18)) v1) v0 18))) v2) v0 18)) + 1)) v4) v0 18)) + 2)) ∧ (0 ≤ ((4 * ((up (up (up μ ((rf L v0 16)) ((μ v0 18)) v1) ((rf L v0 17)) ((4 * ((up μ ((rf L v0 16)) ((μ v0 18)) v1) v0 18))) v2) ((rf L v0 17)) (((4 * ((up (up μ ((rf L v0 16)) ((μ v0 18)) v1) ((rf L v0 17)) ((4 * ((up μ ((rf L v0 16)) ((μ v0 18)) v1) v0 18))) v2) v0 18)) + 1)) v4) v0 18)) + 2) ∧ ((4 * ((up (up (up μ ((rf L v0 16)) ((μ v0 18)) v1) ((rf L v0 17)) ((4 * ((up μ ((rf L v0 16)) ((μ v0 18)) v1) v0 18))) v2) ((rf L v0 17)) (((4 * ((up (up μ ((rf L v0 16)) ((μ v0 18)) v1) ((rf L v0 17)) ((4 * ((up μ ((rf L v0 16)) ((μ v0 18)) v1) v0 18))) v2) v0 18)) + 1)) v4) v0 18)) + 2) < 40) ∧ (inI (4 * ((up (up (up (up μ ((rf L v0 16)) ((μ v0 18)) v1) ((rf L v0 17)) ((4 * ((up μ ((rf L v0 16)) ((μ v0 18)) v1) v0 18))) v2) ((rf L v0 17)) (((4 * ((up (up μ ((rf L v0 16)) ((μ v0 18)) v1) ((rf L v0 17)) ((4 * ((up μ ((rf L v0 16)) ((μ v0 18)) v1) v0 18))) v2) v0 18)) + 1)) v4) ((rf L v0 17)) (((4 * ((up (up (up μ ((rf L v0 16)) ((μ v0 18)) v1) ((rf L v0 17)) ((4 * ((up μ ((rf L v0 16)) ((μ v0 18)) v1) v0 18))) v2) ((rf L v0 17)) (((4 * ((up (up μ ((rf L v0 16)) ((μ v0 18)) v1) ((rf L v0 17)) ((4 * ((up μ ((rf L v0 16)) ((μ v0 18)) v1) v0 18))) v2) v0 18)) + 1)) v4) v0 18)) + 2)) v6) v0 18))) ∧ (inI ((4 * ((up (up (up (up μ ((rf L v0 16)) ((μ v0 18)) v1) ((rf L v0 17)) ((4 * ((up μ ((rf L v0 16)) ((μ v0 18)) v1) v0 18))) v2) ((rf L v0 17)) (((4 * ((up (up μ ((rf L v0 16)) ((μ v0 18)) v1) ((rf L v0 17)) ((4 * ((up μ ((rf L v0 16)) ((μ v0 18)) v1) v0 18))) v2) v0 18)) + 1)) v4) ((rf L v0 17)) (((4 * ((up (up (up μ ((rf L v0 16)) ((μ v0 18)) v1) ((rf L v0 17)) ((4 * ((up μ ((rf L v0 16)) ((μ v0 18)) v1) v0 18))) v2) ((rf L v0 17)) (((4 * ((up (up μ ((rf L v0 16)) ((μ v0 18)) v1) ((rf L v0 17)) ((4 * ((up μ ((rf L v0 16)) ((μ v0 18)) v1) v0 18))) v2) v0 18)) + 1)) v4) v0 18)) + 2)) v6) v0 18)) + 3)) ∧ (0 ≤ ((4 * ((up (up (up (up μ ((rf L v0 16)) ((μ v0 18)) v1) ((rf L v0 17)) ((4 * ((up μ ((rf L v0 16)) ((μ v0 18)) v1) v0 18))) v2) ((rf L v0 17)) (((4 * ((up (up μ ((rf L v0 16)) ((μ v0 18)) v1) ((rf L v0 17)) ((4 * ((up μ ((rf L v0 16)) ((μ v0 18)) v1) v0 18))) v2) v0 18)) + 1)) v4) ((rf L v0 17)) (((4 * ((up (up (up μ ((rf L v0 16)) ((μ v0 18)) v1) ((rf L v0 17)) ((4 * ((up μ ((rf L v0 16)) ((μ v0 18)) v1) v0 18))) v2) ((rf L v0 17)) (((4 * ((up (up μ ((rf L v0 16)) ((μ v0 18)) v1) ((rf L v0 17)) ((4 * ((up μ ((rf L v0 16)) ((μ v0 18)) v1) v0 18))) v2) v0 18)) + 1)) v4) v0 18)) + 2)) v6) v0 18)) + 3) ∧ ((4 * ((up (up (up (up μ ((rf L v0 16)) ((μ v0 18)) v1) ((rf L v0 17)) ((4 * ((up μ ((rf L v0 16)) ((μ v0 18)) v1) v0 18))) v2) ((rf L v0 17)) (((4 * ((up (up μ ((rf L v0 16)) ((μ v0 18)) v1) ((rf L v0 17)) ((4 * ((up μ ((rf L v0 16)) ((μ v0 18)) v1) v0 18))) v2) v0 18)) + 1)) v4) ((rf L v0 17)) (((4 * ((up (up (up μ ((rf L v0 16)) ((μ v0 18)) v1) ((rf L v0 17)) ((4 * ((up μ ((rf L v0 16)) ((μ v0 18)) v1) v0 18))) v2) ((rf L v0 17)) (((4 * ((up (up μ ((rf L v0 16)) ((μ v0 18)) v1) ((rf L v0 17)) ((4 * ((up μ ((rf L v0 16)) ((μ v0 18)) v1) v0 18))) v2) v0 18)) + 1)) v4) v0 18)) + 2)) v6) v0 18)) + 3) < 40) ∧ (inI (((up (up (up (up (up μ ((rf L v0 16)) ((μ v0 18)) v1) ((rf L v0 17)) ((4 * ((up μ ((rf L v0 16)) ((μ v0 18)) v1) v0 18))) v2) ((rf L v0 17)) (((4 * ((up (up μ ((rf L v0 16)) ((μ v0 18)) v1) ((rf L v0 17)) ((4 * ((up μ ((rf L v0 16)) ((μ v0 18)) v1) v0 18))) v2) v0 18)) + 1)) v4) ((rf L v0 17)) (((4 * ((up (up (up μ ((rf L v0 16)) ((μ v0 18)) v1) ((rf L v0 17)) ((4 * ((up μ ((rf L v0 16)) ((μ v0 18)) v1) v0 18))) v2) ((rf L v0 17)) (((4 * ((up (up μ ((rf L v0 16)) ((μ v0 18)) v1) ((rf L v0 17)) ((4 * ((up μ ((rf L v0 16)) ((μ v0 18)) v1) v0 18))) v2) v0 18)) + 1)) v4) v0 18)) + 2)) v6) ((rf L v0 17)) (((4 * ((up (up (up (up μ ((rf L v0 16)) ((μ v0 18)) v1) ((rf L v0 17)) ((4 * ((up μ ((rf L v0 16)) ((μ v0 18)) v1) v0 18))) v2) ((rf L v0 17)) (((4 * ((up (up μ ((rf L v0 16)) ((μ v0 18)) v1) ((rf L v0 17)) ((4 * ((up μ ((rf L v0 16)) ((μ v0 18)) v1) v0 18))) v2) v0 18)) + 1)) v4) ((rf L v0 17)) (((4 * ((up (up (up μ ((rf L v0 16)) ((μ v0 18)) v1) ((rf L v0 17)) ((4 * ((up μ ((rf L v0 16)) ((μ v0 18)) v1) v0 18))) v2) ((rf L v0 17)) (((4 * ((up (up μ ((rf L v0 16)) ((μ v0 18)) v1) ((rf L v0 17)) ((4 * ((up μ ((rf L v0 16)) ((μ v0 18)) v1) v0 18))) v2) v0 18)) + 1)) v4) v0 18)) + 2)) v6) v0 18)) + 3)) v8) v0 18) + 1)) ∧ Q none L (up (up (up (up (up (up μ ((rf L v0 16)) ((μ v0 18)) v1) ((rf L v0 17)) ((4 * ((up μ ((rf L v0 16)) ((μ v0 18)) v1) v0 18))) v2) ((rf L v0 17)) (((4 * ((up (up μ ((rf L v0 16)) ((μ v0 18)) v1) ((rf L v0 17)) ((4 * ((up μ ((rf L v0 16)) ((μ v0 18)) v1) v0 18))) v2) v0 18)) + 1)) v4) ((rf L v0 17)) (((4 * ((up (up (up μ ((rf L v0 16)) ((μ v0 18)) v1) ((rf L v0 17)) ((4 * ((up μ ((rf L v0 16)) ((μ v0 18)) v1) v0 18))) v2) ((rf L v0 17)) (((4 * ((up (up μ ((rf L v0 16)) ((μ v0 18)) v1) ((rf L v0 17)) ((4 * ((up μ ((rf L v0 16)) ((μ v0 18)) v1) v0 18))) v2) v0 18)) + 1)) v4) v0 18)) + 2)) v6) ((rf L v0 17)) (((4 * ((up (up (up (up μ ((rf L v0 16)) ((μ v0 18)) v1) ((rf L v0 17)) ((4 * ((up μ ((rf L v0 16)) ((μ v0 18)) v1) v0 18))) v2) ((rf L v0 17)) (((4 * ((up (up μ ((rf L v0 16)) ((μ v0 18)) v1) ((rf L v0 17)) ((4 * ((up μ ((rf L v0 16)) ((μ v0 18)) v1) v0 18))) v2) v0 18)) + 1)) v4) ((rf L v0 17)) (((4 * ((up (up (up μ ((rf L v0 16)) ((μ v0 18)) v1) ((rf L v0 17)) ((4 * ((up μ ((rf L v0 16)) ((μ v0 18)) v1) v0 18))) v2) ((rf L v0 17)) (((4 * ((up (up μ ((rf L v0 16)) ((μ v0 18)) v1) ((rf L v0 17)) ((4 * ((up μ ((rf L v0 16)) ((μ v0 18)) v1) v0 18))) v2) v0 18)) + 1)) v4) v0 18)) + 2)) v6) v0 18)) + 3)) v8) v0 18 ((((up (up (up (up (up μ ((rf L v0 16)) ((μ v0 18)) v1) ((rf L v0 17)) ((4 * ((up μ ((rf L v0 16)) ((μ v0 18)) v1) v0 18))) v2) ((rf L v0 17)) (((4 * ((up (up μ ((rf L v0 16)) ((μ v0 18)) v1) ((rf L v0 17)) ((4 * ((up μ ((rf L v0 16)) ((μ v0 18)) v1) v0 18))) v2) v0 18)) + 1)) v4) ((rf L v0 17)) (((4 * ((up (up (up μ ((rf L v0 16)) ((μ v0 18)) v1) ((rf L v0 17)) ((4 * ((up μ ((rf L v0 16)) ((μ v0 18)) v1) v0 18))) v2) ((rf L v0 17)) (((4 * ((up (up μ ((rf L v0 16)) ((μ v0 18)) v1) ((rf L v0 17)) ((4 * ((up μ ((rf L v0 16)) ((μ v0 18)) v1) v0 18))) v2) v0 18)) + 1)) v4) v0 18)) + 2)) v6) ((rf L v0 17)) (((4 * ((up (up (up (up μ ((rf L v0 16)) ((μ v0 18)) v1) ((rf L v0 17)) ((4 * ((up μ ((rf L v0 16)) ((μ v0 18)) v1) v0 18))) v2) ((rf L v0 17)) (((4 * ((up (up μ ((rf L v0 16)) ((μ v0 18)) v1) ((rf L v0 17)) ((4 * ((up μ ((rf L v0 16)) ((μ v0 18)) v1) v0 18))) v2) v0 18)) + 1)) v4) ((rf L v0 17)) (((4 * ((up (up (up μ ((rf L v0 16)) ((μ v0 18)) v1) ((rf L v0 17)) ((4 * ((up μ ((rf L v0 16)) ((μ v0 18)) v1) v0 18))) v2) ((rf L v0 17)) (((4 * ((up (up μ ((rf L v0 16)) ((μ v0 18)) v1) ((rf L v0 17)) ((4 * ((up μ ((rf L v0 16)) ((μ v0 18)) v1) v0 18))) v2) v0 18)) + 1)) v4) v0 18)) + 2)) v6) v0 18)) + 3)) v8) v0 18) + 1)))) : TR mX10_lays 0 (0, 0) [(2, v0), (0, v1), (1, v2), (1, v4), (1, v6), (1, v8)] L μ Q := by
  refine TR.of (ls := [(2, v0), (0, v1), (1, v2), (9, 0), (1, v4), (9, 0), (1, v6), (9, 0), (1, v8), (9, 0)]) (by decide) (by simp) rfl (Nat.le_of_ble_eq_true rfl) ?_
  refine wa_aload_n 1 dX10_lays_0 rfl rfl ?_
  have e1 : isK L (rf L v0 16) (20, 10) := lay_f hL k0 16 rfl
  refine wa_getR 4 16 dX10_lays_1 rfl wF_X10_31 rfl rfl ⟨k0, isK_pos e1⟩ ?_
  refine wa_aload_n 5 dX10_lays_4 rfl rfl ?_
  refine wa_getI 8 18 dX10_lays_5 rfl wF_X10_266 rfl rfl k0 ?_
  refine wa_iload_n 9 dX10_lays_8 rfl rfl ?_
  obtain ⟨c2, h⟩ := h
  refine wa_iastore 10 dX10_lays_9 rfl (okA_of e1 c2) ?_
  refine wa_aload_n 11 dX10_lays_10 rfl rfl ?_
  have e3 : isK L (rf L v0 17) (21, 40) := lay_f hL k0 17 rfl
  refine wa_getR 14 17 dX10_lays_11 rfl wF_X10_34 rfl rfl ⟨k0, isK_pos e3⟩ ?_
  refine wa_iconst 15 dX10_lays_14 rfl (by decide) ?_
  refine wa_aload_n 16 dX10_lays_15 rfl rfl ?_
  refine wa_getI 19 18 dX10_lays_16 rfl wF_X10_266 rfl rfl k0 ?_
  obtain ⟨c4, h⟩ := h
  refine wa_imul 20 dX10_lays_19 rfl c4 ?_
  refine wa_lload_n 21 dX10_lays_20 rfl rfl ?_
  obtain ⟨c5, h⟩ := h
  refine wa_lastore 22 dX10_lays_21 rfl (okA_of e3 c5) ?_
  refine wa_aload_n 23 dX10_lays_22 rfl rfl ?_
  refine wa_getR 26 17 dX10_lays_23 rfl wF_X10_34 rfl rfl ⟨k0, isK_pos e3⟩ ?_
  refine wa_iconst 27 dX10_lays_26 rfl (by decide) ?_
  refine wa_aload_n 28 dX10_lays_27 rfl rfl ?_
  refine wa_getI 31 18 dX10_lays_28 rfl wF_X10_266 rfl rfl k0 ?_
  obtain ⟨c6, h⟩ := h
  refine wa_imul 32 dX10_lays_31 rfl c6 ?_
  refine wa_iconst 33 dX10_lays_32 rfl (by decide) ?_
  obtain ⟨c7, h⟩ := h
  refine wa_iadd 34 dX10_lays_33 rfl c7 ?_
  refine wa_lload 36 dX10_lays_34 rfl rfl ?_
  obtain ⟨c8, h⟩ := h
  refine wa_lastore 37 dX10_lays_36 rfl (okA_of e3 c8) ?_
  refine wa_aload_n 38 dX10_lays_37 rfl rfl ?_
  refine wa_getR 41 17 dX10_lays_38 rfl wF_X10_34 rfl rfl ⟨k0, isK_pos e3⟩ ?_
  refine wa_iconst 42 dX10_lays_41 rfl (by decide) ?_
  refine wa_aload_n 43 dX10_lays_42 rfl rfl ?_
  refine wa_getI 46 18 dX10_lays_43 rfl wF_X10_266 rfl rfl k0 ?_
  obtain ⟨c9, h⟩ := h
  refine wa_imul 47 dX10_lays_46 rfl c9 ?_
  refine wa_iconst 48 dX10_lays_47 rfl (by decide) ?_
  obtain ⟨c10, h⟩ := h
  refine wa_iadd 49 dX10_lays_48 rfl c10 ?_
  refine wa_lload 51 dX10_lays_49 rfl rfl ?_
  obtain ⟨c11, h⟩ := h
  refine wa_lastore 52 dX10_lays_51 rfl (okA_of e3 c11) ?_
  refine wa_aload_n 53 dX10_lays_52 rfl rfl ?_
  refine wa_getR 56 17 dX10_lays_53 rfl wF_X10_34 rfl rfl ⟨k0, isK_pos e3⟩ ?_
  refine wa_iconst 57 dX10_lays_56 rfl (by decide) ?_
  refine wa_aload_n 58 dX10_lays_57 rfl rfl ?_
  refine wa_getI 61 18 dX10_lays_58 rfl wF_X10_266 rfl rfl k0 ?_
  obtain ⟨c12, h⟩ := h
  refine wa_imul 62 dX10_lays_61 rfl c12 ?_
  refine wa_iconst 63 dX10_lays_62 rfl (by decide) ?_
  obtain ⟨c13, h⟩ := h
  refine wa_iadd 64 dX10_lays_63 rfl c13 ?_
  refine wa_lload 66 dX10_lays_64 rfl rfl ?_
  obtain ⟨c14, h⟩ := h
  refine wa_lastore 67 dX10_lays_66 rfl (okA_of e3 c14) ?_
  refine wa_aload_n 68 dX10_lays_67 rfl rfl ?_
  refine wa_dup 69 dX10_lays_68 rfl (Or.inr rfl) ?_
  refine wa_getI 72 18 dX10_lays_69 rfl wF_X10_266 rfl rfl k0 ?_
  refine wa_iconst 73 dX10_lays_72 rfl (by decide) ?_
  obtain ⟨c15, h⟩ := h
  refine wa_iadd 74 dX10_lays_73 rfl c15 ?_
  refine wa_putN 77 18 dX10_lays_74 rfl wF_X10_266 rfl rfl k0 ?_
  exact wa_vret dX10_lays_77 rfl h
set_option maxRecDepth 20000 in
theorem t_X10_leastOf (hL : LayOK L) {v0 v1 : Int} (k0 : isK L v0 (10, 0)) (h : WA mX10_leastOf 2 (0, 0) 4 [(2, v0), (0, v1), (0, (-1)), (0, 0), (9, 0), (9, 0)] [] L μ Q) : TR mX10_leastOf 2 (0, 0) [(2, v0), (0, v1)] L μ Q := by
  refine TR.of (ls := [(2, v0), (0, v1), (9, 0), (9, 0), (9, 0), (9, 0)]) (by decide) (by simp) rfl (Nat.le_of_ble_eq_true rfl) ?_
  refine wa_iconst 1 dX10_leastOf_0 rfl (by decide) ?_
  refine wa_istore_n 2 [(2, v0), (0, v1), (0, (-1)), (9, 0), (9, 0), (9, 0)] dX10_leastOf_1 rfl rfl rfl ?_
  refine wa_iconst 3 dX10_leastOf_2 rfl (by decide) ?_
  refine wa_istore_n 4 [(2, v0), (0, v1), (0, (-1)), (0, 0), (9, 0), (9, 0)] dX10_leastOf_3 rfl rfl rfl ?_
  exact h
set_option maxRecDepth 20000 in
theorem s_X10_leastOf_4 (hL : LayOK L) {v0 v1 v2 v3 : Int} (k0 : isK L v0 (10, 0)) (h : TR mX10_agents 0 (0, 0) [(2, v0)] L μ (fun r1 L2 μ3 => ∃ w4, r1 = some (0, w4) ∧ L = L2 ∧ (w4 ≤ v3 → Q (some (0, v2)) L μ3) ∧ (¬ w4 ≤ v3 → TR mX10_ordered 1 (0, 0) [(2, v0), (0, v3)] L μ3 (fun r5 L6 μ7 => ∃ w8, r5 = some (0, w8) ∧ L = L6 ∧ (¬ (bAnd ((bShr v1 w8)) 1) = 1 → WA mX10_leastOf 2 (0, 0) 70 [(2, v0), (0, v1), (0, v2), (0, v3), (0, w8), (9, 0)] [(0, 0)] L μ7 Q) ∧ ((bAnd ((bShr v1 w8)) 1) = 1 → (v2 < 0 → WA mX10_leastOf 2 (0, 0) 70 [(2, v0), (0, v1), (0, v2), (0, v3), (0, w8), (9, 0)] [(0, 1)] L μ7 Q) ∧ (¬ v2 < 0 → (0 ≤ w8 ∧ w8 < 5) ∧ (0 ≤ v2 ∧ v2 < 5) ∧ TR mX10_isLess 0 (0, 0) [(1, (μ7 ((rf L v0 13)) w8)), (1, (μ7 ((rf L v0 14)) w8)), (1, (μ7 ((rf L v0 13)) v2)), (1, (μ7 ((rf L v0 14)) v2))] L μ7 (fun r13 L14 μ15 => ∃ w16, r13 = some (0, w16) ∧ L = L14 ∧ (w16 = 0 → WA mX10_leastOf 2 (0, 0) 70 [(2, v0), (0, v1), (0, v2), (0, v3), (0, w8), (9, 0)] [(0, 0)] L μ15 Q) ∧ (¬ w16 = 0 → WA mX10_leastOf 2 (0, 0) 70 [(2, v0), (0, v1), (0, v2), (0, v3), (0, w8), (9, 0)] [(0, 1)] L μ15 Q)))))))) : WA mX10_leastOf 2 (0, 0) 4 [(2, v0), (0, v1), (0, v2), (0, v3), (9, 0), (9, 0)] [] L μ Q := by
  refine wa_iload_n 5 dX10_leastOf_4 rfl rfl ?_
  refine wa_aload_n 6 dX10_leastOf_5 rfl rfl ?_
  refine wa_callV 9 0 0 10 (av := []) (rest := [(0, v3)]) (k1 := (0, 0)) (k2 := (0, 0)) cvX10_agents dX10_leastOf_6 rfl wM_X10_75 ⟨rfl, by decide, rfl, Nat.le_of_ble_eq_true rfl, by decide, Nat.le_of_ble_eq_true rfl, rfl, rfl⟩ rfl k0 (TR.mono h (fun r1 L2 μ3 h => ?_))
  obtain ⟨w4, rfl, rfl, h⟩ := h
  show WA mX10_leastOf 2 (0, 0) 9 [(2, v0), (0, v1), (0, v2), (0, v3), (9, 0), (9, 0)] [(0, w4), (0, v3)] L μ3 Q
  refine wa_icmp_ge 12 90 dX10_leastOf_9 rfl (by decide) (fun q => ?_) (fun q => ?_)
  · replace h := h.1 q
    refine wa_iload_n 91 dX10_leastOf_90 rfl rfl ?_
    exact wa_iret dX10_leastOf_91 rfl h
  · replace h := h.2 q
    refine wa_aload_n 13 dX10_leastOf_12 rfl rfl ?_
    refine wa_iload_n 14 dX10_leastOf_13 rfl rfl ?_
    refine wa_callV 17 1 1 10 (av := [(0, v3)]) (rest := []) (k1 := (0, 0)) (k2 := (0, 0)) cvX10_ordered dX10_leastOf_14 rfl wM_X10_242 ⟨rfl, by decide, rfl, Nat.le_of_ble_eq_true rfl, by decide, Nat.le_of_ble_eq_true rfl, rfl, rfl⟩ rfl k0 (TR.mono h (fun r5 L6 μ7 h => ?_))
    obtain ⟨w8, rfl, rfl, h⟩ := h
    show WA mX10_leastOf 2 (0, 0) 17 [(2, v0), (0, v1), (0, v2), (0, v3), (9, 0), (9, 0)] [(0, w8)] L μ7 Q
    refine wa_istore 19 [(2, v0), (0, v1), (0, v2), (0, v3), (0, w8), (9, 0)] dX10_leastOf_17 rfl rfl rfl ?_
    refine wa_iload_n 20 dX10_leastOf_19 rfl rfl ?_
    refine wa_iload 22 dX10_leastOf_20 rfl rfl ?_
    refine wa_ishr 23 dX10_leastOf_22 rfl ?_
    refine wa_iconst 24 dX10_leastOf_23 rfl (by decide) ?_
    refine wa_iand 25 dX10_leastOf_24 rfl ?_
    refine wa_iconst 26 dX10_leastOf_25 rfl (by decide) ?_
    refine wa_icmp_ne 29 69 dX10_leastOf_26 rfl (by decide) (fun q => ?_) (fun q => ?_)
    · replace h := h.1 q
      refine wa_iconst 70 dX10_leastOf_69 rfl (by decide) ?_
      exact h
    · replace h := h.2 q
      refine wa_iload_n 30 dX10_leastOf_29 rfl rfl ?_
      refine wa_if_lt 33 65 dX10_leastOf_30 rfl (by decide) (fun q => ?_) (fun q => ?_)
      · replace h := h.1 q
        refine wa_iconst 66 dX10_leastOf_65 rfl (by decide) ?_
        refine wa_goto 70 dX10_leastOf_66 (by decide) ?_
        exact h
      · replace h := h.2 q
        refine wa_aload_n 34 dX10_leastOf_33 rfl rfl ?_
        have e9 : isK L (rf L v0 13) (21, 5) := lay_f hL k0 13 rfl
        refine wa_getR 37 13 dX10_leastOf_34 rfl wF_X10_25 rfl rfl ⟨k0, isK_pos e9⟩ ?_
        refine wa_iload 39 dX10_leastOf_37 rfl rfl ?_
        obtain ⟨c10, h⟩ := h
        refine wa_laload 40 dX10_leastOf_39 rfl (okA_of e9 c10) ?_
        refine wa_aload_n 41 dX10_leastOf_40 rfl rfl ?_
        have e11 : isK L (rf L v0 14) (21, 5) := lay_f hL k0 14 rfl
        refine wa_getR 44 14 dX10_leastOf_41 rfl wF_X10_28 rfl rfl ⟨k0, isK_pos e11⟩ ?_
        refine wa_iload 46 dX10_leastOf_44 rfl rfl ?_
        refine wa_laload 47 dX10_leastOf_46 rfl (okA_of e11 c10) ?_
        refine wa_aload_n 48 dX10_leastOf_47 rfl rfl ?_
        refine wa_getR 51 13 dX10_leastOf_48 rfl wF_X10_25 rfl rfl ⟨k0, isK_pos e9⟩ ?_
        refine wa_iload_n 52 dX10_leastOf_51 rfl rfl ?_
        obtain ⟨c12, h⟩ := h
        refine wa_laload 53 dX10_leastOf_52 rfl (okA_of e9 c12) ?_
        refine wa_aload_n 54 dX10_leastOf_53 rfl rfl ?_
        refine wa_getR 57 14 dX10_leastOf_54 rfl wF_X10_28 rfl rfl ⟨k0, isK_pos e11⟩ ?_
        refine wa_iload_n 58 dX10_leastOf_57 rfl rfl ?_
        refine wa_laload 59 dX10_leastOf_58 rfl (okA_of e11 c12) ?_
        refine wa_callS 62 0 4 (av := [(1, (μ7 ((rf L v0 13)) w8)), (1, (μ7 ((rf L v0 14)) w8)), (1, (μ7 ((rf L v0 13)) v2)), (1, (μ7 ((rf L v0 14)) v2))]) (rest := []) (k1 := (0, 0)) (k2 := (0, 0)) cvX10_isLess dX10_leastOf_59 rfl wM_X10_199 ⟨rfl, Nat.le_of_ble_eq_true rfl, by decide, Nat.le_of_ble_eq_true rfl, rfl, rfl⟩ rfl (TR.mono h (fun r13 L14 μ15 h => ?_))
        obtain ⟨w16, rfl, rfl, h⟩ := h
        show WA mX10_leastOf 2 (0, 0) 62 [(2, v0), (0, v1), (0, v2), (0, v3), (0, w8), (9, 0)] [(0, w16)] L μ15 Q
        refine wa_if_eq 65 69 dX10_leastOf_62 rfl (by decide) (fun q => ?_) (fun q => ?_)
        · replace h := h.1 q
          refine wa_iconst 70 dX10_leastOf_69 rfl (by decide) ?_
          exact h
        · replace h := h.2 q
          refine wa_iconst 66 dX10_leastOf_65 rfl (by decide) ?_
          refine wa_goto 70 dX10_leastOf_66 (by decide) ?_
          exact h
set_option maxRecDepth 20000 in
theorem s_X10_leastOf_70 (hL : LayOK L) {v0 v1 v2 v3 v4 s0 : Int} (k0 : isK L v0 (10, 0)) (h : (s0 = 0 → (inI (v3 + 1)) ∧ WA mX10_leastOf 2 (0, 0) 4 [(2, v0), (0, v1), (0, v2), (0, (v3 + 1)), (9, 0), (9, 0)] [] L μ Q) ∧ (¬ s0 = 0 → (inI (v3 + 1)) ∧ WA mX10_leastOf 2 (0, 0) 4 [(2, v0), (0, v1), (0, v4), (0, (v3 + 1)), (9, 0), (9, 0)] [] L μ Q)) : WA mX10_leastOf 2 (0, 0) 70 [(2, v0), (0, v1), (0, v2), (0, v3), (0, v4), (9, 0)] [(0, s0)] L μ Q := by
  refine wa_istore 72 [(2, v0), (0, v1), (0, v2), (0, v3), (0, v4), (0, s0)] dX10_leastOf_70 rfl rfl rfl ?_
  refine wa_iload 74 dX10_leastOf_72 rfl rfl ?_
  refine wa_if_eq 77 82 dX10_leastOf_74 rfl (by decide) (fun q => ?_) (fun q => ?_)
  · replace h := h.1 q
    refine wa_iload_n 83 dX10_leastOf_82 rfl rfl ?_
    refine wa_istore_n 84 [(2, v0), (0, v1), (0, v2), (0, v3), (0, v4), (0, s0)] dX10_leastOf_83 rfl rfl rfl ?_
    obtain ⟨c1, h⟩ := h
    refine wa_iinc 87 [(2, v0), (0, v1), (0, v2), (0, (v3 + 1)), (0, v4), (0, s0)] dX10_leastOf_84 rfl rfl rfl c1 rfl ?_
    refine wa_goto 4 dX10_leastOf_87 (by decide) ?_
    exact wa_weak [(2, v0), (0, v1), (0, v2), (0, (v3 + 1)), (9, 0), (9, 0)] ⟨Or.inl rfl, Or.inl rfl, Or.inl rfl, Or.inl rfl, Or.inr rfl, Or.inr rfl, trivial⟩ h
  · replace h := h.2 q
    refine wa_iload 79 dX10_leastOf_77 rfl rfl ?_
    refine wa_goto 83 dX10_leastOf_79 (by decide) ?_
    refine wa_istore_n 84 [(2, v0), (0, v1), (0, v4), (0, v3), (0, v4), (0, s0)] dX10_leastOf_83 rfl rfl rfl ?_
    obtain ⟨c2, h⟩ := h
    refine wa_iinc 87 [(2, v0), (0, v1), (0, v4), (0, (v3 + 1)), (0, v4), (0, s0)] dX10_leastOf_84 rfl rfl rfl c2 rfl ?_
    refine wa_goto 4 dX10_leastOf_87 (by decide) ?_
    exact wa_weak [(2, v0), (0, v1), (0, v4), (0, (v3 + 1)), (9, 0), (9, 0)] ⟨Or.inl rfl, Or.inl rfl, Or.inl rfl, Or.inl rfl, Or.inr rfl, Or.inr rfl, trivial⟩ h
set_option maxRecDepth 20000 in
theorem t_X10_lie (hL : LayOK L) {v0 v1 v2 v3 v4 : Int} (k0 : isK L v0 (10, 0)) (h : TR mX10_mayWay 2 (0, 0) [(2, v0), (0, v1), (0, v2)] L μ (fun r1 L2 μ3 => ∃ w4, r1 = some (0, w4) ∧ L = L2 ∧ (¬ w4 = 0 → Q (some (1, (-9223372036854775808))) L μ3) ∧ (w4 = 0 → TR mX10_isAgent 1 (0, 0) [(2, v0), (0, v3)] L μ3 (fun r5 L6 μ7 => ∃ w8, r5 = some (0, w8) ∧ L = L6 ∧ (w8 = 0 → Q (some (1, (-9223372036854775808))) L μ7) ∧ (¬ w8 = 0 → TR mX10_in 0 (0, 0) [(1, v4), (1, 0), (1, 2)] L μ7 (fun r9 L10 μ11 => ∃ w12, r9 = some (0, w12) ∧ L = L10 ∧ (w12 = 0 → Q (some (1, (-9223372036854775808))) L μ11) ∧ (¬ w12 = 0 → TR mX10_wouldBring 8 (0, 0) [(2, v0), (0, v1), (0, v2), (0, v3)] L μ11 (fun r13 L14 μ15 => ∃ w16, r13 = some (0, w16) ∧ L = L14 ∧ (¬ w16 = 0 → WA mX10_lie 9 (0, 0) 62 [(2, v0), (0, v1), (0, v2), (0, v3), (0, v4), (1, (μ15 v0 4)), (9, 0), (1, (μ15 v0 5)), (9, 0), (0, (-1)), (0, 0), (9, 0), (9, 0), (9, 0)] [] L μ15 Q) ∧ (w16 = 0 → Q (some (1, (-9223372036854775808))) L μ15))))))))) : TR mX10_lie 9 (0, 0) [(2, v0), (0, v1), (0, v2), (0, v3), (0, v4)] L μ Q := by
  refine TR.of (ls := [(2, v0), (0, v1), (0, v2), (0, v3), (0, v4), (9, 0), (9, 0), (9, 0), (9, 0), (9, 0), (9, 0), (9, 0), (9, 0), (9, 0)]) (by decide) (by simp) rfl (Nat.le_of_ble_eq_true rfl) ?_
  refine wa_aload_n 1 dX10_lie_0 rfl rfl ?_
  refine wa_iload_n 2 dX10_lie_1 rfl rfl ?_
  refine wa_iload_n 3 dX10_lie_2 rfl rfl ?_
  refine wa_callV 6 2 2 10 (av := [(0, v1), (0, v2)]) (rest := []) (k1 := (0, 0)) (k2 := (0, 0)) cvX10_mayWay dX10_lie_3 rfl wM_X10_318 ⟨rfl, by decide, rfl, Nat.le_of_ble_eq_true rfl, by decide, Nat.le_of_ble_eq_true rfl, rfl, rfl⟩ rfl k0 (TR.mono h (fun r1 L2 μ3 h => ?_))
  obtain ⟨w4, rfl, rfl, h⟩ := h
  show WA mX10_lie 9 (0, 0) 6 [(2, v0), (0, v1), (0, v2), (0, v3), (0, v4), (9, 0), (9, 0), (9, 0), (9, 0), (9, 0), (9, 0), (9, 0), (9, 0), (9, 0)] [(0, w4)] L μ3 Q
  refine wa_if_ne 9 40 dX10_lie_6 rfl (by decide) (fun q => ?_) (fun q => ?_)
  · replace h := h.1 q
    refine wa_ldc2 43 (-9223372036854775808) dX10_lie_40 rfl wJ_X10_116 ⟨rfl, by decide⟩ ?_
    exact wa_lret dX10_lie_43 rfl h
  · replace h := h.2 q
    refine wa_aload_n 10 dX10_lie_9 rfl rfl ?_
    refine wa_iload_n 11 dX10_lie_10 rfl rfl ?_
    refine wa_callV 14 1 1 10 (av := [(0, v3)]) (rest := []) (k1 := (0, 0)) (k2 := (0, 0)) cvX10_isAgent dX10_lie_11 rfl wM_X10_79 ⟨rfl, by decide, rfl, Nat.le_of_ble_eq_true rfl, by decide, Nat.le_of_ble_eq_true rfl, rfl, rfl⟩ rfl k0 (TR.mono h (fun r5 L6 μ7 h => ?_))
    obtain ⟨w8, rfl, rfl, h⟩ := h
    show WA mX10_lie 9 (0, 0) 14 [(2, v0), (0, v1), (0, v2), (0, v3), (0, v4), (9, 0), (9, 0), (9, 0), (9, 0), (9, 0), (9, 0), (9, 0), (9, 0), (9, 0)] [(0, w8)] L μ7 Q
    refine wa_if_eq 17 40 dX10_lie_14 rfl (by decide) (fun q => ?_) (fun q => ?_)
    · replace h := h.1 q
      refine wa_ldc2 43 (-9223372036854775808) dX10_lie_40 rfl wJ_X10_116 ⟨rfl, by decide⟩ ?_
      exact wa_lret dX10_lie_43 rfl h
    · replace h := h.2 q
      refine wa_iload 19 dX10_lie_17 rfl rfl ?_
      refine wa_i2l 20 dX10_lie_19 rfl ?_
      refine wa_lconst 21 0 dX10_lie_20 rfl ⟨rfl, by decide⟩ ?_
      refine wa_ldc2 24 2 dX10_lie_21 rfl wJ_X10_69 ⟨rfl, by decide⟩ ?_
      refine wa_callS 27 0 3 (av := [(1, v4), (1, 0), (1, 2)]) (rest := []) (k1 := (0, 0)) (k2 := (0, 0)) cvX10_in dX10_lie_24 rfl wM_X10_65 ⟨rfl, Nat.le_of_ble_eq_true rfl, by decide, Nat.le_of_ble_eq_true rfl, rfl, rfl⟩ rfl (TR.mono h (fun r9 L10 μ11 h => ?_))
      obtain ⟨w12, rfl, rfl, h⟩ := h
      show WA mX10_lie 9 (0, 0) 27 [(2, v0), (0, v1), (0, v2), (0, v3), (0, v4), (9, 0), (9, 0), (9, 0), (9, 0), (9, 0), (9, 0), (9, 0), (9, 0), (9, 0)] [(0, w12)] L μ11 Q
      refine wa_if_eq 30 40 dX10_lie_27 rfl (by decide) (fun q => ?_) (fun q => ?_)
      · replace h := h.1 q
        refine wa_ldc2 43 (-9223372036854775808) dX10_lie_40 rfl wJ_X10_116 ⟨rfl, by decide⟩ ?_
        exact wa_lret dX10_lie_43 rfl h
      · replace h := h.2 q
        refine wa_aload_n 31 dX10_lie_30 rfl rfl ?_
        refine wa_iload_n 32 dX10_lie_31 rfl rfl ?_
        refine wa_iload_n 33 dX10_lie_32 rfl rfl ?_
        refine wa_iload_n 34 dX10_lie_33 rfl rfl ?_
        refine wa_callV 37 8 3 10 (av := [(0, v1), (0, v2), (0, v3)]) (rest := []) (k1 := (0, 0)) (k2 := (0, 0)) cvX10_wouldBring dX10_lie_34 rfl wM_X10_351 ⟨rfl, by decide, rfl, Nat.le_of_ble_eq_true rfl, by decide, Nat.le_of_ble_eq_true rfl, rfl, rfl⟩ rfl k0 (TR.mono h (fun r13 L14 μ15 h => ?_))
        obtain ⟨w16, rfl, rfl, h⟩ := h
        show WA mX10_lie 9 (0, 0) 37 [(2, v0), (0, v1), (0, v2), (0, v3), (0, v4), (9, 0), (9, 0), (9, 0), (9, 0), (9, 0), (9, 0), (9, 0), (9, 0), (9, 0)] [(0, w16)] L μ15 Q
        refine wa_if_ne 40 44 dX10_lie_37 rfl (by decide) (fun q => ?_) (fun q => ?_)
        · replace h := h.1 q
          refine wa_aload_n 45 dX10_lie_44 rfl rfl ?_
          refine wa_getL 48 4 dX10_lie_45 rfl wF_X10_99 rfl rfl k0 ?_
          refine wa_lstore 50 [(2, v0), (0, v1), (0, v2), (0, v3), (0, v4), (1, (μ15 v0 4)), (9, 0), (9, 0), (9, 0), (9, 0), (9, 0), (9, 0), (9, 0), (9, 0)] dX10_lie_48 rfl rfl rfl ?_
          refine wa_aload_n 51 dX10_lie_50 rfl rfl ?_
          refine wa_getL 54 5 dX10_lie_51 rfl wF_X10_103 rfl rfl k0 ?_
          refine wa_lstore 56 [(2, v0), (0, v1), (0, v2), (0, v3), (0, v4), (1, (μ15 v0 4)), (9, 0), (1, (μ15 v0 5)), (9, 0), (9, 0), (9, 0), (9, 0), (9, 0), (9, 0)] dX10_lie_54 rfl rfl rfl ?_
          refine wa_iconst 57 dX10_lie_56 rfl (by decide) ?_
          refine wa_istore 59 [(2, v0), (0, v1), (0, v2), (0, v3), (0, v4), (1, (μ15 v0 4)), (9, 0), (1, (μ15 v0 5)), (9, 0), (0, (-1)), (9, 0), (9, 0), (9, 0), (9, 0)] dX10_lie_57 rfl rfl rfl ?_
          refine wa_iconst 60 dX10_lie_59 rfl (by decide) ?_
          refine wa_istore 62 [(2, v0), (0, v1), (0, v2), (0, v3), (0, v4), (1, (μ15 v0 4)), (9, 0), (1, (μ15 v0 5)), (9, 0), (0, (-1)), (0, 0), (9, 0), (9, 0), (9, 0)] dX10_lie_60 rfl rfl rfl ?_
          exact h
        · replace h := h.2 q
          refine wa_ldc2 43 (-9223372036854775808) dX10_lie_40 rfl wJ_X10_116 ⟨rfl, by decide⟩ ?_
          exact wa_lret dX10_lie_43 rfl h
set_option maxRecDepth 20000 in
theorem s_X10_lie_62 (hL : LayOK L) {v0 v1 v2 v3 v4 v5 v7 v9 v10 : Int} (k0 : isK L v0 (10, 0)) (h : TR mX10_strips 0 (0, 0) [(2, v0)] L μ (fun r1 L2 μ3 => ∃ w4, r1 = some (0, w4) ∧ L = L2 ∧ TR mX10_strips 0 (0, 0) [(2, v0)] L μ3 (fun r5 L6 μ7 => ∃ w8, r5 = some (0, w8) ∧ L = L6 ∧ (inI (w4 * w8)) ∧ ((w4 * w8) ≤ v10 → (0 ≤ v9 → (¬ v4 = 0 → (¬ v4 = 1 → Q (some (1, v7)) L μ7) ∧ (v4 = 1 → Q (some (1, v5)) L μ7)) ∧ (v4 = 0 → Q (some (1, v9)) L μ7)) ∧ (¬ 0 ≤ v9 → Q (some (1, (-9223372036854775808))) L μ7)) ∧ (¬ (w4 * w8) ≤ v10 → TR mX10_strips 0 (0, 0) [(2, v0)] L μ7 (fun r10 L11 μ12 => ∃ w13, r10 = some (0, w13) ∧ L = L11 ∧ (0 ≤ v10 ∧ 0 < w13) ∧ TR mX10_strips 0 (0, 0) [(2, v0)] L μ12 (fun r15 L16 μ17 => ∃ w18, r15 = some (0, w18) ∧ L = L16 ∧ (0 ≤ v10 ∧ 0 < w18) ∧ TR mX10_mayLie 1 (0, 0) [(2, v0), (0, v3), (0, (v10 / w13)), (0, (v10 % w18))] L μ17 (fun r20 L21 μ22 => ∃ w23, r20 = some (0, w23) ∧ L = L21 ∧ (w23 = 0 → (inI (v10 + 1)) ∧ WA mX10_lie 9 (0, 0) 62 [(2, v0), (0, v1), (0, v2), (0, v3), (0, v4), (1, v5), (9, 0), (1, v7), (9, 0), (0, v9), (0, (v10 + 1)), (9, 0), (9, 0), (9, 0)] [] L μ22 Q) ∧ (¬ w23 = 0 → TR mX10_tellsMore 0 (0, 0) [(2, v0), (0, v3), (0, (v10 / w13)), (0, (-1))] L μ22 (fun r25 L26 μ27 => r25 = none ∧ L = L26 ∧ TR mX10_tellsMore 0 (0, 0) [(2, v0), (0, v3), (0, (v10 % w18)), (0, 1)] L μ27 (fun r28 L29 μ30 => r28 = none ∧ L = L29 ∧ TR mX10_wouldBring 8 (0, 0) [(2, v0), (0, v1), (0, v2), (0, v3)] L μ30 (fun r31 L32 μ33 => ∃ w34, r31 = some (0, w34) ∧ L = L32 ∧ (w34 = 0 → WA mX10_lie 9 (0, 0) 155 [(2, v0), (0, v1), (0, v2), (0, v3), (0, v4), (1, v5), (9, 0), (1, v7), (9, 0), (0, v9), (0, v10), (0, (v10 / w13)), (0, (v10 % w18)), (9, 0)] [(0, 0)] L μ33 Q) ∧ (¬ w34 = 0 → TR mX10_isLess 0 (0, 0) [(1, v5), (1, v7), (1, (μ33 v0 4)), (1, (μ33 v0 5))] L μ33 (fun r35 L36 μ37 => ∃ w38, r35 = some (0, w38) ∧ L = L36 ∧ (w38 = 0 → WA mX10_lie 9 (0, 0) 155 [(2, v0), (0, v1), (0, v2), (0, v3), (0, v4), (1, v5), (9, 0), (1, v7), (9, 0), (0, v9), (0, v10), (0, (v10 / w13)), (0, (v10 % w18)), (9, 0)] [(0, 0)] L μ37 Q) ∧ (¬ w38 = 0 → WA mX10_lie 9 (0, 0) 155 [(2, v0), (0, v1), (0, v2), (0, v3), (0, v4), (1, v5), (9, 0), (1, v7), (9, 0), (0, v9), (0, v10), (0, (v10 / w13)), (0, (v10 % w18)), (9, 0)] [(0, 1)] L μ37 Q)))))))))))))) : WA mX10_lie 9 (0, 0) 62 [(2, v0), (0, v1), (0, v2), (0, v3), (0, v4), (1, v5), (9, 0), (1, v7), (9, 0), (0, v9), (0, v10), (9, 0), (9, 0), (9, 0)] [] L μ Q := by
  refine wa_iload 64 dX10_lie_62 rfl rfl ?_
  refine wa_aload_n 65 dX10_lie_64 rfl rfl ?_
  refine wa_callV 68 0 0 10 (av := []) (rest := [(0, v10)]) (k1 := (0, 0)) (k2 := (0, 0)) cvX10_strips dX10_lie_65 rfl wM_X10_92 ⟨rfl, by decide, rfl, Nat.le_of_ble_eq_true rfl, by decide, Nat.le_of_ble_eq_true rfl, rfl, rfl⟩ rfl k0 (TR.mono h (fun r1 L2 μ3 h => ?_))
  obtain ⟨w4, rfl, rfl, h⟩ := h
  show WA mX10_lie 9 (0, 0) 68 [(2, v0), (0, v1), (0, v2), (0, v3), (0, v4), (1, v5), (9, 0), (1, v7), (9, 0), (0, v9), (0, v10), (9, 0), (9, 0), (9, 0)] [(0, w4), (0, v10)] L μ3 Q
  refine wa_aload_n 69 dX10_lie_68 rfl rfl ?_
  refine wa_callV 72 0 0 10 (av := []) (rest := [(0, w4), (0, v10)]) (k1 := (0, 0)) (k2 := (0, 0)) cvX10_strips dX10_lie_69 rfl wM_X10_92 ⟨rfl, by decide, rfl, Nat.le_of_ble_eq_true rfl, by decide, Nat.le_of_ble_eq_true rfl, rfl, rfl⟩ rfl k0 (TR.mono h (fun r5 L6 μ7 h => ?_))
  obtain ⟨w8, rfl, rfl, h⟩ := h
  show WA mX10_lie 9 (0, 0) 72 [(2, v0), (0, v1), (0, v2), (0, v3), (0, v4), (1, v5), (9, 0), (1, v7), (9, 0), (0, v9), (0, v10), (9, 0), (9, 0), (9, 0)] [(0, w8), (0, w4), (0, v10)] L μ7 Q
  obtain ⟨c9, h⟩ := h
  refine wa_imul 73 dX10_lie_72 rfl c9 ?_
  refine wa_icmp_ge 76 231 dX10_lie_73 rfl (by decide) (fun q => ?_) (fun q => ?_)
  · replace h := h.1 q
    refine wa_iload 233 dX10_lie_231 rfl rfl ?_
    refine wa_if_ge 236 242 dX10_lie_233 rfl (by decide) (fun q => ?_) (fun q => ?_)
    · replace h := h.1 q
      refine wa_iload 244 dX10_lie_242 rfl rfl ?_
      refine wa_if_ne 247 253 dX10_lie_244 rfl (by decide) (fun q => ?_) (fun q => ?_)
      · replace h := h.1 q
        refine wa_iload 255 dX10_lie_253 rfl rfl ?_
        refine wa_iconst 256 dX10_lie_255 rfl (by decide) ?_
        refine wa_icmp_ne 259 264 dX10_lie_256 rfl (by decide) (fun q => ?_) (fun q => ?_)
        · replace h := h.1 q
          refine wa_lload 266 dX10_lie_264 rfl rfl ?_
          exact wa_lret dX10_lie_266 rfl h
        · replace h := h.2 q
          refine wa_lload 261 dX10_lie_259 rfl rfl ?_
          refine wa_goto 266 dX10_lie_261 (by decide) ?_
          exact wa_lret dX10_lie_266 rfl h
      · replace h := h.2 q
        refine wa_iload 249 dX10_lie_247 rfl rfl ?_
        refine wa_i2l 250 dX10_lie_249 rfl ?_
        refine wa_goto 266 dX10_lie_250 (by decide) ?_
        exact wa_lret dX10_lie_266 rfl h
    · replace h := h.2 q
      refine wa_ldc2 239 (-9223372036854775808) dX10_lie_236 rfl wJ_X10_116 ⟨rfl, by decide⟩ ?_
      refine wa_goto 266 dX10_lie_239 (by decide) ?_
      exact wa_lret dX10_lie_266 rfl h
  · replace h := h.2 q
    refine wa_iload 78 dX10_lie_76 rfl rfl ?_
    refine wa_aload_n 79 dX10_lie_78 rfl rfl ?_
    refine wa_callV 82 0 0 10 (av := []) (rest := [(0, v10)]) (k1 := (0, 0)) (k2 := (0, 0)) cvX10_strips dX10_lie_79 rfl wM_X10_92 ⟨rfl, by decide, rfl, Nat.le_of_ble_eq_true rfl, by decide, Nat.le_of_ble_eq_true rfl, rfl, rfl⟩ rfl k0 (TR.mono h (fun r10 L11 μ12 h => ?_))
    obtain ⟨w13, rfl, rfl, h⟩ := h
    show WA mX10_lie 9 (0, 0) 82 [(2, v0), (0, v1), (0, v2), (0, v3), (0, v4), (1, v5), (9, 0), (1, v7), (9, 0), (0, v9), (0, v10), (9, 0), (9, 0), (9, 0)] [(0, w13), (0, v10)] L μ12 Q
    obtain ⟨c14, h⟩ := h
    refine wa_idivE 83 dX10_lie_82 rfl c14 ?_
    refine wa_istore 85 [(2, v0), (0, v1), (0, v2), (0, v3), (0, v4), (1, v5), (9, 0), (1, v7), (9, 0), (0, v9), (0, v10), (0, (v10 / w13)), (9, 0), (9, 0)] dX10_lie_83 rfl rfl rfl ?_
    refine wa_iload 87 dX10_lie_85 rfl rfl ?_
    refine wa_aload_n 88 dX10_lie_87 rfl rfl ?_
    refine wa_callV 91 0 0 10 (av := []) (rest := [(0, v10)]) (k1 := (0, 0)) (k2 := (0, 0)) cvX10_strips dX10_lie_88 rfl wM_X10_92 ⟨rfl, by decide, rfl, Nat.le_of_ble_eq_true rfl, by decide, Nat.le_of_ble_eq_true rfl, rfl, rfl⟩ rfl k0 (TR.mono h (fun r15 L16 μ17 h => ?_))
    obtain ⟨w18, rfl, rfl, h⟩ := h
    show WA mX10_lie 9 (0, 0) 91 [(2, v0), (0, v1), (0, v2), (0, v3), (0, v4), (1, v5), (9, 0), (1, v7), (9, 0), (0, v9), (0, v10), (0, (v10 / w13)), (9, 0), (9, 0)] [(0, w18), (0, v10)] L μ17 Q
    obtain ⟨c19, h⟩ := h
    refine wa_iremE 92 dX10_lie_91 rfl c19 ?_
    refine wa_istore 94 [(2, v0), (0, v1), (0, v2), (0, v3), (0, v4), (1, v5), (9, 0), (1, v7), (9, 0), (0, v9), (0, v10), (0, (v10 / w13)), (0, (v10 % w18)), (9, 0)] dX10_lie_92 rfl rfl rfl ?_
    refine wa_aload_n 95 dX10_lie_94 rfl rfl ?_
    refine wa_iload_n 96 dX10_lie_95 rfl rfl ?_
    refine wa_iload 98 dX10_lie_96 rfl rfl ?_
    refine wa_iload 100 dX10_lie_98 rfl rfl ?_
    refine wa_callV 103 1 3 10 (av := [(0, v3), (0, (v10 / w13)), (0, (v10 % w18))]) (rest := []) (k1 := (0, 0)) (k2 := (0, 0)) cvX10_mayLie dX10_lie_100 rfl wM_X10_355 ⟨rfl, by decide, rfl, Nat.le_of_ble_eq_true rfl, by decide, Nat.le_of_ble_eq_true rfl, rfl, rfl⟩ rfl k0 (TR.mono h (fun r20 L21 μ22 h => ?_))
    obtain ⟨w23, rfl, rfl, h⟩ := h
    show WA mX10_lie 9 (0, 0) 103 [(2, v0), (0, v1), (0, v2), (0, v3), (0, v4), (1, v5), (9, 0), (1, v7), (9, 0), (0, v9), (0, v10), (0, (v10 / w13)), (0, (v10 % w18)), (9, 0)] [(0, w23)] L μ22 Q
    refine wa_if_eq 106 225 dX10_lie_103 rfl (by decide) (fun q => ?_) (fun q => ?_)
    · replace h := h.1 q
      obtain ⟨c24, h⟩ := h
      refine wa_iinc 228 [(2, v0), (0, v1), (0, v2), (0, v3), (0, v4), (1, v5), (9, 0), (1, v7), (9, 0), (0, v9), (0, (v10 + 1)), (0, (v10 / w13)), (0, (v10 % w18)), (9, 0)] dX10_lie_225 rfl rfl rfl c24 rfl ?_
      refine wa_goto 62 dX10_lie_228 (by decide) ?_
      exact wa_weak [(2, v0), (0, v1), (0, v2), (0, v3), (0, v4), (1, v5), (9, 0), (1, v7), (9, 0), (0, v9), (0, (v10 + 1)), (9, 0), (9, 0), (9, 0)] ⟨Or.inl rfl, Or.inl rfl, Or.inl rfl, Or.inl rfl, Or.inl rfl, Or.inl rfl, Or.inl rfl, Or.inl rfl, Or.inl rfl, Or.inl rfl, Or.inl rfl, Or.inr rfl, Or.inr rfl, Or.inl rfl, trivial⟩ h
    · replace h := h.2 q
      refine wa_aload_n 107 dX10_lie_106 rfl rfl ?_
      refine wa_iload_n 108 dX10_lie_107 rfl rfl ?_
      refine wa_iload 110 dX10_lie_108 rfl rfl ?_
      refine wa_iconst 111 dX10_lie_110 rfl (by decide) ?_
      refine wa_callV 114 0 3 10 (av := [(0, v3), (0, (v10 / w13)), (0, (-1))]) (rest := []) (k1 := (0, 0)) (k2 := (0, 0)) cvX10_tellsMore dX10_lie_111 rfl wM_X10_358 ⟨rfl, by decide, rfl, Nat.le_of_ble_eq_true rfl, by decide, Nat.le_of_ble_eq_true rfl, rfl, rfl⟩ rfl k0 (TR.mono h (fun r25 L26 μ27 h => ?_))
      obtain ⟨rfl, rfl, h⟩ := h
      show WA mX10_lie 9 (0, 0) 114 [(2, v0), (0, v1), (0, v2), (0, v3), (0, v4), (1, v5), (9, 0), (1, v7), (9, 0), (0, v9), (0, v10), (0, (v10 / w13)), (0, (v10 % w18)), (9, 0)] [] L μ27 Q
      refine wa_aload_n 115 dX10_lie_114 rfl rfl ?_
      refine wa_iload_n 116 dX10_lie_115 rfl rfl ?_
      refine wa_iload 118 dX10_lie_116 rfl rfl ?_
      refine wa_iconst 119 dX10_lie_118 rfl (by decide) ?_
      refine wa_callV 122 0 3 10 (av := [(0, v3), (0, (v10 % w18)), (0, 1)]) (rest := []) (k1 := (0, 0)) (k2 := (0, 0)) cvX10_tellsMore dX10_lie_119 rfl wM_X10_358 ⟨rfl, by decide, rfl, Nat.le_of_ble_eq_true rfl, by decide, Nat.le_of_ble_eq_true rfl, rfl, rfl⟩ rfl k0 (TR.mono h (fun r28 L29 μ30 h => ?_))
      obtain ⟨rfl, rfl, h⟩ := h
      show WA mX10_lie 9 (0, 0) 122 [(2, v0), (0, v1), (0, v2), (0, v3), (0, v4), (1, v5), (9, 0), (1, v7), (9, 0), (0, v9), (0, v10), (0, (v10 / w13)), (0, (v10 % w18)), (9, 0)] [] L μ30 Q
      refine wa_aload_n 123 dX10_lie_122 rfl rfl ?_
      refine wa_iload_n 124 dX10_lie_123 rfl rfl ?_
      refine wa_iload_n 125 dX10_lie_124 rfl rfl ?_
      refine wa_iload_n 126 dX10_lie_125 rfl rfl ?_
      refine wa_callV 129 8 3 10 (av := [(0, v1), (0, v2), (0, v3)]) (rest := []) (k1 := (0, 0)) (k2 := (0, 0)) cvX10_wouldBring dX10_lie_126 rfl wM_X10_351 ⟨rfl, by decide, rfl, Nat.le_of_ble_eq_true rfl, by decide, Nat.le_of_ble_eq_true rfl, rfl, rfl⟩ rfl k0 (TR.mono h (fun r31 L32 μ33 h => ?_))
      obtain ⟨w34, rfl, rfl, h⟩ := h
      show WA mX10_lie 9 (0, 0) 129 [(2, v0), (0, v1), (0, v2), (0, v3), (0, v4), (1, v5), (9, 0), (1, v7), (9, 0), (0, v9), (0, v10), (0, (v10 / w13)), (0, (v10 % w18)), (9, 0)] [(0, w34)] L μ33 Q
      refine wa_if_eq 132 154 dX10_lie_129 rfl (by decide) (fun q => ?_) (fun q => ?_)
      · replace h := h.1 q
        refine wa_iconst 155 dX10_lie_154 rfl (by decide) ?_
        exact h
      · replace h := h.2 q
        refine wa_lload 134 dX10_lie_132 rfl rfl ?_
        refine wa_lload 136 dX10_lie_134 rfl rfl ?_
        refine wa_aload_n 137 dX10_lie_136 rfl rfl ?_
        refine wa_getL 140 4 dX10_lie_137 rfl wF_X10_99 rfl rfl k0 ?_
        refine wa_aload_n 141 dX10_lie_140 rfl rfl ?_
        refine wa_getL 144 5 dX10_lie_141 rfl wF_X10_103 rfl rfl k0 ?_
        refine wa_callS 147 0 4 (av := [(1, v5), (1, v7), (1, (μ33 v0 4)), (1, (μ33 v0 5))]) (rest := []) (k1 := (0, 0)) (k2 := (0, 0)) cvX10_isLess dX10_lie_144 rfl wM_X10_199 ⟨rfl, Nat.le_of_ble_eq_true rfl, by decide, Nat.le_of_ble_eq_true rfl, rfl, rfl⟩ rfl (TR.mono h (fun r35 L36 μ37 h => ?_))
        obtain ⟨w38, rfl, rfl, h⟩ := h
        show WA mX10_lie 9 (0, 0) 147 [(2, v0), (0, v1), (0, v2), (0, v3), (0, v4), (1, v5), (9, 0), (1, v7), (9, 0), (0, v9), (0, v10), (0, (v10 / w13)), (0, (v10 % w18)), (9, 0)] [(0, w38)] L μ37 Q
        refine wa_if_eq 150 154 dX10_lie_147 rfl (by decide) (fun q => ?_) (fun q => ?_)
        · replace h := h.1 q
          refine wa_iconst 155 dX10_lie_154 rfl (by decide) ?_
          exact h
        · replace h := h.2 q
          refine wa_iconst 151 dX10_lie_150 rfl (by decide) ?_
          refine wa_goto 155 dX10_lie_151 (by decide) ?_
          exact h
set_option maxRecDepth 20000 in
theorem s_X10_lie_155 (hL : LayOK L) {v0 v1 v2 v3 v4 v5 v7 v9 v10 v11 v12 s0 : Int} (k0 : isK L v0 (10, 0)) (h : (s0 = 0 → WA mX10_lie 9 (0, 0) 175 [(2, v0), (0, v1), (0, v2), (0, v3), (0, v4), (1, v5), (9, 0), (1, v7), (9, 0), (9, 0), (0, v10), (0, v11), (0, v12), (0, s0)] [(0, v9)] L μ Q) ∧ (¬ s0 = 0 → (inI (100 * v11)) ∧ (inI ((100 * v11) + v12)) ∧ WA mX10_lie 9 (0, 0) 175 [(2, v0), (0, v1), (0, v2), (0, v3), (0, v4), (1, v5), (9, 0), (1, v7), (9, 0), (9, 0), (0, v10), (0, v11), (0, v12), (0, s0)] [(0, ((100 * v11) + v12))] L μ Q)) : WA mX10_lie 9 (0, 0) 155 [(2, v0), (0, v1), (0, v2), (0, v3), (0, v4), (1, v5), (9, 0), (1, v7), (9, 0), (0, v9), (0, v10), (0, v11), (0, v12), (9, 0)] [(0, s0)] L μ Q := by
  refine wa_istore 157 [(2, v0), (0, v1), (0, v2), (0, v3), (0, v4), (1, v5), (9, 0), (1, v7), (9, 0), (0, v9), (0, v10), (0, v11), (0, v12), (0, s0)] dX10_lie_155 rfl rfl rfl ?_
  refine wa_iload 159 dX10_lie_157 rfl rfl ?_
  refine wa_if_eq 162 173 dX10_lie_159 rfl (by decide) (fun q => ?_) (fun q => ?_)
  · replace h := h.1 q
    refine wa_iload 175 dX10_lie_173 rfl rfl ?_
    exact wa_weak [(2, v0), (0, v1), (0, v2), (0, v3), (0, v4), (1, v5), (9, 0), (1, v7), (9, 0), (9, 0), (0, v10), (0, v11), (0, v12), (0, s0)] ⟨Or.inl rfl, Or.inl rfl, Or.inl rfl, Or.inl rfl, Or.inl rfl, Or.inl rfl, Or.inl rfl, Or.inl rfl, Or.inl rfl, Or.inr rfl, Or.inl rfl, Or.inl rfl, Or.inl rfl, Or.inl rfl, trivial⟩ h
  · replace h := h.2 q
    refine wa_bipush 164 dX10_lie_162 rfl ⟨by decide, by decide⟩ ?_
    refine wa_iload 166 dX10_lie_164 rfl rfl ?_
    obtain ⟨c1, h⟩ := h
    refine wa_imul 167 dX10_lie_166 rfl c1 ?_
    refine wa_iload 169 dX10_lie_167 rfl rfl ?_
    obtain ⟨c2, h⟩ := h
    refine wa_iadd 170 dX10_lie_169 rfl c2 ?_
    refine wa_goto 175 dX10_lie_170 (by decide) ?_
    exact wa_weak [(2, v0), (0, v1), (0, v2), (0, v3), (0, v4), (1, v5), (9, 0), (1, v7), (9, 0), (9, 0), (0, v10), (0, v11), (0, v12), (0, s0)] ⟨Or.inl rfl, Or.inl rfl, Or.inl rfl, Or.inl rfl, Or.inl rfl, Or.inl rfl, Or.inl rfl, Or.inl rfl, Or.inl rfl, Or.inr rfl, Or.inl rfl, Or.inl rfl, Or.inl rfl, Or.inl rfl, trivial⟩ h
set_option maxRecDepth 20000 in
theorem s_X10_lie_175 (hL : LayOK L) {v0 v1 v2 v3 v4 v5 v7 v10 v11 v12 v13 s0 : Int} (k0 : isK L v0 (10, 0)) (h : (v13 = 0 → (v13 = 0 → WA mX10_lie 9 (0, 0) 207 [(2, v0), (0, v1), (0, v2), (0, v3), (0, v4), (1, v5), (9, 0), (9, 0), (9, 0), (0, s0), (0, v10), (0, v11), (0, v12), (9, 0)] [(1, v7)] L μ Q) ∧ (¬ v13 = 0 → WA mX10_lie 9 (0, 0) 207 [(2, v0), (0, v1), (0, v2), (0, v3), (0, v4), (1, v5), (9, 0), (9, 0), (9, 0), (0, s0), (0, v10), (0, v11), (0, v12), (9, 0)] [(1, (μ v0 5))] L μ Q)) ∧ (¬ v13 = 0 → (v13 = 0 → WA mX10_lie 9 (0, 0) 207 [(2, v0), (0, v1), (0, v2), (0, v3), (0, v4), (1, (μ v0 4)), (9, 0), (9, 0), (9, 0), (0, s0), (0, v10), (0, v11), (0, v12), (9, 0)] [(1, v7)] L μ Q) ∧ (¬ v13 = 0 → WA mX10_lie 9 (0, 0) 207 [(2, v0), (0, v1), (0, v2), (0, v3), (0, v4), (1, (μ v0 4)), (9, 0), (9, 0), (9, 0), (0, s0), (0, v10), (0, v11), (0, v12), (9, 0)] [(1, (μ v0 5))] L μ Q))) : WA mX10_lie 9 (0, 0) 175 [(2, v0), (0, v1), (0, v2), (0, v3), (0, v4), (1, v5), (9, 0), (1, v7), (9, 0), (9, 0), (0, v10), (0, v11), (0, v12), (0, v13)] [(0, s0)] L μ Q := by
  refine wa_istore 177 [(2, v0), (0, v1), (0, v2), (0, v3), (0, v4), (1, v5), (9, 0), (1, v7), (9, 0), (0, s0), (0, v10), (0, v11), (0, v12), (0, v13)] dX10_lie_175 rfl rfl rfl ?_
  refine wa_iload 179 dX10_lie_177 rfl rfl ?_
  refine wa_if_eq 182 189 dX10_lie_179 rfl (by decide) (fun q => ?_) (fun q => ?_)
  · replace h := h.1 q
    refine wa_lload 191 dX10_lie_189 rfl rfl ?_
    refine wa_lstore 193 [(2, v0), (0, v1), (0, v2), (0, v3), (0, v4), (1, v5), (9, 0), (1, v7), (9, 0), (0, s0), (0, v10), (0, v11), (0, v12), (0, v13)] dX10_lie_191 rfl rfl rfl ?_
    refine wa_iload 195 dX10_lie_193 rfl rfl ?_
    refine wa_if_eq 198 205 dX10_lie_195 rfl (by decide) (fun q => ?_) (fun q => ?_)
    · replace h := h.1 q
      refine wa_lload 207 dX10_lie_205 rfl rfl ?_
      exact wa_weak [(2, v0), (0, v1), (0, v2), (0, v3), (0, v4), (1, v5), (9, 0), (9, 0), (9, 0), (0, s0), (0, v10), (0, v11), (0, v12), (9, 0)] ⟨Or.inl rfl, Or.inl rfl, Or.inl rfl, Or.inl rfl, Or.inl rfl, Or.inl rfl, Or.inl rfl, Or.inr rfl, Or.inl rfl, Or.inl rfl, Or.inl rfl, Or.inl rfl, Or.inl rfl, Or.inr rfl, trivial⟩ h
    · replace h := h.2 q
      refine wa_aload_n 199 dX10_lie_198 rfl rfl ?_
      refine wa_getL 202 5 dX10_lie_199 rfl wF_X10_103 rfl rfl k0 ?_
      refine wa_goto 207 dX10_lie_202 (by decide) ?_
      exact wa_weak [(2, v0), (0, v1), (0, v2), (0, v3), (0, v4), (1, v5), (9, 0), (9, 0), (9, 0), (0, s0), (0, v10), (0, v11), (0, v12), (9, 0)] ⟨Or.inl rfl, Or.inl rfl, Or.inl rfl, Or.inl rfl, Or.inl rfl, Or.inl rfl, Or.inl rfl, Or.inr rfl, Or.inl rfl, Or.inl rfl, Or.inl rfl, Or.inl rfl, Or.inl rfl, Or.inr rfl, trivial⟩ h
  · replace h := h.2 q
    refine wa_aload_n 183 dX10_lie_182 rfl rfl ?_
    refine wa_getL 186 4 dX10_lie_183 rfl wF_X10_99 rfl rfl k0 ?_
    refine wa_goto 191 dX10_lie_186 (by decide) ?_
    refine wa_lstore 193 [(2, v0), (0, v1), (0, v2), (0, v3), (0, v4), (1, (μ v0 4)), (9, 0), (1, v7), (9, 0), (0, s0), (0, v10), (0, v11), (0, v12), (0, v13)] dX10_lie_191 rfl rfl rfl ?_
    refine wa_iload 195 dX10_lie_193 rfl rfl ?_
    refine wa_if_eq 198 205 dX10_lie_195 rfl (by decide) (fun q => ?_) (fun q => ?_)
    · replace h := h.1 q
      refine wa_lload 207 dX10_lie_205 rfl rfl ?_
      exact wa_weak [(2, v0), (0, v1), (0, v2), (0, v3), (0, v4), (1, (μ v0 4)), (9, 0), (9, 0), (9, 0), (0, s0), (0, v10), (0, v11), (0, v12), (9, 0)] ⟨Or.inl rfl, Or.inl rfl, Or.inl rfl, Or.inl rfl, Or.inl rfl, Or.inl rfl, Or.inl rfl, Or.inr rfl, Or.inl rfl, Or.inl rfl, Or.inl rfl, Or.inl rfl, Or.inl rfl, Or.inr rfl, trivial⟩ h
    · replace h := h.2 q
      refine wa_aload_n 199 dX10_lie_198 rfl rfl ?_
      refine wa_getL 202 5 dX10_lie_199 rfl wF_X10_103 rfl rfl k0 ?_
      refine wa_goto 207 dX10_lie_202 (by decide) ?_
      exact wa_weak [(2, v0), (0, v1), (0, v2), (0, v3), (0, v4), (1, (μ v0 4)), (9, 0), (9, 0), (9, 0), (0, s0), (0, v10), (0, v11), (0, v12), (9, 0)] ⟨Or.inl rfl, Or.inl rfl, Or.inl rfl, Or.inl rfl, Or.inl rfl, Or.inl rfl, Or.inl rfl, Or.inr rfl, Or.inl rfl, Or.inl rfl, Or.inl rfl, Or.inl rfl, Or.inl rfl, Or.inr rfl, trivial⟩ h
set_option maxRecDepth 20000 in
theorem s_X10_lie_207 (hL : LayOK L) {v0 v1 v2 v3 v4 v5 v9 v10 v11 v12 s0 : Int} (k0 : isK L v0 (10, 0)) (h : TR mX10_tellsMore 0 (0, 0) [(2, v0), (0, v3), (0, v11), (0, 1)] L μ (fun r1 L2 μ3 => r1 = none ∧ L = L2 ∧ TR mX10_tellsMore 0 (0, 0) [(2, v0), (0, v3), (0, v12), (0, (-1))] L μ3 (fun r4 L5 μ6 => r4 = none ∧ L = L5 ∧ (inI (v10 + 1)) ∧ WA mX10_lie 9 (0, 0) 62 [(2, v0), (0, v1), (0, v2), (0, v3), (0, v4), (1, v5), (9, 0), (1, s0), (9, 0), (0, v9), (0, (v10 + 1)), (9, 0), (9, 0), (9, 0)] [] L μ6 Q))) : WA mX10_lie 9 (0, 0) 207 [(2, v0), (0, v1), (0, v2), (0, v3), (0, v4), (1, v5), (9, 0), (9, 0), (9, 0), (0, v9), (0, v10), (0, v11), (0, v12), (9, 0)] [(1, s0)] L μ Q := by
  refine wa_lstore 209 [(2, v0), (0, v1), (0, v2), (0, v3), (0, v4), (1, v5), (9, 0), (1, s0), (9, 0), (0, v9), (0, v10), (0, v11), (0, v12), (9, 0)] dX10_lie_207 rfl rfl rfl ?_
  refine wa_aload_n 210 dX10_lie_209 rfl rfl ?_
  refine wa_iload_n 211 dX10_lie_210 rfl rfl ?_
  refine wa_iload 213 dX10_lie_211 rfl rfl ?_
  refine wa_iconst 214 dX10_lie_213 rfl (by decide) ?_
  refine wa_callV 217 0 3 10 (av := [(0, v3), (0, v11), (0, 1)]) (rest := []) (k1 := (0, 0)) (k2 := (0, 0)) cvX10_tellsMore dX10_lie_214 rfl wM_X10_358 ⟨rfl, by decide, rfl, Nat.le_of_ble_eq_true rfl, by decide, Nat.le_of_ble_eq_true rfl, rfl, rfl⟩ rfl k0 (TR.mono h (fun r1 L2 μ3 h => ?_))
  obtain ⟨rfl, rfl, h⟩ := h
  show WA mX10_lie 9 (0, 0) 217 [(2, v0), (0, v1), (0, v2), (0, v3), (0, v4), (1, v5), (9, 0), (1, s0), (9, 0), (0, v9), (0, v10), (0, v11), (0, v12), (9, 0)] [] L μ3 Q
  refine wa_aload_n 218 dX10_lie_217 rfl rfl ?_
  refine wa_iload_n 219 dX10_lie_218 rfl rfl ?_
  refine wa_iload 221 dX10_lie_219 rfl rfl ?_
  refine wa_iconst 222 dX10_lie_221 rfl (by decide) ?_
  refine wa_callV 225 0 3 10 (av := [(0, v3), (0, v12), (0, (-1))]) (rest := []) (k1 := (0, 0)) (k2 := (0, 0)) cvX10_tellsMore dX10_lie_222 rfl wM_X10_358 ⟨rfl, by decide, rfl, Nat.le_of_ble_eq_true rfl, by decide, Nat.le_of_ble_eq_true rfl, rfl, rfl⟩ rfl k0 (TR.mono h (fun r4 L5 μ6 h => ?_))
  obtain ⟨rfl, rfl, h⟩ := h
  show WA mX10_lie 9 (0, 0) 225 [(2, v0), (0, v1), (0, v2), (0, v3), (0, v4), (1, v5), (9, 0), (1, s0), (9, 0), (0, v9), (0, v10), (0, v11), (0, v12), (9, 0)] [] L μ6 Q
  obtain ⟨c7, h⟩ := h
  refine wa_iinc 228 [(2, v0), (0, v1), (0, v2), (0, v3), (0, v4), (1, v5), (9, 0), (1, s0), (9, 0), (0, v9), (0, (v10 + 1)), (0, v11), (0, v12), (9, 0)] dX10_lie_225 rfl rfl rfl c7 rfl ?_
  refine wa_goto 62 dX10_lie_228 (by decide) ?_
  exact wa_weak [(2, v0), (0, v1), (0, v2), (0, v3), (0, v4), (1, v5), (9, 0), (1, s0), (9, 0), (0, v9), (0, (v10 + 1)), (9, 0), (9, 0), (9, 0)] ⟨Or.inl rfl, Or.inl rfl, Or.inl rfl, Or.inl rfl, Or.inl rfl, Or.inl rfl, Or.inl rfl, Or.inl rfl, Or.inl rfl, Or.inl rfl, Or.inl rfl, Or.inr rfl, Or.inr rfl, Or.inl rfl, trivial⟩ h
end
