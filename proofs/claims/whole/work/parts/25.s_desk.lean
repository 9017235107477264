/-! KnifeDesk: each method from its entry and from its loops' heads: what must hold, and the run (laid by wip/whole/gen/vc.py) -/
section
variable {L : Lay} {μ : Mem} {Q : Option AV → Lay → Mem → Prop}
set_option maxRecDepth 20000 in
theorem t_X9_back (hL : LayOK L) {v0 : Int} (k0 : isK L v0 (9, 0)) (h : (¬ (μ v0 6) = 0 → TR mX0_copy 0 (0, 0) [(2, (rf L v0 0)), (2, (rf L v0 2))] L μ (fun r3 L4 μ5 => r3 = none ∧ L = L4 ∧ TR mX1_copy 4 (0, 0) [(2, (rf L v0 3)), (2, (rf L v0 5))] L μ5 (fun r8 L9 μ10 => r8 = none ∧ L = L9 ∧ Q (some (0, (μ10 ((rf L v0 0)) 1))) L μ10))) ∧ ((μ v0 6) = 0 → Q (some (0, (-5))) L μ)) : TR mX9_back 5 (0, 0) [(2, v0)] L μ Q := by
  refine TR.of (ls := [(2, v0)]) (by decide) (by simp) rfl (Nat.le_of_ble_eq_true rfl) ?_
  refine wa_aload_n 1 dX9_back_0 rfl rfl ?_
  refine wa_getI 4 6 dX9_back_1 rfl wF_X9_270 rfl rfl k0 ?_
  refine wa_if_ne 7 10 dX9_back_4 rfl (by decide) (fun q => ?_) (fun q => ?_)
  · replace h := h.1 q
    refine wa_aload_n 11 dX9_back_10 rfl rfl ?_
    have e1 : isK L (rf L v0 0) (0, 0) := lay_f hL k0 0 rfl
    refine wa_getR 14 0 dX9_back_11 rfl wF_X9_12 rfl rfl ⟨k0, isK_pos e1⟩ ?_
    refine wa_aload_n 15 dX9_back_14 rfl rfl ?_
    have e2 : isK L (rf L v0 2) (0, 0) := lay_f hL k0 2 rfl
    refine wa_getR 18 2 dX9_back_15 rfl wF_X9_21 rfl rfl ⟨k0, isK_pos e2⟩ ?_
    refine wa_callV 21 0 1 0 (av := [(2, (rf L v0 2))]) (rest := []) (k1 := (0, 0)) (k2 := (0, 0)) cvX0_copy dX9_back_18 rfl wM_X9_165 ⟨rfl, by decide, rfl, Nat.le_of_ble_eq_true rfl, by decide, Nat.le_of_ble_eq_true rfl, rfl, rfl⟩ rfl e1 (TR.mono h (fun r3 L4 μ5 h => ?_))
    obtain ⟨rfl, rfl, h⟩ := h
    show WA mX9_back 5 (0, 0) 21 [(2, v0)] [] L μ5 Q
    refine wa_aload_n 22 dX9_back_21 rfl rfl ?_
    have e6 : isK L (rf L v0 3) (1, 0) := lay_f hL k0 3 rfl
    refine wa_getR 25 3 dX9_back_22 rfl wF_X9_27 rfl rfl ⟨k0, isK_pos e6⟩ ?_
    refine wa_aload_n 26 dX9_back_25 rfl rfl ?_
    have e7 : isK L (rf L v0 5) (1, 0) := lay_f hL k0 5 rfl
    refine wa_getR 29 5 dX9_back_26 rfl wF_X9_34 rfl rfl ⟨k0, isK_pos e7⟩ ?_
    refine wa_callV 32 4 1 1 (av := [(2, (rf L v0 5))]) (rest := []) (k1 := (0, 0)) (k2 := (0, 0)) cvX1_copy dX9_back_29 rfl wM_X9_180 ⟨rfl, by decide, rfl, Nat.le_of_ble_eq_true rfl, by decide, Nat.le_of_ble_eq_true rfl, rfl, rfl⟩ rfl e6 (TR.mono h (fun r8 L9 μ10 h => ?_))
    obtain ⟨rfl, rfl, h⟩ := h
    show WA mX9_back 5 (0, 0) 32 [(2, v0)] [] L μ10 Q
    refine wa_aload_n 33 dX9_back_32 rfl rfl ?_
    refine wa_getR 36 0 dX9_back_33 rfl wF_X9_12 rfl rfl ⟨k0, isK_pos e1⟩ ?_
    refine wa_getI 39 1 dX9_back_36 rfl wF_X9_84 rfl rfl e1 ?_
    exact wa_iret dX9_back_39 rfl h
  · replace h := h.2 q
    refine wa_bipush 9 dX9_back_7 rfl ⟨by decide, by decide⟩ ?_
    exact wa_iret dX9_back_9 rfl h
set_option maxRecDepth 20000 in
theorem t_X9_begin (hL : LayOK L) {v0 v1 v2 : Int} (k0 : isK L v0 (9, 0)) (h : (v1 < 2 → Q (some (0, (-1))) L μ) ∧ (¬ v1 < 2 → (16 < v1 → Q (some (0, (-1))) L μ) ∧ (¬ 16 < v1 → (v2 < 2 → Q (some (0, (-1))) L μ) ∧ (¬ v2 < 2 → (v2 ≤ 5 → TR mX0_lay 0 (0, 0) [(2, (rf L v0 0)), (0, v1), (0, v2)] L μ (fun r2 L3 μ4 => r2 = none ∧ L = L3 ∧ TR mX1_clear 0 (0, 0) [(2, (rf L v0 3))] L μ4 (fun r6 L7 μ8 => r6 = none ∧ L = L7 ∧ Q (some (0, (μ ((rf L v0 0)) 1))) L μ8))) ∧ (¬ v2 ≤ 5 → Q (some (0, (-1))) L μ))))) : TR mX9_begin 1 (0, 0) [(2, v0), (0, v1), (0, v2)] L μ Q := by
  refine TR.of (ls := [(2, v0), (0, v1), (0, v2), (9, 0)]) (by decide) (by simp) rfl (Nat.le_of_ble_eq_true rfl) ?_
  refine wa_iload_n 1 dX9_begin_0 rfl rfl ?_
  refine wa_iconst 2 dX9_begin_1 rfl (by decide) ?_
  refine wa_icmp_lt 5 21 dX9_begin_2 rfl (by decide) (fun q => ?_) (fun q => ?_)
  · replace h := h.1 q
    refine wa_iconst 22 dX9_begin_21 rfl (by decide) ?_
    exact wa_iret dX9_begin_22 rfl h
  · replace h := h.2 q
    refine wa_iload_n 6 dX9_begin_5 rfl rfl ?_
    refine wa_bipush 8 dX9_begin_6 rfl ⟨by decide, by decide⟩ ?_
    refine wa_icmp_gt 11 21 dX9_begin_8 rfl (by decide) (fun q => ?_) (fun q => ?_)
    · replace h := h.1 q
      refine wa_iconst 22 dX9_begin_21 rfl (by decide) ?_
      exact wa_iret dX9_begin_22 rfl h
    · replace h := h.2 q
      refine wa_iload_n 12 dX9_begin_11 rfl rfl ?_
      refine wa_iconst 13 dX9_begin_12 rfl (by decide) ?_
      refine wa_icmp_lt 16 21 dX9_begin_13 rfl (by decide) (fun q => ?_) (fun q => ?_)
      · replace h := h.1 q
        refine wa_iconst 22 dX9_begin_21 rfl (by decide) ?_
        exact wa_iret dX9_begin_22 rfl h
      · replace h := h.2 q
        refine wa_iload_n 17 dX9_begin_16 rfl rfl ?_
        refine wa_iconst 18 dX9_begin_17 rfl (by decide) ?_
        refine wa_icmp_le 21 23 dX9_begin_18 rfl (by decide) (fun q => ?_) (fun q => ?_)
        · replace h := h.1 q
          refine wa_aload_n 24 dX9_begin_23 rfl rfl ?_
          have e1 : isK L (rf L v0 0) (0, 0) := lay_f hL k0 0 rfl
          refine wa_getR 27 0 dX9_begin_24 rfl wF_X9_12 rfl rfl ⟨k0, isK_pos e1⟩ ?_
          refine wa_getI 30 1 dX9_begin_27 rfl wF_X9_84 rfl rfl e1 ?_
          refine wa_istore_n 31 [(2, v0), (0, v1), (0, v2), (0, (μ ((rf L v0 0)) 1))] dX9_begin_30 rfl rfl rfl ?_
          refine wa_aload_n 32 dX9_begin_31 rfl rfl ?_
          refine wa_getR 35 0 dX9_begin_32 rfl wF_X9_12 rfl rfl ⟨k0, isK_pos e1⟩ ?_
          refine wa_iload_n 36 dX9_begin_35 rfl rfl ?_
          refine wa_iload_n 37 dX9_begin_36 rfl rfl ?_
          refine wa_callV 40 0 2 0 (av := [(0, v1), (0, v2)]) (rest := []) (k1 := (0, 0)) (k2 := (0, 0)) cvX0_lay dX9_begin_37 rfl wM_X9_88 ⟨rfl, by decide, rfl, Nat.le_of_ble_eq_true rfl, by decide, Nat.le_of_ble_eq_true rfl, rfl, rfl⟩ rfl e1 (TR.mono h (fun r2 L3 μ4 h => ?_))
          obtain ⟨rfl, rfl, h⟩ := h
          show WA mX9_begin 1 (0, 0) 40 [(2, v0), (0, v1), (0, v2), (0, (μ ((rf L v0 0)) 1))] [] L μ4 Q
          refine wa_aload_n 41 dX9_begin_40 rfl rfl ?_
          have e5 : isK L (rf L v0 3) (1, 0) := lay_f hL k0 3 rfl
          refine wa_getR 44 3 dX9_begin_41 rfl wF_X9_27 rfl rfl ⟨k0, isK_pos e5⟩ ?_
          refine wa_callV 47 0 0 1 (av := []) (rest := []) (k1 := (0, 0)) (k2 := (0, 0)) cvX1_clear dX9_begin_44 rfl wM_X9_92 ⟨rfl, by decide, rfl, Nat.le_of_ble_eq_true rfl, by decide, Nat.le_of_ble_eq_true rfl, rfl, rfl⟩ rfl e5 (TR.mono h (fun r6 L7 μ8 h => ?_))
          obtain ⟨rfl, rfl, h⟩ := h
          show WA mX9_begin 1 (0, 0) 47 [(2, v0), (0, v1), (0, v2), (0, (μ ((rf L v0 0)) 1))] [] L μ8 Q
          refine wa_iload_n 48 dX9_begin_47 rfl rfl ?_
          exact wa_iret dX9_begin_48 rfl h
        · replace h := h.2 q
          refine wa_iconst 22 dX9_begin_21 rfl (by decide) ?_
          exact wa_iret dX9_begin_22 rfl h
set_option maxRecDepth 20000 in
theorem t_X9_best (hL : LayOK L) {v0 v1 v2 : Int} (k0 : isK L v0 (9, 0)) (h : TR mX0_hasAgent 0 (0, 0) [(2, (rf L v0 0)), (0, v1)] L μ (fun r2 L3 μ4 => ∃ w5, r2 = some (0, w5) ∧ L = L3 ∧ (w5 = 0 → Q (some (0, (-1))) L μ4) ∧ (¬ w5 = 0 → TR mX0_hasAgent 0 (0, 0) [(2, (rf L v0 0)), (0, v2)] L μ4 (fun r6 L7 μ8 => ∃ w9, r6 = some (0, w9) ∧ L = L7 ∧ (¬ w9 = 0 → WA mX9_best 7 (0, 0) 30 [(2, v0), (0, v1), (0, v2), (0, (-2)), (0, 0)] [] L μ8 Q) ∧ (w9 = 0 → Q (some (0, (-1))) L μ8))))) : TR mX9_best 7 (0, 0) [(2, v0), (0, v1), (0, v2)] L μ Q := by
  refine TR.of (ls := [(2, v0), (0, v1), (0, v2), (9, 0), (9, 0)]) (by decide) (by simp) rfl (Nat.le_of_ble_eq_true rfl) ?_
  refine wa_aload_n 1 dX9_best_0 rfl rfl ?_
  have e1 : isK L (rf L v0 0) (0, 0) := lay_f hL k0 0 rfl
  refine wa_getR 4 0 dX9_best_1 rfl wF_X9_12 rfl rfl ⟨k0, isK_pos e1⟩ ?_
  refine wa_iload_n 5 dX9_best_4 rfl rfl ?_
  refine wa_callV 8 0 1 0 (av := [(0, v1)]) (rest := []) (k1 := (0, 0)) (k2 := (0, 0)) cvX0_hasAgent dX9_best_5 rfl wM_X9_95 ⟨rfl, by decide, rfl, Nat.le_of_ble_eq_true rfl, by decide, Nat.le_of_ble_eq_true rfl, rfl, rfl⟩ rfl e1 (TR.mono h (fun r2 L3 μ4 h => ?_))
  obtain ⟨w5, rfl, rfl, h⟩ := h
  show WA mX9_best 7 (0, 0) 8 [(2, v0), (0, v1), (0, v2), (9, 0), (9, 0)] [(0, w5)] L μ4 Q
  refine wa_if_eq 11 22 dX9_best_8 rfl (by decide) (fun q => ?_) (fun q => ?_)
  · replace h := h.1 q
    refine wa_iconst 23 dX9_best_22 rfl (by decide) ?_
    exact wa_iret dX9_best_23 rfl h
  · replace h := h.2 q
    refine wa_aload_n 12 dX9_best_11 rfl rfl ?_
    refine wa_getR 15 0 dX9_best_12 rfl wF_X9_12 rfl rfl ⟨k0, isK_pos e1⟩ ?_
    refine wa_iload_n 16 dX9_best_15 rfl rfl ?_
    refine wa_callV 19 0 1 0 (av := [(0, v2)]) (rest := []) (k1 := (0, 0)) (k2 := (0, 0)) cvX0_hasAgent dX9_best_16 rfl wM_X9_95 ⟨rfl, by decide, rfl, Nat.le_of_ble_eq_true rfl, by decide, Nat.le_of_ble_eq_true rfl, rfl, rfl⟩ rfl e1 (TR.mono h (fun r6 L7 μ8 h => ?_))
    obtain ⟨w9, rfl, rfl, h⟩ := h
    show WA mX9_best 7 (0, 0) 19 [(2, v0), (0, v1), (0, v2), (9, 0), (9, 0)] [(0, w9)] L μ8 Q
    refine wa_if_ne 22 24 dX9_best_19 rfl (by decide) (fun q => ?_) (fun q => ?_)
    · replace h := h.1 q
      refine wa_bipush 26 dX9_best_24 rfl ⟨by decide, by decide⟩ ?_
      refine wa_istore_n 27 [(2, v0), (0, v1), (0, v2), (0, (-2)), (9, 0)] dX9_best_26 rfl rfl rfl ?_
      refine wa_iconst 28 dX9_best_27 rfl (by decide) ?_
      refine wa_istore 30 [(2, v0), (0, v1), (0, v2), (0, (-2)), (0, 0)] dX9_best_28 rfl rfl rfl ?_
      exact h
    · replace h := h.2 q
      refine wa_iconst 23 dX9_best_22 rfl (by decide) ?_
      exact wa_iret dX9_best_23 rfl h
set_option maxRecDepth 20000 in
theorem s_X9_best_30 (hL : LayOK L) {v0 v1 v2 v3 v4 : Int} (k0 : isK L v0 (9, 0)) (h : (4 < v4 → Q (some (0, v3)) L μ) ∧ (¬ 4 < v4 → TR mX9_isAllowed 0 (0, 0) [(2, v0), (0, v4)] L μ (fun r1 L2 μ3 => ∃ w4, r1 = some (0, w4) ∧ L = L2 ∧ (w4 = 0 → (inI (v4 + 1)) ∧ WA mX9_best 7 (0, 0) 30 [(2, v0), (0, v1), (0, v2), (0, v3), (0, (v4 + 1))] [] L μ3 Q) ∧ (¬ w4 = 0 → TR mX5_run 6 (0, 0) [(2, (rf L v0 7)), (0, v4), (0, v2)] L μ3 (fun r7 L8 μ9 => ∃ w10, r7 = some (0, w10) ∧ L = L8 ∧ (w10 = 0 → (inI (v4 + 1)) ∧ WA mX9_best 7 (0, 0) 30 [(2, v0), (0, v1), (0, v2), (0, v3), (0, (v4 + 1))] [] L μ9 Q) ∧ (¬ w10 = 0 → (¬ v3 = (-2) → TR mX9_bringsMore 4 (0, 0) [(2, v0), (0, v1)] L μ9 (fun r12 L13 μ14 => ∃ w15, r12 = some (0, w15) ∧ L = L13 ∧ (w15 = 0 → (inI (v4 + 1)) ∧ WA mX9_best 7 (0, 0) 30 [(2, v0), (0, v1), (0, v2), (0, v3), (0, (v4 + 1))] [] L μ14 Q) ∧ (¬ w15 = 0 → (inI (v4 + 1)) ∧ WA mX9_best 7 (0, 0) 30 [(2, v0), (0, v1), (0, v2), (0, v4), (0, (v4 + 1))] [] L μ14 Q))) ∧ (v3 = (-2) → (0 ≤ v1 ∧ v1 < 5) ∧ TR mX1_holds 3 (0, 0) [(2, (rf L v0 4)), (0, v1), (2, (rf L v0 0)), (2, (rf L ((rf L ((rf L v0 0)) 2)) v1))] L μ9 (fun r24 L25 μ26 => ∃ w27, r24 = some (1, w27) ∧ L = L25 ∧ TR mX3_put 1 (0, 0) [(2, (rf L v0 12)), (1, w27), (1, (μ26 ((rf L v0 4)) 2))] L μ26 (fun r28 L29 μ30 => r28 = none ∧ L = L29 ∧ (inI (v4 + 1)) ∧ WA mX9_best 7 (0, 0) 30 [(2, v0), (0, v1), (0, v2), (0, v4), (0, (v4 + 1))] [] L μ30 Q))))))))) : WA mX9_best 7 (0, 0) 30 [(2, v0), (0, v1), (0, v2), (0, v3), (0, v4)] [] L μ Q := by
  refine wa_iload 32 dX9_best_30 rfl rfl ?_
  refine wa_iconst 33 dX9_best_32 rfl (by decide) ?_
  refine wa_icmp_gt 36 122 dX9_best_33 rfl (by decide) (fun q => ?_) (fun q => ?_)
  · replace h := h.1 q
    refine wa_iload_n 123 dX9_best_122 rfl rfl ?_
    exact wa_iret dX9_best_123 rfl h
  · replace h := h.2 q
    refine wa_aload_n 37 dX9_best_36 rfl rfl ?_
    refine wa_iload 39 dX9_best_37 rfl rfl ?_
    refine wa_callV 42 0 1 9 (av := [(0, v4)]) (rest := []) (k1 := (0, 0)) (k2 := (0, 0)) cvX9_isAllowed dX9_best_39 rfl wM_X9_202 ⟨rfl, by decide, rfl, Nat.le_of_ble_eq_true rfl, by decide, Nat.le_of_ble_eq_true rfl, rfl, rfl⟩ rfl k0 (TR.mono h (fun r1 L2 μ3 h => ?_))
    obtain ⟨w4, rfl, rfl, h⟩ := h
    show WA mX9_best 7 (0, 0) 42 [(2, v0), (0, v1), (0, v2), (0, v3), (0, v4)] [(0, w4)] L μ3 Q
    refine wa_if_eq 45 116 dX9_best_42 rfl (by decide) (fun q => ?_) (fun q => ?_)
    · replace h := h.1 q
      obtain ⟨c5, h⟩ := h
      refine wa_iinc 119 [(2, v0), (0, v1), (0, v2), (0, v3), (0, (v4 + 1))] dX9_best_116 rfl rfl rfl c5 rfl ?_
      refine wa_goto 30 dX9_best_119 (by decide) ?_
      exact h
    · replace h := h.2 q
      refine wa_aload_n 46 dX9_best_45 rfl rfl ?_
      have e6 : isK L (rf L v0 7) (5, 0) := lay_f hL k0 7 rfl
      refine wa_getR 49 7 dX9_best_46 rfl wF_X9_42 rfl rfl ⟨k0, isK_pos e6⟩ ?_
      refine wa_iload 51 dX9_best_49 rfl rfl ?_
      refine wa_iload_n 52 dX9_best_51 rfl rfl ?_
      refine wa_callV 55 6 2 5 (av := [(0, v4), (0, v2)]) (rest := []) (k1 := (0, 0)) (k2 := (0, 0)) cvX5_run dX9_best_52 rfl wM_X9_205 ⟨rfl, by decide, rfl, Nat.le_of_ble_eq_true rfl, by decide, Nat.le_of_ble_eq_true rfl, rfl, rfl⟩ rfl e6 (TR.mono h (fun r7 L8 μ9 h => ?_))
      obtain ⟨w10, rfl, rfl, h⟩ := h
      show WA mX9_best 7 (0, 0) 55 [(2, v0), (0, v1), (0, v2), (0, v3), (0, v4)] [(0, w10)] L μ9 Q
      refine wa_if_eq 58 116 dX9_best_55 rfl (by decide) (fun q => ?_) (fun q => ?_)
      · replace h := h.1 q
        obtain ⟨c11, h⟩ := h
        refine wa_iinc 119 [(2, v0), (0, v1), (0, v2), (0, v3), (0, (v4 + 1))] dX9_best_116 rfl rfl rfl c11 rfl ?_
        refine wa_goto 30 dX9_best_119 (by decide) ?_
        exact h
      · replace h := h.2 q
        refine wa_iload_n 59 dX9_best_58 rfl rfl ?_
        refine wa_bipush 61 dX9_best_59 rfl ⟨by decide, by decide⟩ ?_
        refine wa_icmp_ne 64 105 dX9_best_61 rfl (by decide) (fun q => ?_) (fun q => ?_)
        · replace h := h.1 q
          refine wa_aload_n 106 dX9_best_105 rfl rfl ?_
          refine wa_iload_n 107 dX9_best_106 rfl rfl ?_
          refine wa_callV 110 4 1 9 (av := [(0, v1)]) (rest := []) (k1 := (0, 0)) (k2 := (0, 0)) cvX9_bringsMore dX9_best_107 rfl wM_X9_249 ⟨rfl, by decide, rfl, Nat.le_of_ble_eq_true rfl, by decide, Nat.le_of_ble_eq_true rfl, rfl, rfl⟩ rfl k0 (TR.mono h (fun r12 L13 μ14 h => ?_))
          obtain ⟨w15, rfl, rfl, h⟩ := h
          show WA mX9_best 7 (0, 0) 110 [(2, v0), (0, v1), (0, v2), (0, v3), (0, v4)] [(0, w15)] L μ14 Q
          refine wa_if_eq 113 116 dX9_best_110 rfl (by decide) (fun q => ?_) (fun q => ?_)
          · replace h := h.1 q
            obtain ⟨c16, h⟩ := h
            refine wa_iinc 119 [(2, v0), (0, v1), (0, v2), (0, v3), (0, (v4 + 1))] dX9_best_116 rfl rfl rfl c16 rfl ?_
            refine wa_goto 30 dX9_best_119 (by decide) ?_
            exact h
          · replace h := h.2 q
            refine wa_iload 115 dX9_best_113 rfl rfl ?_
            refine wa_istore_n 116 [(2, v0), (0, v1), (0, v2), (0, v4), (0, v4)] dX9_best_115 rfl rfl rfl ?_
            obtain ⟨c17, h⟩ := h
            refine wa_iinc 119 [(2, v0), (0, v1), (0, v2), (0, v4), (0, (v4 + 1))] dX9_best_116 rfl rfl rfl c17 rfl ?_
            refine wa_goto 30 dX9_best_119 (by decide) ?_
            exact h
        · replace h := h.2 q
          refine wa_aload_n 65 dX9_best_64 rfl rfl ?_
          have e18 : isK L (rf L v0 12) (3, 0) := lay_f hL k0 12 rfl
          refine wa_getR 68 12 dX9_best_65 rfl wF_X9_74 rfl rfl ⟨k0, isK_pos e18⟩ ?_
          refine wa_aload_n 69 dX9_best_68 rfl rfl ?_
          have e19 : isK L (rf L v0 4) (1, 0) := lay_f hL k0 4 rfl
          refine wa_getR 72 4 dX9_best_69 rfl wF_X9_31 rfl rfl ⟨k0, isK_pos e19⟩ ?_
          refine wa_iload_n 73 dX9_best_72 rfl rfl ?_
          refine wa_aload_n 74 dX9_best_73 rfl rfl ?_
          have e20 : isK L (rf L v0 0) (0, 0) := lay_f hL k0 0 rfl
          refine wa_getR 77 0 dX9_best_74 rfl wF_X9_12 rfl rfl ⟨k0, isK_pos e20⟩ ?_
          refine wa_aload_n 78 dX9_best_77 rfl rfl ?_
          refine wa_getR 81 0 dX9_best_78 rfl wF_X9_12 rfl rfl ⟨k0, isK_pos e20⟩ ?_
          have e21 : isK L (rf L ((rf L v0 0)) 2) (23, 5) := lay_f hL e20 2 rfl
          refine wa_getR 84 2 dX9_best_81 rfl wF_X9_105 rfl rfl ⟨e20, isK_pos e21⟩ ?_
          refine wa_iload_n 85 dX9_best_84 rfl rfl ?_
          obtain ⟨c22, h⟩ := h
          have e23 : isK L (rf L ((rf L ((rf L v0 0)) 2)) v1) (20, 16) := lay_e hL e20 2 rfl c22
          refine wa_aaload 86 23 dX9_best_85 rfl ⟨by decide, by decide⟩ ⟨okA_of e21 c22, isK_pos e23⟩ ?_
          refine wa_callV 89 3 3 1 (av := [(0, v1), (2, (rf L v0 0)), (2, (rf L ((rf L ((rf L v0 0)) 2)) v1))]) (rest := [(2, (rf L v0 12))]) (k1 := (0, 0)) (k2 := (0, 0)) cvX1_holds dX9_best_86 rfl wM_X9_219 ⟨rfl, by decide, rfl, Nat.le_of_ble_eq_true rfl, by decide, Nat.le_of_ble_eq_true rfl, rfl, rfl⟩ rfl e19 (TR.mono h (fun r24 L25 μ26 h => ?_))
          obtain ⟨w27, rfl, rfl, h⟩ := h
          show WA mX9_best 7 (0, 0) 89 [(2, v0), (0, v1), (0, v2), (0, v3), (0, v4)] [(1, w27), (2, (rf L v0 12))] L μ26 Q
          refine wa_aload_n 90 dX9_best_89 rfl rfl ?_
          refine wa_getR 93 4 dX9_best_90 rfl wF_X9_31 rfl rfl ⟨k0, isK_pos e19⟩ ?_
          refine wa_getL 96 2 dX9_best_93 rfl wF_X9_223 rfl rfl e19 ?_
          refine wa_callV 99 1 2 3 (av := [(1, w27), (1, (μ26 ((rf L v0 4)) 2))]) (rest := []) (k1 := (0, 0)) (k2 := (0, 0)) cvX3_put dX9_best_96 rfl wM_X9_241 ⟨rfl, by decide, rfl, Nat.le_of_ble_eq_true rfl, by decide, Nat.le_of_ble_eq_true rfl, rfl, rfl⟩ rfl e18 (TR.mono h (fun r28 L29 μ30 h => ?_))
          obtain ⟨rfl, rfl, h⟩ := h
          show WA mX9_best 7 (0, 0) 99 [(2, v0), (0, v1), (0, v2), (0, v3), (0, v4)] [] L μ30 Q
          refine wa_iload 101 dX9_best_99 rfl rfl ?_
          refine wa_istore_n 102 [(2, v0), (0, v1), (0, v2), (0, v4), (0, v4)] dX9_best_101 rfl rfl rfl ?_
          refine wa_goto 116 dX9_best_102 (by decide) ?_
          obtain ⟨c31, h⟩ := h
          refine wa_iinc 119 [(2, v0), (0, v1), (0, v2), (0, v4), (0, (v4 + 1))] dX9_best_116 rfl rfl rfl c31 rfl ?_
          refine wa_goto 30 dX9_best_119 (by decide) ?_
          exact h
set_option maxRecDepth 20000 in
theorem t_X9_bringsMore (hL : LayOK L) {v0 v1 : Int} (k0 : isK L v0 (9, 0)) (h : (0 ≤ v1 ∧ v1 < 5) ∧ TR mX1_holds 3 (0, 0) [(2, (rf L v0 4)), (0, v1), (2, (rf L v0 0)), (2, (rf L ((rf L ((rf L v0 0)) 2)) v1))] L μ (fun r7 L8 μ9 => ∃ w10, r7 = some (1, w10) ∧ L = L8 ∧ TR mX3_put 1 (0, 0) [(2, (rf L v0 11)), (1, w10), (1, (μ9 ((rf L v0 4)) 2))] L μ9 (fun r11 L12 μ13 => r11 = none ∧ L = L12 ∧ TR mX3_isBelow 1 (0, 0) [(2, (rf L v0 12)), (2, (rf L v0 11))] L μ13 (fun r15 L16 μ17 => ∃ w18, r15 = some (0, w18) ∧ L = L16 ∧ (¬ w18 = 0 → TR mX3_copy 0 (0, 0) [(2, (rf L v0 12)), (2, (rf L v0 11))] L μ17 (fun r19 L20 μ21 => r19 = none ∧ L = L20 ∧ Q (some (0, 1)) L μ21)) ∧ (w18 = 0 → Q (some (0, 0)) L μ17))))) : TR mX9_bringsMore 4 (0, 0) [(2, v0), (0, v1)] L μ Q := by
  refine TR.of (ls := [(2, v0), (0, v1)]) (by decide) (by simp) rfl (Nat.le_of_ble_eq_true rfl) ?_
  refine wa_aload_n 1 dX9_bringsMore_0 rfl rfl ?_
  have e1 : isK L (rf L v0 11) (3, 0) := lay_f hL k0 11 rfl
  refine wa_getR 4 11 dX9_bringsMore_1 rfl wF_X9_70 rfl rfl ⟨k0, isK_pos e1⟩ ?_
  refine wa_aload_n 5 dX9_bringsMore_4 rfl rfl ?_
  have e2 : isK L (rf L v0 4) (1, 0) := lay_f hL k0 4 rfl
  refine wa_getR 8 4 dX9_bringsMore_5 rfl wF_X9_31 rfl rfl ⟨k0, isK_pos e2⟩ ?_
  refine wa_iload_n 9 dX9_bringsMore_8 rfl rfl ?_
  refine wa_aload_n 10 dX9_bringsMore_9 rfl rfl ?_
  have e3 : isK L (rf L v0 0) (0, 0) := lay_f hL k0 0 rfl
  refine wa_getR 13 0 dX9_bringsMore_10 rfl wF_X9_12 rfl rfl ⟨k0, isK_pos e3⟩ ?_
  refine wa_aload_n 14 dX9_bringsMore_13 rfl rfl ?_
  refine wa_getR 17 0 dX9_bringsMore_14 rfl wF_X9_12 rfl rfl ⟨k0, isK_pos e3⟩ ?_
  have e4 : isK L (rf L ((rf L v0 0)) 2) (23, 5) := lay_f hL e3 2 rfl
  refine wa_getR 20 2 dX9_bringsMore_17 rfl wF_X9_105 rfl rfl ⟨e3, isK_pos e4⟩ ?_
  refine wa_iload_n 21 dX9_bringsMore_20 rfl rfl ?_
  obtain ⟨c5, h⟩ := h
  have e6 : isK L (rf L ((rf L ((rf L v0 0)) 2)) v1) (20, 16) := lay_e hL e3 2 rfl c5
  refine wa_aaload 22 23 dX9_bringsMore_21 rfl ⟨by decide, by decide⟩ ⟨okA_of e4 c5, isK_pos e6⟩ ?_
  refine wa_callV 25 3 3 1 (av := [(0, v1), (2, (rf L v0 0)), (2, (rf L ((rf L ((rf L v0 0)) 2)) v1))]) (rest := [(2, (rf L v0 11))]) (k1 := (0, 0)) (k2 := (0, 0)) cvX1_holds dX9_bringsMore_22 rfl wM_X9_219 ⟨rfl, by decide, rfl, Nat.le_of_ble_eq_true rfl, by decide, Nat.le_of_ble_eq_true rfl, rfl, rfl⟩ rfl e2 (TR.mono h (fun r7 L8 μ9 h => ?_))
  obtain ⟨w10, rfl, rfl, h⟩ := h
  show WA mX9_bringsMore 4 (0, 0) 25 [(2, v0), (0, v1)] [(1, w10), (2, (rf L v0 11))] L μ9 Q
  refine wa_aload_n 26 dX9_bringsMore_25 rfl rfl ?_
  refine wa_getR 29 4 dX9_bringsMore_26 rfl wF_X9_31 rfl rfl ⟨k0, isK_pos e2⟩ ?_
  refine wa_getL 32 2 dX9_bringsMore_29 rfl wF_X9_223 rfl rfl e2 ?_
  refine wa_callV 35 1 2 3 (av := [(1, w10), (1, (μ9 ((rf L v0 4)) 2))]) (rest := []) (k1 := (0, 0)) (k2 := (0, 0)) cvX3_put dX9_bringsMore_32 rfl wM_X9_241 ⟨rfl, by decide, rfl, Nat.le_of_ble_eq_true rfl, by decide, Nat.le_of_ble_eq_true rfl, rfl, rfl⟩ rfl e1 (TR.mono h (fun r11 L12 μ13 h => ?_))
  obtain ⟨rfl, rfl, h⟩ := h
  show WA mX9_bringsMore 4 (0, 0) 35 [(2, v0), (0, v1)] [] L μ13 Q
  refine wa_aload_n 36 dX9_bringsMore_35 rfl rfl ?_
  have e14 : isK L (rf L v0 12) (3, 0) := lay_f hL k0 12 rfl
  refine wa_getR 39 12 dX9_bringsMore_36 rfl wF_X9_74 rfl rfl ⟨k0, isK_pos e14⟩ ?_
  refine wa_aload_n 40 dX9_bringsMore_39 rfl rfl ?_
  refine wa_getR 43 11 dX9_bringsMore_40 rfl wF_X9_70 rfl rfl ⟨k0, isK_pos e1⟩ ?_
  refine wa_callV 46 1 1 3 (av := [(2, (rf L v0 11))]) (rest := []) (k1 := (0, 0)) (k2 := (0, 0)) cvX3_isBelow dX9_bringsMore_43 rfl wM_X9_273 ⟨rfl, by decide, rfl, Nat.le_of_ble_eq_true rfl, by decide, Nat.le_of_ble_eq_true rfl, rfl, rfl⟩ rfl e14 (TR.mono h (fun r15 L16 μ17 h => ?_))
  obtain ⟨w18, rfl, rfl, h⟩ := h
  show WA mX9_bringsMore 4 (0, 0) 46 [(2, v0), (0, v1)] [(0, w18)] L μ17 Q
  refine wa_if_ne 49 51 dX9_bringsMore_46 rfl (by decide) (fun q => ?_) (fun q => ?_)
  · replace h := h.1 q
    refine wa_aload_n 52 dX9_bringsMore_51 rfl rfl ?_
    refine wa_getR 55 12 dX9_bringsMore_52 rfl wF_X9_74 rfl rfl ⟨k0, isK_pos e14⟩ ?_
    refine wa_aload_n 56 dX9_bringsMore_55 rfl rfl ?_
    refine wa_getR 59 11 dX9_bringsMore_56 rfl wF_X9_70 rfl rfl ⟨k0, isK_pos e1⟩ ?_
    refine wa_callV 62 0 1 3 (av := [(2, (rf L v0 11))]) (rest := []) (k1 := (0, 0)) (k2 := (0, 0)) cvX3_copy dX9_bringsMore_59 rfl wM_X9_277 ⟨rfl, by decide, rfl, Nat.le_of_ble_eq_true rfl, by decide, Nat.le_of_ble_eq_true rfl, rfl, rfl⟩ rfl e14 (TR.mono h (fun r19 L20 μ21 h => ?_))
    obtain ⟨rfl, rfl, h⟩ := h
    show WA mX9_bringsMore 4 (0, 0) 62 [(2, v0), (0, v1)] [] L μ21 Q
    refine wa_iconst 63 dX9_bringsMore_62 rfl (by decide) ?_
    exact wa_zret dX9_bringsMore_63 rfl (Or.inr rfl) h
  · replace h := h.2 q
    refine wa_iconst 50 dX9_bringsMore_49 rfl (by decide) ?_
    exact wa_zret dX9_bringsMore_50 rfl (Or.inl rfl) h
set_option maxRecDepth 20000 in
theorem t_X9_count (hL : LayOK L) {v0 v1 : Int} (k0 : isK L v0 (9, 0)) (h : ((v1 = 0 → Q (some (0, (μ ((rf L v0 0)) 1))) L μ) ∧ (v1 = 1 → Q (some (0, (μ ((rf L v0 0)) 0))) L μ) ∧ (v1 = 2 → ((μ ((rf L v0 3)) 0) = 0 → Q (some (0, 0)) L μ) ∧ (¬ (μ ((rf L v0 3)) 0) = 0 → Q (some (0, 1)) L μ)) ∧ (v1 = 3 → ((μ ((rf L v0 3)) 0) = 0 → Q (some (0, (-5))) L μ) ∧ (¬ (μ ((rf L v0 3)) 0) = 0 → (inI ((μ ((rf L v0 3)) 2))) ∧ Q (some (0, (μ ((rf L v0 3)) 2))) L μ)) ∧ (v1 = 4 → Q (some (0, (μ ((rf L v0 8)) 0))) L μ) ∧ (v1 = 5 → Q (some (0, (μ ((rf L v0 9)) 0))) L μ) ∧ (v1 = 6 → Q (some (0, (μ ((rf L v0 3)) 3))) L μ)) ∧ (v1 < 0 ∨ 6 < v1 → Q (some (0, (-1))) L μ)) : TR mX9_count 0 (0, 0) [(2, v0), (0, v1)] L μ Q := by
  refine TR.of (ls := [(2, v0), (0, v1)]) (by decide) (by simp) rfl (Nat.le_of_ble_eq_true rfl) ?_
  refine wa_iload_n 1 dX9_count_0 rfl rfl ?_
  refine wa_switch (fun j => match j with | 0 => 44 | 1 => 52 | 2 => 60 | 3 => 76 | 4 => 100 | 5 => 108 | _ => 116) 124 (n := 7) dX9_count_1 rfl (by decide) (by decide) (fun j hj hx => ?_) (fun hx => ?_)
  · have h := h.1
    rcases (show j = 0 ∨ j = 1 ∨ j = 2 ∨ j = 3 ∨ j = 4 ∨ j = 5 ∨ j = 6 by omega) with rfl | rfl | rfl | rfl | rfl | rfl | rfl
    · replace h := h.1 (by simpa using hx)
      refine wa_aload_n 45 dX9_count_44 rfl rfl ?_
      have e1 : isK L (rf L v0 0) (0, 0) := lay_f hL k0 0 rfl
      refine wa_getR 48 0 dX9_count_45 rfl wF_X9_12 rfl rfl ⟨k0, isK_pos e1⟩ ?_
      refine wa_getI 51 1 dX9_count_48 rfl wF_X9_84 rfl rfl e1 ?_
      exact wa_iret dX9_count_51 rfl h
    · replace h := h.2.1 (by simpa using hx)
      refine wa_aload_n 53 dX9_count_52 rfl rfl ?_
      have e2 : isK L (rf L v0 0) (0, 0) := lay_f hL k0 0 rfl
      refine wa_getR 56 0 dX9_count_53 rfl wF_X9_12 rfl rfl ⟨k0, isK_pos e2⟩ ?_
      refine wa_getI 59 0 dX9_count_56 rfl wF_X9_112 rfl rfl e2 ?_
      exact wa_iret dX9_count_59 rfl h
    · replace h := h.2.2.1 (by simpa using hx)
      refine wa_aload_n 61 dX9_count_60 rfl rfl ?_
      have e3 : isK L (rf L v0 3) (1, 0) := lay_f hL k0 3 rfl
      refine wa_getR 64 3 dX9_count_61 rfl wF_X9_27 rfl rfl ⟨k0, isK_pos e3⟩ ?_
      refine wa_getI 67 0 dX9_count_64 rfl wF_X9_177 rfl rfl e3 ?_
      refine wa_if_eq 70 74 dX9_count_67 rfl (by decide) (fun q => ?_) (fun q => ?_)
      · replace h := h.1 q
        refine wa_iconst 75 dX9_count_74 rfl (by decide) ?_
        exact wa_iret dX9_count_75 rfl h
      · replace h := h.2 q
        refine wa_iconst 71 dX9_count_70 rfl (by decide) ?_
        refine wa_goto 75 dX9_count_71 (by decide) ?_
        exact wa_iret dX9_count_75 rfl h
    · replace h := h.2.2.2.1 (by simpa using hx)
      refine wa_aload_n 77 dX9_count_76 rfl rfl ?_
      have e4 : isK L (rf L v0 3) (1, 0) := lay_f hL k0 3 rfl
      refine wa_getR 80 3 dX9_count_77 rfl wF_X9_27 rfl rfl ⟨k0, isK_pos e4⟩ ?_
      refine wa_getI 83 0 dX9_count_80 rfl wF_X9_177 rfl rfl e4 ?_
      refine wa_if_eq 86 97 dX9_count_83 rfl (by decide) (fun q => ?_) (fun q => ?_)
      · replace h := h.1 q
        refine wa_bipush 99 dX9_count_97 rfl ⟨by decide, by decide⟩ ?_
        exact wa_iret dX9_count_99 rfl h
      · replace h := h.2 q
        refine wa_aload_n 87 dX9_count_86 rfl rfl ?_
        refine wa_getR 90 3 dX9_count_87 rfl wF_X9_27 rfl rfl ⟨k0, isK_pos e4⟩ ?_
        refine wa_getL 93 2 dX9_count_90 rfl wF_X9_223 rfl rfl e4 ?_
        obtain ⟨c5, h⟩ := h
        refine wa_l2i 94 dX9_count_93 rfl c5 ?_
        refine wa_goto 99 dX9_count_94 (by decide) ?_
        exact wa_iret dX9_count_99 rfl h
    · replace h := h.2.2.2.2.1 (by simpa using hx)
      refine wa_aload_n 101 dX9_count_100 rfl rfl ?_
      have e6 : isK L (rf L v0 8) (8, 0) := lay_f hL k0 8 rfl
      refine wa_getR 104 8 dX9_count_101 rfl wF_X9_49 rfl rfl ⟨k0, isK_pos e6⟩ ?_
      refine wa_getI 107 0 dX9_count_104 rfl wF_X9_162 rfl rfl e6 ?_
      exact wa_iret dX9_count_107 rfl h
    · replace h := h.2.2.2.2.2.1 (by simpa using hx)
      refine wa_aload_n 109 dX9_count_108 rfl rfl ?_
      have e7 : isK L (rf L v0 9) (6, 0) := lay_f hL k0 9 rfl
      refine wa_getR 112 9 dX9_count_109 rfl wF_X9_56 rfl rfl ⟨k0, isK_pos e7⟩ ?_
      refine wa_getI 115 0 dX9_count_112 rfl wF_X9_183 rfl rfl e7 ?_
      exact wa_iret dX9_count_115 rfl h
    · replace h := h.2.2.2.2.2.2 (by simpa using hx)
      refine wa_aload_n 117 dX9_count_116 rfl rfl ?_
      have e8 : isK L (rf L v0 3) (1, 0) := lay_f hL k0 3 rfl
      refine wa_getR 120 3 dX9_count_117 rfl wF_X9_27 rfl rfl ⟨k0, isK_pos e8⟩ ?_
      refine wa_getI 123 3 dX9_count_120 rfl wF_X9_184 rfl rfl e8 ?_
      exact wa_iret dX9_count_123 rfl h
  · replace h := h.2 hx
    refine wa_iconst 125 dX9_count_124 rfl (by decide) ?_
    exact wa_iret dX9_count_125 rfl h
set_option maxRecDepth 20000 in
theorem t_X9_cuts (hL : LayOK L) {v0 : Int} (k0 : isK L v0 (9, 0)) (h : (¬ (μ ((rf L v0 3)) 0) = 0 → TR mX1_countCuts 3 (0, 0) [(2, (rf L v0 3)), (0, (μ ((rf L v0 0)) 0))] L μ (fun r3 L4 μ5 => ∃ w6, r3 = some (0, w6) ∧ L = L4 ∧ Q (some (0, w6)) L μ5)) ∧ ((μ ((rf L v0 3)) 0) = 0 → Q (some (0, (-5))) L μ)) : TR mX9_cuts 4 (0, 0) [(2, v0)] L μ Q := by
  refine TR.of (ls := [(2, v0)]) (by decide) (by simp) rfl (Nat.le_of_ble_eq_true rfl) ?_
  refine wa_aload_n 1 dX9_cuts_0 rfl rfl ?_
  have e1 : isK L (rf L v0 3) (1, 0) := lay_f hL k0 3 rfl
  refine wa_getR 4 3 dX9_cuts_1 rfl wF_X9_27 rfl rfl ⟨k0, isK_pos e1⟩ ?_
  refine wa_getI 7 0 dX9_cuts_4 rfl wF_X9_177 rfl rfl e1 ?_
  refine wa_if_ne 10 13 dX9_cuts_7 rfl (by decide) (fun q => ?_) (fun q => ?_)
  · replace h := h.1 q
    refine wa_aload_n 14 dX9_cuts_13 rfl rfl ?_
    refine wa_getR 17 3 dX9_cuts_14 rfl wF_X9_27 rfl rfl ⟨k0, isK_pos e1⟩ ?_
    refine wa_aload_n 18 dX9_cuts_17 rfl rfl ?_
    have e2 : isK L (rf L v0 0) (0, 0) := lay_f hL k0 0 rfl
    refine wa_getR 21 0 dX9_cuts_18 rfl wF_X9_12 rfl rfl ⟨k0, isK_pos e2⟩ ?_
    refine wa_getI 24 0 dX9_cuts_21 rfl wF_X9_112 rfl rfl e2 ?_
    refine wa_callV 27 3 1 1 (av := [(0, (μ ((rf L v0 0)) 0))]) (rest := []) (k1 := (0, 0)) (k2 := (0, 0)) cvX1_countCuts dX9_cuts_24 rfl wM_X9_230 ⟨rfl, by decide, rfl, Nat.le_of_ble_eq_true rfl, by decide, Nat.le_of_ble_eq_true rfl, rfl, rfl⟩ rfl e1 (TR.mono h (fun r3 L4 μ5 h => ?_))
    obtain ⟨w6, rfl, rfl, h⟩ := h
    show WA mX9_cuts 4 (0, 0) 27 [(2, v0)] [(0, w6)] L μ5 Q
    exact wa_iret dX9_cuts_27 rfl h
  · replace h := h.2 q
    refine wa_bipush 12 dX9_cuts_10 rfl ⟨by decide, by decide⟩ ?_
    exact wa_iret dX9_cuts_12 rfl h
set_option maxRecDepth 20000 in
theorem t_X9_divides (hL : LayOK L) {v0 : Int} (k0 : isK L v0 (9, 0)) (h : TR mX1_clear 0 (0, 0) [(2, (rf L v0 4))] L μ (fun r2 L3 μ4 => r2 = none ∧ L = L3 ∧ TR mX8_read 6 (0, 0) [(2, (rf L v0 8)), (0, 0), (2, (rf L v0 0)), (2, (rf L v0 4))] L μ4 (fun r7 L8 μ9 => ∃ w10, r7 = some (0, w10) ∧ L = L8 ∧ (w10 ≤ 0 → (w10 ≤ 0 → Q (some (0, w10)) L μ9) ∧ (¬ w10 ≤ 0 → TR mX1_copy 4 (0, 0) [(2, (rf L v0 3)), (2, (rf L v0 4))] L (up μ9 ((rf L v0 4)) 0 1) (fun r12 L13 μ14 => r12 = none ∧ L = L13 ∧ Q (some (0, w10)) L μ14))) ∧ (¬ w10 ≤ 0 → ((μ9 ((rf L v0 4)) 1) = 0 → (w10 ≤ 0 → Q (some (0, w10)) L μ9) ∧ (¬ w10 ≤ 0 → TR mX1_copy 4 (0, 0) [(2, (rf L v0 3)), (2, (rf L v0 4))] L (up μ9 ((rf L v0 4)) 0 1) (fun r16 L17 μ18 => r16 = none ∧ L = L17 ∧ Q (some (0, w10)) L μ18))) ∧ (¬ (μ9 ((rf L v0 4)) 1) = 0 → Q (some (0, (-3))) L μ9))))) : TR mX9_divides 7 (0, 0) [(2, v0)] L μ Q := by
  refine TR.of (ls := [(2, v0), (9, 0)]) (by decide) (by simp) rfl (Nat.le_of_ble_eq_true rfl) ?_
  refine wa_aload_n 1 dX9_divides_0 rfl rfl ?_
  have e1 : isK L (rf L v0 4) (1, 0) := lay_f hL k0 4 rfl
  refine wa_getR 4 4 dX9_divides_1 rfl wF_X9_31 rfl rfl ⟨k0, isK_pos e1⟩ ?_
  refine wa_callV 7 0 0 1 (av := []) (rest := []) (k1 := (0, 0)) (k2 := (0, 0)) cvX1_clear dX9_divides_4 rfl wM_X9_92 ⟨rfl, by decide, rfl, Nat.le_of_ble_eq_true rfl, by decide, Nat.le_of_ble_eq_true rfl, rfl, rfl⟩ rfl e1 (TR.mono h (fun r2 L3 μ4 h => ?_))
  obtain ⟨rfl, rfl, h⟩ := h
  show WA mX9_divides 7 (0, 0) 7 [(2, v0), (9, 0)] [] L μ4 Q
  refine wa_aload_n 8 dX9_divides_7 rfl rfl ?_
  have e5 : isK L (rf L v0 8) (8, 0) := lay_f hL k0 8 rfl
  refine wa_getR 11 8 dX9_divides_8 rfl wF_X9_49 rfl rfl ⟨k0, isK_pos e5⟩ ?_
  refine wa_iconst 12 dX9_divides_11 rfl (by decide) ?_
  refine wa_aload_n 13 dX9_divides_12 rfl rfl ?_
  have e6 : isK L (rf L v0 0) (0, 0) := lay_f hL k0 0 rfl
  refine wa_getR 16 0 dX9_divides_13 rfl wF_X9_12 rfl rfl ⟨k0, isK_pos e6⟩ ?_
  refine wa_aload_n 17 dX9_divides_16 rfl rfl ?_
  refine wa_getR 20 4 dX9_divides_17 rfl wF_X9_31 rfl rfl ⟨k0, isK_pos e1⟩ ?_
  refine wa_callV 23 6 3 8 (av := [(0, 0), (2, (rf L v0 0)), (2, (rf L v0 4))]) (rest := []) (k1 := (0, 0)) (k2 := (0, 0)) cvX8_read dX9_divides_20 rfl wM_X9_169 ⟨rfl, by decide, rfl, Nat.le_of_ble_eq_true rfl, by decide, Nat.le_of_ble_eq_true rfl, rfl, rfl⟩ rfl e5 (TR.mono h (fun r7 L8 μ9 h => ?_))
  obtain ⟨w10, rfl, rfl, h⟩ := h
  show WA mX9_divides 7 (0, 0) 23 [(2, v0), (9, 0)] [(0, w10)] L μ9 Q
  refine wa_istore_n 24 [(2, v0), (0, w10)] dX9_divides_23 rfl rfl rfl ?_
  refine wa_iload_n 25 dX9_divides_24 rfl rfl ?_
  refine wa_if_le 28 41 dX9_divides_25 rfl (by decide) (fun q => ?_) (fun q => ?_)
  · replace h := h.1 q
    refine wa_iload_n 42 dX9_divides_41 rfl rfl ?_
    refine wa_if_le 45 64 dX9_divides_42 rfl (by decide) (fun q => ?_) (fun q => ?_)
    · replace h := h.1 q
      refine wa_iload_n 65 dX9_divides_64 rfl rfl ?_
      exact wa_iret dX9_divides_65 rfl h
    · replace h := h.2 q
      refine wa_aload_n 46 dX9_divides_45 rfl rfl ?_
      refine wa_getR 49 4 dX9_divides_46 rfl wF_X9_31 rfl rfl ⟨k0, isK_pos e1⟩ ?_
      refine wa_iconst 50 dX9_divides_49 rfl (by decide) ?_
      refine wa_putI 53 0 dX9_divides_50 rfl wF_X9_177 rfl rfl e1 (Or.inr rfl) ?_
      refine wa_aload_n 54 dX9_divides_53 rfl rfl ?_
      have e11 : isK L (rf L v0 3) (1, 0) := lay_f hL k0 3 rfl
      refine wa_getR 57 3 dX9_divides_54 rfl wF_X9_27 rfl rfl ⟨k0, isK_pos e11⟩ ?_
      refine wa_aload_n 58 dX9_divides_57 rfl rfl ?_
      refine wa_getR 61 4 dX9_divides_58 rfl wF_X9_31 rfl rfl ⟨k0, isK_pos e1⟩ ?_
      refine wa_callV 64 4 1 1 (av := [(2, (rf L v0 4))]) (rest := []) (k1 := (0, 0)) (k2 := (0, 0)) cvX1_copy dX9_divides_61 rfl wM_X9_180 ⟨rfl, by decide, rfl, Nat.le_of_ble_eq_true rfl, by decide, Nat.le_of_ble_eq_true rfl, rfl, rfl⟩ rfl e11 (TR.mono h (fun r12 L13 μ14 h => ?_))
      obtain ⟨rfl, rfl, h⟩ := h
      show WA mX9_divides 7 (0, 0) 64 [(2, v0), (0, w10)] [] L μ14 Q
      refine wa_iload_n 65 dX9_divides_64 rfl rfl ?_
      exact wa_iret dX9_divides_65 rfl h
  · replace h := h.2 q
    refine wa_aload_n 29 dX9_divides_28 rfl rfl ?_
    refine wa_getR 32 4 dX9_divides_29 rfl wF_X9_31 rfl rfl ⟨k0, isK_pos e1⟩ ?_
    refine wa_getI 35 1 dX9_divides_32 rfl wF_X9_173 rfl rfl e1 ?_
    refine wa_if_eq 38 41 dX9_divides_35 rfl (by decide) (fun q => ?_) (fun q => ?_)
    · replace h := h.1 q
      refine wa_iload_n 42 dX9_divides_41 rfl rfl ?_
      refine wa_if_le 45 64 dX9_divides_42 rfl (by decide) (fun q => ?_) (fun q => ?_)
      · replace h := h.1 q
        refine wa_iload_n 65 dX9_divides_64 rfl rfl ?_
        exact wa_iret dX9_divides_65 rfl h
      · replace h := h.2 q
        refine wa_aload_n 46 dX9_divides_45 rfl rfl ?_
        refine wa_getR 49 4 dX9_divides_46 rfl wF_X9_31 rfl rfl ⟨k0, isK_pos e1⟩ ?_
        refine wa_iconst 50 dX9_divides_49 rfl (by decide) ?_
        refine wa_putI 53 0 dX9_divides_50 rfl wF_X9_177 rfl rfl e1 (Or.inr rfl) ?_
        refine wa_aload_n 54 dX9_divides_53 rfl rfl ?_
        have e15 : isK L (rf L v0 3) (1, 0) := lay_f hL k0 3 rfl
        refine wa_getR 57 3 dX9_divides_54 rfl wF_X9_27 rfl rfl ⟨k0, isK_pos e15⟩ ?_
        refine wa_aload_n 58 dX9_divides_57 rfl rfl ?_
        refine wa_getR 61 4 dX9_divides_58 rfl wF_X9_31 rfl rfl ⟨k0, isK_pos e1⟩ ?_
        refine wa_callV 64 4 1 1 (av := [(2, (rf L v0 4))]) (rest := []) (k1 := (0, 0)) (k2 := (0, 0)) cvX1_copy dX9_divides_61 rfl wM_X9_180 ⟨rfl, by decide, rfl, Nat.le_of_ble_eq_true rfl, by decide, Nat.le_of_ble_eq_true rfl, rfl, rfl⟩ rfl e15 (TR.mono h (fun r16 L17 μ18 h => ?_))
        obtain ⟨rfl, rfl, h⟩ := h
        show WA mX9_divides 7 (0, 0) 64 [(2, v0), (0, w10)] [] L μ18 Q
        refine wa_iload_n 65 dX9_divides_64 rfl rfl ?_
        exact wa_iret dX9_divides_65 rfl h
    · replace h := h.2 q
      refine wa_bipush 40 dX9_divides_38 rfl ⟨by decide, by decide⟩ ?_
      exact wa_iret dX9_divides_40 rfl h
set_option maxRecDepth 20000 in
theorem t_X9_envies (hL : LayOK L) {v0 v1 v2 : Int} (k0 : isK L v0 (9, 0)) (h : TR mX0_hasAgent 0 (0, 0) [(2, (rf L v0 0)), (0, v1)] L μ (fun r2 L3 μ4 => ∃ w5, r2 = some (0, w5) ∧ L = L3 ∧ (w5 = 0 → Q (some (0, (-1))) L μ4) ∧ (¬ w5 = 0 → TR mX9_isFlag 0 (0, 0) [(0, v2)] L μ4 (fun r6 L7 μ8 => ∃ w9, r6 = some (0, w9) ∧ L = L7 ∧ (¬ w9 = 0 → (¬ (μ8 ((rf L v0 3)) 0) = 0 → TR mX0_row 0 (0, 0) [(2, (rf L v0 0)), (0, v1), (0, v2)] L μ8 (fun r11 L12 μ13 => ∃ w14, r11 = some (2, w14) ∧ L = L12 ∧ isK L w14 (20, 16) ∧ TR mX1_holds 3 (0, 0) [(2, (rf L v0 3)), (0, v1), (2, (rf L v0 0)), (2, w14)] L μ13 (fun r16 L17 μ18 => ∃ w19, r16 = some (1, w19) ∧ L = L17 ∧ WA mX9_envies 4 (0, 0) 64 [(2, v0), (9, 0), (9, 0), (2, w14), (1, w19), (9, 0), (0, 0), (0, 0)] [] L μ18 Q))) ∧ ((μ8 ((rf L v0 3)) 0) = 0 → Q (some (0, (-5))) L μ8)) ∧ (w9 = 0 → Q (some (0, (-1))) L μ8))))) : TR mX9_envies 4 (0, 0) [(2, v0), (0, v1), (0, v2)] L μ Q := by
  refine TR.of (ls := [(2, v0), (0, v1), (0, v2), (9, 0), (9, 0), (9, 0), (9, 0), (9, 0)]) (by decide) (by simp) rfl (Nat.le_of_ble_eq_true rfl) ?_
  refine wa_aload_n 1 dX9_envies_0 rfl rfl ?_
  have e1 : isK L (rf L v0 0) (0, 0) := lay_f hL k0 0 rfl
  refine wa_getR 4 0 dX9_envies_1 rfl wF_X9_12 rfl rfl ⟨k0, isK_pos e1⟩ ?_
  refine wa_iload_n 5 dX9_envies_4 rfl rfl ?_
  refine wa_callV 8 0 1 0 (av := [(0, v1)]) (rest := []) (k1 := (0, 0)) (k2 := (0, 0)) cvX0_hasAgent dX9_envies_5 rfl wM_X9_95 ⟨rfl, by decide, rfl, Nat.le_of_ble_eq_true rfl, by decide, Nat.le_of_ble_eq_true rfl, rfl, rfl⟩ rfl e1 (TR.mono h (fun r2 L3 μ4 h => ?_))
  obtain ⟨w5, rfl, rfl, h⟩ := h
  show WA mX9_envies 4 (0, 0) 8 [(2, v0), (0, v1), (0, v2), (9, 0), (9, 0), (9, 0), (9, 0), (9, 0)] [(0, w5)] L μ4 Q
  refine wa_if_eq 11 18 dX9_envies_8 rfl (by decide) (fun q => ?_) (fun q => ?_)
  · replace h := h.1 q
    refine wa_iconst 19 dX9_envies_18 rfl (by decide) ?_
    exact wa_iret dX9_envies_19 rfl h
  · replace h := h.2 q
    refine wa_iload_n 12 dX9_envies_11 rfl rfl ?_
    refine wa_callS 15 0 1 (av := [(0, v2)]) (rest := []) (k1 := (0, 0)) (k2 := (0, 0)) cvX9_isFlag dX9_envies_12 rfl wM_X9_115 ⟨rfl, Nat.le_of_ble_eq_true rfl, by decide, Nat.le_of_ble_eq_true rfl, rfl, rfl⟩ rfl (TR.mono h (fun r6 L7 μ8 h => ?_))
    obtain ⟨w9, rfl, rfl, h⟩ := h
    show WA mX9_envies 4 (0, 0) 15 [(2, v0), (0, v1), (0, v2), (9, 0), (9, 0), (9, 0), (9, 0), (9, 0)] [(0, w9)] L μ8 Q
    refine wa_if_ne 18 20 dX9_envies_15 rfl (by decide) (fun q => ?_) (fun q => ?_)
    · replace h := h.1 q
      refine wa_aload_n 21 dX9_envies_20 rfl rfl ?_
      have e10 : isK L (rf L v0 3) (1, 0) := lay_f hL k0 3 rfl
      refine wa_getR 24 3 dX9_envies_21 rfl wF_X9_27 rfl rfl ⟨k0, isK_pos e10⟩ ?_
      refine wa_getI 27 0 dX9_envies_24 rfl wF_X9_177 rfl rfl e10 ?_
      refine wa_if_ne 30 33 dX9_envies_27 rfl (by decide) (fun q => ?_) (fun q => ?_)
      · replace h := h.1 q
        refine wa_aload_n 34 dX9_envies_33 rfl rfl ?_
        refine wa_getR 37 0 dX9_envies_34 rfl wF_X9_12 rfl rfl ⟨k0, isK_pos e1⟩ ?_
        refine wa_iload_n 38 dX9_envies_37 rfl rfl ?_
        refine wa_iload_n 39 dX9_envies_38 rfl rfl ?_
        refine wa_callV 42 0 2 0 (av := [(0, v1), (0, v2)]) (rest := []) (k1 := (0, 0)) (k2 := (0, 0)) cvX0_row dX9_envies_39 rfl wM_X9_118 ⟨rfl, by decide, rfl, Nat.le_of_ble_eq_true rfl, by decide, Nat.le_of_ble_eq_true rfl, rfl, rfl⟩ rfl e1 (TR.mono h (fun r11 L12 μ13 h => ?_))
        obtain ⟨w14, rfl, rfl, e15, h⟩ := h
        show WA mX9_envies 4 (0, 0) 42 [(2, v0), (0, v1), (0, v2), (9, 0), (9, 0), (9, 0), (9, 0), (9, 0)] [(2, w14)] L μ13 Q
        refine wa_astore_n 43 [(2, v0), (0, v1), (0, v2), (2, w14), (9, 0), (9, 0), (9, 0), (9, 0)] dX9_envies_42 rfl rfl rfl ?_
        refine wa_aload_n 44 dX9_envies_43 rfl rfl ?_
        refine wa_getR 47 3 dX9_envies_44 rfl wF_X9_27 rfl rfl ⟨k0, isK_pos e10⟩ ?_
        refine wa_iload_n 48 dX9_envies_47 rfl rfl ?_
        refine wa_aload_n 49 dX9_envies_48 rfl rfl ?_
        refine wa_getR 52 0 dX9_envies_49 rfl wF_X9_12 rfl rfl ⟨k0, isK_pos e1⟩ ?_
        refine wa_aload_n 53 dX9_envies_52 rfl rfl ?_
        refine wa_callV 56 3 3 1 (av := [(0, v1), (2, (rf L v0 0)), (2, w14)]) (rest := []) (k1 := (0, 0)) (k2 := (0, 0)) cvX1_holds dX9_envies_53 rfl wM_X9_219 ⟨rfl, by decide, rfl, Nat.le_of_ble_eq_true rfl, by decide, Nat.le_of_ble_eq_true rfl, rfl, rfl⟩ rfl e10 (TR.mono h (fun r16 L17 μ18 h => ?_))
        obtain ⟨w19, rfl, rfl, h⟩ := h
        show WA mX9_envies 4 (0, 0) 56 [(2, v0), (0, v1), (0, v2), (2, w14), (9, 0), (9, 0), (9, 0), (9, 0)] [(1, w19)] L μ18 Q
        refine wa_lstore 58 [(2, v0), (0, v1), (0, v2), (2, w14), (1, w19), (9, 0), (9, 0), (9, 0)] dX9_envies_56 rfl rfl rfl ?_
        refine wa_iconst 59 dX9_envies_58 rfl (by decide) ?_
        refine wa_istore 61 [(2, v0), (0, v1), (0, v2), (2, w14), (1, w19), (9, 0), (0, 0), (9, 0)] dX9_envies_59 rfl rfl rfl ?_
        refine wa_iconst 62 dX9_envies_61 rfl (by decide) ?_
        refine wa_istore 64 [(2, v0), (0, v1), (0, v2), (2, w14), (1, w19), (9, 0), (0, 0), (0, 0)] dX9_envies_62 rfl rfl rfl ?_
        exact wa_weak [(2, v0), (9, 0), (9, 0), (2, w14), (1, w19), (9, 0), (0, 0), (0, 0)] ⟨Or.inl rfl, Or.inr rfl, Or.inr rfl, Or.inl rfl, Or.inl rfl, Or.inl rfl, Or.inl rfl, Or.inl rfl, trivial⟩ h
      · replace h := h.2 q
        refine wa_bipush 32 dX9_envies_30 rfl ⟨by decide, by decide⟩ ?_
        exact wa_iret dX9_envies_32 rfl h
    · replace h := h.2 q
      refine wa_iconst 19 dX9_envies_18 rfl (by decide) ?_
      exact wa_iret dX9_envies_19 rfl h
set_option maxRecDepth 20000 in
theorem s_X9_envies_64 (hL : LayOK L) {v0 v3 v4 v6 v7 : Int} (k0 : isK L v0 (9, 0)) (k3 : isK L v3 (20, 16)) (h : ((μ ((rf L v0 0)) 1) ≤ v7 → Q (some (0, v6)) L μ) ∧ (¬ (μ ((rf L v0 0)) 1) ≤ v7 → TR mX1_holds 3 (0, 0) [(2, (rf L v0 3)), (0, v7), (2, (rf L v0 0)), (2, v3)] L μ (fun r3 L4 μ5 => ∃ w6, r3 = some (1, w6) ∧ L = L4 ∧ (w6 ≤ v4 → (inI (v7 + 1)) ∧ WA mX9_envies 4 (0, 0) 64 [(2, v0), (9, 0), (9, 0), (2, v3), (1, v4), (9, 0), (0, v6), (0, (v7 + 1))] [] L μ5 Q) ∧ (¬ w6 ≤ v4 → (inI (v7 + 1)) ∧ WA mX9_envies 4 (0, 0) 64 [(2, v0), (9, 0), (9, 0), (2, v3), (1, v4), (9, 0), (0, (bOr v6 ((bShl 1 v7)))), (0, (v7 + 1))] [] L μ5 Q)))) : WA mX9_envies 4 (0, 0) 64 [(2, v0), (9, 0), (9, 0), (2, v3), (1, v4), (9, 0), (0, v6), (0, v7)] [] L μ Q := by
  refine wa_iload 66 dX9_envies_64 rfl rfl ?_
  refine wa_aload_n 67 dX9_envies_66 rfl rfl ?_
  have e1 : isK L (rf L v0 0) (0, 0) := lay_f hL k0 0 rfl
  refine wa_getR 70 0 dX9_envies_67 rfl wF_X9_12 rfl rfl ⟨k0, isK_pos e1⟩ ?_
  refine wa_getI 73 1 dX9_envies_70 rfl wF_X9_84 rfl rfl e1 ?_
  refine wa_icmp_ge 76 111 dX9_envies_73 rfl (by decide) (fun q => ?_) (fun q => ?_)
  · replace h := h.1 q
    refine wa_iload 113 dX9_envies_111 rfl rfl ?_
    exact wa_iret dX9_envies_113 rfl h
  · replace h := h.2 q
    refine wa_aload_n 77 dX9_envies_76 rfl rfl ?_
    have e2 : isK L (rf L v0 3) (1, 0) := lay_f hL k0 3 rfl
    refine wa_getR 80 3 dX9_envies_77 rfl wF_X9_27 rfl rfl ⟨k0, isK_pos e2⟩ ?_
    refine wa_iload 82 dX9_envies_80 rfl rfl ?_
    refine wa_aload_n 83 dX9_envies_82 rfl rfl ?_
    refine wa_getR 86 0 dX9_envies_83 rfl wF_X9_12 rfl rfl ⟨k0, isK_pos e1⟩ ?_
    refine wa_aload_n 87 dX9_envies_86 rfl rfl ?_
    refine wa_callV 90 3 3 1 (av := [(0, v7), (2, (rf L v0 0)), (2, v3)]) (rest := []) (k1 := (0, 0)) (k2 := (0, 0)) cvX1_holds dX9_envies_87 rfl wM_X9_219 ⟨rfl, by decide, rfl, Nat.le_of_ble_eq_true rfl, by decide, Nat.le_of_ble_eq_true rfl, rfl, rfl⟩ rfl e2 (TR.mono h (fun r3 L4 μ5 h => ?_))
    obtain ⟨w6, rfl, rfl, h⟩ := h
    show WA mX9_envies 4 (0, 0) 90 [(2, v0), (9, 0), (9, 0), (2, v3), (1, v4), (9, 0), (0, v6), (0, v7)] [(1, w6)] L μ5 Q
    refine wa_lload 92 dX9_envies_90 rfl rfl ?_
    refine wa_lc_le 96 105 dX9_envies_92 dX9_envies_93 rfl (by decide) (fun q => ?_) (fun q => ?_)
    · replace h := h.1 q
      obtain ⟨c7, h⟩ := h
      refine wa_iinc 108 [(2, v0), (9, 0), (9, 0), (2, v3), (1, v4), (9, 0), (0, v6), (0, (v7 + 1))] dX9_envies_105 rfl rfl rfl c7 rfl ?_
      refine wa_goto 64 dX9_envies_108 (by decide) ?_
      exact h
    · replace h := h.2 q
      refine wa_iload 98 dX9_envies_96 rfl rfl ?_
      refine wa_iconst 99 dX9_envies_98 rfl (by decide) ?_
      refine wa_iload 101 dX9_envies_99 rfl rfl ?_
      refine wa_ishl 102 dX9_envies_101 rfl ?_
      refine wa_ior 103 dX9_envies_102 rfl ?_
      refine wa_istore 105 [(2, v0), (9, 0), (9, 0), (2, v3), (1, v4), (9, 0), (0, (bOr v6 ((bShl 1 v7)))), (0, v7)] dX9_envies_103 rfl rfl rfl ?_
      obtain ⟨c8, h⟩ := h
      refine wa_iinc 108 [(2, v0), (9, 0), (9, 0), (2, v3), (1, v4), (9, 0), (0, (bOr v6 ((bShl 1 v7)))), (0, (v7 + 1))] dX9_envies_105 rfl rfl rfl c8 rfl ?_
      refine wa_goto 64 dX9_envies_108 (by decide) ?_
      exact h
set_option maxRecDepth 20000 in
theorem t_X9_event (hL : LayOK L) {v0 v1 v2 : Int} (k0 : isK L v0 (9, 0)) (h : ((μ ((rf L v0 3)) 0) = 0 → Q (some (1, (-9223372036854775808))) L μ) ∧ (¬ (μ ((rf L v0 3)) 0) = 0 → (v2 < 0 → Q (some (1, (-9223372036854775808))) L μ) ∧ (¬ v2 < 0 → (5 < v2 → Q (some (1, (-9223372036854775808))) L μ) ∧ (¬ 5 < v2 → (v1 < (-1) → Q (some (1, (-9223372036854775808))) L μ) ∧ (¬ v1 < (-1) → (v1 < (μ ((rf L v0 3)) 3) → (¬ v1 = (-1) → (0 ≤ v1 ∧ v1 < 19) ∧ TR mX2_part 2 (0, 0) [(2, (rf L ((rf L ((rf L v0 3)) 4)) v1)), (0, v2)] L μ (fun r5 L6 μ7 => ∃ w8, r5 = some (1, w8) ∧ L = L6 ∧ Q (some (1, w8)) L μ7)) ∧ (v1 = (-1) → (¬ v2 = 0 → Q (some (1, (-9223372036854775808))) L μ) ∧ (v2 = 0 → Q (some (1, (μ ((rf L v0 3)) 3))) L μ))) ∧ (¬ v1 < (μ ((rf L v0 3)) 3) → Q (some (1, (-9223372036854775808))) L μ)))))) : TR mX9_event 3 (0, 0) [(2, v0), (0, v1), (0, v2)] L μ Q := by
  refine TR.of (ls := [(2, v0), (0, v1), (0, v2)]) (by decide) (by simp) rfl (Nat.le_of_ble_eq_true rfl) ?_
  refine wa_aload_n 1 dX9_event_0 rfl rfl ?_
  have e1 : isK L (rf L v0 3) (1, 0) := lay_f hL k0 3 rfl
  refine wa_getR 4 3 dX9_event_1 rfl wF_X9_27 rfl rfl ⟨k0, isK_pos e1⟩ ?_
  refine wa_getI 7 0 dX9_event_4 rfl wF_X9_177 rfl rfl e1 ?_
  refine wa_if_eq 10 35 dX9_event_7 rfl (by decide) (fun q => ?_) (fun q => ?_)
  · replace h := h.1 q
    refine wa_ldc2 38 (-9223372036854775808) dX9_event_35 rfl wJ_X9_126 ⟨rfl, by decide⟩ ?_
    exact wa_lret dX9_event_38 rfl h
  · replace h := h.2 q
    refine wa_iload_n 11 dX9_event_10 rfl rfl ?_
    refine wa_if_lt 14 35 dX9_event_11 rfl (by decide) (fun q => ?_) (fun q => ?_)
    · replace h := h.1 q
      refine wa_ldc2 38 (-9223372036854775808) dX9_event_35 rfl wJ_X9_126 ⟨rfl, by decide⟩ ?_
      exact wa_lret dX9_event_38 rfl h
    · replace h := h.2 q
      refine wa_iload_n 15 dX9_event_14 rfl rfl ?_
      refine wa_iconst 16 dX9_event_15 rfl (by decide) ?_
      refine wa_icmp_gt 19 35 dX9_event_16 rfl (by decide) (fun q => ?_) (fun q => ?_)
      · replace h := h.1 q
        refine wa_ldc2 38 (-9223372036854775808) dX9_event_35 rfl wJ_X9_126 ⟨rfl, by decide⟩ ?_
        exact wa_lret dX9_event_38 rfl h
      · replace h := h.2 q
        refine wa_iload_n 20 dX9_event_19 rfl rfl ?_
        refine wa_iconst 21 dX9_event_20 rfl (by decide) ?_
        refine wa_icmp_lt 24 35 dX9_event_21 rfl (by decide) (fun q => ?_) (fun q => ?_)
        · replace h := h.1 q
          refine wa_ldc2 38 (-9223372036854775808) dX9_event_35 rfl wJ_X9_126 ⟨rfl, by decide⟩ ?_
          exact wa_lret dX9_event_38 rfl h
        · replace h := h.2 q
          refine wa_iload_n 25 dX9_event_24 rfl rfl ?_
          refine wa_aload_n 26 dX9_event_25 rfl rfl ?_
          refine wa_getR 29 3 dX9_event_26 rfl wF_X9_27 rfl rfl ⟨k0, isK_pos e1⟩ ?_
          refine wa_getI 32 3 dX9_event_29 rfl wF_X9_184 rfl rfl e1 ?_
          refine wa_icmp_lt 35 39 dX9_event_32 rfl (by decide) (fun q => ?_) (fun q => ?_)
          · replace h := h.1 q
            refine wa_iload_n 40 dX9_event_39 rfl rfl ?_
            refine wa_iconst 41 dX9_event_40 rfl (by decide) ?_
            refine wa_icmp_ne 44 63 dX9_event_41 rfl (by decide) (fun q => ?_) (fun q => ?_)
            · replace h := h.1 q
              refine wa_aload_n 64 dX9_event_63 rfl rfl ?_
              refine wa_getR 67 3 dX9_event_64 rfl wF_X9_27 rfl rfl ⟨k0, isK_pos e1⟩ ?_
              have e2 : isK L (rf L ((rf L v0 3)) 4) (24, 19) := lay_f hL e1 4 rfl
              refine wa_getR 70 4 dX9_event_67 rfl wF_X9_187 rfl rfl ⟨e1, isK_pos e2⟩ ?_
              refine wa_iload_n 71 dX9_event_70 rfl rfl ?_
              obtain ⟨c3, h⟩ := h
              have e4 : isK L (rf L ((rf L ((rf L v0 3)) 4)) v1) (2, 0) := lay_e hL e1 4 rfl c3
              refine wa_aaload 72 24 dX9_event_71 rfl ⟨by decide, by decide⟩ ⟨okA_of e2 c3, isK_pos e4⟩ ?_
              refine wa_iload_n 73 dX9_event_72 rfl rfl ?_
              refine wa_callV 76 2 1 2 (av := [(0, v2)]) (rest := []) (k1 := (0, 0)) (k2 := (0, 0)) cvX2_part dX9_event_73 rfl wM_X9_208 ⟨rfl, by decide, rfl, Nat.le_of_ble_eq_true rfl, by decide, Nat.le_of_ble_eq_true rfl, rfl, rfl⟩ rfl e4 (TR.mono h (fun r5 L6 μ7 h => ?_))
              obtain ⟨w8, rfl, rfl, h⟩ := h
              show WA mX9_event 3 (0, 0) 76 [(2, v0), (0, v1), (0, v2)] [(1, w8)] L μ7 Q
              exact wa_lret dX9_event_76 rfl h
            · replace h := h.2 q
              refine wa_iload_n 45 dX9_event_44 rfl rfl ?_
              refine wa_if_ne 48 59 dX9_event_45 rfl (by decide) (fun q => ?_) (fun q => ?_)
              · replace h := h.1 q
                refine wa_ldc2 62 (-9223372036854775808) dX9_event_59 rfl wJ_X9_126 ⟨rfl, by decide⟩ ?_
                exact wa_lret dX9_event_62 rfl h
              · replace h := h.2 q
                refine wa_aload_n 49 dX9_event_48 rfl rfl ?_
                refine wa_getR 52 3 dX9_event_49 rfl wF_X9_27 rfl rfl ⟨k0, isK_pos e1⟩ ?_
                refine wa_getI 55 3 dX9_event_52 rfl wF_X9_184 rfl rfl e1 ?_
                refine wa_i2l 56 dX9_event_55 rfl ?_
                refine wa_goto 62 dX9_event_56 (by decide) ?_
                exact wa_lret dX9_event_62 rfl h
          · replace h := h.2 q
            refine wa_ldc2 38 (-9223372036854775808) dX9_event_35 rfl wJ_X9_126 ⟨rfl, by decide⟩ ?_
            exact wa_lret dX9_event_38 rfl h
set_option maxRecDepth 20000 in
theorem t_X9_exact (hL : LayOK L) {v0 v1 v2 v3 : Int} (k0 : isK L v0 (9, 0)) (h : TR mX0_hasAgent 0 (0, 0) [(2, (rf L v0 0)), (0, v1)] L μ (fun r2 L3 μ4 => ∃ w5, r2 = some (0, w5) ∧ L = L3 ∧ (w5 = 0 → Q (some (1, (-9223372036854775808))) L μ4) ∧ (¬ w5 = 0 → TR mX0_hasAgent 0 (0, 0) [(2, (rf L v0 0)), (0, v2)] L μ4 (fun r6 L7 μ8 => ∃ w9, r6 = some (0, w9) ∧ L = L7 ∧ (w9 = 0 → Q (some (1, (-9223372036854775808))) L μ8) ∧ (¬ w9 = 0 → (v1 = v2 → Q (some (1, (-9223372036854775808))) L μ8) ∧ (¬ v1 = v2 → (v3 < 0 → Q (some (1, (-9223372036854775808))) L μ8) ∧ (¬ v3 < 0 → (v3 ≤ 3 → (0 ≤ v1 ∧ v1 < 5) ∧ (0 ≤ v2 ∧ v2 < 5) ∧ TR mX0_halfForBoth 3 (0, 0) [(2, (rf L v0 0)), (2, (rf L v0 13)), (2, (rf L ((rf L ((rf L v0 0)) 3)) v1)), (2, (rf L ((rf L ((rf L v0 0)) 3)) v2))] L μ8 (fun r16 L17 μ18 => ∃ w19, r16 = some (0, w19) ∧ L = L17 ∧ (¬ w19 = 0 → TR mX7_part 1 (0, 0) [(2, (rf L v0 13)), (0, v3)] L μ18 (fun r20 L21 μ22 => ∃ w23, r20 = some (1, w23) ∧ L = L21 ∧ Q (some (1, w23)) L μ22)) ∧ (w19 = 0 → Q (some (1, (-9223372036854775808))) L μ18))) ∧ (¬ v3 ≤ 3 → Q (some (1, (-9223372036854775808))) L μ8)))))))) : TR mX9_exact 4 (0, 0) [(2, v0), (0, v1), (0, v2), (0, v3)] L μ Q := by
  refine TR.of (ls := [(2, v0), (0, v1), (0, v2), (0, v3)]) (by decide) (by simp) rfl (Nat.le_of_ble_eq_true rfl) ?_
  refine wa_aload_n 1 dX9_exact_0 rfl rfl ?_
  have e1 : isK L (rf L v0 0) (0, 0) := lay_f hL k0 0 rfl
  refine wa_getR 4 0 dX9_exact_1 rfl wF_X9_12 rfl rfl ⟨k0, isK_pos e1⟩ ?_
  refine wa_iload_n 5 dX9_exact_4 rfl rfl ?_
  refine wa_callV 8 0 1 0 (av := [(0, v1)]) (rest := []) (k1 := (0, 0)) (k2 := (0, 0)) cvX0_hasAgent dX9_exact_5 rfl wM_X9_95 ⟨rfl, by decide, rfl, Nat.le_of_ble_eq_true rfl, by decide, Nat.le_of_ble_eq_true rfl, rfl, rfl⟩ rfl e1 (TR.mono h (fun r2 L3 μ4 h => ?_))
  obtain ⟨w5, rfl, rfl, h⟩ := h
  show WA mX9_exact 4 (0, 0) 8 [(2, v0), (0, v1), (0, v2), (0, v3)] [(0, w5)] L μ4 Q
  refine wa_if_eq 11 36 dX9_exact_8 rfl (by decide) (fun q => ?_) (fun q => ?_)
  · replace h := h.1 q
    refine wa_ldc2 39 (-9223372036854775808) dX9_exact_36 rfl wJ_X9_126 ⟨rfl, by decide⟩ ?_
    exact wa_lret dX9_exact_39 rfl h
  · replace h := h.2 q
    refine wa_aload_n 12 dX9_exact_11 rfl rfl ?_
    refine wa_getR 15 0 dX9_exact_12 rfl wF_X9_12 rfl rfl ⟨k0, isK_pos e1⟩ ?_
    refine wa_iload_n 16 dX9_exact_15 rfl rfl ?_
    refine wa_callV 19 0 1 0 (av := [(0, v2)]) (rest := []) (k1 := (0, 0)) (k2 := (0, 0)) cvX0_hasAgent dX9_exact_16 rfl wM_X9_95 ⟨rfl, by decide, rfl, Nat.le_of_ble_eq_true rfl, by decide, Nat.le_of_ble_eq_true rfl, rfl, rfl⟩ rfl e1 (TR.mono h (fun r6 L7 μ8 h => ?_))
    obtain ⟨w9, rfl, rfl, h⟩ := h
    show WA mX9_exact 4 (0, 0) 19 [(2, v0), (0, v1), (0, v2), (0, v3)] [(0, w9)] L μ8 Q
    refine wa_if_eq 22 36 dX9_exact_19 rfl (by decide) (fun q => ?_) (fun q => ?_)
    · replace h := h.1 q
      refine wa_ldc2 39 (-9223372036854775808) dX9_exact_36 rfl wJ_X9_126 ⟨rfl, by decide⟩ ?_
      exact wa_lret dX9_exact_39 rfl h
    · replace h := h.2 q
      refine wa_iload_n 23 dX9_exact_22 rfl rfl ?_
      refine wa_iload_n 24 dX9_exact_23 rfl rfl ?_
      refine wa_icmp_eq 27 36 dX9_exact_24 rfl (by decide) (fun q => ?_) (fun q => ?_)
      · replace h := h.1 q
        refine wa_ldc2 39 (-9223372036854775808) dX9_exact_36 rfl wJ_X9_126 ⟨rfl, by decide⟩ ?_
        exact wa_lret dX9_exact_39 rfl h
      · replace h := h.2 q
        refine wa_iload_n 28 dX9_exact_27 rfl rfl ?_
        refine wa_if_lt 31 36 dX9_exact_28 rfl (by decide) (fun q => ?_) (fun q => ?_)
        · replace h := h.1 q
          refine wa_ldc2 39 (-9223372036854775808) dX9_exact_36 rfl wJ_X9_126 ⟨rfl, by decide⟩ ?_
          exact wa_lret dX9_exact_39 rfl h
        · replace h := h.2 q
          refine wa_iload_n 32 dX9_exact_31 rfl rfl ?_
          refine wa_iconst 33 dX9_exact_32 rfl (by decide) ?_
          refine wa_icmp_le 36 40 dX9_exact_33 rfl (by decide) (fun q => ?_) (fun q => ?_)
          · replace h := h.1 q
            refine wa_aload_n 41 dX9_exact_40 rfl rfl ?_
            refine wa_getR 44 0 dX9_exact_41 rfl wF_X9_12 rfl rfl ⟨k0, isK_pos e1⟩ ?_
            refine wa_aload_n 45 dX9_exact_44 rfl rfl ?_
            have e10 : isK L (rf L v0 13) (7, 0) := lay_f hL k0 13 rfl
            refine wa_getR 48 13 dX9_exact_45 rfl wF_X9_80 rfl rfl ⟨k0, isK_pos e10⟩ ?_
            refine wa_aload_n 49 dX9_exact_48 rfl rfl ?_
            refine wa_getR 52 0 dX9_exact_49 rfl wF_X9_12 rfl rfl ⟨k0, isK_pos e1⟩ ?_
            have e11 : isK L (rf L ((rf L v0 0)) 3) (23, 5) := lay_f hL e1 3 rfl
            refine wa_getR 55 3 dX9_exact_52 rfl wF_X9_109 rfl rfl ⟨e1, isK_pos e11⟩ ?_
            refine wa_iload_n 56 dX9_exact_55 rfl rfl ?_
            obtain ⟨c12, h⟩ := h
            have e13 : isK L (rf L ((rf L ((rf L v0 0)) 3)) v1) (20, 16) := lay_e hL e1 3 rfl c12
            refine wa_aaload 57 23 dX9_exact_56 rfl ⟨by decide, by decide⟩ ⟨okA_of e11 c12, isK_pos e13⟩ ?_
            refine wa_aload_n 58 dX9_exact_57 rfl rfl ?_
            refine wa_getR 61 0 dX9_exact_58 rfl wF_X9_12 rfl rfl ⟨k0, isK_pos e1⟩ ?_
            refine wa_getR 64 3 dX9_exact_61 rfl wF_X9_109 rfl rfl ⟨e1, isK_pos e11⟩ ?_
            refine wa_iload_n 65 dX9_exact_64 rfl rfl ?_
            obtain ⟨c14, h⟩ := h
            have e15 : isK L (rf L ((rf L ((rf L v0 0)) 3)) v2) (20, 16) := lay_e hL e1 3 rfl c14
            refine wa_aaload 66 23 dX9_exact_65 rfl ⟨by decide, by decide⟩ ⟨okA_of e11 c14, isK_pos e15⟩ ?_
            refine wa_callV 69 3 3 0 (av := [(2, (rf L v0 13)), (2, (rf L ((rf L ((rf L v0 0)) 3)) v1)), (2, (rf L ((rf L ((rf L v0 0)) 3)) v2))]) (rest := []) (k1 := (0, 0)) (k2 := (0, 0)) cvX0_halfForBoth dX9_exact_66 rfl wM_X9_151 ⟨rfl, by decide, rfl, Nat.le_of_ble_eq_true rfl, by decide, Nat.le_of_ble_eq_true rfl, rfl, rfl⟩ rfl e1 (TR.mono h (fun r16 L17 μ18 h => ?_))
            obtain ⟨w19, rfl, rfl, h⟩ := h
            show WA mX9_exact 4 (0, 0) 69 [(2, v0), (0, v1), (0, v2), (0, v3)] [(0, w19)] L μ18 Q
            refine wa_if_ne 72 76 dX9_exact_69 rfl (by decide) (fun q => ?_) (fun q => ?_)
            · replace h := h.1 q
              refine wa_aload_n 77 dX9_exact_76 rfl rfl ?_
              refine wa_getR 80 13 dX9_exact_77 rfl wF_X9_80 rfl rfl ⟨k0, isK_pos e10⟩ ?_
              refine wa_iload_n 81 dX9_exact_80 rfl rfl ?_
              refine wa_callV 84 1 1 7 (av := [(0, v3)]) (rest := []) (k1 := (0, 0)) (k2 := (0, 0)) cvX7_part dX9_exact_81 rfl wM_X9_155 ⟨rfl, by decide, rfl, Nat.le_of_ble_eq_true rfl, by decide, Nat.le_of_ble_eq_true rfl, rfl, rfl⟩ rfl e10 (TR.mono h (fun r20 L21 μ22 h => ?_))
              obtain ⟨w23, rfl, rfl, h⟩ := h
              show WA mX9_exact 4 (0, 0) 84 [(2, v0), (0, v1), (0, v2), (0, v3)] [(1, w23)] L μ22 Q
              exact wa_lret dX9_exact_84 rfl h
            · replace h := h.2 q
              refine wa_ldc2 75 (-9223372036854775808) dX9_exact_72 rfl wJ_X9_126 ⟨rfl, by decide⟩ ?_
              exact wa_lret dX9_exact_75 rfl h
          · replace h := h.2 q
            refine wa_ldc2 39 (-9223372036854775808) dX9_exact_36 rfl wJ_X9_126 ⟨rfl, by decide⟩ ?_
            exact wa_lret dX9_exact_39 rfl h
set_option maxRecDepth 20000 in
theorem t_X9_exchange (hL : LayOK L) {v0 : Int} (k0 : isK L v0 (9, 0)) (h : (¬ (μ ((rf L v0 3)) 0) = 0 → TR mX1_bestExchange 4 (0, 0) [(2, (rf L v0 3)), (2, (rf L v0 0))] L μ (fun r3 L4 μ5 => ∃ w6, r3 = some (0, w6) ∧ L = L4 ∧ Q (some (0, w6)) L μ5)) ∧ ((μ ((rf L v0 3)) 0) = 0 → Q (some (0, (-5))) L μ)) : TR mX9_exchange 5 (0, 0) [(2, v0)] L μ Q := by
  refine TR.of (ls := [(2, v0)]) (by decide) (by simp) rfl (Nat.le_of_ble_eq_true rfl) ?_
  refine wa_aload_n 1 dX9_exchange_0 rfl rfl ?_
  have e1 : isK L (rf L v0 3) (1, 0) := lay_f hL k0 3 rfl
  refine wa_getR 4 3 dX9_exchange_1 rfl wF_X9_27 rfl rfl ⟨k0, isK_pos e1⟩ ?_
  refine wa_getI 7 0 dX9_exchange_4 rfl wF_X9_177 rfl rfl e1 ?_
  refine wa_if_ne 10 13 dX9_exchange_7 rfl (by decide) (fun q => ?_) (fun q => ?_)
  · replace h := h.1 q
    refine wa_aload_n 14 dX9_exchange_13 rfl rfl ?_
    refine wa_getR 17 3 dX9_exchange_14 rfl wF_X9_27 rfl rfl ⟨k0, isK_pos e1⟩ ?_
    refine wa_aload_n 18 dX9_exchange_17 rfl rfl ?_
    have e2 : isK L (rf L v0 0) (0, 0) := lay_f hL k0 0 rfl
    refine wa_getR 21 0 dX9_exchange_18 rfl wF_X9_12 rfl rfl ⟨k0, isK_pos e2⟩ ?_
    refine wa_callV 24 4 1 1 (av := [(2, (rf L v0 0))]) (rest := []) (k1 := (0, 0)) (k2 := (0, 0)) cvX1_bestExchange dX9_exchange_21 rfl wM_X9_226 ⟨rfl, by decide, rfl, Nat.le_of_ble_eq_true rfl, by decide, Nat.le_of_ble_eq_true rfl, rfl, rfl⟩ rfl e1 (TR.mono h (fun r3 L4 μ5 h => ?_))
    obtain ⟨w6, rfl, rfl, h⟩ := h
    show WA mX9_exchange 5 (0, 0) 24 [(2, v0)] [(0, w6)] L μ5 Q
    exact wa_iret dX9_exchange_24 rfl h
  · replace h := h.2 q
    refine wa_bipush 12 dX9_exchange_10 rfl ⟨by decide, by decide⟩ ?_
    exact wa_iret dX9_exchange_12 rfl h
set_option maxRecDepth 20000 in
theorem t_X9_fair (hL : LayOK L) {v0 v1 : Int} (k0 : isK L v0 (9, 0)) (h : TR mX9_isFlag 0 (0, 0) [(0, v1)] L μ (fun r1 L2 μ3 => ∃ w4, r1 = some (0, w4) ∧ L = L2 ∧ (¬ w4 = 0 → (¬ (μ3 ((rf L v0 3)) 0) = 0 → WA mX9_fair 4 (0, 0) 26 [(2, v0), (0, v1), (0, 0), (0, 0), (9, 0)] [] L μ3 Q) ∧ ((μ3 ((rf L v0 3)) 0) = 0 → Q (some (0, (-5))) L μ3)) ∧ (w4 = 0 → Q (some (0, (-1))) L μ3))) : TR mX9_fair 4 (0, 0) [(2, v0), (0, v1)] L μ Q := by
  refine TR.of (ls := [(2, v0), (0, v1), (9, 0), (9, 0), (9, 0)]) (by decide) (by simp) rfl (Nat.le_of_ble_eq_true rfl) ?_
  refine wa_iload_n 1 dX9_fair_0 rfl rfl ?_
  refine wa_callS 4 0 1 (av := [(0, v1)]) (rest := []) (k1 := (0, 0)) (k2 := (0, 0)) cvX9_isFlag dX9_fair_1 rfl wM_X9_115 ⟨rfl, Nat.le_of_ble_eq_true rfl, by decide, Nat.le_of_ble_eq_true rfl, rfl, rfl⟩ rfl (TR.mono h (fun r1 L2 μ3 h => ?_))
  obtain ⟨w4, rfl, rfl, h⟩ := h
  show WA mX9_fair 4 (0, 0) 4 [(2, v0), (0, v1), (9, 0), (9, 0), (9, 0)] [(0, w4)] L μ3 Q
  refine wa_if_ne 7 9 dX9_fair_4 rfl (by decide) (fun q => ?_) (fun q => ?_)
  · replace h := h.1 q
    refine wa_aload_n 10 dX9_fair_9 rfl rfl ?_
    have e5 : isK L (rf L v0 3) (1, 0) := lay_f hL k0 3 rfl
    refine wa_getR 13 3 dX9_fair_10 rfl wF_X9_27 rfl rfl ⟨k0, isK_pos e5⟩ ?_
    refine wa_getI 16 0 dX9_fair_13 rfl wF_X9_177 rfl rfl e5 ?_
    refine wa_if_ne 19 22 dX9_fair_16 rfl (by decide) (fun q => ?_) (fun q => ?_)
    · replace h := h.1 q
      refine wa_iconst 23 dX9_fair_22 rfl (by decide) ?_
      refine wa_istore_n 24 [(2, v0), (0, v1), (0, 0), (9, 0), (9, 0)] dX9_fair_23 rfl rfl rfl ?_
      refine wa_iconst 25 dX9_fair_24 rfl (by decide) ?_
      refine wa_istore_n 26 [(2, v0), (0, v1), (0, 0), (0, 0), (9, 0)] dX9_fair_25 rfl rfl rfl ?_
      exact h
    · replace h := h.2 q
      refine wa_bipush 21 dX9_fair_19 rfl ⟨by decide, by decide⟩ ?_
      exact wa_iret dX9_fair_21 rfl h
  · replace h := h.2 q
    refine wa_iconst 8 dX9_fair_7 rfl (by decide) ?_
    exact wa_iret dX9_fair_8 rfl h
set_option maxRecDepth 20000 in
theorem s_X9_fair_26 (hL : LayOK L) {v0 v1 v2 v3 : Int} (k0 : isK L v0 (9, 0)) (h : ((μ ((rf L v0 0)) 1) ≤ v3 → Q (some (0, v2)) L μ) ∧ (¬ (μ ((rf L v0 0)) 1) ≤ v3 → TR mX0_row 0 (0, 0) [(2, (rf L v0 0)), (0, v3), (0, v1)] L μ (fun r2 L3 μ4 => ∃ w5, r2 = some (2, w5) ∧ L = L3 ∧ isK L w5 (20, 16) ∧ TR mX1_holds 3 (0, 0) [(2, (rf L v0 3)), (0, v3), (2, (rf L v0 0)), (2, w5)] L μ4 (fun r8 L9 μ10 => ∃ w11, r8 = some (1, w11) ∧ L = L9 ∧ (inL (w11 * (μ10 ((rf L v0 0)) 1))) ∧ TR mX0_total 0 (0, 0) [(2, (rf L v0 0)), (2, w5)] L μ10 (fun r13 L14 μ15 => ∃ w16, r13 = some (0, w16) ∧ L = L14 ∧ (inL (w16 * (μ15 ((rf L v0 3)) 2))) ∧ ((w11 * (μ10 ((rf L v0 0)) 1)) < (w16 * (μ15 ((rf L v0 3)) 2)) → (inI (v3 + 1)) ∧ WA mX9_fair 4 (0, 0) 26 [(2, v0), (0, v1), (0, v2), (0, (v3 + 1)), (9, 0)] [] L μ15 Q) ∧ (¬ (w11 * (μ10 ((rf L v0 0)) 1)) < (w16 * (μ15 ((rf L v0 3)) 2)) → (inI (v3 + 1)) ∧ WA mX9_fair 4 (0, 0) 26 [(2, v0), (0, v1), (0, (bOr v2 ((bShl 1 v3)))), (0, (v3 + 1)), (9, 0)] [] L μ15 Q)))))) : WA mX9_fair 4 (0, 0) 26 [(2, v0), (0, v1), (0, v2), (0, v3), (9, 0)] [] L μ Q := by
  refine wa_iload_n 27 dX9_fair_26 rfl rfl ?_
  refine wa_aload_n 28 dX9_fair_27 rfl rfl ?_
  have e1 : isK L (rf L v0 0) (0, 0) := lay_f hL k0 0 rfl
  refine wa_getR 31 0 dX9_fair_28 rfl wF_X9_12 rfl rfl ⟨k0, isK_pos e1⟩ ?_
  refine wa_getI 34 1 dX9_fair_31 rfl wF_X9_84 rfl rfl e1 ?_
  refine wa_icmp_ge 37 105 dX9_fair_34 rfl (by decide) (fun q => ?_) (fun q => ?_)
  · replace h := h.1 q
    refine wa_iload_n 106 dX9_fair_105 rfl rfl ?_
    exact wa_iret dX9_fair_106 rfl h
  · replace h := h.2 q
    refine wa_aload_n 38 dX9_fair_37 rfl rfl ?_
    refine wa_getR 41 0 dX9_fair_38 rfl wF_X9_12 rfl rfl ⟨k0, isK_pos e1⟩ ?_
    refine wa_iload_n 42 dX9_fair_41 rfl rfl ?_
    refine wa_iload_n 43 dX9_fair_42 rfl rfl ?_
    refine wa_callV 46 0 2 0 (av := [(0, v3), (0, v1)]) (rest := []) (k1 := (0, 0)) (k2 := (0, 0)) cvX0_row dX9_fair_43 rfl wM_X9_118 ⟨rfl, by decide, rfl, Nat.le_of_ble_eq_true rfl, by decide, Nat.le_of_ble_eq_true rfl, rfl, rfl⟩ rfl e1 (TR.mono h (fun r2 L3 μ4 h => ?_))
    obtain ⟨w5, rfl, rfl, e6, h⟩ := h
    show WA mX9_fair 4 (0, 0) 46 [(2, v0), (0, v1), (0, v2), (0, v3), (9, 0)] [(2, w5)] L μ4 Q
    refine wa_astore 48 [(2, v0), (0, v1), (0, v2), (0, v3), (2, w5)] dX9_fair_46 rfl rfl rfl ?_
    refine wa_aload_n 49 dX9_fair_48 rfl rfl ?_
    have e7 : isK L (rf L v0 3) (1, 0) := lay_f hL k0 3 rfl
    refine wa_getR 52 3 dX9_fair_49 rfl wF_X9_27 rfl rfl ⟨k0, isK_pos e7⟩ ?_
    refine wa_iload_n 53 dX9_fair_52 rfl rfl ?_
    refine wa_aload_n 54 dX9_fair_53 rfl rfl ?_
    refine wa_getR 57 0 dX9_fair_54 rfl wF_X9_12 rfl rfl ⟨k0, isK_pos e1⟩ ?_
    refine wa_aload 59 dX9_fair_57 rfl rfl ?_
    refine wa_callV 62 3 3 1 (av := [(0, v3), (2, (rf L v0 0)), (2, w5)]) (rest := []) (k1 := (0, 0)) (k2 := (0, 0)) cvX1_holds dX9_fair_59 rfl wM_X9_219 ⟨rfl, by decide, rfl, Nat.le_of_ble_eq_true rfl, by decide, Nat.le_of_ble_eq_true rfl, rfl, rfl⟩ rfl e7 (TR.mono h (fun r8 L9 μ10 h => ?_))
    obtain ⟨w11, rfl, rfl, h⟩ := h
    show WA mX9_fair 4 (0, 0) 62 [(2, v0), (0, v1), (0, v2), (0, v3), (2, w5)] [(1, w11)] L μ10 Q
    refine wa_aload_n 63 dX9_fair_62 rfl rfl ?_
    refine wa_getR 66 0 dX9_fair_63 rfl wF_X9_12 rfl rfl ⟨k0, isK_pos e1⟩ ?_
    refine wa_getI 69 1 dX9_fair_66 rfl wF_X9_84 rfl rfl e1 ?_
    refine wa_i2l 70 dX9_fair_69 rfl ?_
    obtain ⟨c12, h⟩ := h
    refine wa_lmul 71 dX9_fair_70 rfl c12 ?_
    refine wa_aload_n 72 dX9_fair_71 rfl rfl ?_
    refine wa_getR 75 0 dX9_fair_72 rfl wF_X9_12 rfl rfl ⟨k0, isK_pos e1⟩ ?_
    refine wa_aload 77 dX9_fair_75 rfl rfl ?_
    refine wa_callV 80 0 1 0 (av := [(2, w5)]) (rest := [(1, (w11 * (μ10 ((rf L v0 0)) 1)))]) (k1 := (0, 0)) (k2 := (0, 0)) cvX0_total dX9_fair_77 rfl wM_X9_136 ⟨rfl, by decide, rfl, Nat.le_of_ble_eq_true rfl, by decide, Nat.le_of_ble_eq_true rfl, rfl, rfl⟩ rfl e1 (TR.mono h (fun r13 L14 μ15 h => ?_))
    obtain ⟨w16, rfl, rfl, h⟩ := h
    show WA mX9_fair 4 (0, 0) 80 [(2, v0), (0, v1), (0, v2), (0, v3), (2, w5)] [(0, w16), (1, (w11 * (μ10 ((rf L v0 0)) 1)))] L μ15 Q
    refine wa_i2l 81 dX9_fair_80 rfl ?_
    refine wa_aload_n 82 dX9_fair_81 rfl rfl ?_
    refine wa_getR 85 3 dX9_fair_82 rfl wF_X9_27 rfl rfl ⟨k0, isK_pos e7⟩ ?_
    refine wa_getL 88 2 dX9_fair_85 rfl wF_X9_223 rfl rfl e7 ?_
    obtain ⟨c17, h⟩ := h
    refine wa_lmul 89 dX9_fair_88 rfl c17 ?_
    refine wa_lc_lt 93 99 dX9_fair_89 dX9_fair_90 rfl (by decide) (fun q => ?_) (fun q => ?_)
    · replace h := h.1 q
      obtain ⟨c18, h⟩ := h
      refine wa_iinc 102 [(2, v0), (0, v1), (0, v2), (0, (v3 + 1)), (2, w5)] dX9_fair_99 rfl rfl rfl c18 rfl ?_
      refine wa_goto 26 dX9_fair_102 (by decide) ?_
      exact wa_weak [(2, v0), (0, v1), (0, v2), (0, (v3 + 1)), (9, 0)] ⟨Or.inl rfl, Or.inl rfl, Or.inl rfl, Or.inl rfl, Or.inr rfl, trivial⟩ h
    · replace h := h.2 q
      refine wa_iload_n 94 dX9_fair_93 rfl rfl ?_
      refine wa_iconst 95 dX9_fair_94 rfl (by decide) ?_
      refine wa_iload_n 96 dX9_fair_95 rfl rfl ?_
      refine wa_ishl 97 dX9_fair_96 rfl ?_
      refine wa_ior 98 dX9_fair_97 rfl ?_
      refine wa_istore_n 99 [(2, v0), (0, v1), (0, (bOr v2 ((bShl 1 v3)))), (0, v3), (2, w5)] dX9_fair_98 rfl rfl rfl ?_
      obtain ⟨c19, h⟩ := h
      refine wa_iinc 102 [(2, v0), (0, v1), (0, (bOr v2 ((bShl 1 v3)))), (0, (v3 + 1)), (2, w5)] dX9_fair_99 rfl rfl rfl c19 rfl ?_
      refine wa_goto 26 dX9_fair_102 (by decide) ?_
      exact wa_weak [(2, v0), (0, v1), (0, (bOr v2 ((bShl 1 v3)))), (0, (v3 + 1)), (9, 0)] ⟨Or.inl rfl, Or.inl rfl, Or.inl rfl, Or.inl rfl, Or.inr rfl, trivial⟩ h
set_option maxRecDepth 20000 in
theorem t_X9_feed (hL : LayOK L) {v0 v1 : Int} (k0 : isK L v0 (9, 0)) (h : (v1 < 1 → Q (some (0, (-1))) L μ) ∧ (¬ v1 < 1 → (v1 ≤ 127 → TR mX8_add 0 (0, 0) [(2, (rf L v0 8)), (0, v1)] L μ (fun r2 L3 μ4 => ∃ w5, r2 = some (0, w5) ∧ L = L3 ∧ (w5 = 0 → Q (some (0, (-3))) L μ4) ∧ (¬ w5 = 0 → Q (some (0, (μ4 ((rf L v0 8)) 0))) L μ4))) ∧ (¬ v1 ≤ 127 → Q (some (0, (-1))) L μ))) : TR mX9_feed 1 (0, 0) [(2, v0), (0, v1)] L μ Q := by
  refine TR.of (ls := [(2, v0), (0, v1)]) (by decide) (by simp) rfl (Nat.le_of_ble_eq_true rfl) ?_
  refine wa_iload_n 1 dX9_feed_0 rfl rfl ?_
  refine wa_iconst 2 dX9_feed_1 rfl (by decide) ?_
  refine wa_icmp_lt 5 11 dX9_feed_2 rfl (by decide) (fun q => ?_) (fun q => ?_)
  · replace h := h.1 q
    refine wa_iconst 12 dX9_feed_11 rfl (by decide) ?_
    exact wa_iret dX9_feed_12 rfl h
  · replace h := h.2 q
    refine wa_iload_n 6 dX9_feed_5 rfl rfl ?_
    refine wa_bipush 8 dX9_feed_6 rfl ⟨by decide, by decide⟩ ?_
    refine wa_icmp_le 11 13 dX9_feed_8 rfl (by decide) (fun q => ?_) (fun q => ?_)
    · replace h := h.1 q
      refine wa_aload_n 14 dX9_feed_13 rfl rfl ?_
      have e1 : isK L (rf L v0 8) (8, 0) := lay_f hL k0 8 rfl
      refine wa_getR 17 8 dX9_feed_14 rfl wF_X9_49 rfl rfl ⟨k0, isK_pos e1⟩ ?_
      refine wa_iload_n 18 dX9_feed_17 rfl rfl ?_
      refine wa_callV 21 0 1 8 (av := [(0, v1)]) (rest := []) (k1 := (0, 0)) (k2 := (0, 0)) cvX8_add dX9_feed_18 rfl wM_X9_159 ⟨rfl, by decide, rfl, Nat.le_of_ble_eq_true rfl, by decide, Nat.le_of_ble_eq_true rfl, rfl, rfl⟩ rfl e1 (TR.mono h (fun r2 L3 μ4 h => ?_))
      obtain ⟨w5, rfl, rfl, h⟩ := h
      show WA mX9_feed 1 (0, 0) 21 [(2, v0), (0, v1)] [(0, w5)] L μ4 Q
      refine wa_if_eq 24 34 dX9_feed_21 rfl (by decide) (fun q => ?_) (fun q => ?_)
      · replace h := h.1 q
        refine wa_bipush 36 dX9_feed_34 rfl ⟨by decide, by decide⟩ ?_
        exact wa_iret dX9_feed_36 rfl h
      · replace h := h.2 q
        refine wa_aload_n 25 dX9_feed_24 rfl rfl ?_
        refine wa_getR 28 8 dX9_feed_25 rfl wF_X9_49 rfl rfl ⟨k0, isK_pos e1⟩ ?_
        refine wa_getI 31 0 dX9_feed_28 rfl wF_X9_162 rfl rfl e1 ?_
        refine wa_goto 36 dX9_feed_31 (by decide) ?_
        exact wa_iret dX9_feed_36 rfl h
    · replace h := h.2 q
      refine wa_iconst 12 dX9_feed_11 rfl (by decide) ?_
      exact wa_iret dX9_feed_12 rfl h
set_option maxRecDepth 20000 in
theorem t_X9_from (hL : LayOK L) {v0 v1 v2 v3 : Int} (k0 : isK L v0 (9, 0)) (h : TR mX9_refusal 1 (0, 0) [(2, v0), (0, v1), (0, v2), (0, v3)] L μ (fun r1 L2 μ3 => ∃ w4, r1 = some (0, w4) ∧ L = L2 ∧ (w4 = 0 → WA mX9_from 2 (0, 0) 20 [(2, v0), (0, v1), (0, v2), (0, v3), (9, 0), (0, 0)] [] L μ3 Q) ∧ (¬ w4 = 0 → Q (some (0, w4)) L μ3))) : TR mX9_from 2 (0, 0) [(2, v0), (0, v1), (0, v2), (0, v3)] L μ Q := by
  refine TR.of (ls := [(2, v0), (0, v1), (0, v2), (0, v3), (9, 0), (9, 0)]) (by decide) (by simp) rfl (Nat.le_of_ble_eq_true rfl) ?_
  refine wa_aload_n 1 dX9_from_0 rfl rfl ?_
  refine wa_iload_n 2 dX9_from_1 rfl rfl ?_
  refine wa_iload_n 3 dX9_from_2 rfl rfl ?_
  refine wa_iload_n 4 dX9_from_3 rfl rfl ?_
  refine wa_callV 7 1 3 9 (av := [(0, v1), (0, v2), (0, v3)]) (rest := []) (k1 := (0, 0)) (k2 := (0, 0)) cvX9_refusal dX9_from_4 rfl wM_X9_266 ⟨rfl, by decide, rfl, Nat.le_of_ble_eq_true rfl, by decide, Nat.le_of_ble_eq_true rfl, rfl, rfl⟩ rfl k0 (TR.mono h (fun r1 L2 μ3 h => ?_))
  obtain ⟨w4, rfl, rfl, h⟩ := h
  show WA mX9_from 2 (0, 0) 7 [(2, v0), (0, v1), (0, v2), (0, v3), (9, 0), (9, 0)] [(0, w4)] L μ3 Q
  refine wa_istore 9 [(2, v0), (0, v1), (0, v2), (0, v3), (0, w4), (9, 0)] dX9_from_7 rfl rfl rfl ?_
  refine wa_iload 11 dX9_from_9 rfl rfl ?_
  refine wa_if_eq 14 17 dX9_from_11 rfl (by decide) (fun q => ?_) (fun q => ?_)
  · replace h := h.1 q
    refine wa_iconst 18 dX9_from_17 rfl (by decide) ?_
    refine wa_istore 20 [(2, v0), (0, v1), (0, v2), (0, v3), (0, w4), (0, 0)] dX9_from_18 rfl rfl rfl ?_
    exact wa_weak [(2, v0), (0, v1), (0, v2), (0, v3), (9, 0), (0, 0)] ⟨Or.inl rfl, Or.inl rfl, Or.inl rfl, Or.inl rfl, Or.inr rfl, Or.inl rfl, trivial⟩ h
  · replace h := h.2 q
    refine wa_iload 16 dX9_from_14 rfl rfl ?_
    exact wa_iret dX9_from_16 rfl h
set_option maxRecDepth 20000 in
theorem s_X9_from_20 (hL : LayOK L) {v0 v1 v2 v3 v5 : Int} (k0 : isK L v0 (9, 0)) (h : ((μ ((rf L v0 0)) 0) ≤ v5 → Q (some (0, v5)) L μ) ∧ (¬ (μ ((rf L v0 0)) 0) ≤ v5 → (inI (v3 + v5)) ∧ TR mX4_hasPlace 0 (0, 0) [(2, (rf L v0 10)), (0, v2), (0, (v3 + v5))] L μ (fun r4 L5 μ6 => ∃ w7, r4 = some (0, w7) ∧ L = L5 ∧ (w7 = 0 → Q (some (0, v5)) L μ6) ∧ (¬ w7 = 0 → (0 ≤ v2 ∧ v2 < 4) ∧ (0 ≤ (v3 + v5) ∧ (v3 + v5) < 20) ∧ TR mX9_isWorth 0 (0, 0) [(0, (μ6 ((rf L ((rf L ((rf L v0 10)) 0)) v2)) ((v3 + v5))))] L μ6 (fun r12 L13 μ14 => ∃ w15, r12 = some (0, w15) ∧ L = L13 ∧ (w15 = 0 → Q (some (0, v5)) L μ14) ∧ (¬ w15 = 0 → (0 ≤ v1 ∧ v1 < 5) ∧ (0 ≤ v5 ∧ v5 < 16) ∧ (inI (v5 + 1)) ∧ WA mX9_from 2 (0, 0) 20 [(2, v0), (0, v1), (0, v2), (0, v3), (9, 0), (0, (v5 + 1))] [] L (up μ14 ((rf L ((rf L ((rf L v0 0)) 3)) v1)) v5 ((μ14 ((rf L ((rf L ((rf L v0 10)) 0)) v2)) ((v3 + v5))))) Q)))))) : WA mX9_from 2 (0, 0) 20 [(2, v0), (0, v1), (0, v2), (0, v3), (9, 0), (0, v5)] [] L μ Q := by
  refine wa_iload 22 dX9_from_20 rfl rfl ?_
  refine wa_aload_n 23 dX9_from_22 rfl rfl ?_
  have e1 : isK L (rf L v0 0) (0, 0) := lay_f hL k0 0 rfl
  refine wa_getR 26 0 dX9_from_23 rfl wF_X9_12 rfl rfl ⟨k0, isK_pos e1⟩ ?_
  refine wa_getI 29 0 dX9_from_26 rfl wF_X9_112 rfl rfl e1 ?_
  refine wa_icmp_ge 32 99 dX9_from_29 rfl (by decide) (fun q => ?_) (fun q => ?_)
  · replace h := h.1 q
    refine wa_iload 101 dX9_from_99 rfl rfl ?_
    exact wa_iret dX9_from_101 rfl h
  · replace h := h.2 q
    refine wa_aload_n 33 dX9_from_32 rfl rfl ?_
    have e2 : isK L (rf L v0 10) (4, 0) := lay_f hL k0 10 rfl
    refine wa_getR 36 10 dX9_from_33 rfl wF_X9_63 rfl rfl ⟨k0, isK_pos e2⟩ ?_
    refine wa_iload_n 37 dX9_from_36 rfl rfl ?_
    refine wa_iload_n 38 dX9_from_37 rfl rfl ?_
    refine wa_iload 40 dX9_from_38 rfl rfl ?_
    obtain ⟨c3, h⟩ := h
    refine wa_iadd 41 dX9_from_40 rfl c3 ?_
    refine wa_callV 44 0 2 4 (av := [(0, v2), (0, (v3 + v5))]) (rest := []) (k1 := (0, 0)) (k2 := (0, 0)) cvX4_hasPlace dX9_from_41 rfl wM_X9_260 ⟨rfl, by decide, rfl, Nat.le_of_ble_eq_true rfl, by decide, Nat.le_of_ble_eq_true rfl, rfl, rfl⟩ rfl e2 (TR.mono h (fun r4 L5 μ6 h => ?_))
    obtain ⟨w7, rfl, rfl, h⟩ := h
    show WA mX9_from 2 (0, 0) 44 [(2, v0), (0, v1), (0, v2), (0, v3), (9, 0), (0, v5)] [(0, w7)] L μ6 Q
    refine wa_if_eq 47 99 dX9_from_44 rfl (by decide) (fun q => ?_) (fun q => ?_)
    · replace h := h.1 q
      refine wa_iload 101 dX9_from_99 rfl rfl ?_
      exact wa_iret dX9_from_101 rfl h
    · replace h := h.2 q
      refine wa_aload_n 48 dX9_from_47 rfl rfl ?_
      refine wa_getR 51 10 dX9_from_48 rfl wF_X9_63 rfl rfl ⟨k0, isK_pos e2⟩ ?_
      have e8 : isK L (rf L ((rf L v0 10)) 0) (23, 4) := lay_f hL e2 0 rfl
      refine wa_getR 54 0 dX9_from_51 rfl wF_X9_263 rfl rfl ⟨e2, isK_pos e8⟩ ?_
      refine wa_iload_n 55 dX9_from_54 rfl rfl ?_
      obtain ⟨c9, h⟩ := h
      have e10 : isK L (rf L ((rf L ((rf L v0 10)) 0)) v2) (20, 20) := lay_e hL e2 0 rfl c9
      refine wa_aaload 56 23 dX9_from_55 rfl ⟨by decide, by decide⟩ ⟨okA_of e8 c9, isK_pos e10⟩ ?_
      refine wa_iload_n 57 dX9_from_56 rfl rfl ?_
      refine wa_iload 59 dX9_from_57 rfl rfl ?_
      refine wa_iadd 60 dX9_from_59 rfl c3 ?_
      obtain ⟨c11, h⟩ := h
      refine wa_iaload 61 dX9_from_60 rfl (okA_of e10 c11) ?_
      refine wa_callS 64 0 1 (av := [(0, (μ6 ((rf L ((rf L ((rf L v0 10)) 0)) v2)) ((v3 + v5))))]) (rest := []) (k1 := (0, 0)) (k2 := (0, 0)) cvX9_isWorth dX9_from_61 rfl wM_X9_102 ⟨rfl, Nat.le_of_ble_eq_true rfl, by decide, Nat.le_of_ble_eq_true rfl, rfl, rfl⟩ rfl (TR.mono h (fun r12 L13 μ14 h => ?_))
      obtain ⟨w15, rfl, rfl, h⟩ := h
      show WA mX9_from 2 (0, 0) 64 [(2, v0), (0, v1), (0, v2), (0, v3), (9, 0), (0, v5)] [(0, w15)] L μ14 Q
      refine wa_if_eq 67 99 dX9_from_64 rfl (by decide) (fun q => ?_) (fun q => ?_)
      · replace h := h.1 q
        refine wa_iload 101 dX9_from_99 rfl rfl ?_
        exact wa_iret dX9_from_101 rfl h
      · replace h := h.2 q
        refine wa_aload_n 68 dX9_from_67 rfl rfl ?_
        refine wa_getR 71 0 dX9_from_68 rfl wF_X9_12 rfl rfl ⟨k0, isK_pos e1⟩ ?_
        have e16 : isK L (rf L ((rf L v0 0)) 3) (23, 5) := lay_f hL e1 3 rfl
        refine wa_getR 74 3 dX9_from_71 rfl wF_X9_109 rfl rfl ⟨e1, isK_pos e16⟩ ?_
        refine wa_iload_n 75 dX9_from_74 rfl rfl ?_
        obtain ⟨c17, h⟩ := h
        have e18 : isK L (rf L ((rf L ((rf L v0 0)) 3)) v1) (20, 16) := lay_e hL e1 3 rfl c17
        refine wa_aaload 76 23 dX9_from_75 rfl ⟨by decide, by decide⟩ ⟨okA_of e16 c17, isK_pos e18⟩ ?_
        refine wa_iload 78 dX9_from_76 rfl rfl ?_
        refine wa_aload_n 79 dX9_from_78 rfl rfl ?_
        refine wa_getR 82 10 dX9_from_79 rfl wF_X9_63 rfl rfl ⟨k0, isK_pos e2⟩ ?_
        refine wa_getR 85 0 dX9_from_82 rfl wF_X9_263 rfl rfl ⟨e2, isK_pos e8⟩ ?_
        refine wa_iload_n 86 dX9_from_85 rfl rfl ?_
        refine wa_aaload 87 23 dX9_from_86 rfl ⟨by decide, by decide⟩ ⟨okA_of e8 c9, isK_pos e10⟩ ?_
        refine wa_iload_n 88 dX9_from_87 rfl rfl ?_
        refine wa_iload 90 dX9_from_88 rfl rfl ?_
        refine wa_iadd 91 dX9_from_90 rfl c3 ?_
        refine wa_iaload 92 dX9_from_91 rfl (okA_of e10 c11) ?_
        obtain ⟨c19, h⟩ := h
        refine wa_iastore 93 dX9_from_92 rfl (okA_of e18 c19) ?_
        obtain ⟨c20, h⟩ := h
        refine wa_iinc 96 [(2, v0), (0, v1), (0, v2), (0, v3), (9, 0), (0, (v5 + 1))] dX9_from_93 rfl rfl rfl c20 rfl ?_
        refine wa_goto 20 dX9_from_96 (by decide) ?_
        exact h
set_option maxRecDepth 20000 in
theorem t_X9_get (hL : LayOK L) {v0 v1 v2 : Int} (k0 : isK L v0 (9, 0)) (h : TR mX4_isRow 0 (0, 0) [(2, (rf L v0 10)), (0, v1)] L μ (fun r2 L3 μ4 => ∃ w5, r2 = some (0, w5) ∧ L = L3 ∧ (w5 = 0 → Q (some (1, (-9223372036854775808))) L μ4) ∧ (¬ w5 = 0 → TR mX4_hasPlace 0 (0, 0) [(2, (rf L v0 10)), (0, v1), (0, v2)] L μ4 (fun r6 L7 μ8 => ∃ w9, r6 = some (0, w9) ∧ L = L7 ∧ (¬ w9 = 0 → (0 ≤ v1 ∧ v1 < 4) ∧ (0 ≤ v2 ∧ v2 < 20) ∧ Q (some (1, (μ8 ((rf L ((rf L ((rf L v0 10)) 0)) v1)) v2))) L μ8) ∧ (w9 = 0 → Q (some (1, (-9223372036854775808))) L μ8))))) : TR mX9_get 1 (0, 0) [(2, v0), (0, v1), (0, v2)] L μ Q := by
  refine TR.of (ls := [(2, v0), (0, v1), (0, v2)]) (by decide) (by simp) rfl (Nat.le_of_ble_eq_true rfl) ?_
  refine wa_aload_n 1 dX9_get_0 rfl rfl ?_
  have e1 : isK L (rf L v0 10) (4, 0) := lay_f hL k0 10 rfl
  refine wa_getR 4 10 dX9_get_1 rfl wF_X9_63 rfl rfl ⟨k0, isK_pos e1⟩ ?_
  refine wa_iload_n 5 dX9_get_4 rfl rfl ?_
  refine wa_callV 8 0 1 4 (av := [(0, v1)]) (rest := []) (k1 := (0, 0)) (k2 := (0, 0)) cvX4_isRow dX9_get_5 rfl wM_X9_253 ⟨rfl, by decide, rfl, Nat.le_of_ble_eq_true rfl, by decide, Nat.le_of_ble_eq_true rfl, rfl, rfl⟩ rfl e1 (TR.mono h (fun r2 L3 μ4 h => ?_))
  obtain ⟨w5, rfl, rfl, h⟩ := h
  show WA mX9_get 1 (0, 0) 8 [(2, v0), (0, v1), (0, v2)] [(0, w5)] L μ4 Q
  refine wa_if_eq 11 23 dX9_get_8 rfl (by decide) (fun q => ?_) (fun q => ?_)
  · replace h := h.1 q
    refine wa_ldc2 26 (-9223372036854775808) dX9_get_23 rfl wJ_X9_126 ⟨rfl, by decide⟩ ?_
    exact wa_lret dX9_get_26 rfl h
  · replace h := h.2 q
    refine wa_aload_n 12 dX9_get_11 rfl rfl ?_
    refine wa_getR 15 10 dX9_get_12 rfl wF_X9_63 rfl rfl ⟨k0, isK_pos e1⟩ ?_
    refine wa_iload_n 16 dX9_get_15 rfl rfl ?_
    refine wa_iload_n 17 dX9_get_16 rfl rfl ?_
    refine wa_callV 20 0 2 4 (av := [(0, v1), (0, v2)]) (rest := []) (k1 := (0, 0)) (k2 := (0, 0)) cvX4_hasPlace dX9_get_17 rfl wM_X9_260 ⟨rfl, by decide, rfl, Nat.le_of_ble_eq_true rfl, by decide, Nat.le_of_ble_eq_true rfl, rfl, rfl⟩ rfl e1 (TR.mono h (fun r6 L7 μ8 h => ?_))
    obtain ⟨w9, rfl, rfl, h⟩ := h
    show WA mX9_get 1 (0, 0) 20 [(2, v0), (0, v1), (0, v2)] [(0, w9)] L μ8 Q
    refine wa_if_ne 23 27 dX9_get_20 rfl (by decide) (fun q => ?_) (fun q => ?_)
    · replace h := h.1 q
      refine wa_aload_n 28 dX9_get_27 rfl rfl ?_
      refine wa_getR 31 10 dX9_get_28 rfl wF_X9_63 rfl rfl ⟨k0, isK_pos e1⟩ ?_
      have e10 : isK L (rf L ((rf L v0 10)) 0) (23, 4) := lay_f hL e1 0 rfl
      refine wa_getR 34 0 dX9_get_31 rfl wF_X9_263 rfl rfl ⟨e1, isK_pos e10⟩ ?_
      refine wa_iload_n 35 dX9_get_34 rfl rfl ?_
      obtain ⟨c11, h⟩ := h
      have e12 : isK L (rf L ((rf L ((rf L v0 10)) 0)) v1) (20, 20) := lay_e hL e1 0 rfl c11
      refine wa_aaload 36 23 dX9_get_35 rfl ⟨by decide, by decide⟩ ⟨okA_of e10 c11, isK_pos e12⟩ ?_
      refine wa_iload_n 37 dX9_get_36 rfl rfl ?_
      obtain ⟨c13, h⟩ := h
      refine wa_iaload 38 dX9_get_37 rfl (okA_of e12 c13) ?_
      refine wa_i2l 39 dX9_get_38 rfl ?_
      exact wa_lret dX9_get_39 rfl h
    · replace h := h.2 q
      refine wa_ldc2 26 (-9223372036854775808) dX9_get_23 rfl wJ_X9_126 ⟨rfl, by decide⟩ ?_
      exact wa_lret dX9_get_26 rfl h
set_option maxRecDepth 20000 in
theorem t_X9_gets (hL : LayOK L) {v0 v1 v2 v3 v4 : Int} (k0 : isK L v0 (9, 0)) (h : TR mX0_hasAgent 0 (0, 0) [(2, (rf L v0 0)), (0, v1)] L μ (fun r2 L3 μ4 => ∃ w5, r2 = some (0, w5) ∧ L = L3 ∧ (w5 = 0 → Q (some (1, (-9223372036854775808))) L μ4) ∧ (¬ w5 = 0 → TR mX0_hasAgent 0 (0, 0) [(2, (rf L v0 0)), (0, v2)] L μ4 (fun r6 L7 μ8 => ∃ w9, r6 = some (0, w9) ∧ L = L7 ∧ (w9 = 0 → Q (some (1, (-9223372036854775808))) L μ8) ∧ (¬ w9 = 0 → TR mX9_isFlag 0 (0, 0) [(0, v3)] L μ8 (fun r10 L11 μ12 => ∃ w13, r10 = some (0, w13) ∧ L = L11 ∧ (w13 = 0 → Q (some (1, (-9223372036854775808))) L μ12) ∧ (¬ w13 = 0 → TR mX9_isFlag 0 (0, 0) [(0, v4)] L μ12 (fun r14 L15 μ16 => ∃ w17, r14 = some (0, w17) ∧ L = L15 ∧ (w17 = 0 → Q (some (1, (-9223372036854775808))) L μ16) ∧ (¬ w17 = 0 → (¬ (μ16 ((rf L v0 3)) 0) = 0 → TR mX0_row 0 (0, 0) [(2, (rf L v0 0)), (0, v1), (0, v3)] L μ16 (fun r19 L20 μ21 => ∃ w22, r19 = some (2, w22) ∧ L = L20 ∧ isK L w22 (20, 16) ∧ TR mX1_holds 3 (0, 0) [(2, (rf L v0 3)), (0, v2), (2, (rf L v0 0)), (2, w22)] L μ21 (fun r24 L25 μ26 => ∃ w27, r24 = some (1, w27) ∧ L = L25 ∧ TR mX9_tell 2 (0, 0) [(2, v0), (1, w27), (1, (μ26 ((rf L v0 3)) 2)), (0, v4)] L μ26 (fun r28 L29 μ30 => ∃ w31, r28 = some (1, w31) ∧ L = L29 ∧ Q (some (1, w31)) L μ30)))) ∧ ((μ16 ((rf L v0 3)) 0) = 0 → Q (some (1, (-9223372036854775808))) L μ16)))))))))) : TR mX9_gets 4 (0, 0) [(2, v0), (0, v1), (0, v2), (0, v3), (0, v4)] L μ Q := by
  refine TR.of (ls := [(2, v0), (0, v1), (0, v2), (0, v3), (0, v4)]) (by decide) (by simp) rfl (Nat.le_of_ble_eq_true rfl) ?_
  refine wa_aload_n 1 dX9_gets_0 rfl rfl ?_
  have e1 : isK L (rf L v0 0) (0, 0) := lay_f hL k0 0 rfl
  refine wa_getR 4 0 dX9_gets_1 rfl wF_X9_12 rfl rfl ⟨k0, isK_pos e1⟩ ?_
  refine wa_iload_n 5 dX9_gets_4 rfl rfl ?_
  refine wa_callV 8 0 1 0 (av := [(0, v1)]) (rest := []) (k1 := (0, 0)) (k2 := (0, 0)) cvX0_hasAgent dX9_gets_5 rfl wM_X9_95 ⟨rfl, by decide, rfl, Nat.le_of_ble_eq_true rfl, by decide, Nat.le_of_ble_eq_true rfl, rfl, rfl⟩ rfl e1 (TR.mono h (fun r2 L3 μ4 h => ?_))
  obtain ⟨w5, rfl, rfl, h⟩ := h
  show WA mX9_gets 4 (0, 0) 8 [(2, v0), (0, v1), (0, v2), (0, v3), (0, v4)] [(0, w5)] L μ4 Q
  refine wa_if_eq 11 47 dX9_gets_8 rfl (by decide) (fun q => ?_) (fun q => ?_)
  · replace h := h.1 q
    refine wa_ldc2 50 (-9223372036854775808) dX9_gets_47 rfl wJ_X9_126 ⟨rfl, by decide⟩ ?_
    exact wa_lret dX9_gets_50 rfl h
  · replace h := h.2 q
    refine wa_aload_n 12 dX9_gets_11 rfl rfl ?_
    refine wa_getR 15 0 dX9_gets_12 rfl wF_X9_12 rfl rfl ⟨k0, isK_pos e1⟩ ?_
    refine wa_iload_n 16 dX9_gets_15 rfl rfl ?_
    refine wa_callV 19 0 1 0 (av := [(0, v2)]) (rest := []) (k1 := (0, 0)) (k2 := (0, 0)) cvX0_hasAgent dX9_gets_16 rfl wM_X9_95 ⟨rfl, by decide, rfl, Nat.le_of_ble_eq_true rfl, by decide, Nat.le_of_ble_eq_true rfl, rfl, rfl⟩ rfl e1 (TR.mono h (fun r6 L7 μ8 h => ?_))
    obtain ⟨w9, rfl, rfl, h⟩ := h
    show WA mX9_gets 4 (0, 0) 19 [(2, v0), (0, v1), (0, v2), (0, v3), (0, v4)] [(0, w9)] L μ8 Q
    refine wa_if_eq 22 47 dX9_gets_19 rfl (by decide) (fun q => ?_) (fun q => ?_)
    · replace h := h.1 q
      refine wa_ldc2 50 (-9223372036854775808) dX9_gets_47 rfl wJ_X9_126 ⟨rfl, by decide⟩ ?_
      exact wa_lret dX9_gets_50 rfl h
    · replace h := h.2 q
      refine wa_iload_n 23 dX9_gets_22 rfl rfl ?_
      refine wa_callS 26 0 1 (av := [(0, v3)]) (rest := []) (k1 := (0, 0)) (k2 := (0, 0)) cvX9_isFlag dX9_gets_23 rfl wM_X9_115 ⟨rfl, Nat.le_of_ble_eq_true rfl, by decide, Nat.le_of_ble_eq_true rfl, rfl, rfl⟩ rfl (TR.mono h (fun r10 L11 μ12 h => ?_))
      obtain ⟨w13, rfl, rfl, h⟩ := h
      show WA mX9_gets 4 (0, 0) 26 [(2, v0), (0, v1), (0, v2), (0, v3), (0, v4)] [(0, w13)] L μ12 Q
      refine wa_if_eq 29 47 dX9_gets_26 rfl (by decide) (fun q => ?_) (fun q => ?_)
      · replace h := h.1 q
        refine wa_ldc2 50 (-9223372036854775808) dX9_gets_47 rfl wJ_X9_126 ⟨rfl, by decide⟩ ?_
        exact wa_lret dX9_gets_50 rfl h
      · replace h := h.2 q
        refine wa_iload 31 dX9_gets_29 rfl rfl ?_
        refine wa_callS 34 0 1 (av := [(0, v4)]) (rest := []) (k1 := (0, 0)) (k2 := (0, 0)) cvX9_isFlag dX9_gets_31 rfl wM_X9_115 ⟨rfl, Nat.le_of_ble_eq_true rfl, by decide, Nat.le_of_ble_eq_true rfl, rfl, rfl⟩ rfl (TR.mono h (fun r14 L15 μ16 h => ?_))
        obtain ⟨w17, rfl, rfl, h⟩ := h
        show WA mX9_gets 4 (0, 0) 34 [(2, v0), (0, v1), (0, v2), (0, v3), (0, v4)] [(0, w17)] L μ16 Q
        refine wa_if_eq 37 47 dX9_gets_34 rfl (by decide) (fun q => ?_) (fun q => ?_)
        · replace h := h.1 q
          refine wa_ldc2 50 (-9223372036854775808) dX9_gets_47 rfl wJ_X9_126 ⟨rfl, by decide⟩ ?_
          exact wa_lret dX9_gets_50 rfl h
        · replace h := h.2 q
          refine wa_aload_n 38 dX9_gets_37 rfl rfl ?_
          have e18 : isK L (rf L v0 3) (1, 0) := lay_f hL k0 3 rfl
          refine wa_getR 41 3 dX9_gets_38 rfl wF_X9_27 rfl rfl ⟨k0, isK_pos e18⟩ ?_
          refine wa_getI 44 0 dX9_gets_41 rfl wF_X9_177 rfl rfl e18 ?_
          refine wa_if_ne 47 51 dX9_gets_44 rfl (by decide) (fun q => ?_) (fun q => ?_)
          · replace h := h.1 q
            refine wa_aload_n 52 dX9_gets_51 rfl rfl ?_
            refine wa_aload_n 53 dX9_gets_52 rfl rfl ?_
            refine wa_getR 56 3 dX9_gets_53 rfl wF_X9_27 rfl rfl ⟨k0, isK_pos e18⟩ ?_
            refine wa_iload_n 57 dX9_gets_56 rfl rfl ?_
            refine wa_aload_n 58 dX9_gets_57 rfl rfl ?_
            refine wa_getR 61 0 dX9_gets_58 rfl wF_X9_12 rfl rfl ⟨k0, isK_pos e1⟩ ?_
            refine wa_aload_n 62 dX9_gets_61 rfl rfl ?_
            refine wa_getR 65 0 dX9_gets_62 rfl wF_X9_12 rfl rfl ⟨k0, isK_pos e1⟩ ?_
            refine wa_iload_n 66 dX9_gets_65 rfl rfl ?_
            refine wa_iload_n 67 dX9_gets_66 rfl rfl ?_
            refine wa_callV 70 0 2 0 (av := [(0, v1), (0, v3)]) (rest := [(2, (rf L v0 0)), (0, v2), (2, (rf L v0 3)), (2, v0)]) (k1 := (0, 0)) (k2 := (0, 0)) cvX0_row dX9_gets_67 rfl wM_X9_118 ⟨rfl, by decide, rfl, Nat.le_of_ble_eq_true rfl, by decide, Nat.le_of_ble_eq_true rfl, rfl, rfl⟩ rfl e1 (TR.mono h (fun r19 L20 μ21 h => ?_))
            obtain ⟨w22, rfl, rfl, e23, h⟩ := h
            show WA mX9_gets 4 (0, 0) 70 [(2, v0), (0, v1), (0, v2), (0, v3), (0, v4)] [(2, w22), (2, (rf L v0 0)), (0, v2), (2, (rf L v0 3)), (2, v0)] L μ21 Q
            refine wa_callV 73 3 3 1 (av := [(0, v2), (2, (rf L v0 0)), (2, w22)]) (rest := [(2, v0)]) (k1 := (0, 0)) (k2 := (0, 0)) cvX1_holds dX9_gets_70 rfl wM_X9_219 ⟨rfl, by decide, rfl, Nat.le_of_ble_eq_true rfl, by decide, Nat.le_of_ble_eq_true rfl, rfl, rfl⟩ rfl e18 (TR.mono h (fun r24 L25 μ26 h => ?_))
            obtain ⟨w27, rfl, rfl, h⟩ := h
            show WA mX9_gets 4 (0, 0) 73 [(2, v0), (0, v1), (0, v2), (0, v3), (0, v4)] [(1, w27), (2, v0)] L μ26 Q
            refine wa_aload_n 74 dX9_gets_73 rfl rfl ?_
            refine wa_getR 77 3 dX9_gets_74 rfl wF_X9_27 rfl rfl ⟨k0, isK_pos e18⟩ ?_
            refine wa_getL 80 2 dX9_gets_77 rfl wF_X9_223 rfl rfl e18 ?_
            refine wa_iload 82 dX9_gets_80 rfl rfl ?_
            refine wa_callV 85 2 3 9 (av := [(1, w27), (1, (μ26 ((rf L v0 3)) 2)), (0, v4)]) (rest := []) (k1 := (0, 0)) (k2 := (0, 0)) cvX9_tell dX9_gets_82 rfl wM_X9_132 ⟨rfl, by decide, rfl, Nat.le_of_ble_eq_true rfl, by decide, Nat.le_of_ble_eq_true rfl, rfl, rfl⟩ rfl k0 (TR.mono h (fun r28 L29 μ30 h => ?_))
            obtain ⟨w31, rfl, rfl, h⟩ := h
            show WA mX9_gets 4 (0, 0) 85 [(2, v0), (0, v1), (0, v2), (0, v3), (0, v4)] [(1, w31)] L μ30 Q
            exact wa_lret dX9_gets_85 rfl h
          · replace h := h.2 q
            refine wa_ldc2 50 (-9223372036854775808) dX9_gets_47 rfl wJ_X9_126 ⟨rfl, by decide⟩ ?_
            exact wa_lret dX9_gets_50 rfl h
set_option maxRecDepth 20000 in
theorem t_X9_honest (hL : LayOK L) {v0 v1 : Int} (k0 : isK L v0 (9, 0)) (h : TR mX0_hasAgent 0 (0, 0) [(2, (rf L v0 0)), (0, v1)] L μ (fun r2 L3 μ4 => ∃ w5, r2 = some (0, w5) ∧ L = L3 ∧ (¬ w5 = 0 → WA mX9_honest 1 (0, 0) 17 [(2, v0), (0, v1), (0, 0), (0, 0)] [] L μ4 Q) ∧ (w5 = 0 → Q (some (0, (-1))) L μ4))) : TR mX9_honest 1 (0, 0) [(2, v0), (0, v1)] L μ Q := by
  refine TR.of (ls := [(2, v0), (0, v1), (9, 0), (9, 0)]) (by decide) (by simp) rfl (Nat.le_of_ble_eq_true rfl) ?_
  refine wa_aload_n 1 dX9_honest_0 rfl rfl ?_
  have e1 : isK L (rf L v0 0) (0, 0) := lay_f hL k0 0 rfl
  refine wa_getR 4 0 dX9_honest_1 rfl wF_X9_12 rfl rfl ⟨k0, isK_pos e1⟩ ?_
  refine wa_iload_n 5 dX9_honest_4 rfl rfl ?_
  refine wa_callV 8 0 1 0 (av := [(0, v1)]) (rest := []) (k1 := (0, 0)) (k2 := (0, 0)) cvX0_hasAgent dX9_honest_5 rfl wM_X9_95 ⟨rfl, by decide, rfl, Nat.le_of_ble_eq_true rfl, by decide, Nat.le_of_ble_eq_true rfl, rfl, rfl⟩ rfl e1 (TR.mono h (fun r2 L3 μ4 h => ?_))
  obtain ⟨w5, rfl, rfl, h⟩ := h
  show WA mX9_honest 1 (0, 0) 8 [(2, v0), (0, v1), (9, 0), (9, 0)] [(0, w5)] L μ4 Q
  refine wa_if_ne 11 13 dX9_honest_8 rfl (by decide) (fun q => ?_) (fun q => ?_)
  · replace h := h.1 q
    refine wa_iconst 14 dX9_honest_13 rfl (by decide) ?_
    refine wa_istore_n 15 [(2, v0), (0, v1), (0, 0), (9, 0)] dX9_honest_14 rfl rfl rfl ?_
    refine wa_iconst 16 dX9_honest_15 rfl (by decide) ?_
    refine wa_istore_n 17 [(2, v0), (0, v1), (0, 0), (0, 0)] dX9_honest_16 rfl rfl rfl ?_
    exact h
  · replace h := h.2 q
    refine wa_iconst 12 dX9_honest_11 rfl (by decide) ?_
    exact wa_iret dX9_honest_12 rfl h
set_option maxRecDepth 20000 in
theorem s_X9_honest_17 (hL : LayOK L) {v0 v1 v2 v3 : Int} (k0 : isK L v0 (9, 0)) (h : ((μ ((rf L v0 0)) 0) ≤ v3 → Q (some (0, v2)) L μ) ∧ (¬ (μ ((rf L v0 0)) 0) ≤ v3 → (0 ≤ v1 ∧ v1 < 5) ∧ (0 ≤ v3 ∧ v3 < 16) ∧ ((μ ((rf L ((rf L ((rf L v0 0)) 3)) v1)) v3) = (μ ((rf L ((rf L ((rf L v0 0)) 2)) v1)) v3) → (inI (v3 + 1)) ∧ WA mX9_honest 1 (0, 0) 17 [(2, v0), (0, v1), (0, v2), (0, (v3 + 1))] [] L μ Q) ∧ (¬ (μ ((rf L ((rf L ((rf L v0 0)) 3)) v1)) v3) = (μ ((rf L ((rf L ((rf L v0 0)) 2)) v1)) v3) → (inI (v2 + 1)) ∧ (inI (v3 + 1)) ∧ WA mX9_honest 1 (0, 0) 17 [(2, v0), (0, v1), (0, (v2 + 1)), (0, (v3 + 1))] [] L (up μ ((rf L ((rf L ((rf L v0 0)) 3)) v1)) v3 ((μ ((rf L ((rf L ((rf L v0 0)) 2)) v1)) v3))) Q))) : WA mX9_honest 1 (0, 0) 17 [(2, v0), (0, v1), (0, v2), (0, v3)] [] L μ Q := by
  refine wa_iload_n 18 dX9_honest_17 rfl rfl ?_
  refine wa_aload_n 19 dX9_honest_18 rfl rfl ?_
  have e1 : isK L (rf L v0 0) (0, 0) := lay_f hL k0 0 rfl
  refine wa_getR 22 0 dX9_honest_19 rfl wF_X9_12 rfl rfl ⟨k0, isK_pos e1⟩ ?_
  refine wa_getI 25 0 dX9_honest_22 rfl wF_X9_112 rfl rfl e1 ?_
  refine wa_icmp_ge 28 84 dX9_honest_25 rfl (by decide) (fun q => ?_) (fun q => ?_)
  · replace h := h.1 q
    refine wa_iload_n 85 dX9_honest_84 rfl rfl ?_
    exact wa_iret dX9_honest_85 rfl h
  · replace h := h.2 q
    refine wa_aload_n 29 dX9_honest_28 rfl rfl ?_
    refine wa_getR 32 0 dX9_honest_29 rfl wF_X9_12 rfl rfl ⟨k0, isK_pos e1⟩ ?_
    have e2 : isK L (rf L ((rf L v0 0)) 3) (23, 5) := lay_f hL e1 3 rfl
    refine wa_getR 35 3 dX9_honest_32 rfl wF_X9_109 rfl rfl ⟨e1, isK_pos e2⟩ ?_
    refine wa_iload_n 36 dX9_honest_35 rfl rfl ?_
    obtain ⟨c3, h⟩ := h
    have e4 : isK L (rf L ((rf L ((rf L v0 0)) 3)) v1) (20, 16) := lay_e hL e1 3 rfl c3
    refine wa_aaload 37 23 dX9_honest_36 rfl ⟨by decide, by decide⟩ ⟨okA_of e2 c3, isK_pos e4⟩ ?_
    refine wa_iload_n 38 dX9_honest_37 rfl rfl ?_
    obtain ⟨c5, h⟩ := h
    refine wa_iaload 39 dX9_honest_38 rfl (okA_of e4 c5) ?_
    refine wa_aload_n 40 dX9_honest_39 rfl rfl ?_
    refine wa_getR 43 0 dX9_honest_40 rfl wF_X9_12 rfl rfl ⟨k0, isK_pos e1⟩ ?_
    have e6 : isK L (rf L ((rf L v0 0)) 2) (23, 5) := lay_f hL e1 2 rfl
    refine wa_getR 46 2 dX9_honest_43 rfl wF_X9_105 rfl rfl ⟨e1, isK_pos e6⟩ ?_
    refine wa_iload_n 47 dX9_honest_46 rfl rfl ?_
    have e7 : isK L (rf L ((rf L ((rf L v0 0)) 2)) v1) (20, 16) := lay_e hL e1 2 rfl c3
    refine wa_aaload 48 23 dX9_honest_47 rfl ⟨by decide, by decide⟩ ⟨okA_of e6 c3, isK_pos e7⟩ ?_
    refine wa_iload_n 49 dX9_honest_48 rfl rfl ?_
    refine wa_iaload 50 dX9_honest_49 rfl (okA_of e7 c5) ?_
    refine wa_icmp_eq 53 78 dX9_honest_50 rfl (by decide) (fun q => ?_) (fun q => ?_)
    · replace h := h.1 q
      obtain ⟨c8, h⟩ := h
      refine wa_iinc 81 [(2, v0), (0, v1), (0, v2), (0, (v3 + 1))] dX9_honest_78 rfl rfl rfl c8 rfl ?_
      refine wa_goto 17 dX9_honest_81 (by decide) ?_
      exact h
    · replace h := h.2 q
      refine wa_aload_n 54 dX9_honest_53 rfl rfl ?_
      refine wa_getR 57 0 dX9_honest_54 rfl wF_X9_12 rfl rfl ⟨k0, isK_pos e1⟩ ?_
      refine wa_getR 60 3 dX9_honest_57 rfl wF_X9_109 rfl rfl ⟨e1, isK_pos e2⟩ ?_
      refine wa_iload_n 61 dX9_honest_60 rfl rfl ?_
      refine wa_aaload 62 23 dX9_honest_61 rfl ⟨by decide, by decide⟩ ⟨okA_of e2 c3, isK_pos e4⟩ ?_
      refine wa_iload_n 63 dX9_honest_62 rfl rfl ?_
      refine wa_aload_n 64 dX9_honest_63 rfl rfl ?_
      refine wa_getR 67 0 dX9_honest_64 rfl wF_X9_12 rfl rfl ⟨k0, isK_pos e1⟩ ?_
      refine wa_getR 70 2 dX9_honest_67 rfl wF_X9_105 rfl rfl ⟨e1, isK_pos e6⟩ ?_
      refine wa_iload_n 71 dX9_honest_70 rfl rfl ?_
      refine wa_aaload 72 23 dX9_honest_71 rfl ⟨by decide, by decide⟩ ⟨okA_of e6 c3, isK_pos e7⟩ ?_
      refine wa_iload_n 73 dX9_honest_72 rfl rfl ?_
      refine wa_iaload 74 dX9_honest_73 rfl (okA_of e7 c5) ?_
      refine wa_iastore 75 dX9_honest_74 rfl (okA_of e4 c5) ?_
      obtain ⟨c9, h⟩ := h
      refine wa_iinc 78 [(2, v0), (0, v1), (0, (v2 + 1)), (0, v3)] dX9_honest_75 rfl rfl rfl c9 rfl ?_
      obtain ⟨c10, h⟩ := h
      refine wa_iinc 81 [(2, v0), (0, v1), (0, (v2 + 1)), (0, (v3 + 1))] dX9_honest_78 rfl rfl rfl c10 rfl ?_
      refine wa_goto 17 dX9_honest_81 (by decide) ?_
      exact h
set_option maxRecDepth 20000 in
theorem t_X9_image (hL : LayOK L) {v0 : Int} (k0 : isK L v0 (9, 0)) (h : TR mX0_copy 0 (0, 0) [(2, (rf L v0 2)), (2, (rf L v0 0))] L μ (fun r3 L4 μ5 => r3 = none ∧ L = L4 ∧ TR mX1_copy 4 (0, 0) [(2, (rf L v0 5)), (2, (rf L v0 3))] L μ5 (fun r8 L9 μ10 => r8 = none ∧ L = L9 ∧ Q (some (0, ((up μ10 v0 6 1) ((rf L v0 0)) 1))) L (up μ10 v0 6 1)))) : TR mX9_image 5 (0, 0) [(2, v0)] L μ Q := by
  refine TR.of (ls := [(2, v0)]) (by decide) (by simp) rfl (Nat.le_of_ble_eq_true rfl) ?_
  refine wa_aload_n 1 dX9_image_0 rfl rfl ?_
  have e1 : isK L (rf L v0 2) (0, 0) := lay_f hL k0 2 rfl
  refine wa_getR 4 2 dX9_image_1 rfl wF_X9_21 rfl rfl ⟨k0, isK_pos e1⟩ ?_
  refine wa_aload_n 5 dX9_image_4 rfl rfl ?_
  have e2 : isK L (rf L v0 0) (0, 0) := lay_f hL k0 0 rfl
  refine wa_getR 8 0 dX9_image_5 rfl wF_X9_12 rfl rfl ⟨k0, isK_pos e2⟩ ?_
  refine wa_callV 11 0 1 0 (av := [(2, (rf L v0 0))]) (rest := []) (k1 := (0, 0)) (k2 := (0, 0)) cvX0_copy dX9_image_8 rfl wM_X9_165 ⟨rfl, by decide, rfl, Nat.le_of_ble_eq_true rfl, by decide, Nat.le_of_ble_eq_true rfl, rfl, rfl⟩ rfl e1 (TR.mono h (fun r3 L4 μ5 h => ?_))
  obtain ⟨rfl, rfl, h⟩ := h
  show WA mX9_image 5 (0, 0) 11 [(2, v0)] [] L μ5 Q
  refine wa_aload_n 12 dX9_image_11 rfl rfl ?_
  have e6 : isK L (rf L v0 5) (1, 0) := lay_f hL k0 5 rfl
  refine wa_getR 15 5 dX9_image_12 rfl wF_X9_34 rfl rfl ⟨k0, isK_pos e6⟩ ?_
  refine wa_aload_n 16 dX9_image_15 rfl rfl ?_
  have e7 : isK L (rf L v0 3) (1, 0) := lay_f hL k0 3 rfl
  refine wa_getR 19 3 dX9_image_16 rfl wF_X9_27 rfl rfl ⟨k0, isK_pos e7⟩ ?_
  refine wa_callV 22 4 1 1 (av := [(2, (rf L v0 3))]) (rest := []) (k1 := (0, 0)) (k2 := (0, 0)) cvX1_copy dX9_image_19 rfl wM_X9_180 ⟨rfl, by decide, rfl, Nat.le_of_ble_eq_true rfl, by decide, Nat.le_of_ble_eq_true rfl, rfl, rfl⟩ rfl e6 (TR.mono h (fun r8 L9 μ10 h => ?_))
  obtain ⟨rfl, rfl, h⟩ := h
  show WA mX9_image 5 (0, 0) 22 [(2, v0)] [] L μ10 Q
  refine wa_aload_n 23 dX9_image_22 rfl rfl ?_
  refine wa_iconst 24 dX9_image_23 rfl (by decide) ?_
  refine wa_putI 27 6 dX9_image_24 rfl wF_X9_270 rfl rfl k0 (Or.inr rfl) ?_
  refine wa_aload_n 28 dX9_image_27 rfl rfl ?_
  refine wa_getR 31 0 dX9_image_28 rfl wF_X9_12 rfl rfl ⟨k0, isK_pos e2⟩ ?_
  refine wa_getI 34 1 dX9_image_31 rfl wF_X9_84 rfl rfl e2 ?_
  exact wa_iret dX9_image_34 rfl h
set_option maxRecDepth 20000 in
theorem t_X9_into (hL : LayOK L) {v0 v1 v2 v3 : Int} (k0 : isK L v0 (9, 0)) (h : TR mX9_refusal 1 (0, 0) [(2, v0), (0, v1), (0, v2), (0, v3)] L μ (fun r1 L2 μ3 => ∃ w4, r1 = some (0, w4) ∧ L = L2 ∧ (w4 = 0 → WA mX9_into 2 (0, 0) 20 [(2, v0), (0, v1), (0, v2), (0, v3), (9, 0), (0, 0)] [] L μ3 Q) ∧ (¬ w4 = 0 → Q (some (0, w4)) L μ3))) : TR mX9_into 2 (0, 0) [(2, v0), (0, v1), (0, v2), (0, v3)] L μ Q := by
  refine TR.of (ls := [(2, v0), (0, v1), (0, v2), (0, v3), (9, 0), (9, 0)]) (by decide) (by simp) rfl (Nat.le_of_ble_eq_true rfl) ?_
  refine wa_aload_n 1 dX9_into_0 rfl rfl ?_
  refine wa_iload_n 2 dX9_into_1 rfl rfl ?_
  refine wa_iload_n 3 dX9_into_2 rfl rfl ?_
  refine wa_iload_n 4 dX9_into_3 rfl rfl ?_
  refine wa_callV 7 1 3 9 (av := [(0, v1), (0, v2), (0, v3)]) (rest := []) (k1 := (0, 0)) (k2 := (0, 0)) cvX9_refusal dX9_into_4 rfl wM_X9_266 ⟨rfl, by decide, rfl, Nat.le_of_ble_eq_true rfl, by decide, Nat.le_of_ble_eq_true rfl, rfl, rfl⟩ rfl k0 (TR.mono h (fun r1 L2 μ3 h => ?_))
  obtain ⟨w4, rfl, rfl, h⟩ := h
  show WA mX9_into 2 (0, 0) 7 [(2, v0), (0, v1), (0, v2), (0, v3), (9, 0), (9, 0)] [(0, w4)] L μ3 Q
  refine wa_istore 9 [(2, v0), (0, v1), (0, v2), (0, v3), (0, w4), (9, 0)] dX9_into_7 rfl rfl rfl ?_
  refine wa_iload 11 dX9_into_9 rfl rfl ?_
  refine wa_if_eq 14 17 dX9_into_11 rfl (by decide) (fun q => ?_) (fun q => ?_)
  · replace h := h.1 q
    refine wa_iconst 18 dX9_into_17 rfl (by decide) ?_
    refine wa_istore 20 [(2, v0), (0, v1), (0, v2), (0, v3), (0, w4), (0, 0)] dX9_into_18 rfl rfl rfl ?_
    exact wa_weak [(2, v0), (0, v1), (0, v2), (0, v3), (9, 0), (0, 0)] ⟨Or.inl rfl, Or.inl rfl, Or.inl rfl, Or.inl rfl, Or.inr rfl, Or.inl rfl, trivial⟩ h
  · replace h := h.2 q
    refine wa_iload 16 dX9_into_14 rfl rfl ?_
    exact wa_iret dX9_into_16 rfl h
set_option maxRecDepth 20000 in
theorem s_X9_into_20 (hL : LayOK L) {v0 v1 v2 v3 v5 : Int} (k0 : isK L v0 (9, 0)) (h : ((μ ((rf L v0 0)) 0) ≤ v5 → Q (some (0, v5)) L μ) ∧ (¬ (μ ((rf L v0 0)) 0) ≤ v5 → (inI (v3 + v5)) ∧ TR mX4_hasPlace 0 (0, 0) [(2, (rf L v0 10)), (0, v2), (0, (v3 + v5))] L μ (fun r4 L5 μ6 => ∃ w7, r4 = some (0, w7) ∧ L = L5 ∧ (w7 = 0 → Q (some (0, v5)) L μ6) ∧ (¬ w7 = 0 → (0 ≤ v2 ∧ v2 < 4) ∧ (0 ≤ v1 ∧ v1 < 5) ∧ (0 ≤ v5 ∧ v5 < 16) ∧ (0 ≤ (v3 + v5) ∧ (v3 + v5) < 20) ∧ (inI (v5 + 1)) ∧ WA mX9_into 2 (0, 0) 20 [(2, v0), (0, v1), (0, v2), (0, v3), (9, 0), (0, (v5 + 1))] [] L (up μ6 ((rf L ((rf L ((rf L v0 10)) 0)) v2)) ((v3 + v5)) ((μ6 ((rf L ((rf L ((rf L v0 0)) 3)) v1)) v5))) Q)))) : WA mX9_into 2 (0, 0) 20 [(2, v0), (0, v1), (0, v2), (0, v3), (9, 0), (0, v5)] [] L μ Q := by
  refine wa_iload 22 dX9_into_20 rfl rfl ?_
  refine wa_aload_n 23 dX9_into_22 rfl rfl ?_
  have e1 : isK L (rf L v0 0) (0, 0) := lay_f hL k0 0 rfl
  refine wa_getR 26 0 dX9_into_23 rfl wF_X9_12 rfl rfl ⟨k0, isK_pos e1⟩ ?_
  refine wa_getI 29 0 dX9_into_26 rfl wF_X9_112 rfl rfl e1 ?_
  refine wa_icmp_ge 32 79 dX9_into_29 rfl (by decide) (fun q => ?_) (fun q => ?_)
  · replace h := h.1 q
    refine wa_iload 81 dX9_into_79 rfl rfl ?_
    exact wa_iret dX9_into_81 rfl h
  · replace h := h.2 q
    refine wa_aload_n 33 dX9_into_32 rfl rfl ?_
    have e2 : isK L (rf L v0 10) (4, 0) := lay_f hL k0 10 rfl
    refine wa_getR 36 10 dX9_into_33 rfl wF_X9_63 rfl rfl ⟨k0, isK_pos e2⟩ ?_
    refine wa_iload_n 37 dX9_into_36 rfl rfl ?_
    refine wa_iload_n 38 dX9_into_37 rfl rfl ?_
    refine wa_iload 40 dX9_into_38 rfl rfl ?_
    obtain ⟨c3, h⟩ := h
    refine wa_iadd 41 dX9_into_40 rfl c3 ?_
    refine wa_callV 44 0 2 4 (av := [(0, v2), (0, (v3 + v5))]) (rest := []) (k1 := (0, 0)) (k2 := (0, 0)) cvX4_hasPlace dX9_into_41 rfl wM_X9_260 ⟨rfl, by decide, rfl, Nat.le_of_ble_eq_true rfl, by decide, Nat.le_of_ble_eq_true rfl, rfl, rfl⟩ rfl e2 (TR.mono h (fun r4 L5 μ6 h => ?_))
    obtain ⟨w7, rfl, rfl, h⟩ := h
    show WA mX9_into 2 (0, 0) 44 [(2, v0), (0, v1), (0, v2), (0, v3), (9, 0), (0, v5)] [(0, w7)] L μ6 Q
    refine wa_if_eq 47 79 dX9_into_44 rfl (by decide) (fun q => ?_) (fun q => ?_)
    · replace h := h.1 q
      refine wa_iload 81 dX9_into_79 rfl rfl ?_
      exact wa_iret dX9_into_81 rfl h
    · replace h := h.2 q
      refine wa_aload_n 48 dX9_into_47 rfl rfl ?_
      refine wa_getR 51 10 dX9_into_48 rfl wF_X9_63 rfl rfl ⟨k0, isK_pos e2⟩ ?_
      have e8 : isK L (rf L ((rf L v0 10)) 0) (23, 4) := lay_f hL e2 0 rfl
      refine wa_getR 54 0 dX9_into_51 rfl wF_X9_263 rfl rfl ⟨e2, isK_pos e8⟩ ?_
      refine wa_iload_n 55 dX9_into_54 rfl rfl ?_
      obtain ⟨c9, h⟩ := h
      have e10 : isK L (rf L ((rf L ((rf L v0 10)) 0)) v2) (20, 20) := lay_e hL e2 0 rfl c9
      refine wa_aaload 56 23 dX9_into_55 rfl ⟨by decide, by decide⟩ ⟨okA_of e8 c9, isK_pos e10⟩ ?_
      refine wa_iload_n 57 dX9_into_56 rfl rfl ?_
      refine wa_iload 59 dX9_into_57 rfl rfl ?_
      refine wa_iadd 60 dX9_into_59 rfl c3 ?_
      refine wa_aload_n 61 dX9_into_60 rfl rfl ?_
      refine wa_getR 64 0 dX9_into_61 rfl wF_X9_12 rfl rfl ⟨k0, isK_pos e1⟩ ?_
      have e11 : isK L (rf L ((rf L v0 0)) 3) (23, 5) := lay_f hL e1 3 rfl
      refine wa_getR 67 3 dX9_into_64 rfl wF_X9_109 rfl rfl ⟨e1, isK_pos e11⟩ ?_
      refine wa_iload_n 68 dX9_into_67 rfl rfl ?_
      obtain ⟨c12, h⟩ := h
      have e13 : isK L (rf L ((rf L ((rf L v0 0)) 3)) v1) (20, 16) := lay_e hL e1 3 rfl c12
      refine wa_aaload 69 23 dX9_into_68 rfl ⟨by decide, by decide⟩ ⟨okA_of e11 c12, isK_pos e13⟩ ?_
      refine wa_iload 71 dX9_into_69 rfl rfl ?_
      obtain ⟨c14, h⟩ := h
      refine wa_iaload 72 dX9_into_71 rfl (okA_of e13 c14) ?_
      obtain ⟨c15, h⟩ := h
      refine wa_iastore 73 dX9_into_72 rfl (okA_of e10 c15) ?_
      obtain ⟨c16, h⟩ := h
      refine wa_iinc 76 [(2, v0), (0, v1), (0, v2), (0, v3), (9, 0), (0, (v5 + 1))] dX9_into_73 rfl rfl rfl c16 rfl ?_
      refine wa_goto 20 dX9_into_76 (by decide) ?_
      exact h
set_option maxRecDepth 20000 in
theorem t_X9_isAllowed (hL : LayOK L) {v0 v1 : Int} (k0 : isK L v0 (9, 0)) (h : (¬ v1 = 0 → (¬ v1 = 4 → Q (some (0, 1)) L μ) ∧ (v1 = 4 → (¬ (μ ((rf L v0 0)) 1) = 3 → Q (some (0, 0)) L μ) ∧ ((μ ((rf L v0 0)) 1) = 3 → Q (some (0, 1)) L μ))) ∧ (v1 = 0 → (¬ (μ ((rf L v0 0)) 1) = 2 → Q (some (0, 0)) L μ) ∧ ((μ ((rf L v0 0)) 1) = 2 → Q (some (0, 1)) L μ))) : TR mX9_isAllowed 0 (0, 0) [(2, v0), (0, v1)] L μ Q := by
  refine TR.of (ls := [(2, v0), (0, v1)]) (by decide) (by simp) rfl (Nat.le_of_ble_eq_true rfl) ?_
  refine wa_iload_n 1 dX9_isAllowed_0 rfl rfl ?_
  refine wa_if_ne 4 23 dX9_isAllowed_1 rfl (by decide) (fun q => ?_) (fun q => ?_)
  · replace h := h.1 q
    refine wa_iload_n 24 dX9_isAllowed_23 rfl rfl ?_
    refine wa_iconst 25 dX9_isAllowed_24 rfl (by decide) ?_
    refine wa_icmp_ne 28 39 dX9_isAllowed_25 rfl (by decide) (fun q => ?_) (fun q => ?_)
    · replace h := h.1 q
      refine wa_iconst 40 dX9_isAllowed_39 rfl (by decide) ?_
      refine wa_goto 44 dX9_isAllowed_40 (by decide) ?_
      exact wa_zret dX9_isAllowed_44 rfl (Or.inr rfl) h
    · replace h := h.2 q
      refine wa_aload_n 29 dX9_isAllowed_28 rfl rfl ?_
      have e1 : isK L (rf L v0 0) (0, 0) := lay_f hL k0 0 rfl
      refine wa_getR 32 0 dX9_isAllowed_29 rfl wF_X9_12 rfl rfl ⟨k0, isK_pos e1⟩ ?_
      refine wa_getI 35 1 dX9_isAllowed_32 rfl wF_X9_84 rfl rfl e1 ?_
      refine wa_iconst 36 dX9_isAllowed_35 rfl (by decide) ?_
      refine wa_icmp_ne 39 43 dX9_isAllowed_36 rfl (by decide) (fun q => ?_) (fun q => ?_)
      · replace h := h.1 q
        refine wa_iconst 44 dX9_isAllowed_43 rfl (by decide) ?_
        exact wa_zret dX9_isAllowed_44 rfl (Or.inl rfl) h
      · replace h := h.2 q
        refine wa_iconst 40 dX9_isAllowed_39 rfl (by decide) ?_
        refine wa_goto 44 dX9_isAllowed_40 (by decide) ?_
        exact wa_zret dX9_isAllowed_44 rfl (Or.inr rfl) h
  · replace h := h.2 q
    refine wa_aload_n 5 dX9_isAllowed_4 rfl rfl ?_
    have e2 : isK L (rf L v0 0) (0, 0) := lay_f hL k0 0 rfl
    refine wa_getR 8 0 dX9_isAllowed_5 rfl wF_X9_12 rfl rfl ⟨k0, isK_pos e2⟩ ?_
    refine wa_getI 11 1 dX9_isAllowed_8 rfl wF_X9_84 rfl rfl e2 ?_
    refine wa_iconst 12 dX9_isAllowed_11 rfl (by decide) ?_
    refine wa_icmp_ne 15 19 dX9_isAllowed_12 rfl (by decide) (fun q => ?_) (fun q => ?_)
    · replace h := h.1 q
      refine wa_iconst 20 dX9_isAllowed_19 rfl (by decide) ?_
      refine wa_goto 44 dX9_isAllowed_20 (by decide) ?_
      exact wa_zret dX9_isAllowed_44 rfl (Or.inl rfl) h
    · replace h := h.2 q
      refine wa_iconst 16 dX9_isAllowed_15 rfl (by decide) ?_
      refine wa_goto 44 dX9_isAllowed_16 (by decide) ?_
      exact wa_zret dX9_isAllowed_44 rfl (Or.inr rfl) h
set_option maxRecDepth 20000 in
theorem t_X9_isFlag (hL : LayOK L) {v0 : Int}  (h : (v0 = 0 → Q (some (0, 1)) L μ) ∧ (¬ v0 = 0 → (¬ v0 = 1 → Q (some (0, 0)) L μ) ∧ (v0 = 1 → Q (some (0, 1)) L μ))) : TR mX9_isFlag 0 (0, 0) [(0, v0)] L μ Q := by
  refine TR.of (ls := [(0, v0)]) (by decide) (by simp) rfl (Nat.le_of_ble_eq_true rfl) ?_
  refine wa_iload_n 1 dX9_isFlag_0 rfl rfl ?_
  refine wa_if_eq 4 9 dX9_isFlag_1 rfl (by decide) (fun q => ?_) (fun q => ?_)
  · replace h := h.1 q
    refine wa_iconst 10 dX9_isFlag_9 rfl (by decide) ?_
    refine wa_goto 14 dX9_isFlag_10 (by decide) ?_
    exact wa_zret dX9_isFlag_14 rfl (Or.inr rfl) h
  · replace h := h.2 q
    refine wa_iload_n 5 dX9_isFlag_4 rfl rfl ?_
    refine wa_iconst 6 dX9_isFlag_5 rfl (by decide) ?_
    refine wa_icmp_ne 9 13 dX9_isFlag_6 rfl (by decide) (fun q => ?_) (fun q => ?_)
    · replace h := h.1 q
      refine wa_iconst 14 dX9_isFlag_13 rfl (by decide) ?_
      exact wa_zret dX9_isFlag_14 rfl (Or.inl rfl) h
    · replace h := h.2 q
      refine wa_iconst 10 dX9_isFlag_9 rfl (by decide) ?_
      refine wa_goto 14 dX9_isFlag_10 (by decide) ?_
      exact wa_zret dX9_isFlag_14 rfl (Or.inr rfl) h
set_option maxRecDepth 20000 in
theorem t_X9_isPoint (hL : LayOK L) {v0 v1 v2 : Int} (k0 : isK L v0 (9, 0)) (h : (v2 < 1 → Q (some (0, 0)) L μ) ∧ (¬ v2 < 1 → (1000 < v2 → Q (some (0, 0)) L μ) ∧ (¬ 1000 < v2 → (v1 < 0 → Q (some (0, 0)) L μ) ∧ (¬ v1 < 0 → (inL ((μ ((rf L v0 0)) 0) * v2)) ∧ (((μ ((rf L v0 0)) 0) * v2) < v1 → Q (some (0, 0)) L μ) ∧ (¬ ((μ ((rf L v0 0)) 0) * v2) < v1 → Q (some (0, 1)) L μ))))) : TR mX9_isPoint 0 (0, 0) [(2, v0), (0, v1), (0, v2)] L μ Q := by
  refine TR.of (ls := [(2, v0), (0, v1), (0, v2)]) (by decide) (by simp) rfl (Nat.le_of_ble_eq_true rfl) ?_
  refine wa_iload_n 1 dX9_isPoint_0 rfl rfl ?_
  refine wa_iconst 2 dX9_isPoint_1 rfl (by decide) ?_
  refine wa_icmp_lt 5 37 dX9_isPoint_2 rfl (by decide) (fun q => ?_) (fun q => ?_)
  · replace h := h.1 q
    refine wa_iconst 38 dX9_isPoint_37 rfl (by decide) ?_
    exact wa_zret dX9_isPoint_38 rfl (Or.inl rfl) h
  · replace h := h.2 q
    refine wa_iload_n 6 dX9_isPoint_5 rfl rfl ?_
    refine wa_sipush 9 dX9_isPoint_6 rfl ⟨by decide, by decide⟩ ?_
    refine wa_icmp_gt 12 37 dX9_isPoint_9 rfl (by decide) (fun q => ?_) (fun q => ?_)
    · replace h := h.1 q
      refine wa_iconst 38 dX9_isPoint_37 rfl (by decide) ?_
      exact wa_zret dX9_isPoint_38 rfl (Or.inl rfl) h
    · replace h := h.2 q
      refine wa_iload_n 13 dX9_isPoint_12 rfl rfl ?_
      refine wa_if_lt 16 37 dX9_isPoint_13 rfl (by decide) (fun q => ?_) (fun q => ?_)
      · replace h := h.1 q
        refine wa_iconst 38 dX9_isPoint_37 rfl (by decide) ?_
        exact wa_zret dX9_isPoint_38 rfl (Or.inl rfl) h
      · replace h := h.2 q
        refine wa_iload_n 17 dX9_isPoint_16 rfl rfl ?_
        refine wa_i2l 18 dX9_isPoint_17 rfl ?_
        refine wa_aload_n 19 dX9_isPoint_18 rfl rfl ?_
        have e1 : isK L (rf L v0 0) (0, 0) := lay_f hL k0 0 rfl
        refine wa_getR 22 0 dX9_isPoint_19 rfl wF_X9_12 rfl rfl ⟨k0, isK_pos e1⟩ ?_
        refine wa_getI 25 0 dX9_isPoint_22 rfl wF_X9_112 rfl rfl e1 ?_
        refine wa_i2l 26 dX9_isPoint_25 rfl ?_
        refine wa_iload_n 27 dX9_isPoint_26 rfl rfl ?_
        refine wa_i2l 28 dX9_isPoint_27 rfl ?_
        obtain ⟨c2, h⟩ := h
        refine wa_lmul 29 dX9_isPoint_28 rfl c2 ?_
        refine wa_lc_gt 33 37 dX9_isPoint_29 dX9_isPoint_30 rfl (by decide) (fun q => ?_) (fun q => ?_)
        · replace h := h.1 q
          refine wa_iconst 38 dX9_isPoint_37 rfl (by decide) ?_
          exact wa_zret dX9_isPoint_38 rfl (Or.inl rfl) h
        · replace h := h.2 q
          refine wa_iconst 34 dX9_isPoint_33 rfl (by decide) ?_
          refine wa_goto 38 dX9_isPoint_34 (by decide) ?_
          exact wa_zret dX9_isPoint_38 rfl (Or.inr rfl) h
set_option maxRecDepth 20000 in
theorem t_X9_isWay (hL : LayOK L) {v0 : Int}  (h : (v0 < 0 → Q (some (0, 0)) L μ) ∧ (¬ v0 < 0 → (4 < v0 → Q (some (0, 0)) L μ) ∧ (¬ 4 < v0 → Q (some (0, 1)) L μ))) : TR mX9_isWay 0 (0, 0) [(0, v0)] L μ Q := by
  refine TR.of (ls := [(0, v0)]) (by decide) (by simp) rfl (Nat.le_of_ble_eq_true rfl) ?_
  refine wa_iload_n 1 dX9_isWay_0 rfl rfl ?_
  refine wa_if_lt 4 13 dX9_isWay_1 rfl (by decide) (fun q => ?_) (fun q => ?_)
  · replace h := h.1 q
    refine wa_iconst 14 dX9_isWay_13 rfl (by decide) ?_
    exact wa_zret dX9_isWay_14 rfl (Or.inl rfl) h
  · replace h := h.2 q
    refine wa_iload_n 5 dX9_isWay_4 rfl rfl ?_
    refine wa_iconst 6 dX9_isWay_5 rfl (by decide) ?_
    refine wa_icmp_gt 9 13 dX9_isWay_6 rfl (by decide) (fun q => ?_) (fun q => ?_)
    · replace h := h.1 q
      refine wa_iconst 14 dX9_isWay_13 rfl (by decide) ?_
      exact wa_zret dX9_isWay_14 rfl (Or.inl rfl) h
    · replace h := h.2 q
      refine wa_iconst 10 dX9_isWay_9 rfl (by decide) ?_
      refine wa_goto 14 dX9_isWay_10 (by decide) ?_
      exact wa_zret dX9_isWay_14 rfl (Or.inr rfl) h
set_option maxRecDepth 20000 in
theorem t_X9_isWorth (hL : LayOK L) {v0 : Int}  (h : (v0 < 0 → Q (some (0, 0)) L μ) ∧ (¬ v0 < 0 → (9 < v0 → Q (some (0, 0)) L μ) ∧ (¬ 9 < v0 → Q (some (0, 1)) L μ))) : TR mX9_isWorth 0 (0, 0) [(0, v0)] L μ Q := by
  refine TR.of (ls := [(0, v0)]) (by decide) (by simp) rfl (Nat.le_of_ble_eq_true rfl) ?_
  refine wa_iload_n 1 dX9_isWorth_0 rfl rfl ?_
  refine wa_if_lt 4 14 dX9_isWorth_1 rfl (by decide) (fun q => ?_) (fun q => ?_)
  · replace h := h.1 q
    refine wa_iconst 15 dX9_isWorth_14 rfl (by decide) ?_
    exact wa_zret dX9_isWorth_15 rfl (Or.inl rfl) h
  · replace h := h.2 q
    refine wa_iload_n 5 dX9_isWorth_4 rfl rfl ?_
    refine wa_bipush 7 dX9_isWorth_5 rfl ⟨by decide, by decide⟩ ?_
    refine wa_icmp_gt 10 14 dX9_isWorth_7 rfl (by decide) (fun q => ?_) (fun q => ?_)
    · replace h := h.1 q
      refine wa_iconst 15 dX9_isWorth_14 rfl (by decide) ?_
      exact wa_zret dX9_isWorth_15 rfl (Or.inl rfl) h
    · replace h := h.2 q
      refine wa_iconst 11 dX9_isWorth_10 rfl (by decide) ?_
      refine wa_goto 15 dX9_isWorth_11 (by decide) ?_
      exact wa_zret dX9_isWorth_15 rfl (Or.inr rfl) h
set_option maxRecDepth 20000 in
theorem t_X9_lie (hL : LayOK L) {v0 v1 v2 v3 v4 : Int} (k0 : isK L v0 (9, 0)) (h : TR mX9_isWay 0 (0, 0) [(0, v1)] L μ (fun r1 L2 μ3 => ∃ w4, r1 = some (0, w4) ∧ L = L2 ∧ (w4 = 0 → Q (some (1, (-9223372036854775808))) L μ3) ∧ (¬ w4 = 0 → TR mX0_hasAgent 0 (0, 0) [(2, (rf L v0 0)), (0, v2)] L μ3 (fun r6 L7 μ8 => ∃ w9, r6 = some (0, w9) ∧ L = L7 ∧ (w9 = 0 → Q (some (1, (-9223372036854775808))) L μ8) ∧ (¬ w9 = 0 → TR mX0_hasAgent 0 (0, 0) [(2, (rf L v0 0)), (0, v3)] L μ8 (fun r10 L11 μ12 => ∃ w13, r10 = some (0, w13) ∧ L = L11 ∧ (w13 = 0 → Q (some (1, (-9223372036854775808))) L μ12) ∧ (¬ w13 = 0 → (v4 < 0 → Q (some (1, (-9223372036854775808))) L μ12) ∧ (¬ v4 < 0 → (v4 ≤ 2 → TR mX9_isAllowed 0 (0, 0) [(2, v0), (0, v1)] L μ12 (fun r14 L15 μ16 => ∃ w17, r14 = some (0, w17) ∧ L = L15 ∧ (w17 = 0 → Q (some (1, (-9223372036854775808))) L μ16) ∧ (¬ w17 = 0 → TR mX5_run 6 (0, 0) [(2, (rf L v0 7)), (0, v1), (0, v2)] L μ16 (fun r19 L20 μ21 => ∃ w22, r19 = some (0, w22) ∧ L = L20 ∧ (¬ w22 = 0 → (0 ≤ v3 ∧ v3 < 5) ∧ TR mX1_holds 3 (0, 0) [(2, (rf L v0 4)), (0, v3), (2, (rf L v0 0)), (2, (rf L ((rf L ((rf L v0 0)) 2)) v3))] L μ21 (fun r28 L29 μ30 => ∃ w31, r28 = some (1, w31) ∧ L = L29 ∧ TR mX3_put 1 (0, 0) [(2, (rf L v0 12)), (1, w31), (1, (μ30 ((rf L v0 4)) 2))] L μ30 (fun r32 L33 μ34 => r32 = none ∧ L = L33 ∧ WA mX9_lie 7 (0, 0) 109 [(2, v0), (0, v1), (0, v2), (0, v3), (0, v4), (0, (-1)), (0, 0), (9, 0)] [] L μ34 Q))) ∧ (w22 = 0 → Q (some (1, (-9223372036854775808))) L μ21))))) ∧ (¬ v4 ≤ 2 → Q (some (1, (-9223372036854775808))) L μ12))))))))) : TR mX9_lie 7 (0, 0) [(2, v0), (0, v1), (0, v2), (0, v3), (0, v4)] L μ Q := by
  refine TR.of (ls := [(2, v0), (0, v1), (0, v2), (0, v3), (0, v4), (9, 0), (9, 0), (9, 0)]) (by decide) (by simp) rfl (Nat.le_of_ble_eq_true rfl) ?_
  refine wa_iload_n 1 dX9_lie_0 rfl rfl ?_
  refine wa_callS 4 0 1 (av := [(0, v1)]) (rest := []) (k1 := (0, 0)) (k2 := (0, 0)) cvX9_isWay dX9_lie_1 rfl wM_X9_199 ⟨rfl, Nat.le_of_ble_eq_true rfl, by decide, Nat.le_of_ble_eq_true rfl, rfl, rfl⟩ rfl (TR.mono h (fun r1 L2 μ3 h => ?_))
  obtain ⟨w4, rfl, rfl, h⟩ := h
  show WA mX9_lie 7 (0, 0) 4 [(2, v0), (0, v1), (0, v2), (0, v3), (0, v4), (9, 0), (9, 0), (9, 0)] [(0, w4)] L μ3 Q
  refine wa_if_eq 7 40 dX9_lie_4 rfl (by decide) (fun q => ?_) (fun q => ?_)
  · replace h := h.1 q
    refine wa_ldc2 43 (-9223372036854775808) dX9_lie_40 rfl wJ_X9_126 ⟨rfl, by decide⟩ ?_
    exact wa_lret dX9_lie_43 rfl h
  · replace h := h.2 q
    refine wa_aload_n 8 dX9_lie_7 rfl rfl ?_
    have e5 : isK L (rf L v0 0) (0, 0) := lay_f hL k0 0 rfl
    refine wa_getR 11 0 dX9_lie_8 rfl wF_X9_12 rfl rfl ⟨k0, isK_pos e5⟩ ?_
    refine wa_iload_n 12 dX9_lie_11 rfl rfl ?_
    refine wa_callV 15 0 1 0 (av := [(0, v2)]) (rest := []) (k1 := (0, 0)) (k2 := (0, 0)) cvX0_hasAgent dX9_lie_12 rfl wM_X9_95 ⟨rfl, by decide, rfl, Nat.le_of_ble_eq_true rfl, by decide, Nat.le_of_ble_eq_true rfl, rfl, rfl⟩ rfl e5 (TR.mono h (fun r6 L7 μ8 h => ?_))
    obtain ⟨w9, rfl, rfl, h⟩ := h
    show WA mX9_lie 7 (0, 0) 15 [(2, v0), (0, v1), (0, v2), (0, v3), (0, v4), (9, 0), (9, 0), (9, 0)] [(0, w9)] L μ8 Q
    refine wa_if_eq 18 40 dX9_lie_15 rfl (by decide) (fun q => ?_) (fun q => ?_)
    · replace h := h.1 q
      refine wa_ldc2 43 (-9223372036854775808) dX9_lie_40 rfl wJ_X9_126 ⟨rfl, by decide⟩ ?_
      exact wa_lret dX9_lie_43 rfl h
    · replace h := h.2 q
      refine wa_aload_n 19 dX9_lie_18 rfl rfl ?_
      refine wa_getR 22 0 dX9_lie_19 rfl wF_X9_12 rfl rfl ⟨k0, isK_pos e5⟩ ?_
      refine wa_iload_n 23 dX9_lie_22 rfl rfl ?_
      refine wa_callV 26 0 1 0 (av := [(0, v3)]) (rest := []) (k1 := (0, 0)) (k2 := (0, 0)) cvX0_hasAgent dX9_lie_23 rfl wM_X9_95 ⟨rfl, by decide, rfl, Nat.le_of_ble_eq_true rfl, by decide, Nat.le_of_ble_eq_true rfl, rfl, rfl⟩ rfl e5 (TR.mono h (fun r10 L11 μ12 h => ?_))
      obtain ⟨w13, rfl, rfl, h⟩ := h
      show WA mX9_lie 7 (0, 0) 26 [(2, v0), (0, v1), (0, v2), (0, v3), (0, v4), (9, 0), (9, 0), (9, 0)] [(0, w13)] L μ12 Q
      refine wa_if_eq 29 40 dX9_lie_26 rfl (by decide) (fun q => ?_) (fun q => ?_)
      · replace h := h.1 q
        refine wa_ldc2 43 (-9223372036854775808) dX9_lie_40 rfl wJ_X9_126 ⟨rfl, by decide⟩ ?_
        exact wa_lret dX9_lie_43 rfl h
      · replace h := h.2 q
        refine wa_iload 31 dX9_lie_29 rfl rfl ?_
        refine wa_if_lt 34 40 dX9_lie_31 rfl (by decide) (fun q => ?_) (fun q => ?_)
        · replace h := h.1 q
          refine wa_ldc2 43 (-9223372036854775808) dX9_lie_40 rfl wJ_X9_126 ⟨rfl, by decide⟩ ?_
          exact wa_lret dX9_lie_43 rfl h
        · replace h := h.2 q
          refine wa_iload 36 dX9_lie_34 rfl rfl ?_
          refine wa_iconst 37 dX9_lie_36 rfl (by decide) ?_
          refine wa_icmp_le 40 44 dX9_lie_37 rfl (by decide) (fun q => ?_) (fun q => ?_)
          · replace h := h.1 q
            refine wa_aload_n 45 dX9_lie_44 rfl rfl ?_
            refine wa_iload_n 46 dX9_lie_45 rfl rfl ?_
            refine wa_callV 49 0 1 9 (av := [(0, v1)]) (rest := []) (k1 := (0, 0)) (k2 := (0, 0)) cvX9_isAllowed dX9_lie_46 rfl wM_X9_202 ⟨rfl, by decide, rfl, Nat.le_of_ble_eq_true rfl, by decide, Nat.le_of_ble_eq_true rfl, rfl, rfl⟩ rfl k0 (TR.mono h (fun r14 L15 μ16 h => ?_))
            obtain ⟨w17, rfl, rfl, h⟩ := h
            show WA mX9_lie 7 (0, 0) 49 [(2, v0), (0, v1), (0, v2), (0, v3), (0, v4), (9, 0), (9, 0), (9, 0)] [(0, w17)] L μ16 Q
            refine wa_if_eq 52 64 dX9_lie_49 rfl (by decide) (fun q => ?_) (fun q => ?_)
            · replace h := h.1 q
              refine wa_ldc2 67 (-9223372036854775808) dX9_lie_64 rfl wJ_X9_126 ⟨rfl, by decide⟩ ?_
              exact wa_lret dX9_lie_67 rfl h
            · replace h := h.2 q
              refine wa_aload_n 53 dX9_lie_52 rfl rfl ?_
              have e18 : isK L (rf L v0 7) (5, 0) := lay_f hL k0 7 rfl
              refine wa_getR 56 7 dX9_lie_53 rfl wF_X9_42 rfl rfl ⟨k0, isK_pos e18⟩ ?_
              refine wa_iload_n 57 dX9_lie_56 rfl rfl ?_
              refine wa_iload_n 58 dX9_lie_57 rfl rfl ?_
              refine wa_callV 61 6 2 5 (av := [(0, v1), (0, v2)]) (rest := []) (k1 := (0, 0)) (k2 := (0, 0)) cvX5_run dX9_lie_58 rfl wM_X9_205 ⟨rfl, by decide, rfl, Nat.le_of_ble_eq_true rfl, by decide, Nat.le_of_ble_eq_true rfl, rfl, rfl⟩ rfl e18 (TR.mono h (fun r19 L20 μ21 h => ?_))
              obtain ⟨w22, rfl, rfl, h⟩ := h
              show WA mX9_lie 7 (0, 0) 61 [(2, v0), (0, v1), (0, v2), (0, v3), (0, v4), (9, 0), (9, 0), (9, 0)] [(0, w22)] L μ21 Q
              refine wa_if_ne 64 68 dX9_lie_61 rfl (by decide) (fun q => ?_) (fun q => ?_)
              · replace h := h.1 q
                refine wa_aload_n 69 dX9_lie_68 rfl rfl ?_
                have e23 : isK L (rf L v0 12) (3, 0) := lay_f hL k0 12 rfl
                refine wa_getR 72 12 dX9_lie_69 rfl wF_X9_74 rfl rfl ⟨k0, isK_pos e23⟩ ?_
                refine wa_aload_n 73 dX9_lie_72 rfl rfl ?_
                have e24 : isK L (rf L v0 4) (1, 0) := lay_f hL k0 4 rfl
                refine wa_getR 76 4 dX9_lie_73 rfl wF_X9_31 rfl rfl ⟨k0, isK_pos e24⟩ ?_
                refine wa_iload_n 77 dX9_lie_76 rfl rfl ?_
                refine wa_aload_n 78 dX9_lie_77 rfl rfl ?_
                refine wa_getR 81 0 dX9_lie_78 rfl wF_X9_12 rfl rfl ⟨k0, isK_pos e5⟩ ?_
                refine wa_aload_n 82 dX9_lie_81 rfl rfl ?_
                refine wa_getR 85 0 dX9_lie_82 rfl wF_X9_12 rfl rfl ⟨k0, isK_pos e5⟩ ?_
                have e25 : isK L (rf L ((rf L v0 0)) 2) (23, 5) := lay_f hL e5 2 rfl
                refine wa_getR 88 2 dX9_lie_85 rfl wF_X9_105 rfl rfl ⟨e5, isK_pos e25⟩ ?_
                refine wa_iload_n 89 dX9_lie_88 rfl rfl ?_
                obtain ⟨c26, h⟩ := h
                have e27 : isK L (rf L ((rf L ((rf L v0 0)) 2)) v3) (20, 16) := lay_e hL e5 2 rfl c26
                refine wa_aaload 90 23 dX9_lie_89 rfl ⟨by decide, by decide⟩ ⟨okA_of e25 c26, isK_pos e27⟩ ?_
                refine wa_callV 93 3 3 1 (av := [(0, v3), (2, (rf L v0 0)), (2, (rf L ((rf L ((rf L v0 0)) 2)) v3))]) (rest := [(2, (rf L v0 12))]) (k1 := (0, 0)) (k2 := (0, 0)) cvX1_holds dX9_lie_90 rfl wM_X9_219 ⟨rfl, by decide, rfl, Nat.le_of_ble_eq_true rfl, by decide, Nat.le_of_ble_eq_true rfl, rfl, rfl⟩ rfl e24 (TR.mono h (fun r28 L29 μ30 h => ?_))
                obtain ⟨w31, rfl, rfl, h⟩ := h
                show WA mX9_lie 7 (0, 0) 93 [(2, v0), (0, v1), (0, v2), (0, v3), (0, v4), (9, 0), (9, 0), (9, 0)] [(1, w31), (2, (rf L v0 12))] L μ30 Q
                refine wa_aload_n 94 dX9_lie_93 rfl rfl ?_
                refine wa_getR 97 4 dX9_lie_94 rfl wF_X9_31 rfl rfl ⟨k0, isK_pos e24⟩ ?_
                refine wa_getL 100 2 dX9_lie_97 rfl wF_X9_223 rfl rfl e24 ?_
                refine wa_callV 103 1 2 3 (av := [(1, w31), (1, (μ30 ((rf L v0 4)) 2))]) (rest := []) (k1 := (0, 0)) (k2 := (0, 0)) cvX3_put dX9_lie_100 rfl wM_X9_241 ⟨rfl, by decide, rfl, Nat.le_of_ble_eq_true rfl, by decide, Nat.le_of_ble_eq_true rfl, rfl, rfl⟩ rfl e23 (TR.mono h (fun r32 L33 μ34 h => ?_))
                obtain ⟨rfl, rfl, h⟩ := h
                show WA mX9_lie 7 (0, 0) 103 [(2, v0), (0, v1), (0, v2), (0, v3), (0, v4), (9, 0), (9, 0), (9, 0)] [] L μ34 Q
                refine wa_iconst 104 dX9_lie_103 rfl (by decide) ?_
                refine wa_istore 106 [(2, v0), (0, v1), (0, v2), (0, v3), (0, v4), (0, (-1)), (9, 0), (9, 0)] dX9_lie_104 rfl rfl rfl ?_
                refine wa_iconst 107 dX9_lie_106 rfl (by decide) ?_
                refine wa_istore 109 [(2, v0), (0, v1), (0, v2), (0, v3), (0, v4), (0, (-1)), (0, 0), (9, 0)] dX9_lie_107 rfl rfl rfl ?_
                exact h
              · replace h := h.2 q
                refine wa_ldc2 67 (-9223372036854775808) dX9_lie_64 rfl wJ_X9_126 ⟨rfl, by decide⟩ ?_
                exact wa_lret dX9_lie_67 rfl h
          · replace h := h.2 q
            refine wa_ldc2 43 (-9223372036854775808) dX9_lie_40 rfl wJ_X9_126 ⟨rfl, by decide⟩ ?_
            exact wa_lret dX9_lie_43 rfl h
set_option maxRecDepth 20000 in
theorem s_X9_lie_109 (hL : LayOK L) {v0 v1 v2 v3 v4 v5 v6 : Int} (k0 : isK L v0 (9, 0)) (h : ((μ ((rf L v0 0)) 0) ≤ v6 → (0 ≤ v5 → (¬ v4 = 0 → (inI (v4 - 1)) ∧ TR mX3_part 0 (0, 0) [(2, (rf L v0 12)), (0, (v4 - 1))] L μ (fun r4 L5 μ6 => ∃ w7, r4 = some (1, w7) ∧ L = L5 ∧ Q (some (1, w7)) L μ6)) ∧ (v4 = 0 → Q (some (1, v5)) L μ)) ∧ (¬ 0 ≤ v5 → Q (some (1, (-9223372036854775808))) L μ)) ∧ (¬ (μ ((rf L v0 0)) 0) ≤ v6 → WA mX9_lie 7 (0, 0) 124 [(2, v0), (0, v1), (0, v2), (0, v3), (0, v4), (0, v5), (0, v6), (0, 0)] [] L μ Q)) : WA mX9_lie 7 (0, 0) 109 [(2, v0), (0, v1), (0, v2), (0, v3), (0, v4), (0, v5), (0, v6), (9, 0)] [] L μ Q := by
  refine wa_iload 111 dX9_lie_109 rfl rfl ?_
  refine wa_aload_n 112 dX9_lie_111 rfl rfl ?_
  have e1 : isK L (rf L v0 0) (0, 0) := lay_f hL k0 0 rfl
  refine wa_getR 115 0 dX9_lie_112 rfl wF_X9_12 rfl rfl ⟨k0, isK_pos e1⟩ ?_
  refine wa_getI 118 0 dX9_lie_115 rfl wF_X9_112 rfl rfl e1 ?_
  refine wa_icmp_ge 121 206 dX9_lie_118 rfl (by decide) (fun q => ?_) (fun q => ?_)
  · replace h := h.1 q
    refine wa_iload 208 dX9_lie_206 rfl rfl ?_
    refine wa_if_ge 211 215 dX9_lie_208 rfl (by decide) (fun q => ?_) (fun q => ?_)
    · replace h := h.1 q
      refine wa_iload 217 dX9_lie_215 rfl rfl ?_
      refine wa_if_ne 220 226 dX9_lie_217 rfl (by decide) (fun q => ?_) (fun q => ?_)
      · replace h := h.1 q
        refine wa_aload_n 227 dX9_lie_226 rfl rfl ?_
        have e2 : isK L (rf L v0 12) (3, 0) := lay_f hL k0 12 rfl
        refine wa_getR 230 12 dX9_lie_227 rfl wF_X9_74 rfl rfl ⟨k0, isK_pos e2⟩ ?_
        refine wa_iload 232 dX9_lie_230 rfl rfl ?_
        refine wa_iconst 233 dX9_lie_232 rfl (by decide) ?_
        obtain ⟨c3, h⟩ := h
        refine wa_isub 234 dX9_lie_233 rfl c3 ?_
        refine wa_callV 237 0 1 3 (av := [(0, (v4 - 1))]) (rest := []) (k1 := (0, 0)) (k2 := (0, 0)) cvX3_part dX9_lie_234 rfl wM_X9_252 ⟨rfl, by decide, rfl, Nat.le_of_ble_eq_true rfl, by decide, Nat.le_of_ble_eq_true rfl, rfl, rfl⟩ rfl e2 (TR.mono h (fun r4 L5 μ6 h => ?_))
        obtain ⟨w7, rfl, rfl, h⟩ := h
        show WA mX9_lie 7 (0, 0) 237 [(2, v0), (0, v1), (0, v2), (0, v3), (0, v4), (0, v5), (0, v6), (9, 0)] [(1, w7)] L μ6 Q
        exact wa_lret dX9_lie_237 rfl h
      · replace h := h.2 q
        refine wa_iload 222 dX9_lie_220 rfl rfl ?_
        refine wa_i2l 223 dX9_lie_222 rfl ?_
        refine wa_goto 237 dX9_lie_223 (by decide) ?_
        exact wa_lret dX9_lie_237 rfl h
    · replace h := h.2 q
      refine wa_ldc2 214 (-9223372036854775808) dX9_lie_211 rfl wJ_X9_126 ⟨rfl, by decide⟩ ?_
      exact wa_lret dX9_lie_214 rfl h
  · replace h := h.2 q
    refine wa_iconst 122 dX9_lie_121 rfl (by decide) ?_
    refine wa_istore 124 [(2, v0), (0, v1), (0, v2), (0, v3), (0, v4), (0, v5), (0, v6), (0, 0)] dX9_lie_122 rfl rfl rfl ?_
    exact h
set_option maxRecDepth 20000 in
theorem s_X9_lie_124 (hL : LayOK L) {v0 v1 v2 v3 v4 v5 v6 v7 : Int} (k0 : isK L v0 (9, 0)) (h : ((μ ((rf L v0 0)) 0) ≤ v7 → (inI (v6 + 1)) ∧ WA mX9_lie 7 (0, 0) 109 [(2, v0), (0, v1), (0, v2), (0, v3), (0, v4), (0, v5), (0, (v6 + 1)), (9, 0)] [] L μ Q) ∧ (¬ (μ ((rf L v0 0)) 0) ≤ v7 → TR mX0_moveTold 0 (0, 0) [(2, (rf L v0 0)), (0, v3), (0, v6), (0, v7)] L μ (fun r3 L4 μ5 => ∃ w6, r3 = some (0, w6) ∧ L = L4 ∧ (w6 = 0 → (inI (v7 + 1)) ∧ WA mX9_lie 7 (0, 0) 124 [(2, v0), (0, v1), (0, v2), (0, v3), (0, v4), (0, v5), (0, v6), (0, (v7 + 1))] [] L μ5 Q) ∧ (¬ w6 = 0 → TR mX5_run 6 (0, 0) [(2, (rf L v0 7)), (0, v1), (0, v2)] L μ5 (fun r9 L10 μ11 => ∃ w12, r9 = some (0, w12) ∧ L = L10 ∧ (w12 = 0 → TR mX0_moveTold 0 (0, 0) [(2, (rf L v0 0)), (0, v3), (0, v7), (0, v6)] L μ11 (fun r13 L14 μ15 => ∃ w16, r13 = some (0, w16) ∧ L = L14 ∧ (inI (v7 + 1)) ∧ WA mX9_lie 7 (0, 0) 124 [(2, v0), (0, v1), (0, v2), (0, v3), (0, v4), (0, v5), (0, v6), (0, (v7 + 1))] [] L μ15 Q)) ∧ (¬ w12 = 0 → TR mX9_bringsMore 4 (0, 0) [(2, v0), (0, v3)] L μ11 (fun r18 L19 μ20 => ∃ w21, r18 = some (0, w21) ∧ L = L19 ∧ (w21 = 0 → TR mX0_moveTold 0 (0, 0) [(2, (rf L v0 0)), (0, v3), (0, v7), (0, v6)] L μ20 (fun r22 L23 μ24 => ∃ w25, r22 = some (0, w25) ∧ L = L23 ∧ (inI (v7 + 1)) ∧ WA mX9_lie 7 (0, 0) 124 [(2, v0), (0, v1), (0, v2), (0, v3), (0, v4), (0, v5), (0, v6), (0, (v7 + 1))] [] L μ24 Q)) ∧ (¬ w21 = 0 → (inI (100 * v6)) ∧ (inI ((100 * v6) + v7)) ∧ TR mX0_moveTold 0 (0, 0) [(2, (rf L v0 0)), (0, v3), (0, v7), (0, v6)] L μ20 (fun r29 L30 μ31 => ∃ w32, r29 = some (0, w32) ∧ L = L30 ∧ (inI (v7 + 1)) ∧ WA mX9_lie 7 (0, 0) 124 [(2, v0), (0, v1), (0, v2), (0, v3), (0, v4), (0, ((100 * v6) + v7)), (0, v6), (0, (v7 + 1))] [] L μ31 Q))))))))) : WA mX9_lie 7 (0, 0) 124 [(2, v0), (0, v1), (0, v2), (0, v3), (0, v4), (0, v5), (0, v6), (0, v7)] [] L μ Q := by
  refine wa_iload 126 dX9_lie_124 rfl rfl ?_
  refine wa_aload_n 127 dX9_lie_126 rfl rfl ?_
  have e1 : isK L (rf L v0 0) (0, 0) := lay_f hL k0 0 rfl
  refine wa_getR 130 0 dX9_lie_127 rfl wF_X9_12 rfl rfl ⟨k0, isK_pos e1⟩ ?_
  refine wa_getI 133 0 dX9_lie_130 rfl wF_X9_112 rfl rfl e1 ?_
  refine wa_icmp_ge 136 200 dX9_lie_133 rfl (by decide) (fun q => ?_) (fun q => ?_)
  · replace h := h.1 q
    obtain ⟨c2, h⟩ := h
    refine wa_iinc 203 [(2, v0), (0, v1), (0, v2), (0, v3), (0, v4), (0, v5), (0, (v6 + 1)), (0, v7)] dX9_lie_200 rfl rfl rfl c2 rfl ?_
    refine wa_goto 109 dX9_lie_203 (by decide) ?_
    exact wa_weak [(2, v0), (0, v1), (0, v2), (0, v3), (0, v4), (0, v5), (0, (v6 + 1)), (9, 0)] ⟨Or.inl rfl, Or.inl rfl, Or.inl rfl, Or.inl rfl, Or.inl rfl, Or.inl rfl, Or.inl rfl, Or.inr rfl, trivial⟩ h
  · replace h := h.2 q
    refine wa_aload_n 137 dX9_lie_136 rfl rfl ?_
    refine wa_getR 140 0 dX9_lie_137 rfl wF_X9_12 rfl rfl ⟨k0, isK_pos e1⟩ ?_
    refine wa_iload_n 141 dX9_lie_140 rfl rfl ?_
    refine wa_iload 143 dX9_lie_141 rfl rfl ?_
    refine wa_iload 145 dX9_lie_143 rfl rfl ?_
    refine wa_callV 148 0 3 0 (av := [(0, v3), (0, v6), (0, v7)]) (rest := []) (k1 := (0, 0)) (k2 := (0, 0)) cvX0_moveTold dX9_lie_145 rfl wM_X9_245 ⟨rfl, by decide, rfl, Nat.le_of_ble_eq_true rfl, by decide, Nat.le_of_ble_eq_true rfl, rfl, rfl⟩ rfl e1 (TR.mono h (fun r3 L4 μ5 h => ?_))
    obtain ⟨w6, rfl, rfl, h⟩ := h
    show WA mX9_lie 7 (0, 0) 148 [(2, v0), (0, v1), (0, v2), (0, v3), (0, v4), (0, v5), (0, v6), (0, v7)] [(0, w6)] L μ5 Q
    refine wa_if_eq 151 194 dX9_lie_148 rfl (by decide) (fun q => ?_) (fun q => ?_)
    · replace h := h.1 q
      obtain ⟨c7, h⟩ := h
      refine wa_iinc 197 [(2, v0), (0, v1), (0, v2), (0, v3), (0, v4), (0, v5), (0, v6), (0, (v7 + 1))] dX9_lie_194 rfl rfl rfl c7 rfl ?_
      refine wa_goto 124 dX9_lie_197 (by decide) ?_
      exact h
    · replace h := h.2 q
      refine wa_aload_n 152 dX9_lie_151 rfl rfl ?_
      have e8 : isK L (rf L v0 7) (5, 0) := lay_f hL k0 7 rfl
      refine wa_getR 155 7 dX9_lie_152 rfl wF_X9_42 rfl rfl ⟨k0, isK_pos e8⟩ ?_
      refine wa_iload_n 156 dX9_lie_155 rfl rfl ?_
      refine wa_iload_n 157 dX9_lie_156 rfl rfl ?_
      refine wa_callV 160 6 2 5 (av := [(0, v1), (0, v2)]) (rest := []) (k1 := (0, 0)) (k2 := (0, 0)) cvX5_run dX9_lie_157 rfl wM_X9_205 ⟨rfl, by decide, rfl, Nat.le_of_ble_eq_true rfl, by decide, Nat.le_of_ble_eq_true rfl, rfl, rfl⟩ rfl e8 (TR.mono h (fun r9 L10 μ11 h => ?_))
      obtain ⟨w12, rfl, rfl, h⟩ := h
      show WA mX9_lie 7 (0, 0) 160 [(2, v0), (0, v1), (0, v2), (0, v3), (0, v4), (0, v5), (0, v6), (0, v7)] [(0, w12)] L μ11 Q
      refine wa_if_eq 163 181 dX9_lie_160 rfl (by decide) (fun q => ?_) (fun q => ?_)
      · replace h := h.1 q
        refine wa_aload_n 182 dX9_lie_181 rfl rfl ?_
        refine wa_getR 185 0 dX9_lie_182 rfl wF_X9_12 rfl rfl ⟨k0, isK_pos e1⟩ ?_
        refine wa_iload_n 186 dX9_lie_185 rfl rfl ?_
        refine wa_iload 188 dX9_lie_186 rfl rfl ?_
        refine wa_iload 190 dX9_lie_188 rfl rfl ?_
        refine wa_callV 193 0 3 0 (av := [(0, v3), (0, v7), (0, v6)]) (rest := []) (k1 := (0, 0)) (k2 := (0, 0)) cvX0_moveTold dX9_lie_190 rfl wM_X9_245 ⟨rfl, by decide, rfl, Nat.le_of_ble_eq_true rfl, by decide, Nat.le_of_ble_eq_true rfl, rfl, rfl⟩ rfl e1 (TR.mono h (fun r13 L14 μ15 h => ?_))
        obtain ⟨w16, rfl, rfl, h⟩ := h
        show WA mX9_lie 7 (0, 0) 193 [(2, v0), (0, v1), (0, v2), (0, v3), (0, v4), (0, v5), (0, v6), (0, v7)] [(0, w16)] L μ15 Q
        refine wa_pop 194 dX9_lie_193 rfl (Or.inl rfl) ?_
        obtain ⟨c17, h⟩ := h
        refine wa_iinc 197 [(2, v0), (0, v1), (0, v2), (0, v3), (0, v4), (0, v5), (0, v6), (0, (v7 + 1))] dX9_lie_194 rfl rfl rfl c17 rfl ?_
        refine wa_goto 124 dX9_lie_197 (by decide) ?_
        exact h
      · replace h := h.2 q
        refine wa_aload_n 164 dX9_lie_163 rfl rfl ?_
        refine wa_iload_n 165 dX9_lie_164 rfl rfl ?_
        refine wa_callV 168 4 1 9 (av := [(0, v3)]) (rest := []) (k1 := (0, 0)) (k2 := (0, 0)) cvX9_bringsMore dX9_lie_165 rfl wM_X9_249 ⟨rfl, by decide, rfl, Nat.le_of_ble_eq_true rfl, by decide, Nat.le_of_ble_eq_true rfl, rfl, rfl⟩ rfl k0 (TR.mono h (fun r18 L19 μ20 h => ?_))
        obtain ⟨w21, rfl, rfl, h⟩ := h
        show WA mX9_lie 7 (0, 0) 168 [(2, v0), (0, v1), (0, v2), (0, v3), (0, v4), (0, v5), (0, v6), (0, v7)] [(0, w21)] L μ20 Q
        refine wa_if_eq 171 181 dX9_lie_168 rfl (by decide) (fun q => ?_) (fun q => ?_)
        · replace h := h.1 q
          refine wa_aload_n 182 dX9_lie_181 rfl rfl ?_
          refine wa_getR 185 0 dX9_lie_182 rfl wF_X9_12 rfl rfl ⟨k0, isK_pos e1⟩ ?_
          refine wa_iload_n 186 dX9_lie_185 rfl rfl ?_
          refine wa_iload 188 dX9_lie_186 rfl rfl ?_
          refine wa_iload 190 dX9_lie_188 rfl rfl ?_
          refine wa_callV 193 0 3 0 (av := [(0, v3), (0, v7), (0, v6)]) (rest := []) (k1 := (0, 0)) (k2 := (0, 0)) cvX0_moveTold dX9_lie_190 rfl wM_X9_245 ⟨rfl, by decide, rfl, Nat.le_of_ble_eq_true rfl, by decide, Nat.le_of_ble_eq_true rfl, rfl, rfl⟩ rfl e1 (TR.mono h (fun r22 L23 μ24 h => ?_))
          obtain ⟨w25, rfl, rfl, h⟩ := h
          show WA mX9_lie 7 (0, 0) 193 [(2, v0), (0, v1), (0, v2), (0, v3), (0, v4), (0, v5), (0, v6), (0, v7)] [(0, w25)] L μ24 Q
          refine wa_pop 194 dX9_lie_193 rfl (Or.inl rfl) ?_
          obtain ⟨c26, h⟩ := h
          refine wa_iinc 197 [(2, v0), (0, v1), (0, v2), (0, v3), (0, v4), (0, v5), (0, v6), (0, (v7 + 1))] dX9_lie_194 rfl rfl rfl c26 rfl ?_
          refine wa_goto 124 dX9_lie_197 (by decide) ?_
          exact h
        · replace h := h.2 q
          refine wa_bipush 173 dX9_lie_171 rfl ⟨by decide, by decide⟩ ?_
          refine wa_iload 175 dX9_lie_173 rfl rfl ?_
          obtain ⟨c27, h⟩ := h
          refine wa_imul 176 dX9_lie_175 rfl c27 ?_
          refine wa_iload 178 dX9_lie_176 rfl rfl ?_
          obtain ⟨c28, h⟩ := h
          refine wa_iadd 179 dX9_lie_178 rfl c28 ?_
          refine wa_istore 181 [(2, v0), (0, v1), (0, v2), (0, v3), (0, v4), (0, ((100 * v6) + v7)), (0, v6), (0, v7)] dX9_lie_179 rfl rfl rfl ?_
          refine wa_aload_n 182 dX9_lie_181 rfl rfl ?_
          refine wa_getR 185 0 dX9_lie_182 rfl wF_X9_12 rfl rfl ⟨k0, isK_pos e1⟩ ?_
          refine wa_iload_n 186 dX9_lie_185 rfl rfl ?_
          refine wa_iload 188 dX9_lie_186 rfl rfl ?_
          refine wa_iload 190 dX9_lie_188 rfl rfl ?_
          refine wa_callV 193 0 3 0 (av := [(0, v3), (0, v7), (0, v6)]) (rest := []) (k1 := (0, 0)) (k2 := (0, 0)) cvX0_moveTold dX9_lie_190 rfl wM_X9_245 ⟨rfl, by decide, rfl, Nat.le_of_ble_eq_true rfl, by decide, Nat.le_of_ble_eq_true rfl, rfl, rfl⟩ rfl e1 (TR.mono h (fun r29 L30 μ31 h => ?_))
          obtain ⟨w32, rfl, rfl, h⟩ := h
          show WA mX9_lie 7 (0, 0) 193 [(2, v0), (0, v1), (0, v2), (0, v3), (0, v4), (0, ((100 * v6) + v7)), (0, v6), (0, v7)] [(0, w32)] L μ31 Q
          refine wa_pop 194 dX9_lie_193 rfl (Or.inl rfl) ?_
          obtain ⟨c33, h⟩ := h
          refine wa_iinc 197 [(2, v0), (0, v1), (0, v2), (0, v3), (0, v4), (0, ((100 * v6) + v7)), (0, v6), (0, (v7 + 1))] dX9_lie_194 rfl rfl rfl c33 rfl ?_
          refine wa_goto 124 dX9_lie_197 (by decide) ?_
          exact h
set_option maxRecDepth 20000 in
theorem t_X9_list (hL : LayOK L) {v0 v1 v2 : Int} (k0 : isK L v0 (9, 0)) (h : TR mX4_isRow 0 (0, 0) [(2, (rf L v0 10)), (0, v1)] L μ (fun r2 L3 μ4 => ∃ w5, r2 = some (0, w5) ∧ L = L3 ∧ (w5 = 0 → Q (some (0, (-1))) L μ4) ∧ (¬ w5 = 0 → (v2 ≤ 20 → (0 ≤ v2 → TR mX4_lay 0 (0, 0) [(2, (rf L v0 10)), (0, v1), (0, v2)] L μ4 (fun r6 L7 μ8 => r6 = none ∧ L = L7 ∧ Q (some (0, 1)) L μ8)) ∧ (¬ 0 ≤ v2 → Q (some (0, (-14))) L μ4)) ∧ (¬ v2 ≤ 20 → Q (some (0, (-1))) L μ4)))) : TR mX9_list 1 (0, 0) [(2, v0), (0, v1), (0, v2)] L μ Q := by
  refine TR.of (ls := [(2, v0), (0, v1), (0, v2)]) (by decide) (by simp) rfl (Nat.le_of_ble_eq_true rfl) ?_
  refine wa_aload_n 1 dX9_list_0 rfl rfl ?_
  have e1 : isK L (rf L v0 10) (4, 0) := lay_f hL k0 10 rfl
  refine wa_getR 4 10 dX9_list_1 rfl wF_X9_63 rfl rfl ⟨k0, isK_pos e1⟩ ?_
  refine wa_iload_n 5 dX9_list_4 rfl rfl ?_
  refine wa_callV 8 0 1 4 (av := [(0, v1)]) (rest := []) (k1 := (0, 0)) (k2 := (0, 0)) cvX4_isRow dX9_list_5 rfl wM_X9_253 ⟨rfl, by decide, rfl, Nat.le_of_ble_eq_true rfl, by decide, Nat.le_of_ble_eq_true rfl, rfl, rfl⟩ rfl e1 (TR.mono h (fun r2 L3 μ4 h => ?_))
  obtain ⟨w5, rfl, rfl, h⟩ := h
  show WA mX9_list 1 (0, 0) 8 [(2, v0), (0, v1), (0, v2)] [(0, w5)] L μ4 Q
  refine wa_if_eq 11 17 dX9_list_8 rfl (by decide) (fun q => ?_) (fun q => ?_)
  · replace h := h.1 q
    refine wa_iconst 18 dX9_list_17 rfl (by decide) ?_
    exact wa_iret dX9_list_18 rfl h
  · replace h := h.2 q
    refine wa_iload_n 12 dX9_list_11 rfl rfl ?_
    refine wa_bipush 14 dX9_list_12 rfl ⟨by decide, by decide⟩ ?_
    refine wa_icmp_le 17 19 dX9_list_14 rfl (by decide) (fun q => ?_) (fun q => ?_)
    · replace h := h.1 q
      refine wa_iload_n 20 dX9_list_19 rfl rfl ?_
      refine wa_if_ge 23 26 dX9_list_20 rfl (by decide) (fun q => ?_) (fun q => ?_)
      · replace h := h.1 q
        refine wa_aload_n 27 dX9_list_26 rfl rfl ?_
        refine wa_getR 30 10 dX9_list_27 rfl wF_X9_63 rfl rfl ⟨k0, isK_pos e1⟩ ?_
        refine wa_iload_n 31 dX9_list_30 rfl rfl ?_
        refine wa_iload_n 32 dX9_list_31 rfl rfl ?_
        refine wa_callV 35 0 2 4 (av := [(0, v1), (0, v2)]) (rest := []) (k1 := (0, 0)) (k2 := (0, 0)) cvX4_lay dX9_list_32 rfl wM_X9_256 ⟨rfl, by decide, rfl, Nat.le_of_ble_eq_true rfl, by decide, Nat.le_of_ble_eq_true rfl, rfl, rfl⟩ rfl e1 (TR.mono h (fun r6 L7 μ8 h => ?_))
        obtain ⟨rfl, rfl, h⟩ := h
        show WA mX9_list 1 (0, 0) 35 [(2, v0), (0, v1), (0, v2)] [] L μ8 Q
        refine wa_iconst 36 dX9_list_35 rfl (by decide) ?_
        exact wa_iret dX9_list_36 rfl h
      · replace h := h.2 q
        refine wa_bipush 25 dX9_list_23 rfl ⟨by decide, by decide⟩ ?_
        exact wa_iret dX9_list_25 rfl h
    · replace h := h.2 q
      refine wa_iconst 18 dX9_list_17 rfl (by decide) ?_
      exact wa_iret dX9_list_18 rfl h
set_option maxRecDepth 20000 in
theorem t_X9_mark (hL : LayOK L) {v0 v1 v2 v3 v4 v5 v6 : Int} (k0 : isK L v0 (9, 0)) (h : TR mX0_hasAgent 0 (0, 0) [(2, (rf L v0 0)), (0, v1)] L μ (fun r2 L3 μ4 => ∃ w5, r2 = some (0, w5) ∧ L = L3 ∧ (w5 = 0 → Q (some (1, (-9223372036854775808))) L μ4) ∧ (¬ w5 = 0 → TR mX9_isPoint 0 (0, 0) [(2, v0), (0, v2), (0, v3)] L μ4 (fun r6 L7 μ8 => ∃ w9, r6 = some (0, w9) ∧ L = L7 ∧ (w9 = 0 → Q (some (1, (-9223372036854775808))) L μ8) ∧ (¬ w9 = 0 → (v4 < 0 → Q (some (1, (-9223372036854775808))) L μ8) ∧ (¬ v4 < 0 → (v5 < 1 → Q (some (1, (-9223372036854775808))) L μ8) ∧ (¬ v5 < 1 → (20 < v5 → Q (some (1, (-9223372036854775808))) L μ8) ∧ (¬ 20 < v5 → TR mX9_isFlag 0 (0, 0) [(0, v6)] L μ8 (fun r10 L11 μ12 => ∃ w13, r10 = some (0, w13) ∧ L = L11 ∧ (¬ w13 = 0 → (0 ≤ v1 ∧ v1 < 5) ∧ TR mX0_total 0 (0, 0) [(2, (rf L v0 0)), (2, (rf L ((rf L ((rf L v0 0)) 3)) v1))] L μ12 (fun r17 L18 μ19 => ∃ w20, r17 = some (0, w20) ∧ L = L18 ∧ (inL (w20 * v3)) ∧ (inL ((w20 * v3) * v4)) ∧ TR mX0_reach 2 (0, 0) [(2, (rf L v0 0)), (2, (rf L v0 11)), (2, (rf L ((rf L ((rf L v0 0)) 3)) v1)), (1, v2), (1, v3), (1, ((w20 * v3) * v4)), (1, v5)] L μ19 (fun r24 L25 μ26 => ∃ w27, r24 = some (0, w27) ∧ L = L25 ∧ (¬ w27 = 0 → (¬ v6 = 0 → Q (some (1, (μ26 ((rf L v0 11)) 1))) L μ26) ∧ (v6 = 0 → Q (some (1, (μ26 ((rf L v0 11)) 0))) L μ26)) ∧ (w27 = 0 → Q (some (1, (-9223372036854775808))) L μ26)))) ∧ (w13 = 0 → Q (some (1, (-9223372036854775808))) L μ12)))))))))) : TR mX9_mark 3 (0, 0) [(2, v0), (0, v1), (0, v2), (0, v3), (0, v4), (0, v5), (0, v6)] L μ Q := by
  refine TR.of (ls := [(2, v0), (0, v1), (0, v2), (0, v3), (0, v4), (0, v5), (0, v6), (9, 0), (9, 0), (9, 0)]) (by decide) (by simp) rfl (Nat.le_of_ble_eq_true rfl) ?_
  refine wa_aload_n 1 dX9_mark_0 rfl rfl ?_
  have e1 : isK L (rf L v0 0) (0, 0) := lay_f hL k0 0 rfl
  refine wa_getR 4 0 dX9_mark_1 rfl wF_X9_12 rfl rfl ⟨k0, isK_pos e1⟩ ?_
  refine wa_iload_n 5 dX9_mark_4 rfl rfl ?_
  refine wa_callV 8 0 1 0 (av := [(0, v1)]) (rest := []) (k1 := (0, 0)) (k2 := (0, 0)) cvX0_hasAgent dX9_mark_5 rfl wM_X9_95 ⟨rfl, by decide, rfl, Nat.le_of_ble_eq_true rfl, by decide, Nat.le_of_ble_eq_true rfl, rfl, rfl⟩ rfl e1 (TR.mono h (fun r2 L3 μ4 h => ?_))
  obtain ⟨w5, rfl, rfl, h⟩ := h
  show WA mX9_mark 3 (0, 0) 8 [(2, v0), (0, v1), (0, v2), (0, v3), (0, v4), (0, v5), (0, v6), (9, 0), (9, 0), (9, 0)] [(0, w5)] L μ4 Q
  refine wa_if_eq 11 46 dX9_mark_8 rfl (by decide) (fun q => ?_) (fun q => ?_)
  · replace h := h.1 q
    refine wa_ldc2 49 (-9223372036854775808) dX9_mark_46 rfl wJ_X9_126 ⟨rfl, by decide⟩ ?_
    exact wa_lret dX9_mark_49 rfl h
  · replace h := h.2 q
    refine wa_aload_n 12 dX9_mark_11 rfl rfl ?_
    refine wa_iload_n 13 dX9_mark_12 rfl rfl ?_
    refine wa_iload_n 14 dX9_mark_13 rfl rfl ?_
    refine wa_callV 17 0 2 9 (av := [(0, v2), (0, v3)]) (rest := []) (k1 := (0, 0)) (k2 := (0, 0)) cvX9_isPoint dX9_mark_14 rfl wM_X9_122 ⟨rfl, by decide, rfl, Nat.le_of_ble_eq_true rfl, by decide, Nat.le_of_ble_eq_true rfl, rfl, rfl⟩ rfl k0 (TR.mono h (fun r6 L7 μ8 h => ?_))
    obtain ⟨w9, rfl, rfl, h⟩ := h
    show WA mX9_mark 3 (0, 0) 17 [(2, v0), (0, v1), (0, v2), (0, v3), (0, v4), (0, v5), (0, v6), (9, 0), (9, 0), (9, 0)] [(0, w9)] L μ8 Q
    refine wa_if_eq 20 46 dX9_mark_17 rfl (by decide) (fun q => ?_) (fun q => ?_)
    · replace h := h.1 q
      refine wa_ldc2 49 (-9223372036854775808) dX9_mark_46 rfl wJ_X9_126 ⟨rfl, by decide⟩ ?_
      exact wa_lret dX9_mark_49 rfl h
    · replace h := h.2 q
      refine wa_iload 22 dX9_mark_20 rfl rfl ?_
      refine wa_if_lt 25 46 dX9_mark_22 rfl (by decide) (fun q => ?_) (fun q => ?_)
      · replace h := h.1 q
        refine wa_ldc2 49 (-9223372036854775808) dX9_mark_46 rfl wJ_X9_126 ⟨rfl, by decide⟩ ?_
        exact wa_lret dX9_mark_49 rfl h
      · replace h := h.2 q
        refine wa_iload 27 dX9_mark_25 rfl rfl ?_
        refine wa_iconst 28 dX9_mark_27 rfl (by decide) ?_
        refine wa_icmp_lt 31 46 dX9_mark_28 rfl (by decide) (fun q => ?_) (fun q => ?_)
        · replace h := h.1 q
          refine wa_ldc2 49 (-9223372036854775808) dX9_mark_46 rfl wJ_X9_126 ⟨rfl, by decide⟩ ?_
          exact wa_lret dX9_mark_49 rfl h
        · replace h := h.2 q
          refine wa_iload 33 dX9_mark_31 rfl rfl ?_
          refine wa_bipush 35 dX9_mark_33 rfl ⟨by decide, by decide⟩ ?_
          refine wa_icmp_gt 38 46 dX9_mark_35 rfl (by decide) (fun q => ?_) (fun q => ?_)
          · replace h := h.1 q
            refine wa_ldc2 49 (-9223372036854775808) dX9_mark_46 rfl wJ_X9_126 ⟨rfl, by decide⟩ ?_
            exact wa_lret dX9_mark_49 rfl h
          · replace h := h.2 q
            refine wa_iload 40 dX9_mark_38 rfl rfl ?_
            refine wa_callS 43 0 1 (av := [(0, v6)]) (rest := []) (k1 := (0, 0)) (k2 := (0, 0)) cvX9_isFlag dX9_mark_40 rfl wM_X9_115 ⟨rfl, Nat.le_of_ble_eq_true rfl, by decide, Nat.le_of_ble_eq_true rfl, rfl, rfl⟩ rfl (TR.mono h (fun r10 L11 μ12 h => ?_))
            obtain ⟨w13, rfl, rfl, h⟩ := h
            show WA mX9_mark 3 (0, 0) 43 [(2, v0), (0, v1), (0, v2), (0, v3), (0, v4), (0, v5), (0, v6), (9, 0), (9, 0), (9, 0)] [(0, w13)] L μ12 Q
            refine wa_if_ne 46 50 dX9_mark_43 rfl (by decide) (fun q => ?_) (fun q => ?_)
            · replace h := h.1 q
              refine wa_aload_n 51 dX9_mark_50 rfl rfl ?_
              refine wa_getR 54 0 dX9_mark_51 rfl wF_X9_12 rfl rfl ⟨k0, isK_pos e1⟩ ?_
              have e14 : isK L (rf L ((rf L v0 0)) 3) (23, 5) := lay_f hL e1 3 rfl
              refine wa_getR 57 3 dX9_mark_54 rfl wF_X9_109 rfl rfl ⟨e1, isK_pos e14⟩ ?_
              refine wa_iload_n 58 dX9_mark_57 rfl rfl ?_
              obtain ⟨c15, h⟩ := h
              have e16 : isK L (rf L ((rf L ((rf L v0 0)) 3)) v1) (20, 16) := lay_e hL e1 3 rfl c15
              refine wa_aaload 59 23 dX9_mark_58 rfl ⟨by decide, by decide⟩ ⟨okA_of e14 c15, isK_pos e16⟩ ?_
              refine wa_astore 61 [(2, v0), (0, v1), (0, v2), (0, v3), (0, v4), (0, v5), (0, v6), (2, (rf L ((rf L ((rf L v0 0)) 3)) v1)), (9, 0), (9, 0)] dX9_mark_59 rfl rfl rfl ?_
              refine wa_aload_n 62 dX9_mark_61 rfl rfl ?_
              refine wa_getR 65 0 dX9_mark_62 rfl wF_X9_12 rfl rfl ⟨k0, isK_pos e1⟩ ?_
              refine wa_aload 67 dX9_mark_65 rfl rfl ?_
              refine wa_callV 70 0 1 0 (av := [(2, (rf L ((rf L ((rf L v0 0)) 3)) v1))]) (rest := []) (k1 := (0, 0)) (k2 := (0, 0)) cvX0_total dX9_mark_67 rfl wM_X9_136 ⟨rfl, by decide, rfl, Nat.le_of_ble_eq_true rfl, by decide, Nat.le_of_ble_eq_true rfl, rfl, rfl⟩ rfl e1 (TR.mono h (fun r17 L18 μ19 h => ?_))
              obtain ⟨w20, rfl, rfl, h⟩ := h
              show WA mX9_mark 3 (0, 0) 70 [(2, v0), (0, v1), (0, v2), (0, v3), (0, v4), (0, v5), (0, v6), (2, (rf L ((rf L ((rf L v0 0)) 3)) v1)), (9, 0), (9, 0)] [(0, w20)] L μ19 Q
              refine wa_i2l 71 dX9_mark_70 rfl ?_
              refine wa_iload_n 72 dX9_mark_71 rfl rfl ?_
              refine wa_i2l 73 dX9_mark_72 rfl ?_
              obtain ⟨c21, h⟩ := h
              refine wa_lmul 74 dX9_mark_73 rfl c21 ?_
              refine wa_iload 76 dX9_mark_74 rfl rfl ?_
              refine wa_i2l 77 dX9_mark_76 rfl ?_
              obtain ⟨c22, h⟩ := h
              refine wa_lmul 78 dX9_mark_77 rfl c22 ?_
              refine wa_lstore 80 [(2, v0), (0, v1), (0, v2), (0, v3), (0, v4), (0, v5), (0, v6), (2, (rf L ((rf L ((rf L v0 0)) 3)) v1)), (1, ((w20 * v3) * v4)), (9, 0)] dX9_mark_78 rfl rfl rfl ?_
              refine wa_aload_n 81 dX9_mark_80 rfl rfl ?_
              refine wa_getR 84 0 dX9_mark_81 rfl wF_X9_12 rfl rfl ⟨k0, isK_pos e1⟩ ?_
              refine wa_aload_n 85 dX9_mark_84 rfl rfl ?_
              have e23 : isK L (rf L v0 11) (3, 0) := lay_f hL k0 11 rfl
              refine wa_getR 88 11 dX9_mark_85 rfl wF_X9_70 rfl rfl ⟨k0, isK_pos e23⟩ ?_
              refine wa_aload 90 dX9_mark_88 rfl rfl ?_
              refine wa_iload_n 91 dX9_mark_90 rfl rfl ?_
              refine wa_i2l 92 dX9_mark_91 rfl ?_
              refine wa_iload_n 93 dX9_mark_92 rfl rfl ?_
              refine wa_i2l 94 dX9_mark_93 rfl ?_
              refine wa_lload 96 dX9_mark_94 rfl rfl ?_
              refine wa_iload 98 dX9_mark_96 rfl rfl ?_
              refine wa_i2l 99 dX9_mark_98 rfl ?_
              refine wa_callV 102 2 6 0 (av := [(2, (rf L v0 11)), (2, (rf L ((rf L ((rf L v0 0)) 3)) v1)), (1, v2), (1, v3), (1, ((w20 * v3) * v4)), (1, v5)]) (rest := []) (k1 := (0, 0)) (k2 := (0, 0)) cvX0_reach dX9_mark_99 rfl wM_X9_140 ⟨rfl, by decide, rfl, Nat.le_of_ble_eq_true rfl, by decide, Nat.le_of_ble_eq_true rfl, rfl, rfl⟩ rfl e1 (TR.mono h (fun r24 L25 μ26 h => ?_))
              obtain ⟨w27, rfl, rfl, h⟩ := h
              show WA mX9_mark 3 (0, 0) 102 [(2, v0), (0, v1), (0, v2), (0, v3), (0, v4), (0, v5), (0, v6), (2, (rf L ((rf L ((rf L v0 0)) 3)) v1)), (1, ((w20 * v3) * v4)), (9, 0)] [(0, w27)] L μ26 Q
              refine wa_if_ne 105 109 dX9_mark_102 rfl (by decide) (fun q => ?_) (fun q => ?_)
              · replace h := h.1 q
                refine wa_iload 111 dX9_mark_109 rfl rfl ?_
                refine wa_if_ne 114 124 dX9_mark_111 rfl (by decide) (fun q => ?_) (fun q => ?_)
                · replace h := h.1 q
                  refine wa_aload_n 125 dX9_mark_124 rfl rfl ?_
                  refine wa_getR 128 11 dX9_mark_125 rfl wF_X9_70 rfl rfl ⟨k0, isK_pos e23⟩ ?_
                  refine wa_getL 131 1 dX9_mark_128 rfl wF_X9_148 rfl rfl e23 ?_
                  exact wa_lret dX9_mark_131 rfl h
                · replace h := h.2 q
                  refine wa_aload_n 115 dX9_mark_114 rfl rfl ?_
                  refine wa_getR 118 11 dX9_mark_115 rfl wF_X9_70 rfl rfl ⟨k0, isK_pos e23⟩ ?_
                  refine wa_getL 121 0 dX9_mark_118 rfl wF_X9_144 rfl rfl e23 ?_
                  refine wa_goto 131 dX9_mark_121 (by decide) ?_
                  exact wa_lret dX9_mark_131 rfl h
              · replace h := h.2 q
                refine wa_ldc2 108 (-9223372036854775808) dX9_mark_105 rfl wJ_X9_126 ⟨rfl, by decide⟩ ?_
                exact wa_lret dX9_mark_108 rfl h
            · replace h := h.2 q
              refine wa_ldc2 49 (-9223372036854775808) dX9_mark_46 rfl wJ_X9_126 ⟨rfl, by decide⟩ ?_
              exact wa_lret dX9_mark_49 rfl h
set_option maxRecDepth 20000 in
theorem t_X9_off (hL : LayOK L) {v0 v1 v2 v3 : Int} (k0 : isK L v0 (9, 0)) (h : TR mX0_hasAgent 0 (0, 0) [(2, (rf L v0 0)), (0, v1)] L μ (fun r2 L3 μ4 => ∃ w5, r2 = some (0, w5) ∧ L = L3 ∧ (w5 = 0 → Q (some (1, (-9223372036854775808))) L μ4) ∧ (¬ w5 = 0 → TR mX9_isFlag 0 (0, 0) [(0, v2)] L μ4 (fun r6 L7 μ8 => ∃ w9, r6 = some (0, w9) ∧ L = L7 ∧ (w9 = 0 → Q (some (1, (-9223372036854775808))) L μ8) ∧ (¬ w9 = 0 → TR mX9_isFlag 0 (0, 0) [(0, v3)] L μ8 (fun r10 L11 μ12 => ∃ w13, r10 = some (0, w13) ∧ L = L11 ∧ (w13 = 0 → Q (some (1, (-9223372036854775808))) L μ12) ∧ (¬ w13 = 0 → (¬ (μ12 ((rf L v0 3)) 0) = 0 → (0 ≤ v1 ∧ v1 < 5) ∧ (¬ v2 = 0 → TR mX1_leftOver 4 (0, 0) [(2, (rf L v0 3)), (2, (rf L v0 0)), (2, (rf L ((rf L ((rf L v0 0)) 2)) v1))] L μ12 (fun r18 L19 μ20 => ∃ w21, r18 = some (1, w21) ∧ L = L19 ∧ TR mX9_tell 2 (0, 0) [(2, v0), (1, w21), (1, (μ20 ((rf L v0 3)) 2)), (0, v3)] L μ20 (fun r22 L23 μ24 => ∃ w25, r22 = some (1, w25) ∧ L = L23 ∧ Q (some (1, w25)) L μ24))) ∧ (v2 = 0 → TR mX1_trimmedOff 3 (0, 0) [(2, (rf L v0 3)), (2, (rf L v0 0)), (2, (rf L ((rf L ((rf L v0 0)) 2)) v1))] L μ12 (fun r26 L27 μ28 => ∃ w29, r26 = some (1, w29) ∧ L = L27 ∧ TR mX9_tell 2 (0, 0) [(2, v0), (1, w29), (1, (μ28 ((rf L v0 3)) 2)), (0, v3)] L μ28 (fun r30 L31 μ32 => ∃ w33, r30 = some (1, w33) ∧ L = L31 ∧ Q (some (1, w33)) L μ32)))) ∧ ((μ12 ((rf L v0 3)) 0) = 0 → Q (some (1, (-9223372036854775808))) L μ12)))))))) : TR mX9_off 5 (0, 0) [(2, v0), (0, v1), (0, v2), (0, v3)] L μ Q := by
  refine TR.of (ls := [(2, v0), (0, v1), (0, v2), (0, v3), (9, 0), (9, 0), (9, 0)]) (by decide) (by simp) rfl (Nat.le_of_ble_eq_true rfl) ?_
  refine wa_aload_n 1 dX9_off_0 rfl rfl ?_
  have e1 : isK L (rf L v0 0) (0, 0) := lay_f hL k0 0 rfl
  refine wa_getR 4 0 dX9_off_1 rfl wF_X9_12 rfl rfl ⟨k0, isK_pos e1⟩ ?_
  refine wa_iload_n 5 dX9_off_4 rfl rfl ?_
  refine wa_callV 8 0 1 0 (av := [(0, v1)]) (rest := []) (k1 := (0, 0)) (k2 := (0, 0)) cvX0_hasAgent dX9_off_5 rfl wM_X9_95 ⟨rfl, by decide, rfl, Nat.le_of_ble_eq_true rfl, by decide, Nat.le_of_ble_eq_true rfl, rfl, rfl⟩ rfl e1 (TR.mono h (fun r2 L3 μ4 h => ?_))
  obtain ⟨w5, rfl, rfl, h⟩ := h
  show WA mX9_off 5 (0, 0) 8 [(2, v0), (0, v1), (0, v2), (0, v3), (9, 0), (9, 0), (9, 0)] [(0, w5)] L μ4 Q
  refine wa_if_eq 11 35 dX9_off_8 rfl (by decide) (fun q => ?_) (fun q => ?_)
  · replace h := h.1 q
    refine wa_ldc2 38 (-9223372036854775808) dX9_off_35 rfl wJ_X9_126 ⟨rfl, by decide⟩ ?_
    exact wa_lret dX9_off_38 rfl h
  · replace h := h.2 q
    refine wa_iload_n 12 dX9_off_11 rfl rfl ?_
    refine wa_callS 15 0 1 (av := [(0, v2)]) (rest := []) (k1 := (0, 0)) (k2 := (0, 0)) cvX9_isFlag dX9_off_12 rfl wM_X9_115 ⟨rfl, Nat.le_of_ble_eq_true rfl, by decide, Nat.le_of_ble_eq_true rfl, rfl, rfl⟩ rfl (TR.mono h (fun r6 L7 μ8 h => ?_))
    obtain ⟨w9, rfl, rfl, h⟩ := h
    show WA mX9_off 5 (0, 0) 15 [(2, v0), (0, v1), (0, v2), (0, v3), (9, 0), (9, 0), (9, 0)] [(0, w9)] L μ8 Q
    refine wa_if_eq 18 35 dX9_off_15 rfl (by decide) (fun q => ?_) (fun q => ?_)
    · replace h := h.1 q
      refine wa_ldc2 38 (-9223372036854775808) dX9_off_35 rfl wJ_X9_126 ⟨rfl, by decide⟩ ?_
      exact wa_lret dX9_off_38 rfl h
    · replace h := h.2 q
      refine wa_iload_n 19 dX9_off_18 rfl rfl ?_
      refine wa_callS 22 0 1 (av := [(0, v3)]) (rest := []) (k1 := (0, 0)) (k2 := (0, 0)) cvX9_isFlag dX9_off_19 rfl wM_X9_115 ⟨rfl, Nat.le_of_ble_eq_true rfl, by decide, Nat.le_of_ble_eq_true rfl, rfl, rfl⟩ rfl (TR.mono h (fun r10 L11 μ12 h => ?_))
      obtain ⟨w13, rfl, rfl, h⟩ := h
      show WA mX9_off 5 (0, 0) 22 [(2, v0), (0, v1), (0, v2), (0, v3), (9, 0), (9, 0), (9, 0)] [(0, w13)] L μ12 Q
      refine wa_if_eq 25 35 dX9_off_22 rfl (by decide) (fun q => ?_) (fun q => ?_)
      · replace h := h.1 q
        refine wa_ldc2 38 (-9223372036854775808) dX9_off_35 rfl wJ_X9_126 ⟨rfl, by decide⟩ ?_
        exact wa_lret dX9_off_38 rfl h
      · replace h := h.2 q
        refine wa_aload_n 26 dX9_off_25 rfl rfl ?_
        have e14 : isK L (rf L v0 3) (1, 0) := lay_f hL k0 3 rfl
        refine wa_getR 29 3 dX9_off_26 rfl wF_X9_27 rfl rfl ⟨k0, isK_pos e14⟩ ?_
        refine wa_getI 32 0 dX9_off_29 rfl wF_X9_177 rfl rfl e14 ?_
        refine wa_if_ne 35 39 dX9_off_32 rfl (by decide) (fun q => ?_) (fun q => ?_)
        · replace h := h.1 q
          refine wa_aload_n 40 dX9_off_39 rfl rfl ?_
          refine wa_getR 43 0 dX9_off_40 rfl wF_X9_12 rfl rfl ⟨k0, isK_pos e1⟩ ?_
          have e15 : isK L (rf L ((rf L v0 0)) 2) (23, 5) := lay_f hL e1 2 rfl
          refine wa_getR 46 2 dX9_off_43 rfl wF_X9_105 rfl rfl ⟨e1, isK_pos e15⟩ ?_
          refine wa_iload_n 47 dX9_off_46 rfl rfl ?_
          obtain ⟨c16, h⟩ := h
          have e17 : isK L (rf L ((rf L ((rf L v0 0)) 2)) v1) (20, 16) := lay_e hL e1 2 rfl c16
          refine wa_aaload 48 23 dX9_off_47 rfl ⟨by decide, by decide⟩ ⟨okA_of e15 c16, isK_pos e17⟩ ?_
          refine wa_astore 50 [(2, v0), (0, v1), (0, v2), (0, v3), (2, (rf L ((rf L ((rf L v0 0)) 2)) v1)), (9, 0), (9, 0)] dX9_off_48 rfl rfl rfl ?_
          refine wa_iload_n 51 dX9_off_50 rfl rfl ?_
          refine wa_if_ne 54 70 dX9_off_51 rfl (by decide) (fun q => ?_) (fun q => ?_)
          · replace h := h.1 q
            refine wa_aload_n 71 dX9_off_70 rfl rfl ?_
            refine wa_getR 74 3 dX9_off_71 rfl wF_X9_27 rfl rfl ⟨k0, isK_pos e14⟩ ?_
            refine wa_aload_n 75 dX9_off_74 rfl rfl ?_
            refine wa_getR 78 0 dX9_off_75 rfl wF_X9_12 rfl rfl ⟨k0, isK_pos e1⟩ ?_
            refine wa_aload 80 dX9_off_78 rfl rfl ?_
            refine wa_callV 83 4 2 1 (av := [(2, (rf L v0 0)), (2, (rf L ((rf L ((rf L v0 0)) 2)) v1))]) (rest := []) (k1 := (0, 0)) (k2 := (0, 0)) cvX1_leftOver dX9_off_80 rfl wM_X9_238 ⟨rfl, by decide, rfl, Nat.le_of_ble_eq_true rfl, by decide, Nat.le_of_ble_eq_true rfl, rfl, rfl⟩ rfl e14 (TR.mono h (fun r18 L19 μ20 h => ?_))
            obtain ⟨w21, rfl, rfl, h⟩ := h
            show WA mX9_off 5 (0, 0) 83 [(2, v0), (0, v1), (0, v2), (0, v3), (2, (rf L ((rf L ((rf L v0 0)) 2)) v1)), (9, 0), (9, 0)] [(1, w21)] L μ20 Q
            refine wa_lstore 85 [(2, v0), (0, v1), (0, v2), (0, v3), (2, (rf L ((rf L ((rf L v0 0)) 2)) v1)), (1, w21), (9, 0)] dX9_off_83 rfl rfl rfl ?_
            refine wa_aload_n 86 dX9_off_85 rfl rfl ?_
            refine wa_lload 88 dX9_off_86 rfl rfl ?_
            refine wa_aload_n 89 dX9_off_88 rfl rfl ?_
            refine wa_getR 92 3 dX9_off_89 rfl wF_X9_27 rfl rfl ⟨k0, isK_pos e14⟩ ?_
            refine wa_getL 95 2 dX9_off_92 rfl wF_X9_223 rfl rfl e14 ?_
            refine wa_iload_n 96 dX9_off_95 rfl rfl ?_
            refine wa_callV 99 2 3 9 (av := [(1, w21), (1, (μ20 ((rf L v0 3)) 2)), (0, v3)]) (rest := []) (k1 := (0, 0)) (k2 := (0, 0)) cvX9_tell dX9_off_96 rfl wM_X9_132 ⟨rfl, by decide, rfl, Nat.le_of_ble_eq_true rfl, by decide, Nat.le_of_ble_eq_true rfl, rfl, rfl⟩ rfl k0 (TR.mono h (fun r22 L23 μ24 h => ?_))
            obtain ⟨w25, rfl, rfl, h⟩ := h
            show WA mX9_off 5 (0, 0) 99 [(2, v0), (0, v1), (0, v2), (0, v3), (2, (rf L ((rf L ((rf L v0 0)) 2)) v1)), (1, w21), (9, 0)] [(1, w25)] L μ24 Q
            exact wa_lret dX9_off_99 rfl h
          · replace h := h.2 q
            refine wa_aload_n 55 dX9_off_54 rfl rfl ?_
            refine wa_getR 58 3 dX9_off_55 rfl wF_X9_27 rfl rfl ⟨k0, isK_pos e14⟩ ?_
            refine wa_aload_n 59 dX9_off_58 rfl rfl ?_
            refine wa_getR 62 0 dX9_off_59 rfl wF_X9_12 rfl rfl ⟨k0, isK_pos e1⟩ ?_
            refine wa_aload 64 dX9_off_62 rfl rfl ?_
            refine wa_callV 67 3 2 1 (av := [(2, (rf L v0 0)), (2, (rf L ((rf L ((rf L v0 0)) 2)) v1))]) (rest := []) (k1 := (0, 0)) (k2 := (0, 0)) cvX1_trimmedOff dX9_off_64 rfl wM_X9_234 ⟨rfl, by decide, rfl, Nat.le_of_ble_eq_true rfl, by decide, Nat.le_of_ble_eq_true rfl, rfl, rfl⟩ rfl e14 (TR.mono h (fun r26 L27 μ28 h => ?_))
            obtain ⟨w29, rfl, rfl, h⟩ := h
            show WA mX9_off 5 (0, 0) 67 [(2, v0), (0, v1), (0, v2), (0, v3), (2, (rf L ((rf L ((rf L v0 0)) 2)) v1)), (9, 0), (9, 0)] [(1, w29)] L μ28 Q
            refine wa_goto 83 dX9_off_67 (by decide) ?_
            refine wa_lstore 85 [(2, v0), (0, v1), (0, v2), (0, v3), (2, (rf L ((rf L ((rf L v0 0)) 2)) v1)), (1, w29), (9, 0)] dX9_off_83 rfl rfl rfl ?_
            refine wa_aload_n 86 dX9_off_85 rfl rfl ?_
            refine wa_lload 88 dX9_off_86 rfl rfl ?_
            refine wa_aload_n 89 dX9_off_88 rfl rfl ?_
            refine wa_getR 92 3 dX9_off_89 rfl wF_X9_27 rfl rfl ⟨k0, isK_pos e14⟩ ?_
            refine wa_getL 95 2 dX9_off_92 rfl wF_X9_223 rfl rfl e14 ?_
            refine wa_iload_n 96 dX9_off_95 rfl rfl ?_
            refine wa_callV 99 2 3 9 (av := [(1, w29), (1, (μ28 ((rf L v0 3)) 2)), (0, v3)]) (rest := []) (k1 := (0, 0)) (k2 := (0, 0)) cvX9_tell dX9_off_96 rfl wM_X9_132 ⟨rfl, by decide, rfl, Nat.le_of_ble_eq_true rfl, by decide, Nat.le_of_ble_eq_true rfl, rfl, rfl⟩ rfl k0 (TR.mono h (fun r30 L31 μ32 h => ?_))
            obtain ⟨w33, rfl, rfl, h⟩ := h
            show WA mX9_off 5 (0, 0) 99 [(2, v0), (0, v1), (0, v2), (0, v3), (2, (rf L ((rf L ((rf L v0 0)) 2)) v1)), (1, w29), (9, 0)] [(1, w33)] L μ32 Q
            exact wa_lret dX9_off_99 rfl h
        · replace h := h.2 q
          refine wa_ldc2 38 (-9223372036854775808) dX9_off_35 rfl wJ_X9_126 ⟨rfl, by decide⟩ ?_
          exact wa_lret dX9_off_38 rfl h
set_option maxRecDepth 20000 in
theorem t_X9_paper (hL : LayOK L) {v0 v1 : Int} (k0 : isK L v0 (9, 0)) (h : ((-1) ≤ v1 → (¬ v1 = (-1) → ((μ ((rf L v0 9)) 0) ≤ v1 → Q (some (0, (-2))) L μ) ∧ (¬ (μ ((rf L v0 9)) 0) ≤ v1 → (0 ≤ v1 ∧ v1 < 640) ∧ Q (some (0, (μ ((rf L ((rf L v0 9)) 1)) v1))) L μ)) ∧ (v1 = (-1) → Q (some (0, (μ ((rf L v0 9)) 0))) L μ)) ∧ (¬ (-1) ≤ v1 → Q (some (0, (-1))) L μ)) : TR mX9_paper 0 (0, 0) [(2, v0), (0, v1)] L μ Q := by
  refine TR.of (ls := [(2, v0), (0, v1)]) (by decide) (by simp) rfl (Nat.le_of_ble_eq_true rfl) ?_
  refine wa_iload_n 1 dX9_paper_0 rfl rfl ?_
  refine wa_iconst 2 dX9_paper_1 rfl (by decide) ?_
  refine wa_icmp_ge 5 7 dX9_paper_2 rfl (by decide) (fun q => ?_) (fun q => ?_)
  · replace h := h.1 q
    refine wa_iload_n 8 dX9_paper_7 rfl rfl ?_
    refine wa_iconst 9 dX9_paper_8 rfl (by decide) ?_
    refine wa_icmp_ne 12 20 dX9_paper_9 rfl (by decide) (fun q => ?_) (fun q => ?_)
    · replace h := h.1 q
      refine wa_iload_n 21 dX9_paper_20 rfl rfl ?_
      refine wa_aload_n 22 dX9_paper_21 rfl rfl ?_
      have e1 : isK L (rf L v0 9) (6, 0) := lay_f hL k0 9 rfl
      refine wa_getR 25 9 dX9_paper_22 rfl wF_X9_56 rfl rfl ⟨k0, isK_pos e1⟩ ?_
      refine wa_getI 28 0 dX9_paper_25 rfl wF_X9_183 rfl rfl e1 ?_
      refine wa_icmp_ge 31 43 dX9_paper_28 rfl (by decide) (fun q => ?_) (fun q => ?_)
      · replace h := h.1 q
        refine wa_bipush 45 dX9_paper_43 rfl ⟨by decide, by decide⟩ ?_
        exact wa_iret dX9_paper_45 rfl h
      · replace h := h.2 q
        refine wa_aload_n 32 dX9_paper_31 rfl rfl ?_
        refine wa_getR 35 9 dX9_paper_32 rfl wF_X9_56 rfl rfl ⟨k0, isK_pos e1⟩ ?_
        have e2 : isK L (rf L ((rf L v0 9)) 1) (22, 640) := lay_f hL e1 1 rfl
        refine wa_getR 38 1 dX9_paper_35 rfl wF_X9_195 rfl rfl ⟨e1, isK_pos e2⟩ ?_
        refine wa_iload_n 39 dX9_paper_38 rfl rfl ?_
        obtain ⟨c3, h⟩ := h
        refine wa_baload 40 dX9_paper_39 rfl (okA_of e2 c3) ?_
        refine wa_goto 45 dX9_paper_40 (by decide) ?_
        exact wa_iret dX9_paper_45 rfl h
    · replace h := h.2 q
      refine wa_aload_n 13 dX9_paper_12 rfl rfl ?_
      have e4 : isK L (rf L v0 9) (6, 0) := lay_f hL k0 9 rfl
      refine wa_getR 16 9 dX9_paper_13 rfl wF_X9_56 rfl rfl ⟨k0, isK_pos e4⟩ ?_
      refine wa_getI 19 0 dX9_paper_16 rfl wF_X9_183 rfl rfl e4 ?_
      exact wa_iret dX9_paper_19 rfl h
  · replace h := h.2 q
    refine wa_iconst 6 dX9_paper_5 rfl (by decide) ?_
    exact wa_iret dX9_paper_6 rfl h
set_option maxRecDepth 20000 in
theorem t_X9_prints (hL : LayOK L) {v0 : Int} (k0 : isK L v0 (9, 0)) (h : (¬ (μ ((rf L v0 3)) 0) = 0 → WA mX9_prints 4 (0, 0) 23 [(2, v0), (0, 0)] [] L (up μ ((rf L v0 9)) 0 0) Q) ∧ ((μ ((rf L v0 3)) 0) = 0 → Q (some (0, (-5))) L μ)) : TR mX9_prints 4 (0, 0) [(2, v0)] L μ Q := by
  refine TR.of (ls := [(2, v0), (9, 0)]) (by decide) (by simp) rfl (Nat.le_of_ble_eq_true rfl) ?_
  refine wa_aload_n 1 dX9_prints_0 rfl rfl ?_
  have e1 : isK L (rf L v0 3) (1, 0) := lay_f hL k0 3 rfl
  refine wa_getR 4 3 dX9_prints_1 rfl wF_X9_27 rfl rfl ⟨k0, isK_pos e1⟩ ?_
  refine wa_getI 7 0 dX9_prints_4 rfl wF_X9_177 rfl rfl e1 ?_
  refine wa_if_ne 10 13 dX9_prints_7 rfl (by decide) (fun q => ?_) (fun q => ?_)
  · replace h := h.1 q
    refine wa_aload_n 14 dX9_prints_13 rfl rfl ?_
    have e2 : isK L (rf L v0 9) (6, 0) := lay_f hL k0 9 rfl
    refine wa_getR 17 9 dX9_prints_14 rfl wF_X9_56 rfl rfl ⟨k0, isK_pos e2⟩ ?_
    refine wa_iconst 18 dX9_prints_17 rfl (by decide) ?_
    refine wa_putN 21 0 dX9_prints_18 rfl wF_X9_183 rfl rfl e2 ?_
    refine wa_iconst 22 dX9_prints_21 rfl (by decide) ?_
    refine wa_istore_n 23 [(2, v0), (0, 0)] dX9_prints_22 rfl rfl rfl ?_
    exact h
  · replace h := h.2 q
    refine wa_bipush 12 dX9_prints_10 rfl ⟨by decide, by decide⟩ ?_
    exact wa_iret dX9_prints_12 rfl h
set_option maxRecDepth 20000 in
theorem s_X9_prints_23 (hL : LayOK L) {v0 v1 : Int} (k0 : isK L v0 (9, 0)) (h : ((μ ((rf L v0 3)) 3) ≤ v1 → Q (some (0, (μ ((rf L v0 9)) 0))) L μ) ∧ (¬ (μ ((rf L v0 3)) 3) ≤ v1 → (0 ≤ v1 ∧ v1 < 19) ∧ TR mX6_addEvent 3 (0, 0) [(2, (rf L v0 9)), (2, (rf L ((rf L ((rf L v0 3)) 4)) v1))] L μ (fun r7 L8 μ9 => r7 = none ∧ L = L8 ∧ (inI (v1 + 1)) ∧ WA mX9_prints 4 (0, 0) 23 [(2, v0), (0, (v1 + 1))] [] L μ9 Q))) : WA mX9_prints 4 (0, 0) 23 [(2, v0), (0, v1)] [] L μ Q := by
  refine wa_iload_n 24 dX9_prints_23 rfl rfl ?_
  refine wa_aload_n 25 dX9_prints_24 rfl rfl ?_
  have e1 : isK L (rf L v0 3) (1, 0) := lay_f hL k0 3 rfl
  refine wa_getR 28 3 dX9_prints_25 rfl wF_X9_27 rfl rfl ⟨k0, isK_pos e1⟩ ?_
  refine wa_getI 31 3 dX9_prints_28 rfl wF_X9_184 rfl rfl e1 ?_
  refine wa_icmp_ge 34 56 dX9_prints_31 rfl (by decide) (fun q => ?_) (fun q => ?_)
  · replace h := h.1 q
    refine wa_aload_n 57 dX9_prints_56 rfl rfl ?_
    have e2 : isK L (rf L v0 9) (6, 0) := lay_f hL k0 9 rfl
    refine wa_getR 60 9 dX9_prints_57 rfl wF_X9_56 rfl rfl ⟨k0, isK_pos e2⟩ ?_
    refine wa_getI 63 0 dX9_prints_60 rfl wF_X9_183 rfl rfl e2 ?_
    exact wa_iret dX9_prints_63 rfl h
  · replace h := h.2 q
    refine wa_aload_n 35 dX9_prints_34 rfl rfl ?_
    have e3 : isK L (rf L v0 9) (6, 0) := lay_f hL k0 9 rfl
    refine wa_getR 38 9 dX9_prints_35 rfl wF_X9_56 rfl rfl ⟨k0, isK_pos e3⟩ ?_
    refine wa_aload_n 39 dX9_prints_38 rfl rfl ?_
    refine wa_getR 42 3 dX9_prints_39 rfl wF_X9_27 rfl rfl ⟨k0, isK_pos e1⟩ ?_
    have e4 : isK L (rf L ((rf L v0 3)) 4) (24, 19) := lay_f hL e1 4 rfl
    refine wa_getR 45 4 dX9_prints_42 rfl wF_X9_187 rfl rfl ⟨e1, isK_pos e4⟩ ?_
    refine wa_iload_n 46 dX9_prints_45 rfl rfl ?_
    obtain ⟨c5, h⟩ := h
    have e6 : isK L (rf L ((rf L ((rf L v0 3)) 4)) v1) (2, 0) := lay_e hL e1 4 rfl c5
    refine wa_aaload 47 24 dX9_prints_46 rfl ⟨by decide, by decide⟩ ⟨okA_of e4 c5, isK_pos e6⟩ ?_
    refine wa_callV 50 3 1 6 (av := [(2, (rf L ((rf L ((rf L v0 3)) 4)) v1))]) (rest := []) (k1 := (0, 0)) (k2 := (0, 0)) cvX6_addEvent dX9_prints_47 rfl wM_X9_191 ⟨rfl, by decide, rfl, Nat.le_of_ble_eq_true rfl, by decide, Nat.le_of_ble_eq_true rfl, rfl, rfl⟩ rfl e3 (TR.mono h (fun r7 L8 μ9 h => ?_))
    obtain ⟨rfl, rfl, h⟩ := h
    show WA mX9_prints 4 (0, 0) 50 [(2, v0), (0, v1)] [] L μ9 Q
    obtain ⟨c10, h⟩ := h
    refine wa_iinc 53 [(2, v0), (0, (v1 + 1))] dX9_prints_50 rfl rfl rfl c10 rfl ?_
    refine wa_goto 23 dX9_prints_53 (by decide) ?_
    exact h
set_option maxRecDepth 20000 in
theorem t_X9_refusal (hL : LayOK L) {v0 v1 v2 v3 : Int} (k0 : isK L v0 (9, 0)) (h : TR mX0_hasAgent 0 (0, 0) [(2, (rf L v0 0)), (0, v1)] L μ (fun r2 L3 μ4 => ∃ w5, r2 = some (0, w5) ∧ L = L3 ∧ (w5 = 0 → Q (some (0, (-1))) L μ4) ∧ (¬ w5 = 0 → TR mX4_isRow 0 (0, 0) [(2, (rf L v0 10)), (0, v2)] L μ4 (fun r7 L8 μ9 => ∃ w10, r7 = some (0, w10) ∧ L = L8 ∧ (¬ w10 = 0 → TR mX4_isLaid 0 (0, 0) [(2, (rf L v0 10)), (0, v2)] L μ9 (fun r11 L12 μ13 => ∃ w14, r11 = some (0, w14) ∧ L = L12 ∧ (¬ w14 = 0 → (0 ≤ v3 → Q (some (0, 0)) L μ13) ∧ (¬ 0 ≤ v3 → Q (some (0, (-13))) L μ13)) ∧ (w14 = 0 → Q (some (0, (-11))) L μ13))) ∧ (w10 = 0 → Q (some (0, (-1))) L μ9))))) : TR mX9_refusal 1 (0, 0) [(2, v0), (0, v1), (0, v2), (0, v3)] L μ Q := by
  refine TR.of (ls := [(2, v0), (0, v1), (0, v2), (0, v3)]) (by decide) (by simp) rfl (Nat.le_of_ble_eq_true rfl) ?_
  refine wa_aload_n 1 dX9_refusal_0 rfl rfl ?_
  have e1 : isK L (rf L v0 0) (0, 0) := lay_f hL k0 0 rfl
  refine wa_getR 4 0 dX9_refusal_1 rfl wF_X9_12 rfl rfl ⟨k0, isK_pos e1⟩ ?_
  refine wa_iload_n 5 dX9_refusal_4 rfl rfl ?_
  refine wa_callV 8 0 1 0 (av := [(0, v1)]) (rest := []) (k1 := (0, 0)) (k2 := (0, 0)) cvX0_hasAgent dX9_refusal_5 rfl wM_X9_95 ⟨rfl, by decide, rfl, Nat.le_of_ble_eq_true rfl, by decide, Nat.le_of_ble_eq_true rfl, rfl, rfl⟩ rfl e1 (TR.mono h (fun r2 L3 μ4 h => ?_))
  obtain ⟨w5, rfl, rfl, h⟩ := h
  show WA mX9_refusal 1 (0, 0) 8 [(2, v0), (0, v1), (0, v2), (0, v3)] [(0, w5)] L μ4 Q
  refine wa_if_eq 11 22 dX9_refusal_8 rfl (by decide) (fun q => ?_) (fun q => ?_)
  · replace h := h.1 q
    refine wa_iconst 23 dX9_refusal_22 rfl (by decide) ?_
    exact wa_iret dX9_refusal_23 rfl h
  · replace h := h.2 q
    refine wa_aload_n 12 dX9_refusal_11 rfl rfl ?_
    have e6 : isK L (rf L v0 10) (4, 0) := lay_f hL k0 10 rfl
    refine wa_getR 15 10 dX9_refusal_12 rfl wF_X9_63 rfl rfl ⟨k0, isK_pos e6⟩ ?_
    refine wa_iload_n 16 dX9_refusal_15 rfl rfl ?_
    refine wa_callV 19 0 1 4 (av := [(0, v2)]) (rest := []) (k1 := (0, 0)) (k2 := (0, 0)) cvX4_isRow dX9_refusal_16 rfl wM_X9_253 ⟨rfl, by decide, rfl, Nat.le_of_ble_eq_true rfl, by decide, Nat.le_of_ble_eq_true rfl, rfl, rfl⟩ rfl e6 (TR.mono h (fun r7 L8 μ9 h => ?_))
    obtain ⟨w10, rfl, rfl, h⟩ := h
    show WA mX9_refusal 1 (0, 0) 19 [(2, v0), (0, v1), (0, v2), (0, v3)] [(0, w10)] L μ9 Q
    refine wa_if_ne 22 24 dX9_refusal_19 rfl (by decide) (fun q => ?_) (fun q => ?_)
    · replace h := h.1 q
      refine wa_aload_n 25 dX9_refusal_24 rfl rfl ?_
      refine wa_getR 28 10 dX9_refusal_25 rfl wF_X9_63 rfl rfl ⟨k0, isK_pos e6⟩ ?_
      refine wa_iload_n 29 dX9_refusal_28 rfl rfl ?_
      refine wa_callV 32 0 1 4 (av := [(0, v2)]) (rest := []) (k1 := (0, 0)) (k2 := (0, 0)) cvX4_isLaid dX9_refusal_29 rfl wM_X9_257 ⟨rfl, by decide, rfl, Nat.le_of_ble_eq_true rfl, by decide, Nat.le_of_ble_eq_true rfl, rfl, rfl⟩ rfl e6 (TR.mono h (fun r11 L12 μ13 h => ?_))
      obtain ⟨w14, rfl, rfl, h⟩ := h
      show WA mX9_refusal 1 (0, 0) 32 [(2, v0), (0, v1), (0, v2), (0, v3)] [(0, w14)] L μ13 Q
      refine wa_if_ne 35 38 dX9_refusal_32 rfl (by decide) (fun q => ?_) (fun q => ?_)
      · replace h := h.1 q
        refine wa_iload_n 39 dX9_refusal_38 rfl rfl ?_
        refine wa_if_ge 42 47 dX9_refusal_39 rfl (by decide) (fun q => ?_) (fun q => ?_)
        · replace h := h.1 q
          refine wa_iconst 48 dX9_refusal_47 rfl (by decide) ?_
          exact wa_iret dX9_refusal_48 rfl h
        · replace h := h.2 q
          refine wa_bipush 44 dX9_refusal_42 rfl ⟨by decide, by decide⟩ ?_
          refine wa_goto 48 dX9_refusal_44 (by decide) ?_
          exact wa_iret dX9_refusal_48 rfl h
      · replace h := h.2 q
        refine wa_bipush 37 dX9_refusal_35 rfl ⟨by decide, by decide⟩ ?_
        exact wa_iret dX9_refusal_37 rfl h
    · replace h := h.2 q
      refine wa_iconst 23 dX9_refusal_22 rfl (by decide) ?_
      exact wa_iret dX9_refusal_23 rfl h
set_option maxRecDepth 20000 in
theorem t_X9_set (hL : LayOK L) {v0 v1 v2 v3 : Int} (k0 : isK L v0 (9, 0)) (h : TR mX4_isRow 0 (0, 0) [(2, (rf L v0 10)), (0, v1)] L μ (fun r2 L3 μ4 => ∃ w5, r2 = some (0, w5) ∧ L = L3 ∧ (¬ w5 = 0 → TR mX4_isLaid 0 (0, 0) [(2, (rf L v0 10)), (0, v1)] L μ4 (fun r6 L7 μ8 => ∃ w9, r6 = some (0, w9) ∧ L = L7 ∧ (¬ w9 = 0 → TR mX4_hasPlace 0 (0, 0) [(2, (rf L v0 10)), (0, v1), (0, v2)] L μ8 (fun r10 L11 μ12 => ∃ w13, r10 = some (0, w13) ∧ L = L11 ∧ (¬ w13 = 0 → (0 ≤ v1 ∧ v1 < 4) ∧ (0 ≤ v2 ∧ v2 < 20) ∧ Q (some (0, 1)) L (up μ12 ((rf L ((rf L ((rf L v0 10)) 0)) v1)) v2 v3)) ∧ (w13 = 0 → Q (some (0, (-13))) L μ12))) ∧ (w9 = 0 → Q (some (0, (-11))) L μ8))) ∧ (w5 = 0 → Q (some (0, (-1))) L μ4))) : TR mX9_set 1 (0, 0) [(2, v0), (0, v1), (0, v2), (0, v3)] L μ Q := by
  refine TR.of (ls := [(2, v0), (0, v1), (0, v2), (0, v3)]) (by decide) (by simp) rfl (Nat.le_of_ble_eq_true rfl) ?_
  refine wa_aload_n 1 dX9_set_0 rfl rfl ?_
  have e1 : isK L (rf L v0 10) (4, 0) := lay_f hL k0 10 rfl
  refine wa_getR 4 10 dX9_set_1 rfl wF_X9_63 rfl rfl ⟨k0, isK_pos e1⟩ ?_
  refine wa_iload_n 5 dX9_set_4 rfl rfl ?_
  refine wa_callV 8 0 1 4 (av := [(0, v1)]) (rest := []) (k1 := (0, 0)) (k2 := (0, 0)) cvX4_isRow dX9_set_5 rfl wM_X9_253 ⟨rfl, by decide, rfl, Nat.le_of_ble_eq_true rfl, by decide, Nat.le_of_ble_eq_true rfl, rfl, rfl⟩ rfl e1 (TR.mono h (fun r2 L3 μ4 h => ?_))
  obtain ⟨w5, rfl, rfl, h⟩ := h
  show WA mX9_set 1 (0, 0) 8 [(2, v0), (0, v1), (0, v2), (0, v3)] [(0, w5)] L μ4 Q
  refine wa_if_ne 11 13 dX9_set_8 rfl (by decide) (fun q => ?_) (fun q => ?_)
  · replace h := h.1 q
    refine wa_aload_n 14 dX9_set_13 rfl rfl ?_
    refine wa_getR 17 10 dX9_set_14 rfl wF_X9_63 rfl rfl ⟨k0, isK_pos e1⟩ ?_
    refine wa_iload_n 18 dX9_set_17 rfl rfl ?_
    refine wa_callV 21 0 1 4 (av := [(0, v1)]) (rest := []) (k1 := (0, 0)) (k2 := (0, 0)) cvX4_isLaid dX9_set_18 rfl wM_X9_257 ⟨rfl, by decide, rfl, Nat.le_of_ble_eq_true rfl, by decide, Nat.le_of_ble_eq_true rfl, rfl, rfl⟩ rfl e1 (TR.mono h (fun r6 L7 μ8 h => ?_))
    obtain ⟨w9, rfl, rfl, h⟩ := h
    show WA mX9_set 1 (0, 0) 21 [(2, v0), (0, v1), (0, v2), (0, v3)] [(0, w9)] L μ8 Q
    refine wa_if_ne 24 27 dX9_set_21 rfl (by decide) (fun q => ?_) (fun q => ?_)
    · replace h := h.1 q
      refine wa_aload_n 28 dX9_set_27 rfl rfl ?_
      refine wa_getR 31 10 dX9_set_28 rfl wF_X9_63 rfl rfl ⟨k0, isK_pos e1⟩ ?_
      refine wa_iload_n 32 dX9_set_31 rfl rfl ?_
      refine wa_iload_n 33 dX9_set_32 rfl rfl ?_
      refine wa_callV 36 0 2 4 (av := [(0, v1), (0, v2)]) (rest := []) (k1 := (0, 0)) (k2 := (0, 0)) cvX4_hasPlace dX9_set_33 rfl wM_X9_260 ⟨rfl, by decide, rfl, Nat.le_of_ble_eq_true rfl, by decide, Nat.le_of_ble_eq_true rfl, rfl, rfl⟩ rfl e1 (TR.mono h (fun r10 L11 μ12 h => ?_))
      obtain ⟨w13, rfl, rfl, h⟩ := h
      show WA mX9_set 1 (0, 0) 36 [(2, v0), (0, v1), (0, v2), (0, v3)] [(0, w13)] L μ12 Q
      refine wa_if_ne 39 42 dX9_set_36 rfl (by decide) (fun q => ?_) (fun q => ?_)
      · replace h := h.1 q
        refine wa_aload_n 43 dX9_set_42 rfl rfl ?_
        refine wa_getR 46 10 dX9_set_43 rfl wF_X9_63 rfl rfl ⟨k0, isK_pos e1⟩ ?_
        have e14 : isK L (rf L ((rf L v0 10)) 0) (23, 4) := lay_f hL e1 0 rfl
        refine wa_getR 49 0 dX9_set_46 rfl wF_X9_263 rfl rfl ⟨e1, isK_pos e14⟩ ?_
        refine wa_iload_n 50 dX9_set_49 rfl rfl ?_
        obtain ⟨c15, h⟩ := h
        have e16 : isK L (rf L ((rf L ((rf L v0 10)) 0)) v1) (20, 20) := lay_e hL e1 0 rfl c15
        refine wa_aaload 51 23 dX9_set_50 rfl ⟨by decide, by decide⟩ ⟨okA_of e14 c15, isK_pos e16⟩ ?_
        refine wa_iload_n 52 dX9_set_51 rfl rfl ?_
        refine wa_iload_n 53 dX9_set_52 rfl rfl ?_
        obtain ⟨c17, h⟩ := h
        refine wa_iastore 54 dX9_set_53 rfl (okA_of e16 c17) ?_
        refine wa_iconst 55 dX9_set_54 rfl (by decide) ?_
        exact wa_iret dX9_set_55 rfl h
      · replace h := h.2 q
        refine wa_bipush 41 dX9_set_39 rfl ⟨by decide, by decide⟩ ?_
        exact wa_iret dX9_set_41 rfl h
    · replace h := h.2 q
      refine wa_bipush 26 dX9_set_24 rfl ⟨by decide, by decide⟩ ?_
      exact wa_iret dX9_set_26 rfl h
  · replace h := h.2 q
    refine wa_iconst 12 dX9_set_11 rfl (by decide) ?_
    exact wa_iret dX9_set_12 rfl h
set_option maxRecDepth 20000 in
theorem t_X9_share (hL : LayOK L) {v0 v1 v2 v3 : Int} (k0 : isK L v0 (9, 0)) (h : ((μ ((rf L v0 3)) 0) = 0 → Q (some (1, (-9223372036854775808))) L μ) ∧ (¬ (μ ((rf L v0 3)) 0) = 0 → TR mX0_hasAgent 0 (0, 0) [(2, (rf L v0 0)), (0, v1)] L μ (fun r3 L4 μ5 => ∃ w6, r3 = some (0, w6) ∧ L = L4 ∧ (w6 = 0 → Q (some (1, (-9223372036854775808))) L μ5) ∧ (¬ w6 = 0 → (v3 < 0 → Q (some (1, (-9223372036854775808))) L μ5) ∧ (¬ v3 < 0 → (v3 ≤ 3 → (v2 < (-1) → Q (some (1, (-9223372036854775808))) L μ5) ∧ (¬ v2 < (-1) → (0 ≤ v1 ∧ v1 < 5) ∧ (v2 < (μ5 ((rf L ((rf L v0 3)) 5)) v1) → (¬ v2 = (-1) → TR mX1_held 0 (0, 0) [(2, (rf L v0 3)), (0, v1), (0, v2)] L μ5 (fun r9 L10 μ11 => ∃ w12, r9 = some (2, w12) ∧ L = L10 ∧ isK L w12 (7, 0) ∧ TR mX7_part 1 (0, 0) [(2, w12), (0, v3)] L μ11 (fun r14 L15 μ16 => ∃ w17, r14 = some (1, w17) ∧ L = L15 ∧ Q (some (1, w17)) L μ16))) ∧ (v2 = (-1) → (¬ v3 = 0 → Q (some (1, (-9223372036854775808))) L μ5) ∧ (v3 = 0 → Q (some (1, (μ5 ((rf L ((rf L v0 3)) 5)) v1))) L μ5))) ∧ (¬ v2 < (μ5 ((rf L ((rf L v0 3)) 5)) v1) → Q (some (1, (-9223372036854775808))) L μ5))) ∧ (¬ v3 ≤ 3 → Q (some (1, (-9223372036854775808))) L μ5)))))) : TR mX9_share 2 (0, 0) [(2, v0), (0, v1), (0, v2), (0, v3)] L μ Q := by
  refine TR.of (ls := [(2, v0), (0, v1), (0, v2), (0, v3)]) (by decide) (by simp) rfl (Nat.le_of_ble_eq_true rfl) ?_
  refine wa_aload_n 1 dX9_share_0 rfl rfl ?_
  have e1 : isK L (rf L v0 3) (1, 0) := lay_f hL k0 3 rfl
  refine wa_getR 4 3 dX9_share_1 rfl wF_X9_27 rfl rfl ⟨k0, isK_pos e1⟩ ?_
  refine wa_getI 7 0 dX9_share_4 rfl wF_X9_177 rfl rfl e1 ?_
  refine wa_if_eq 10 30 dX9_share_7 rfl (by decide) (fun q => ?_) (fun q => ?_)
  · replace h := h.1 q
    refine wa_ldc2 33 (-9223372036854775808) dX9_share_30 rfl wJ_X9_126 ⟨rfl, by decide⟩ ?_
    exact wa_lret dX9_share_33 rfl h
  · replace h := h.2 q
    refine wa_aload_n 11 dX9_share_10 rfl rfl ?_
    have e2 : isK L (rf L v0 0) (0, 0) := lay_f hL k0 0 rfl
    refine wa_getR 14 0 dX9_share_11 rfl wF_X9_12 rfl rfl ⟨k0, isK_pos e2⟩ ?_
    refine wa_iload_n 15 dX9_share_14 rfl rfl ?_
    refine wa_callV 18 0 1 0 (av := [(0, v1)]) (rest := []) (k1 := (0, 0)) (k2 := (0, 0)) cvX0_hasAgent dX9_share_15 rfl wM_X9_95 ⟨rfl, by decide, rfl, Nat.le_of_ble_eq_true rfl, by decide, Nat.le_of_ble_eq_true rfl, rfl, rfl⟩ rfl e2 (TR.mono h (fun r3 L4 μ5 h => ?_))
    obtain ⟨w6, rfl, rfl, h⟩ := h
    show WA mX9_share 2 (0, 0) 18 [(2, v0), (0, v1), (0, v2), (0, v3)] [(0, w6)] L μ5 Q
    refine wa_if_eq 21 30 dX9_share_18 rfl (by decide) (fun q => ?_) (fun q => ?_)
    · replace h := h.1 q
      refine wa_ldc2 33 (-9223372036854775808) dX9_share_30 rfl wJ_X9_126 ⟨rfl, by decide⟩ ?_
      exact wa_lret dX9_share_33 rfl h
    · replace h := h.2 q
      refine wa_iload_n 22 dX9_share_21 rfl rfl ?_
      refine wa_if_lt 25 30 dX9_share_22 rfl (by decide) (fun q => ?_) (fun q => ?_)
      · replace h := h.1 q
        refine wa_ldc2 33 (-9223372036854775808) dX9_share_30 rfl wJ_X9_126 ⟨rfl, by decide⟩ ?_
        exact wa_lret dX9_share_33 rfl h
      · replace h := h.2 q
        refine wa_iload_n 26 dX9_share_25 rfl rfl ?_
        refine wa_iconst 27 dX9_share_26 rfl (by decide) ?_
        refine wa_icmp_le 30 34 dX9_share_27 rfl (by decide) (fun q => ?_) (fun q => ?_)
        · replace h := h.1 q
          refine wa_iload_n 35 dX9_share_34 rfl rfl ?_
          refine wa_iconst 36 dX9_share_35 rfl (by decide) ?_
          refine wa_icmp_lt 39 52 dX9_share_36 rfl (by decide) (fun q => ?_) (fun q => ?_)
          · replace h := h.1 q
            refine wa_ldc2 55 (-9223372036854775808) dX9_share_52 rfl wJ_X9_126 ⟨rfl, by decide⟩ ?_
            exact wa_lret dX9_share_55 rfl h
          · replace h := h.2 q
            refine wa_iload_n 40 dX9_share_39 rfl rfl ?_
            refine wa_aload_n 41 dX9_share_40 rfl rfl ?_
            refine wa_getR 44 3 dX9_share_41 rfl wF_X9_27 rfl rfl ⟨k0, isK_pos e1⟩ ?_
            have e7 : isK L (rf L ((rf L v0 3)) 5) (20, 5) := lay_f hL e1 5 rfl
            refine wa_getR 47 5 dX9_share_44 rfl wF_X9_211 rfl rfl ⟨e1, isK_pos e7⟩ ?_
            refine wa_iload_n 48 dX9_share_47 rfl rfl ?_
            obtain ⟨c8, h⟩ := h
            refine wa_iaload 49 dX9_share_48 rfl (okA_of e7 c8) ?_
            refine wa_icmp_lt 52 56 dX9_share_49 rfl (by decide) (fun q => ?_) (fun q => ?_)
            · replace h := h.1 q
              refine wa_iload_n 57 dX9_share_56 rfl rfl ?_
              refine wa_iconst 58 dX9_share_57 rfl (by decide) ?_
              refine wa_icmp_ne 61 82 dX9_share_58 rfl (by decide) (fun q => ?_) (fun q => ?_)
              · replace h := h.1 q
                refine wa_aload_n 83 dX9_share_82 rfl rfl ?_
                refine wa_getR 86 3 dX9_share_83 rfl wF_X9_27 rfl rfl ⟨k0, isK_pos e1⟩ ?_
                refine wa_iload_n 87 dX9_share_86 rfl rfl ?_
                refine wa_iload_n 88 dX9_share_87 rfl rfl ?_
                refine wa_callV 91 0 2 1 (av := [(0, v1), (0, v2)]) (rest := []) (k1 := (0, 0)) (k2 := (0, 0)) cvX1_held dX9_share_88 rfl wM_X9_215 ⟨rfl, by decide, rfl, Nat.le_of_ble_eq_true rfl, by decide, Nat.le_of_ble_eq_true rfl, rfl, rfl⟩ rfl e1 (TR.mono h (fun r9 L10 μ11 h => ?_))
                obtain ⟨w12, rfl, rfl, e13, h⟩ := h
                show WA mX9_share 2 (0, 0) 91 [(2, v0), (0, v1), (0, v2), (0, v3)] [(2, w12)] L μ11 Q
                refine wa_iload_n 92 dX9_share_91 rfl rfl ?_
                refine wa_callV 95 1 1 7 (av := [(0, v3)]) (rest := []) (k1 := (0, 0)) (k2 := (0, 0)) cvX7_part dX9_share_92 rfl wM_X9_155 ⟨rfl, by decide, rfl, Nat.le_of_ble_eq_true rfl, by decide, Nat.le_of_ble_eq_true rfl, rfl, rfl⟩ rfl e13 (TR.mono h (fun r14 L15 μ16 h => ?_))
                obtain ⟨w17, rfl, rfl, h⟩ := h
                show WA mX9_share 2 (0, 0) 95 [(2, v0), (0, v1), (0, v2), (0, v3)] [(1, w17)] L μ16 Q
                exact wa_lret dX9_share_95 rfl h
              · replace h := h.2 q
                refine wa_iload_n 62 dX9_share_61 rfl rfl ?_
                refine wa_if_ne 65 78 dX9_share_62 rfl (by decide) (fun q => ?_) (fun q => ?_)
                · replace h := h.1 q
                  refine wa_ldc2 81 (-9223372036854775808) dX9_share_78 rfl wJ_X9_126 ⟨rfl, by decide⟩ ?_
                  exact wa_lret dX9_share_81 rfl h
                · replace h := h.2 q
                  refine wa_aload_n 66 dX9_share_65 rfl rfl ?_
                  refine wa_getR 69 3 dX9_share_66 rfl wF_X9_27 rfl rfl ⟨k0, isK_pos e1⟩ ?_
                  refine wa_getR 72 5 dX9_share_69 rfl wF_X9_211 rfl rfl ⟨e1, isK_pos e7⟩ ?_
                  refine wa_iload_n 73 dX9_share_72 rfl rfl ?_
                  refine wa_iaload 74 dX9_share_73 rfl (okA_of e7 c8) ?_
                  refine wa_i2l 75 dX9_share_74 rfl ?_
                  refine wa_goto 81 dX9_share_75 (by decide) ?_
                  exact wa_lret dX9_share_81 rfl h
            · replace h := h.2 q
              refine wa_ldc2 55 (-9223372036854775808) dX9_share_52 rfl wJ_X9_126 ⟨rfl, by decide⟩ ?_
              exact wa_lret dX9_share_55 rfl h
        · replace h := h.2 q
          refine wa_ldc2 33 (-9223372036854775808) dX9_share_30 rfl wJ_X9_126 ⟨rfl, by decide⟩ ?_
          exact wa_lret dX9_share_33 rfl h
set_option maxRecDepth 20000 in
theorem t_X9_shares (hL : LayOK L) {v0 v1 v2 : Int} (k0 : isK L v0 (9, 0)) (h : TR mX9_isWay 0 (0, 0) [(0, v1)] L μ (fun r1 L2 μ3 => ∃ w4, r1 = some (0, w4) ∧ L = L2 ∧ (w4 = 0 → Q (some (0, (-1))) L μ3) ∧ (¬ w4 = 0 → TR mX0_hasAgent 0 (0, 0) [(2, (rf L v0 0)), (0, v2)] L μ3 (fun r6 L7 μ8 => ∃ w9, r6 = some (0, w9) ∧ L = L7 ∧ (¬ w9 = 0 → TR mX9_isAllowed 0 (0, 0) [(2, v0), (0, v1)] L μ8 (fun r10 L11 μ12 => ∃ w13, r10 = some (0, w13) ∧ L = L11 ∧ (¬ w13 = 0 → TR mX5_run 6 (0, 0) [(2, (rf L v0 7)), (0, v1), (0, v2)] L μ12 (fun r15 L16 μ17 => ∃ w18, r15 = some (0, w18) ∧ L = L16 ∧ (¬ w18 = 0 → TR mX1_copy 4 (0, 0) [(2, (rf L v0 3)), (2, (rf L v0 4))] L μ17 (fun r21 L22 μ23 => r21 = none ∧ L = L22 ∧ Q (some (0, (μ23 ((rf L v0 3)) 3))) L μ23)) ∧ (w18 = 0 → Q (some (0, (-3))) L μ17))) ∧ (w13 = 0 → Q (some (0, (-5))) L μ12))) ∧ (w9 = 0 → Q (some (0, (-1))) L μ8))))) : TR mX9_shares 7 (0, 0) [(2, v0), (0, v1), (0, v2)] L μ Q := by
  refine TR.of (ls := [(2, v0), (0, v1), (0, v2)]) (by decide) (by simp) rfl (Nat.le_of_ble_eq_true rfl) ?_
  refine wa_iload_n 1 dX9_shares_0 rfl rfl ?_
  refine wa_callS 4 0 1 (av := [(0, v1)]) (rest := []) (k1 := (0, 0)) (k2 := (0, 0)) cvX9_isWay dX9_shares_1 rfl wM_X9_199 ⟨rfl, Nat.le_of_ble_eq_true rfl, by decide, Nat.le_of_ble_eq_true rfl, rfl, rfl⟩ rfl (TR.mono h (fun r1 L2 μ3 h => ?_))
  obtain ⟨w4, rfl, rfl, h⟩ := h
  show WA mX9_shares 7 (0, 0) 4 [(2, v0), (0, v1), (0, v2)] [(0, w4)] L μ3 Q
  refine wa_if_eq 7 18 dX9_shares_4 rfl (by decide) (fun q => ?_) (fun q => ?_)
  · replace h := h.1 q
    refine wa_iconst 19 dX9_shares_18 rfl (by decide) ?_
    exact wa_iret dX9_shares_19 rfl h
  · replace h := h.2 q
    refine wa_aload_n 8 dX9_shares_7 rfl rfl ?_
    have e5 : isK L (rf L v0 0) (0, 0) := lay_f hL k0 0 rfl
    refine wa_getR 11 0 dX9_shares_8 rfl wF_X9_12 rfl rfl ⟨k0, isK_pos e5⟩ ?_
    refine wa_iload_n 12 dX9_shares_11 rfl rfl ?_
    refine wa_callV 15 0 1 0 (av := [(0, v2)]) (rest := []) (k1 := (0, 0)) (k2 := (0, 0)) cvX0_hasAgent dX9_shares_12 rfl wM_X9_95 ⟨rfl, by decide, rfl, Nat.le_of_ble_eq_true rfl, by decide, Nat.le_of_ble_eq_true rfl, rfl, rfl⟩ rfl e5 (TR.mono h (fun r6 L7 μ8 h => ?_))
    obtain ⟨w9, rfl, rfl, h⟩ := h
    show WA mX9_shares 7 (0, 0) 15 [(2, v0), (0, v1), (0, v2)] [(0, w9)] L μ8 Q
    refine wa_if_ne 18 20 dX9_shares_15 rfl (by decide) (fun q => ?_) (fun q => ?_)
    · replace h := h.1 q
      refine wa_aload_n 21 dX9_shares_20 rfl rfl ?_
      refine wa_iload_n 22 dX9_shares_21 rfl rfl ?_
      refine wa_callV 25 0 1 9 (av := [(0, v1)]) (rest := []) (k1 := (0, 0)) (k2 := (0, 0)) cvX9_isAllowed dX9_shares_22 rfl wM_X9_202 ⟨rfl, by decide, rfl, Nat.le_of_ble_eq_true rfl, by decide, Nat.le_of_ble_eq_true rfl, rfl, rfl⟩ rfl k0 (TR.mono h (fun r10 L11 μ12 h => ?_))
      obtain ⟨w13, rfl, rfl, h⟩ := h
      show WA mX9_shares 7 (0, 0) 25 [(2, v0), (0, v1), (0, v2)] [(0, w13)] L μ12 Q
      refine wa_if_ne 28 31 dX9_shares_25 rfl (by decide) (fun q => ?_) (fun q => ?_)
      · replace h := h.1 q
        refine wa_aload_n 32 dX9_shares_31 rfl rfl ?_
        have e14 : isK L (rf L v0 7) (5, 0) := lay_f hL k0 7 rfl
        refine wa_getR 35 7 dX9_shares_32 rfl wF_X9_42 rfl rfl ⟨k0, isK_pos e14⟩ ?_
        refine wa_iload_n 36 dX9_shares_35 rfl rfl ?_
        refine wa_iload_n 37 dX9_shares_36 rfl rfl ?_
        refine wa_callV 40 6 2 5 (av := [(0, v1), (0, v2)]) (rest := []) (k1 := (0, 0)) (k2 := (0, 0)) cvX5_run dX9_shares_37 rfl wM_X9_205 ⟨rfl, by decide, rfl, Nat.le_of_ble_eq_true rfl, by decide, Nat.le_of_ble_eq_true rfl, rfl, rfl⟩ rfl e14 (TR.mono h (fun r15 L16 μ17 h => ?_))
        obtain ⟨w18, rfl, rfl, h⟩ := h
        show WA mX9_shares 7 (0, 0) 40 [(2, v0), (0, v1), (0, v2)] [(0, w18)] L μ17 Q
        refine wa_if_ne 43 46 dX9_shares_40 rfl (by decide) (fun q => ?_) (fun q => ?_)
        · replace h := h.1 q
          refine wa_aload_n 47 dX9_shares_46 rfl rfl ?_
          have e19 : isK L (rf L v0 3) (1, 0) := lay_f hL k0 3 rfl
          refine wa_getR 50 3 dX9_shares_47 rfl wF_X9_27 rfl rfl ⟨k0, isK_pos e19⟩ ?_
          refine wa_aload_n 51 dX9_shares_50 rfl rfl ?_
          have e20 : isK L (rf L v0 4) (1, 0) := lay_f hL k0 4 rfl
          refine wa_getR 54 4 dX9_shares_51 rfl wF_X9_31 rfl rfl ⟨k0, isK_pos e20⟩ ?_
          refine wa_callV 57 4 1 1 (av := [(2, (rf L v0 4))]) (rest := []) (k1 := (0, 0)) (k2 := (0, 0)) cvX1_copy dX9_shares_54 rfl wM_X9_180 ⟨rfl, by decide, rfl, Nat.le_of_ble_eq_true rfl, by decide, Nat.le_of_ble_eq_true rfl, rfl, rfl⟩ rfl e19 (TR.mono h (fun r21 L22 μ23 h => ?_))
          obtain ⟨rfl, rfl, h⟩ := h
          show WA mX9_shares 7 (0, 0) 57 [(2, v0), (0, v1), (0, v2)] [] L μ23 Q
          refine wa_aload_n 58 dX9_shares_57 rfl rfl ?_
          refine wa_getR 61 3 dX9_shares_58 rfl wF_X9_27 rfl rfl ⟨k0, isK_pos e19⟩ ?_
          refine wa_getI 64 3 dX9_shares_61 rfl wF_X9_184 rfl rfl e19 ?_
          exact wa_iret dX9_shares_64 rfl h
        · replace h := h.2 q
          refine wa_bipush 45 dX9_shares_43 rfl ⟨by decide, by decide⟩ ?_
          exact wa_iret dX9_shares_45 rfl h
      · replace h := h.2 q
        refine wa_bipush 30 dX9_shares_28 rfl ⟨by decide, by decide⟩ ?_
        exact wa_iret dX9_shares_30 rfl h
    · replace h := h.2 q
      refine wa_iconst 19 dX9_shares_18 rfl (by decide) ?_
      exact wa_iret dX9_shares_19 rfl h
set_option maxRecDepth 20000 in
theorem t_X9_span (hL : LayOK L) {v0 v1 v2 v3 v4 v5 v6 v7 : Int} (k0 : isK L v0 (9, 0)) (h : TR mX0_hasAgent 0 (0, 0) [(2, (rf L v0 0)), (0, v1)] L μ (fun r2 L3 μ4 => ∃ w5, r2 = some (0, w5) ∧ L = L3 ∧ (w5 = 0 → Q (some (1, (-9223372036854775808))) L μ4) ∧ (¬ w5 = 0 → TR mX9_isFlag 0 (0, 0) [(0, v2)] L μ4 (fun r6 L7 μ8 => ∃ w9, r6 = some (0, w9) ∧ L = L7 ∧ (w9 = 0 → Q (some (1, (-9223372036854775808))) L μ8) ∧ (¬ w9 = 0 → TR mX9_isFlag 0 (0, 0) [(0, v7)] L μ8 (fun r10 L11 μ12 => ∃ w13, r10 = some (0, w13) ∧ L = L11 ∧ (w13 = 0 → Q (some (1, (-9223372036854775808))) L μ12) ∧ (¬ w13 = 0 → TR mX9_isPoint 0 (0, 0) [(2, v0), (0, v3), (0, v4)] L μ12 (fun r14 L15 μ16 => ∃ w17, r14 = some (0, w17) ∧ L = L15 ∧ (w17 = 0 → Q (some (1, (-9223372036854775808))) L μ16) ∧ (¬ w17 = 0 → TR mX9_isPoint 0 (0, 0) [(2, v0), (0, v5), (0, v6)] L μ16 (fun r18 L19 μ20 => ∃ w21, r18 = some (0, w21) ∧ L = L19 ∧ (¬ w21 = 0 → (inL (v4 * v6)) ∧ (inL (v3 * v6)) ∧ (inL (v5 * v4)) ∧ ((v3 * v6) ≤ (v5 * v4) → TR mX0_row 0 (0, 0) [(2, (rf L v0 0)), (0, v1), (0, v2)] L μ20 (fun r25 L26 μ27 => ∃ w28, r25 = some (2, w28) ∧ L = L26 ∧ isK L w28 (20, 16) ∧ TR mX0_upTo 1 (0, 0) [(2, (rf L v0 0)), (2, w28), (1, (v5 * v4)), (1, (v4 * v6))] L μ27 (fun r30 L31 μ32 => ∃ w33, r30 = some (1, w33) ∧ L = L31 ∧ TR mX0_upTo 1 (0, 0) [(2, (rf L v0 0)), (2, w28), (1, (v3 * v6)), (1, (v4 * v6))] L μ32 (fun r34 L35 μ36 => ∃ w37, r34 = some (1, w37) ∧ L = L35 ∧ (inL (w33 - w37)) ∧ TR mX9_tell 2 (0, 0) [(2, v0), (1, (w33 - w37)), (1, (v4 * v6)), (0, v7)] L μ36 (fun r39 L40 μ41 => ∃ w42, r39 = some (1, w42) ∧ L = L40 ∧ Q (some (1, w42)) L μ41))))) ∧ (¬ (v3 * v6) ≤ (v5 * v4) → Q (some (1, (-9223372036854775808))) L μ20)) ∧ (w21 = 0 → Q (some (1, (-9223372036854775808))) L μ20))))))))))) : TR mX9_span 3 (0, 0) [(2, v0), (0, v1), (0, v2), (0, v3), (0, v4), (0, v5), (0, v6), (0, v7)] L μ Q := by
  refine TR.of (ls := [(2, v0), (0, v1), (0, v2), (0, v3), (0, v4), (0, v5), (0, v6), (0, v7), (9, 0), (9, 0), (9, 0), (9, 0), (9, 0), (9, 0), (9, 0)]) (by decide) (by simp) rfl (Nat.le_of_ble_eq_true rfl) ?_
  refine wa_aload_n 1 dX9_span_0 rfl rfl ?_
  have e1 : isK L (rf L v0 0) (0, 0) := lay_f hL k0 0 rfl
  refine wa_getR 4 0 dX9_span_1 rfl wF_X9_12 rfl rfl ⟨k0, isK_pos e1⟩ ?_
  refine wa_iload_n 5 dX9_span_4 rfl rfl ?_
  refine wa_callV 8 0 1 0 (av := [(0, v1)]) (rest := []) (k1 := (0, 0)) (k2 := (0, 0)) cvX0_hasAgent dX9_span_5 rfl wM_X9_95 ⟨rfl, by decide, rfl, Nat.le_of_ble_eq_true rfl, by decide, Nat.le_of_ble_eq_true rfl, rfl, rfl⟩ rfl e1 (TR.mono h (fun r2 L3 μ4 h => ?_))
  obtain ⟨w5, rfl, rfl, h⟩ := h
  show WA mX9_span 3 (0, 0) 8 [(2, v0), (0, v1), (0, v2), (0, v3), (0, v4), (0, v5), (0, v6), (0, v7), (9, 0), (9, 0), (9, 0), (9, 0), (9, 0), (9, 0), (9, 0)] [(0, w5)] L μ4 Q
  refine wa_if_eq 11 47 dX9_span_8 rfl (by decide) (fun q => ?_) (fun q => ?_)
  · replace h := h.1 q
    refine wa_ldc2 50 (-9223372036854775808) dX9_span_47 rfl wJ_X9_126 ⟨rfl, by decide⟩ ?_
    exact wa_lret dX9_span_50 rfl h
  · replace h := h.2 q
    refine wa_iload_n 12 dX9_span_11 rfl rfl ?_
    refine wa_callS 15 0 1 (av := [(0, v2)]) (rest := []) (k1 := (0, 0)) (k2 := (0, 0)) cvX9_isFlag dX9_span_12 rfl wM_X9_115 ⟨rfl, Nat.le_of_ble_eq_true rfl, by decide, Nat.le_of_ble_eq_true rfl, rfl, rfl⟩ rfl (TR.mono h (fun r6 L7 μ8 h => ?_))
    obtain ⟨w9, rfl, rfl, h⟩ := h
    show WA mX9_span 3 (0, 0) 15 [(2, v0), (0, v1), (0, v2), (0, v3), (0, v4), (0, v5), (0, v6), (0, v7), (9, 0), (9, 0), (9, 0), (9, 0), (9, 0), (9, 0), (9, 0)] [(0, w9)] L μ8 Q
    refine wa_if_eq 18 47 dX9_span_15 rfl (by decide) (fun q => ?_) (fun q => ?_)
    · replace h := h.1 q
      refine wa_ldc2 50 (-9223372036854775808) dX9_span_47 rfl wJ_X9_126 ⟨rfl, by decide⟩ ?_
      exact wa_lret dX9_span_50 rfl h
    · replace h := h.2 q
      refine wa_iload 20 dX9_span_18 rfl rfl ?_
      refine wa_callS 23 0 1 (av := [(0, v7)]) (rest := []) (k1 := (0, 0)) (k2 := (0, 0)) cvX9_isFlag dX9_span_20 rfl wM_X9_115 ⟨rfl, Nat.le_of_ble_eq_true rfl, by decide, Nat.le_of_ble_eq_true rfl, rfl, rfl⟩ rfl (TR.mono h (fun r10 L11 μ12 h => ?_))
      obtain ⟨w13, rfl, rfl, h⟩ := h
      show WA mX9_span 3 (0, 0) 23 [(2, v0), (0, v1), (0, v2), (0, v3), (0, v4), (0, v5), (0, v6), (0, v7), (9, 0), (9, 0), (9, 0), (9, 0), (9, 0), (9, 0), (9, 0)] [(0, w13)] L μ12 Q
      refine wa_if_eq 26 47 dX9_span_23 rfl (by decide) (fun q => ?_) (fun q => ?_)
      · replace h := h.1 q
        refine wa_ldc2 50 (-9223372036854775808) dX9_span_47 rfl wJ_X9_126 ⟨rfl, by decide⟩ ?_
        exact wa_lret dX9_span_50 rfl h
      · replace h := h.2 q
        refine wa_aload_n 27 dX9_span_26 rfl rfl ?_
        refine wa_iload_n 28 dX9_span_27 rfl rfl ?_
        refine wa_iload 30 dX9_span_28 rfl rfl ?_
        refine wa_callV 33 0 2 9 (av := [(0, v3), (0, v4)]) (rest := []) (k1 := (0, 0)) (k2 := (0, 0)) cvX9_isPoint dX9_span_30 rfl wM_X9_122 ⟨rfl, by decide, rfl, Nat.le_of_ble_eq_true rfl, by decide, Nat.le_of_ble_eq_true rfl, rfl, rfl⟩ rfl k0 (TR.mono h (fun r14 L15 μ16 h => ?_))
        obtain ⟨w17, rfl, rfl, h⟩ := h
        show WA mX9_span 3 (0, 0) 33 [(2, v0), (0, v1), (0, v2), (0, v3), (0, v4), (0, v5), (0, v6), (0, v7), (9, 0), (9, 0), (9, 0), (9, 0), (9, 0), (9, 0), (9, 0)] [(0, w17)] L μ16 Q
        refine wa_if_eq 36 47 dX9_span_33 rfl (by decide) (fun q => ?_) (fun q => ?_)
        · replace h := h.1 q
          refine wa_ldc2 50 (-9223372036854775808) dX9_span_47 rfl wJ_X9_126 ⟨rfl, by decide⟩ ?_
          exact wa_lret dX9_span_50 rfl h
        · replace h := h.2 q
          refine wa_aload_n 37 dX9_span_36 rfl rfl ?_
          refine wa_iload 39 dX9_span_37 rfl rfl ?_
          refine wa_iload 41 dX9_span_39 rfl rfl ?_
          refine wa_callV 44 0 2 9 (av := [(0, v5), (0, v6)]) (rest := []) (k1 := (0, 0)) (k2 := (0, 0)) cvX9_isPoint dX9_span_41 rfl wM_X9_122 ⟨rfl, by decide, rfl, Nat.le_of_ble_eq_true rfl, by decide, Nat.le_of_ble_eq_true rfl, rfl, rfl⟩ rfl k0 (TR.mono h (fun r18 L19 μ20 h => ?_))
          obtain ⟨w21, rfl, rfl, h⟩ := h
          show WA mX9_span 3 (0, 0) 44 [(2, v0), (0, v1), (0, v2), (0, v3), (0, v4), (0, v5), (0, v6), (0, v7), (9, 0), (9, 0), (9, 0), (9, 0), (9, 0), (9, 0), (9, 0)] [(0, w21)] L μ20 Q
          refine wa_if_ne 47 51 dX9_span_44 rfl (by decide) (fun q => ?_) (fun q => ?_)
          · replace h := h.1 q
            refine wa_iload 53 dX9_span_51 rfl rfl ?_
            refine wa_i2l 54 dX9_span_53 rfl ?_
            refine wa_iload 56 dX9_span_54 rfl rfl ?_
            refine wa_i2l 57 dX9_span_56 rfl ?_
            obtain ⟨c22, h⟩ := h
            refine wa_lmul 58 dX9_span_57 rfl c22 ?_
            refine wa_lstore 60 [(2, v0), (0, v1), (0, v2), (0, v3), (0, v4), (0, v5), (0, v6), (0, v7), (1, (v4 * v6)), (9, 0), (9, 0), (9, 0), (9, 0), (9, 0), (9, 0)] dX9_span_58 rfl rfl rfl ?_
            refine wa_iload_n 61 dX9_span_60 rfl rfl ?_
            refine wa_i2l 62 dX9_span_61 rfl ?_
            refine wa_iload 64 dX9_span_62 rfl rfl ?_
            refine wa_i2l 65 dX9_span_64 rfl ?_
            obtain ⟨c23, h⟩ := h
            refine wa_lmul 66 dX9_span_65 rfl c23 ?_
            refine wa_lstore 68 [(2, v0), (0, v1), (0, v2), (0, v3), (0, v4), (0, v5), (0, v6), (0, v7), (1, (v4 * v6)), (9, 0), (1, (v3 * v6)), (9, 0), (9, 0), (9, 0), (9, 0)] dX9_span_66 rfl rfl rfl ?_
            refine wa_iload 70 dX9_span_68 rfl rfl ?_
            refine wa_i2l 71 dX9_span_70 rfl ?_
            refine wa_iload 73 dX9_span_71 rfl rfl ?_
            refine wa_i2l 74 dX9_span_73 rfl ?_
            obtain ⟨c24, h⟩ := h
            refine wa_lmul 75 dX9_span_74 rfl c24 ?_
            refine wa_lstore 77 [(2, v0), (0, v1), (0, v2), (0, v3), (0, v4), (0, v5), (0, v6), (0, v7), (1, (v4 * v6)), (9, 0), (1, (v3 * v6)), (9, 0), (1, (v5 * v4)), (9, 0), (9, 0)] dX9_span_75 rfl rfl rfl ?_
            refine wa_lload 79 dX9_span_77 rfl rfl ?_
            refine wa_lload 81 dX9_span_79 rfl rfl ?_
            refine wa_lc_ge 85 89 dX9_span_81 dX9_span_82 rfl (by decide) (fun q => ?_) (fun q => ?_)
            · replace h := h.1 q
              refine wa_aload_n 90 dX9_span_89 rfl rfl ?_
              refine wa_getR 93 0 dX9_span_90 rfl wF_X9_12 rfl rfl ⟨k0, isK_pos e1⟩ ?_
              refine wa_iload_n 94 dX9_span_93 rfl rfl ?_
              refine wa_iload_n 95 dX9_span_94 rfl rfl ?_
              refine wa_callV 98 0 2 0 (av := [(0, v1), (0, v2)]) (rest := []) (k1 := (0, 0)) (k2 := (0, 0)) cvX0_row dX9_span_95 rfl wM_X9_118 ⟨rfl, by decide, rfl, Nat.le_of_ble_eq_true rfl, by decide, Nat.le_of_ble_eq_true rfl, rfl, rfl⟩ rfl e1 (TR.mono h (fun r25 L26 μ27 h => ?_))
              obtain ⟨w28, rfl, rfl, e29, h⟩ := h
              show WA mX9_span 3 (0, 0) 98 [(2, v0), (0, v1), (0, v2), (0, v3), (0, v4), (0, v5), (0, v6), (0, v7), (1, (v4 * v6)), (9, 0), (1, (v3 * v6)), (9, 0), (1, (v5 * v4)), (9, 0), (9, 0)] [(2, w28)] L μ27 Q
              refine wa_astore 100 [(2, v0), (0, v1), (0, v2), (0, v3), (0, v4), (0, v5), (0, v6), (0, v7), (1, (v4 * v6)), (9, 0), (1, (v3 * v6)), (9, 0), (1, (v5 * v4)), (9, 0), (2, w28)] dX9_span_98 rfl rfl rfl ?_
              refine wa_aload_n 101 dX9_span_100 rfl rfl ?_
              refine wa_aload_n 102 dX9_span_101 rfl rfl ?_
              refine wa_getR 105 0 dX9_span_102 rfl wF_X9_12 rfl rfl ⟨k0, isK_pos e1⟩ ?_
              refine wa_aload 107 dX9_span_105 rfl rfl ?_
              refine wa_lload 109 dX9_span_107 rfl rfl ?_
              refine wa_lload 111 dX9_span_109 rfl rfl ?_
              refine wa_callV 114 1 3 0 (av := [(2, w28), (1, (v5 * v4)), (1, (v4 * v6))]) (rest := [(2, v0)]) (k1 := (0, 0)) (k2 := (0, 0)) cvX0_upTo dX9_span_111 rfl wM_X9_128 ⟨rfl, by decide, rfl, Nat.le_of_ble_eq_true rfl, by decide, Nat.le_of_ble_eq_true rfl, rfl, rfl⟩ rfl e1 (TR.mono h (fun r30 L31 μ32 h => ?_))
              obtain ⟨w33, rfl, rfl, h⟩ := h
              show WA mX9_span 3 (0, 0) 114 [(2, v0), (0, v1), (0, v2), (0, v3), (0, v4), (0, v5), (0, v6), (0, v7), (1, (v4 * v6)), (9, 0), (1, (v3 * v6)), (9, 0), (1, (v5 * v4)), (9, 0), (2, w28)] [(1, w33), (2, v0)] L μ32 Q
              refine wa_aload_n 115 dX9_span_114 rfl rfl ?_
              refine wa_getR 118 0 dX9_span_115 rfl wF_X9_12 rfl rfl ⟨k0, isK_pos e1⟩ ?_
              refine wa_aload 120 dX9_span_118 rfl rfl ?_
              refine wa_lload 122 dX9_span_120 rfl rfl ?_
              refine wa_lload 124 dX9_span_122 rfl rfl ?_
              refine wa_callV 127 1 3 0 (av := [(2, w28), (1, (v3 * v6)), (1, (v4 * v6))]) (rest := [(1, w33), (2, v0)]) (k1 := (0, 0)) (k2 := (0, 0)) cvX0_upTo dX9_span_124 rfl wM_X9_128 ⟨rfl, by decide, rfl, Nat.le_of_ble_eq_true rfl, by decide, Nat.le_of_ble_eq_true rfl, rfl, rfl⟩ rfl e1 (TR.mono h (fun r34 L35 μ36 h => ?_))
              obtain ⟨w37, rfl, rfl, h⟩ := h
              show WA mX9_span 3 (0, 0) 127 [(2, v0), (0, v1), (0, v2), (0, v3), (0, v4), (0, v5), (0, v6), (0, v7), (1, (v4 * v6)), (9, 0), (1, (v3 * v6)), (9, 0), (1, (v5 * v4)), (9, 0), (2, w28)] [(1, w37), (1, w33), (2, v0)] L μ36 Q
              obtain ⟨c38, h⟩ := h
              refine wa_lsub 128 dX9_span_127 rfl c38 ?_
              refine wa_lload 130 dX9_span_128 rfl rfl ?_
              refine wa_iload 132 dX9_span_130 rfl rfl ?_
              refine wa_callV 135 2 3 9 (av := [(1, (w33 - w37)), (1, (v4 * v6)), (0, v7)]) (rest := []) (k1 := (0, 0)) (k2 := (0, 0)) cvX9_tell dX9_span_132 rfl wM_X9_132 ⟨rfl, by decide, rfl, Nat.le_of_ble_eq_true rfl, by decide, Nat.le_of_ble_eq_true rfl, rfl, rfl⟩ rfl k0 (TR.mono h (fun r39 L40 μ41 h => ?_))
              obtain ⟨w42, rfl, rfl, h⟩ := h
              show WA mX9_span 3 (0, 0) 135 [(2, v0), (0, v1), (0, v2), (0, v3), (0, v4), (0, v5), (0, v6), (0, v7), (1, (v4 * v6)), (9, 0), (1, (v3 * v6)), (9, 0), (1, (v5 * v4)), (9, 0), (2, w28)] [(1, w42)] L μ41 Q
              exact wa_lret dX9_span_135 rfl h
            · replace h := h.2 q
              refine wa_ldc2 88 (-9223372036854775808) dX9_span_85 rfl wJ_X9_126 ⟨rfl, by decide⟩ ?_
              exact wa_lret dX9_span_88 rfl h
          · replace h := h.2 q
            refine wa_ldc2 50 (-9223372036854775808) dX9_span_47 rfl wJ_X9_126 ⟨rfl, by decide⟩ ?_
            exact wa_lret dX9_span_50 rfl h
set_option maxRecDepth 20000 in
theorem t_X9_strip (hL : LayOK L) {v0 v1 v2 v3 : Int} (k0 : isK L v0 (9, 0)) (h : TR mX0_hasAgent 0 (0, 0) [(2, (rf L v0 0)), (0, v1)] L μ (fun r2 L3 μ4 => ∃ w5, r2 = some (0, w5) ∧ L = L3 ∧ (w5 = 0 → Q (some (0, (-1))) L μ4) ∧ (¬ w5 = 0 → TR mX0_hasStrip 0 (0, 0) [(2, (rf L v0 0)), (0, v2)] L μ4 (fun r6 L7 μ8 => ∃ w9, r6 = some (0, w9) ∧ L = L7 ∧ (w9 = 0 → Q (some (0, (-1))) L μ8) ∧ (¬ w9 = 0 → TR mX9_isFlag 0 (0, 0) [(0, v3)] L μ8 (fun r10 L11 μ12 => ∃ w13, r10 = some (0, w13) ∧ L = L11 ∧ (¬ w13 = 0 → TR mX0_row 0 (0, 0) [(2, (rf L v0 0)), (0, v1), (0, v3)] L μ12 (fun r14 L15 μ16 => ∃ w17, r14 = some (2, w17) ∧ L = L15 ∧ isK L w17 (20, 16) ∧ (0 ≤ v2 ∧ v2 < 16) ∧ Q (some (0, (μ16 w17 v2))) L μ16)) ∧ (w13 = 0 → Q (some (0, (-1))) L μ12))))))) : TR mX9_strip 1 (0, 0) [(2, v0), (0, v1), (0, v2), (0, v3)] L μ Q := by
  refine TR.of (ls := [(2, v0), (0, v1), (0, v2), (0, v3)]) (by decide) (by simp) rfl (Nat.le_of_ble_eq_true rfl) ?_
  refine wa_aload_n 1 dX9_strip_0 rfl rfl ?_
  have e1 : isK L (rf L v0 0) (0, 0) := lay_f hL k0 0 rfl
  refine wa_getR 4 0 dX9_strip_1 rfl wF_X9_12 rfl rfl ⟨k0, isK_pos e1⟩ ?_
  refine wa_iload_n 5 dX9_strip_4 rfl rfl ?_
  refine wa_callV 8 0 1 0 (av := [(0, v1)]) (rest := []) (k1 := (0, 0)) (k2 := (0, 0)) cvX0_hasAgent dX9_strip_5 rfl wM_X9_95 ⟨rfl, by decide, rfl, Nat.le_of_ble_eq_true rfl, by decide, Nat.le_of_ble_eq_true rfl, rfl, rfl⟩ rfl e1 (TR.mono h (fun r2 L3 μ4 h => ?_))
  obtain ⟨w5, rfl, rfl, h⟩ := h
  show WA mX9_strip 1 (0, 0) 8 [(2, v0), (0, v1), (0, v2), (0, v3)] [(0, w5)] L μ4 Q
  refine wa_if_eq 11 29 dX9_strip_8 rfl (by decide) (fun q => ?_) (fun q => ?_)
  · replace h := h.1 q
    refine wa_iconst 30 dX9_strip_29 rfl (by decide) ?_
    exact wa_iret dX9_strip_30 rfl h
  · replace h := h.2 q
    refine wa_aload_n 12 dX9_strip_11 rfl rfl ?_
    refine wa_getR 15 0 dX9_strip_12 rfl wF_X9_12 rfl rfl ⟨k0, isK_pos e1⟩ ?_
    refine wa_iload_n 16 dX9_strip_15 rfl rfl ?_
    refine wa_callV 19 0 1 0 (av := [(0, v2)]) (rest := []) (k1 := (0, 0)) (k2 := (0, 0)) cvX0_hasStrip dX9_strip_16 rfl wM_X9_99 ⟨rfl, by decide, rfl, Nat.le_of_ble_eq_true rfl, by decide, Nat.le_of_ble_eq_true rfl, rfl, rfl⟩ rfl e1 (TR.mono h (fun r6 L7 μ8 h => ?_))
    obtain ⟨w9, rfl, rfl, h⟩ := h
    show WA mX9_strip 1 (0, 0) 19 [(2, v0), (0, v1), (0, v2), (0, v3)] [(0, w9)] L μ8 Q
    refine wa_if_eq 22 29 dX9_strip_19 rfl (by decide) (fun q => ?_) (fun q => ?_)
    · replace h := h.1 q
      refine wa_iconst 30 dX9_strip_29 rfl (by decide) ?_
      exact wa_iret dX9_strip_30 rfl h
    · replace h := h.2 q
      refine wa_iload_n 23 dX9_strip_22 rfl rfl ?_
      refine wa_callS 26 0 1 (av := [(0, v3)]) (rest := []) (k1 := (0, 0)) (k2 := (0, 0)) cvX9_isFlag dX9_strip_23 rfl wM_X9_115 ⟨rfl, Nat.le_of_ble_eq_true rfl, by decide, Nat.le_of_ble_eq_true rfl, rfl, rfl⟩ rfl (TR.mono h (fun r10 L11 μ12 h => ?_))
      obtain ⟨w13, rfl, rfl, h⟩ := h
      show WA mX9_strip 1 (0, 0) 26 [(2, v0), (0, v1), (0, v2), (0, v3)] [(0, w13)] L μ12 Q
      refine wa_if_ne 29 31 dX9_strip_26 rfl (by decide) (fun q => ?_) (fun q => ?_)
      · replace h := h.1 q
        refine wa_aload_n 32 dX9_strip_31 rfl rfl ?_
        refine wa_getR 35 0 dX9_strip_32 rfl wF_X9_12 rfl rfl ⟨k0, isK_pos e1⟩ ?_
        refine wa_iload_n 36 dX9_strip_35 rfl rfl ?_
        refine wa_iload_n 37 dX9_strip_36 rfl rfl ?_
        refine wa_callV 40 0 2 0 (av := [(0, v1), (0, v3)]) (rest := []) (k1 := (0, 0)) (k2 := (0, 0)) cvX0_row dX9_strip_37 rfl wM_X9_118 ⟨rfl, by decide, rfl, Nat.le_of_ble_eq_true rfl, by decide, Nat.le_of_ble_eq_true rfl, rfl, rfl⟩ rfl e1 (TR.mono h (fun r14 L15 μ16 h => ?_))
        obtain ⟨w17, rfl, rfl, e18, h⟩ := h
        show WA mX9_strip 1 (0, 0) 40 [(2, v0), (0, v1), (0, v2), (0, v3)] [(2, w17)] L μ16 Q
        refine wa_iload_n 41 dX9_strip_40 rfl rfl ?_
        obtain ⟨c19, h⟩ := h
        refine wa_iaload 42 dX9_strip_41 rfl (okA_of e18 c19) ?_
        exact wa_iret dX9_strip_42 rfl h
      · replace h := h.2 q
        refine wa_iconst 30 dX9_strip_29 rfl (by decide) ?_
        exact wa_iret dX9_strip_30 rfl h
set_option maxRecDepth 20000 in
theorem t_X9_tell (hL : LayOK L) {v0 v1 v3 v5 : Int} (k0 : isK L v0 (9, 0)) (h : TR mX3_put 1 (0, 0) [(2, (rf L v0 11)), (1, v1), (1, v3)] L μ (fun r2 L3 μ4 => r2 = none ∧ L = L3 ∧ TR mX3_part 0 (0, 0) [(2, (rf L v0 11)), (0, v5)] L μ4 (fun r5 L6 μ7 => ∃ w8, r5 = some (1, w8) ∧ L = L6 ∧ Q (some (1, w8)) L μ7))) : TR mX9_tell 2 (0, 0) [(2, v0), (1, v1), (1, v3), (0, v5)] L μ Q := by
  refine TR.of (ls := [(2, v0), (1, v1), (9, 0), (1, v3), (9, 0), (0, v5)]) (by decide) (by simp) rfl (Nat.le_of_ble_eq_true rfl) ?_
  refine wa_aload_n 1 dX9_tell_0 rfl rfl ?_
  have e1 : isK L (rf L v0 11) (3, 0) := lay_f hL k0 11 rfl
  refine wa_getR 4 11 dX9_tell_1 rfl wF_X9_70 rfl rfl ⟨k0, isK_pos e1⟩ ?_
  refine wa_lload_n 5 dX9_tell_4 rfl rfl ?_
  refine wa_lload_n 6 dX9_tell_5 rfl rfl ?_
  refine wa_callV 9 1 2 3 (av := [(1, v1), (1, v3)]) (rest := []) (k1 := (0, 0)) (k2 := (0, 0)) cvX3_put dX9_tell_6 rfl wM_X9_241 ⟨rfl, by decide, rfl, Nat.le_of_ble_eq_true rfl, by decide, Nat.le_of_ble_eq_true rfl, rfl, rfl⟩ rfl e1 (TR.mono h (fun r2 L3 μ4 h => ?_))
  obtain ⟨rfl, rfl, h⟩ := h
  show WA mX9_tell 2 (0, 0) 9 [(2, v0), (1, v1), (9, 0), (1, v3), (9, 0), (0, v5)] [] L μ4 Q
  refine wa_aload_n 10 dX9_tell_9 rfl rfl ?_
  refine wa_getR 13 11 dX9_tell_10 rfl wF_X9_70 rfl rfl ⟨k0, isK_pos e1⟩ ?_
  refine wa_iload 15 dX9_tell_13 rfl rfl ?_
  refine wa_callV 18 0 1 3 (av := [(0, v5)]) (rest := []) (k1 := (0, 0)) (k2 := (0, 0)) cvX3_part dX9_tell_15 rfl wM_X9_252 ⟨rfl, by decide, rfl, Nat.le_of_ble_eq_true rfl, by decide, Nat.le_of_ble_eq_true rfl, rfl, rfl⟩ rfl e1 (TR.mono h (fun r5 L6 μ7 h => ?_))
  obtain ⟨w8, rfl, rfl, h⟩ := h
  show WA mX9_tell 2 (0, 0) 18 [(2, v0), (1, v1), (9, 0), (1, v3), (9, 0), (0, v5)] [(1, w8)] L μ7 Q
  exact wa_lret dX9_tell_18 rfl h
set_option maxRecDepth 20000 in
theorem t_X9_tells (hL : LayOK L) {v0 v1 v2 v3 : Int} (k0 : isK L v0 (9, 0)) (h : TR mX0_hasAgent 0 (0, 0) [(2, (rf L v0 0)), (0, v1)] L μ (fun r2 L3 μ4 => ∃ w5, r2 = some (0, w5) ∧ L = L3 ∧ (w5 = 0 → Q (some (0, (-1))) L μ4) ∧ (¬ w5 = 0 → TR mX0_hasStrip 0 (0, 0) [(2, (rf L v0 0)), (0, v2)] L μ4 (fun r6 L7 μ8 => ∃ w9, r6 = some (0, w9) ∧ L = L7 ∧ (w9 = 0 → Q (some (0, (-1))) L μ8) ∧ (¬ w9 = 0 → TR mX9_isWorth 0 (0, 0) [(0, v3)] L μ8 (fun r10 L11 μ12 => ∃ w13, r10 = some (0, w13) ∧ L = L11 ∧ (¬ w13 = 0 → (0 ≤ v1 ∧ v1 < 5) ∧ (0 ≤ v2 ∧ v2 < 16) ∧ Q (some (0, (μ12 ((rf L ((rf L ((rf L v0 0)) 3)) v1)) v2))) L (up μ12 ((rf L ((rf L ((rf L v0 0)) 3)) v1)) v2 v3)) ∧ (w13 = 0 → Q (some (0, (-1))) L μ12))))))) : TR mX9_tells 1 (0, 0) [(2, v0), (0, v1), (0, v2), (0, v3)] L μ Q := by
  refine TR.of (ls := [(2, v0), (0, v1), (0, v2), (0, v3), (9, 0)]) (by decide) (by simp) rfl (Nat.le_of_ble_eq_true rfl) ?_
  refine wa_aload_n 1 dX9_tells_0 rfl rfl ?_
  have e1 : isK L (rf L v0 0) (0, 0) := lay_f hL k0 0 rfl
  refine wa_getR 4 0 dX9_tells_1 rfl wF_X9_12 rfl rfl ⟨k0, isK_pos e1⟩ ?_
  refine wa_iload_n 5 dX9_tells_4 rfl rfl ?_
  refine wa_callV 8 0 1 0 (av := [(0, v1)]) (rest := []) (k1 := (0, 0)) (k2 := (0, 0)) cvX0_hasAgent dX9_tells_5 rfl wM_X9_95 ⟨rfl, by decide, rfl, Nat.le_of_ble_eq_true rfl, by decide, Nat.le_of_ble_eq_true rfl, rfl, rfl⟩ rfl e1 (TR.mono h (fun r2 L3 μ4 h => ?_))
  obtain ⟨w5, rfl, rfl, h⟩ := h
  show WA mX9_tells 1 (0, 0) 8 [(2, v0), (0, v1), (0, v2), (0, v3), (9, 0)] [(0, w5)] L μ4 Q
  refine wa_if_eq 11 29 dX9_tells_8 rfl (by decide) (fun q => ?_) (fun q => ?_)
  · replace h := h.1 q
    refine wa_iconst 30 dX9_tells_29 rfl (by decide) ?_
    exact wa_iret dX9_tells_30 rfl h
  · replace h := h.2 q
    refine wa_aload_n 12 dX9_tells_11 rfl rfl ?_
    refine wa_getR 15 0 dX9_tells_12 rfl wF_X9_12 rfl rfl ⟨k0, isK_pos e1⟩ ?_
    refine wa_iload_n 16 dX9_tells_15 rfl rfl ?_
    refine wa_callV 19 0 1 0 (av := [(0, v2)]) (rest := []) (k1 := (0, 0)) (k2 := (0, 0)) cvX0_hasStrip dX9_tells_16 rfl wM_X9_99 ⟨rfl, by decide, rfl, Nat.le_of_ble_eq_true rfl, by decide, Nat.le_of_ble_eq_true rfl, rfl, rfl⟩ rfl e1 (TR.mono h (fun r6 L7 μ8 h => ?_))
    obtain ⟨w9, rfl, rfl, h⟩ := h
    show WA mX9_tells 1 (0, 0) 19 [(2, v0), (0, v1), (0, v2), (0, v3), (9, 0)] [(0, w9)] L μ8 Q
    refine wa_if_eq 22 29 dX9_tells_19 rfl (by decide) (fun q => ?_) (fun q => ?_)
    · replace h := h.1 q
      refine wa_iconst 30 dX9_tells_29 rfl (by decide) ?_
      exact wa_iret dX9_tells_30 rfl h
    · replace h := h.2 q
      refine wa_iload_n 23 dX9_tells_22 rfl rfl ?_
      refine wa_callS 26 0 1 (av := [(0, v3)]) (rest := []) (k1 := (0, 0)) (k2 := (0, 0)) cvX9_isWorth dX9_tells_23 rfl wM_X9_102 ⟨rfl, Nat.le_of_ble_eq_true rfl, by decide, Nat.le_of_ble_eq_true rfl, rfl, rfl⟩ rfl (TR.mono h (fun r10 L11 μ12 h => ?_))
      obtain ⟨w13, rfl, rfl, h⟩ := h
      show WA mX9_tells 1 (0, 0) 26 [(2, v0), (0, v1), (0, v2), (0, v3), (9, 0)] [(0, w13)] L μ12 Q
      refine wa_if_ne 29 31 dX9_tells_26 rfl (by decide) (fun q => ?_) (fun q => ?_)
      · replace h := h.1 q
        refine wa_aload_n 32 dX9_tells_31 rfl rfl ?_
        refine wa_getR 35 0 dX9_tells_32 rfl wF_X9_12 rfl rfl ⟨k0, isK_pos e1⟩ ?_
        have e14 : isK L (rf L ((rf L v0 0)) 3) (23, 5) := lay_f hL e1 3 rfl
        refine wa_getR 38 3 dX9_tells_35 rfl wF_X9_109 rfl rfl ⟨e1, isK_pos e14⟩ ?_
        refine wa_iload_n 39 dX9_tells_38 rfl rfl ?_
        obtain ⟨c15, h⟩ := h
        have e16 : isK L (rf L ((rf L ((rf L v0 0)) 3)) v1) (20, 16) := lay_e hL e1 3 rfl c15
        refine wa_aaload 40 23 dX9_tells_39 rfl ⟨by decide, by decide⟩ ⟨okA_of e14 c15, isK_pos e16⟩ ?_
        refine wa_iload_n 41 dX9_tells_40 rfl rfl ?_
        obtain ⟨c17, h⟩ := h
        refine wa_iaload 42 dX9_tells_41 rfl (okA_of e16 c17) ?_
        refine wa_istore 44 [(2, v0), (0, v1), (0, v2), (0, v3), (0, (μ12 ((rf L ((rf L ((rf L v0 0)) 3)) v1)) v2))] dX9_tells_42 rfl rfl rfl ?_
        refine wa_aload_n 45 dX9_tells_44 rfl rfl ?_
        refine wa_getR 48 0 dX9_tells_45 rfl wF_X9_12 rfl rfl ⟨k0, isK_pos e1⟩ ?_
        refine wa_getR 51 3 dX9_tells_48 rfl wF_X9_109 rfl rfl ⟨e1, isK_pos e14⟩ ?_
        refine wa_iload_n 52 dX9_tells_51 rfl rfl ?_
        refine wa_aaload 53 23 dX9_tells_52 rfl ⟨by decide, by decide⟩ ⟨okA_of e14 c15, isK_pos e16⟩ ?_
        refine wa_iload_n 54 dX9_tells_53 rfl rfl ?_
        refine wa_iload_n 55 dX9_tells_54 rfl rfl ?_
        refine wa_iastore 56 dX9_tells_55 rfl (okA_of e16 c17) ?_
        refine wa_iload 58 dX9_tells_56 rfl rfl ?_
        exact wa_iret dX9_tells_58 rfl h
      · replace h := h.2 q
        refine wa_iconst 30 dX9_tells_29 rfl (by decide) ?_
        exact wa_iret dX9_tells_30 rfl h
set_option maxRecDepth 20000 in
theorem t_X9_worth (hL : LayOK L) {v0 v1 v2 v3 : Int} (k0 : isK L v0 (9, 0)) (h : TR mX0_hasAgent 0 (0, 0) [(2, (rf L v0 0)), (0, v1)] L μ (fun r2 L3 μ4 => ∃ w5, r2 = some (0, w5) ∧ L = L3 ∧ (w5 = 0 → Q (some (0, (-1))) L μ4) ∧ (¬ w5 = 0 → TR mX0_hasStrip 0 (0, 0) [(2, (rf L v0 0)), (0, v2)] L μ4 (fun r6 L7 μ8 => ∃ w9, r6 = some (0, w9) ∧ L = L7 ∧ (w9 = 0 → Q (some (0, (-1))) L μ8) ∧ (¬ w9 = 0 → TR mX9_isWorth 0 (0, 0) [(0, v3)] L μ8 (fun r10 L11 μ12 => ∃ w13, r10 = some (0, w13) ∧ L = L11 ∧ (¬ w13 = 0 → (0 ≤ v1 ∧ v1 < 5) ∧ (0 ≤ v2 ∧ v2 < 16) ∧ Q (some (0, (μ12 ((rf L ((rf L ((rf L v0 0)) 2)) v1)) v2))) L (up (up μ12 ((rf L ((rf L ((rf L v0 0)) 2)) v1)) v2 v3) ((rf L ((rf L ((rf L v0 0)) 3)) v1)) v2 v3)) ∧ (w13 = 0 → Q (some (0, (-1))) L μ12))))))) : TR mX9_worth 1 (0, 0) [(2, v0), (0, v1), (0, v2), (0, v3)] L μ Q := by
  refine TR.of (ls := [(2, v0), (0, v1), (0, v2), (0, v3), (9, 0)]) (by decide) (by simp) rfl (Nat.le_of_ble_eq_true rfl) ?_
  refine wa_aload_n 1 dX9_worth_0 rfl rfl ?_
  have e1 : isK L (rf L v0 0) (0, 0) := lay_f hL k0 0 rfl
  refine wa_getR 4 0 dX9_worth_1 rfl wF_X9_12 rfl rfl ⟨k0, isK_pos e1⟩ ?_
  refine wa_iload_n 5 dX9_worth_4 rfl rfl ?_
  refine wa_callV 8 0 1 0 (av := [(0, v1)]) (rest := []) (k1 := (0, 0)) (k2 := (0, 0)) cvX0_hasAgent dX9_worth_5 rfl wM_X9_95 ⟨rfl, by decide, rfl, Nat.le_of_ble_eq_true rfl, by decide, Nat.le_of_ble_eq_true rfl, rfl, rfl⟩ rfl e1 (TR.mono h (fun r2 L3 μ4 h => ?_))
  obtain ⟨w5, rfl, rfl, h⟩ := h
  show WA mX9_worth 1 (0, 0) 8 [(2, v0), (0, v1), (0, v2), (0, v3), (9, 0)] [(0, w5)] L μ4 Q
  refine wa_if_eq 11 29 dX9_worth_8 rfl (by decide) (fun q => ?_) (fun q => ?_)
  · replace h := h.1 q
    refine wa_iconst 30 dX9_worth_29 rfl (by decide) ?_
    exact wa_iret dX9_worth_30 rfl h
  · replace h := h.2 q
    refine wa_aload_n 12 dX9_worth_11 rfl rfl ?_
    refine wa_getR 15 0 dX9_worth_12 rfl wF_X9_12 rfl rfl ⟨k0, isK_pos e1⟩ ?_
    refine wa_iload_n 16 dX9_worth_15 rfl rfl ?_
    refine wa_callV 19 0 1 0 (av := [(0, v2)]) (rest := []) (k1 := (0, 0)) (k2 := (0, 0)) cvX0_hasStrip dX9_worth_16 rfl wM_X9_99 ⟨rfl, by decide, rfl, Nat.le_of_ble_eq_true rfl, by decide, Nat.le_of_ble_eq_true rfl, rfl, rfl⟩ rfl e1 (TR.mono h (fun r6 L7 μ8 h => ?_))
    obtain ⟨w9, rfl, rfl, h⟩ := h
    show WA mX9_worth 1 (0, 0) 19 [(2, v0), (0, v1), (0, v2), (0, v3), (9, 0)] [(0, w9)] L μ8 Q
    refine wa_if_eq 22 29 dX9_worth_19 rfl (by decide) (fun q => ?_) (fun q => ?_)
    · replace h := h.1 q
      refine wa_iconst 30 dX9_worth_29 rfl (by decide) ?_
      exact wa_iret dX9_worth_30 rfl h
    · replace h := h.2 q
      refine wa_iload_n 23 dX9_worth_22 rfl rfl ?_
      refine wa_callS 26 0 1 (av := [(0, v3)]) (rest := []) (k1 := (0, 0)) (k2 := (0, 0)) cvX9_isWorth dX9_worth_23 rfl wM_X9_102 ⟨rfl, Nat.le_of_ble_eq_true rfl, by decide, Nat.le_of_ble_eq_true rfl, rfl, rfl⟩ rfl (TR.mono h (fun r10 L11 μ12 h => ?_))
      obtain ⟨w13, rfl, rfl, h⟩ := h
      show WA mX9_worth 1 (0, 0) 26 [(2, v0), (0, v1), (0, v2), (0, v3), (9, 0)] [(0, w13)] L μ12 Q
      refine wa_if_ne 29 31 dX9_worth_26 rfl (by decide) (fun q => ?_) (fun q => ?_)
      · replace h := h.1 q
        refine wa_aload_n 32 dX9_worth_31 rfl rfl ?_
        refine wa_getR 35 0 dX9_worth_32 rfl wF_X9_12 rfl rfl ⟨k0, isK_pos e1⟩ ?_
        have e14 : isK L (rf L ((rf L v0 0)) 2) (23, 5) := lay_f hL e1 2 rfl
        refine wa_getR 38 2 dX9_worth_35 rfl wF_X9_105 rfl rfl ⟨e1, isK_pos e14⟩ ?_
        refine wa_iload_n 39 dX9_worth_38 rfl rfl ?_
        obtain ⟨c15, h⟩ := h
        have e16 : isK L (rf L ((rf L ((rf L v0 0)) 2)) v1) (20, 16) := lay_e hL e1 2 rfl c15
        refine wa_aaload 40 23 dX9_worth_39 rfl ⟨by decide, by decide⟩ ⟨okA_of e14 c15, isK_pos e16⟩ ?_
        refine wa_iload_n 41 dX9_worth_40 rfl rfl ?_
        obtain ⟨c17, h⟩ := h
        refine wa_iaload 42 dX9_worth_41 rfl (okA_of e16 c17) ?_
        refine wa_istore 44 [(2, v0), (0, v1), (0, v2), (0, v3), (0, (μ12 ((rf L ((rf L ((rf L v0 0)) 2)) v1)) v2))] dX9_worth_42 rfl rfl rfl ?_
        refine wa_aload_n 45 dX9_worth_44 rfl rfl ?_
        refine wa_getR 48 0 dX9_worth_45 rfl wF_X9_12 rfl rfl ⟨k0, isK_pos e1⟩ ?_
        refine wa_getR 51 2 dX9_worth_48 rfl wF_X9_105 rfl rfl ⟨e1, isK_pos e14⟩ ?_
        refine wa_iload_n 52 dX9_worth_51 rfl rfl ?_
        refine wa_aaload 53 23 dX9_worth_52 rfl ⟨by decide, by decide⟩ ⟨okA_of e14 c15, isK_pos e16⟩ ?_
        refine wa_iload_n 54 dX9_worth_53 rfl rfl ?_
        refine wa_iload_n 55 dX9_worth_54 rfl rfl ?_
        refine wa_iastore 56 dX9_worth_55 rfl (okA_of e16 c17) ?_
        refine wa_aload_n 57 dX9_worth_56 rfl rfl ?_
        refine wa_getR 60 0 dX9_worth_57 rfl wF_X9_12 rfl rfl ⟨k0, isK_pos e1⟩ ?_
        have e18 : isK L (rf L ((rf L v0 0)) 3) (23, 5) := lay_f hL e1 3 rfl
        refine wa_getR 63 3 dX9_worth_60 rfl wF_X9_109 rfl rfl ⟨e1, isK_pos e18⟩ ?_
        refine wa_iload_n 64 dX9_worth_63 rfl rfl ?_
        have e19 : isK L (rf L ((rf L ((rf L v0 0)) 3)) v1) (20, 16) := lay_e hL e1 3 rfl c15
        refine wa_aaload 65 23 dX9_worth_64 rfl ⟨by decide, by decide⟩ ⟨okA_of e18 c15, isK_pos e19⟩ ?_
        refine wa_iload_n 66 dX9_worth_65 rfl rfl ?_
        refine wa_iload_n 67 dX9_worth_66 rfl rfl ?_
        refine wa_iastore 68 dX9_worth_67 rfl (okA_of e19 c17) ?_
        refine wa_iload 70 dX9_worth_68 rfl rfl ?_
        exact wa_iret dX9_worth_70 rfl h
      · replace h := h.2 q
        refine wa_iconst 30 dX9_worth_29 rfl (by decide) ?_
        exact wa_iret dX9_worth_30 rfl h
set_option maxRecDepth 20000 in
theorem t_X9_worths (hL : LayOK L) {v0 : Int} (k0 : isK L v0 (9, 0)) (h : TR mX0_copy 0 (0, 0) [(2, (rf L v0 1)), (2, (rf L v0 0))] L μ (fun r3 L4 μ5 => r3 = none ∧ L = L4 ∧ TR mX8_read 6 (0, 0) [(2, (rf L v0 8)), (0, 1), (2, (rf L v0 1)), (2, (rf L v0 4))] L μ5 (fun r8 L9 μ10 => ∃ w11, r8 = some (0, w11) ∧ L = L9 ∧ (w11 ≤ 0 → Q (some (0, w11)) L μ10) ∧ (¬ w11 ≤ 0 → TR mX0_copy 0 (0, 0) [(2, (rf L v0 0)), (2, (rf L v0 1))] L μ10 (fun r12 L13 μ14 => r12 = none ∧ L = L13 ∧ Q (some (0, w11)) L μ14))))) : TR mX9_worths 7 (0, 0) [(2, v0)] L μ Q := by
  refine TR.of (ls := [(2, v0), (9, 0)]) (by decide) (by simp) rfl (Nat.le_of_ble_eq_true rfl) ?_
  refine wa_aload_n 1 dX9_worths_0 rfl rfl ?_
  have e1 : isK L (rf L v0 1) (0, 0) := lay_f hL k0 1 rfl
  refine wa_getR 4 1 dX9_worths_1 rfl wF_X9_18 rfl rfl ⟨k0, isK_pos e1⟩ ?_
  refine wa_aload_n 5 dX9_worths_4 rfl rfl ?_
  have e2 : isK L (rf L v0 0) (0, 0) := lay_f hL k0 0 rfl
  refine wa_getR 8 0 dX9_worths_5 rfl wF_X9_12 rfl rfl ⟨k0, isK_pos e2⟩ ?_
  refine wa_callV 11 0 1 0 (av := [(2, (rf L v0 0))]) (rest := []) (k1 := (0, 0)) (k2 := (0, 0)) cvX0_copy dX9_worths_8 rfl wM_X9_165 ⟨rfl, by decide, rfl, Nat.le_of_ble_eq_true rfl, by decide, Nat.le_of_ble_eq_true rfl, rfl, rfl⟩ rfl e1 (TR.mono h (fun r3 L4 μ5 h => ?_))
  obtain ⟨rfl, rfl, h⟩ := h
  show WA mX9_worths 7 (0, 0) 11 [(2, v0), (9, 0)] [] L μ5 Q
  refine wa_aload_n 12 dX9_worths_11 rfl rfl ?_
  have e6 : isK L (rf L v0 8) (8, 0) := lay_f hL k0 8 rfl
  refine wa_getR 15 8 dX9_worths_12 rfl wF_X9_49 rfl rfl ⟨k0, isK_pos e6⟩ ?_
  refine wa_iconst 16 dX9_worths_15 rfl (by decide) ?_
  refine wa_aload_n 17 dX9_worths_16 rfl rfl ?_
  refine wa_getR 20 1 dX9_worths_17 rfl wF_X9_18 rfl rfl ⟨k0, isK_pos e1⟩ ?_
  refine wa_aload_n 21 dX9_worths_20 rfl rfl ?_
  have e7 : isK L (rf L v0 4) (1, 0) := lay_f hL k0 4 rfl
  refine wa_getR 24 4 dX9_worths_21 rfl wF_X9_31 rfl rfl ⟨k0, isK_pos e7⟩ ?_
  refine wa_callV 27 6 3 8 (av := [(0, 1), (2, (rf L v0 1)), (2, (rf L v0 4))]) (rest := []) (k1 := (0, 0)) (k2 := (0, 0)) cvX8_read dX9_worths_24 rfl wM_X9_169 ⟨rfl, by decide, rfl, Nat.le_of_ble_eq_true rfl, by decide, Nat.le_of_ble_eq_true rfl, rfl, rfl⟩ rfl e6 (TR.mono h (fun r8 L9 μ10 h => ?_))
  obtain ⟨w11, rfl, rfl, h⟩ := h
  show WA mX9_worths 7 (0, 0) 27 [(2, v0), (9, 0)] [(0, w11)] L μ10 Q
  refine wa_istore_n 28 [(2, v0), (0, w11)] dX9_worths_27 rfl rfl rfl ?_
  refine wa_iload_n 29 dX9_worths_28 rfl rfl ?_
  refine wa_if_le 32 43 dX9_worths_29 rfl (by decide) (fun q => ?_) (fun q => ?_)
  · replace h := h.1 q
    refine wa_iload_n 44 dX9_worths_43 rfl rfl ?_
    exact wa_iret dX9_worths_44 rfl h
  · replace h := h.2 q
    refine wa_aload_n 33 dX9_worths_32 rfl rfl ?_
    refine wa_getR 36 0 dX9_worths_33 rfl wF_X9_12 rfl rfl ⟨k0, isK_pos e2⟩ ?_
    refine wa_aload_n 37 dX9_worths_36 rfl rfl ?_
    refine wa_getR 40 1 dX9_worths_37 rfl wF_X9_18 rfl rfl ⟨k0, isK_pos e1⟩ ?_
    refine wa_callV 43 0 1 0 (av := [(2, (rf L v0 1))]) (rest := []) (k1 := (0, 0)) (k2 := (0, 0)) cvX0_copy dX9_worths_40 rfl wM_X9_165 ⟨rfl, by decide, rfl, Nat.le_of_ble_eq_true rfl, by decide, Nat.le_of_ble_eq_true rfl, rfl, rfl⟩ rfl e2 (TR.mono h (fun r12 L13 μ14 h => ?_))
    obtain ⟨rfl, rfl, h⟩ := h
    show WA mX9_worths 7 (0, 0) 43 [(2, v0), (0, w11)] [] L μ14 Q
    refine wa_iload_n 44 dX9_worths_43 rfl rfl ?_
    exact wa_iret dX9_worths_44 rfl h
set_option maxRecDepth 20000 in
theorem t_X9_would (hL : LayOK L) {v0 v1 v2 v3 v4 : Int} (k0 : isK L v0 (9, 0)) (h : TR mX9_isWay 0 (0, 0) [(0, v1)] L μ (fun r1 L2 μ3 => ∃ w4, r1 = some (0, w4) ∧ L = L2 ∧ (w4 = 0 → Q (some (1, (-9223372036854775808))) L μ3) ∧ (¬ w4 = 0 → TR mX0_hasAgent 0 (0, 0) [(2, (rf L v0 0)), (0, v2)] L μ3 (fun r6 L7 μ8 => ∃ w9, r6 = some (0, w9) ∧ L = L7 ∧ (w9 = 0 → Q (some (1, (-9223372036854775808))) L μ8) ∧ (¬ w9 = 0 → TR mX0_hasAgent 0 (0, 0) [(2, (rf L v0 0)), (0, v3)] L μ8 (fun r10 L11 μ12 => ∃ w13, r10 = some (0, w13) ∧ L = L11 ∧ (w13 = 0 → Q (some (1, (-9223372036854775808))) L μ12) ∧ (¬ w13 = 0 → TR mX9_isFlag 0 (0, 0) [(0, v4)] L μ12 (fun r14 L15 μ16 => ∃ w17, r14 = some (0, w17) ∧ L = L15 ∧ (¬ w17 = 0 → TR mX9_isAllowed 0 (0, 0) [(2, v0), (0, v1)] L μ16 (fun r18 L19 μ20 => ∃ w21, r18 = some (0, w21) ∧ L = L19 ∧ (w21 = 0 → Q (some (1, (-9223372036854775808))) L μ20) ∧ (¬ w21 = 0 → TR mX5_run 6 (0, 0) [(2, (rf L v0 7)), (0, v1), (0, v2)] L μ20 (fun r23 L24 μ25 => ∃ w26, r23 = some (0, w26) ∧ L = L24 ∧ (¬ w26 = 0 → (0 ≤ v3 ∧ v3 < 5) ∧ TR mX1_holds 3 (0, 0) [(2, (rf L v0 4)), (0, v3), (2, (rf L v0 0)), (2, (rf L ((rf L ((rf L v0 0)) 2)) v3))] L μ25 (fun r31 L32 μ33 => ∃ w34, r31 = some (1, w34) ∧ L = L32 ∧ TR mX9_tell 2 (0, 0) [(2, v0), (1, w34), (1, (μ33 ((rf L v0 4)) 2)), (0, v4)] L μ33 (fun r35 L36 μ37 => ∃ w38, r35 = some (1, w38) ∧ L = L36 ∧ Q (some (1, w38)) L μ37))) ∧ (w26 = 0 → Q (some (1, (-9223372036854775808))) L μ25))))) ∧ (w17 = 0 → Q (some (1, (-9223372036854775808))) L μ16))))))))) : TR mX9_would 7 (0, 0) [(2, v0), (0, v1), (0, v2), (0, v3), (0, v4)] L μ Q := by
  refine TR.of (ls := [(2, v0), (0, v1), (0, v2), (0, v3), (0, v4)]) (by decide) (by simp) rfl (Nat.le_of_ble_eq_true rfl) ?_
  refine wa_iload_n 1 dX9_would_0 rfl rfl ?_
  refine wa_callS 4 0 1 (av := [(0, v1)]) (rest := []) (k1 := (0, 0)) (k2 := (0, 0)) cvX9_isWay dX9_would_1 rfl wM_X9_199 ⟨rfl, Nat.le_of_ble_eq_true rfl, by decide, Nat.le_of_ble_eq_true rfl, rfl, rfl⟩ rfl (TR.mono h (fun r1 L2 μ3 h => ?_))
  obtain ⟨w4, rfl, rfl, h⟩ := h
  show WA mX9_would 7 (0, 0) 4 [(2, v0), (0, v1), (0, v2), (0, v3), (0, v4)] [(0, w4)] L μ3 Q
  refine wa_if_eq 7 37 dX9_would_4 rfl (by decide) (fun q => ?_) (fun q => ?_)
  · replace h := h.1 q
    refine wa_ldc2 40 (-9223372036854775808) dX9_would_37 rfl wJ_X9_126 ⟨rfl, by decide⟩ ?_
    exact wa_lret dX9_would_40 rfl h
  · replace h := h.2 q
    refine wa_aload_n 8 dX9_would_7 rfl rfl ?_
    have e5 : isK L (rf L v0 0) (0, 0) := lay_f hL k0 0 rfl
    refine wa_getR 11 0 dX9_would_8 rfl wF_X9_12 rfl rfl ⟨k0, isK_pos e5⟩ ?_
    refine wa_iload_n 12 dX9_would_11 rfl rfl ?_
    refine wa_callV 15 0 1 0 (av := [(0, v2)]) (rest := []) (k1 := (0, 0)) (k2 := (0, 0)) cvX0_hasAgent dX9_would_12 rfl wM_X9_95 ⟨rfl, by decide, rfl, Nat.le_of_ble_eq_true rfl, by decide, Nat.le_of_ble_eq_true rfl, rfl, rfl⟩ rfl e5 (TR.mono h (fun r6 L7 μ8 h => ?_))
    obtain ⟨w9, rfl, rfl, h⟩ := h
    show WA mX9_would 7 (0, 0) 15 [(2, v0), (0, v1), (0, v2), (0, v3), (0, v4)] [(0, w9)] L μ8 Q
    refine wa_if_eq 18 37 dX9_would_15 rfl (by decide) (fun q => ?_) (fun q => ?_)
    · replace h := h.1 q
      refine wa_ldc2 40 (-9223372036854775808) dX9_would_37 rfl wJ_X9_126 ⟨rfl, by decide⟩ ?_
      exact wa_lret dX9_would_40 rfl h
    · replace h := h.2 q
      refine wa_aload_n 19 dX9_would_18 rfl rfl ?_
      refine wa_getR 22 0 dX9_would_19 rfl wF_X9_12 rfl rfl ⟨k0, isK_pos e5⟩ ?_
      refine wa_iload_n 23 dX9_would_22 rfl rfl ?_
      refine wa_callV 26 0 1 0 (av := [(0, v3)]) (rest := []) (k1 := (0, 0)) (k2 := (0, 0)) cvX0_hasAgent dX9_would_23 rfl wM_X9_95 ⟨rfl, by decide, rfl, Nat.le_of_ble_eq_true rfl, by decide, Nat.le_of_ble_eq_true rfl, rfl, rfl⟩ rfl e5 (TR.mono h (fun r10 L11 μ12 h => ?_))
      obtain ⟨w13, rfl, rfl, h⟩ := h
      show WA mX9_would 7 (0, 0) 26 [(2, v0), (0, v1), (0, v2), (0, v3), (0, v4)] [(0, w13)] L μ12 Q
      refine wa_if_eq 29 37 dX9_would_26 rfl (by decide) (fun q => ?_) (fun q => ?_)
      · replace h := h.1 q
        refine wa_ldc2 40 (-9223372036854775808) dX9_would_37 rfl wJ_X9_126 ⟨rfl, by decide⟩ ?_
        exact wa_lret dX9_would_40 rfl h
      · replace h := h.2 q
        refine wa_iload 31 dX9_would_29 rfl rfl ?_
        refine wa_callS 34 0 1 (av := [(0, v4)]) (rest := []) (k1 := (0, 0)) (k2 := (0, 0)) cvX9_isFlag dX9_would_31 rfl wM_X9_115 ⟨rfl, Nat.le_of_ble_eq_true rfl, by decide, Nat.le_of_ble_eq_true rfl, rfl, rfl⟩ rfl (TR.mono h (fun r14 L15 μ16 h => ?_))
        obtain ⟨w17, rfl, rfl, h⟩ := h
        show WA mX9_would 7 (0, 0) 34 [(2, v0), (0, v1), (0, v2), (0, v3), (0, v4)] [(0, w17)] L μ16 Q
        refine wa_if_ne 37 41 dX9_would_34 rfl (by decide) (fun q => ?_) (fun q => ?_)
        · replace h := h.1 q
          refine wa_aload_n 42 dX9_would_41 rfl rfl ?_
          refine wa_iload_n 43 dX9_would_42 rfl rfl ?_
          refine wa_callV 46 0 1 9 (av := [(0, v1)]) (rest := []) (k1 := (0, 0)) (k2 := (0, 0)) cvX9_isAllowed dX9_would_43 rfl wM_X9_202 ⟨rfl, by decide, rfl, Nat.le_of_ble_eq_true rfl, by decide, Nat.le_of_ble_eq_true rfl, rfl, rfl⟩ rfl k0 (TR.mono h (fun r18 L19 μ20 h => ?_))
          obtain ⟨w21, rfl, rfl, h⟩ := h
          show WA mX9_would 7 (0, 0) 46 [(2, v0), (0, v1), (0, v2), (0, v3), (0, v4)] [(0, w21)] L μ20 Q
          refine wa_if_eq 49 61 dX9_would_46 rfl (by decide) (fun q => ?_) (fun q => ?_)
          · replace h := h.1 q
            refine wa_ldc2 64 (-9223372036854775808) dX9_would_61 rfl wJ_X9_126 ⟨rfl, by decide⟩ ?_
            exact wa_lret dX9_would_64 rfl h
          · replace h := h.2 q
            refine wa_aload_n 50 dX9_would_49 rfl rfl ?_
            have e22 : isK L (rf L v0 7) (5, 0) := lay_f hL k0 7 rfl
            refine wa_getR 53 7 dX9_would_50 rfl wF_X9_42 rfl rfl ⟨k0, isK_pos e22⟩ ?_
            refine wa_iload_n 54 dX9_would_53 rfl rfl ?_
            refine wa_iload_n 55 dX9_would_54 rfl rfl ?_
            refine wa_callV 58 6 2 5 (av := [(0, v1), (0, v2)]) (rest := []) (k1 := (0, 0)) (k2 := (0, 0)) cvX5_run dX9_would_55 rfl wM_X9_205 ⟨rfl, by decide, rfl, Nat.le_of_ble_eq_true rfl, by decide, Nat.le_of_ble_eq_true rfl, rfl, rfl⟩ rfl e22 (TR.mono h (fun r23 L24 μ25 h => ?_))
            obtain ⟨w26, rfl, rfl, h⟩ := h
            show WA mX9_would 7 (0, 0) 58 [(2, v0), (0, v1), (0, v2), (0, v3), (0, v4)] [(0, w26)] L μ25 Q
            refine wa_if_ne 61 65 dX9_would_58 rfl (by decide) (fun q => ?_) (fun q => ?_)
            · replace h := h.1 q
              refine wa_aload_n 66 dX9_would_65 rfl rfl ?_
              refine wa_aload_n 67 dX9_would_66 rfl rfl ?_
              have e27 : isK L (rf L v0 4) (1, 0) := lay_f hL k0 4 rfl
              refine wa_getR 70 4 dX9_would_67 rfl wF_X9_31 rfl rfl ⟨k0, isK_pos e27⟩ ?_
              refine wa_iload_n 71 dX9_would_70 rfl rfl ?_
              refine wa_aload_n 72 dX9_would_71 rfl rfl ?_
              refine wa_getR 75 0 dX9_would_72 rfl wF_X9_12 rfl rfl ⟨k0, isK_pos e5⟩ ?_
              refine wa_aload_n 76 dX9_would_75 rfl rfl ?_
              refine wa_getR 79 0 dX9_would_76 rfl wF_X9_12 rfl rfl ⟨k0, isK_pos e5⟩ ?_
              have e28 : isK L (rf L ((rf L v0 0)) 2) (23, 5) := lay_f hL e5 2 rfl
              refine wa_getR 82 2 dX9_would_79 rfl wF_X9_105 rfl rfl ⟨e5, isK_pos e28⟩ ?_
              refine wa_iload_n 83 dX9_would_82 rfl rfl ?_
              obtain ⟨c29, h⟩ := h
              have e30 : isK L (rf L ((rf L ((rf L v0 0)) 2)) v3) (20, 16) := lay_e hL e5 2 rfl c29
              refine wa_aaload 84 23 dX9_would_83 rfl ⟨by decide, by decide⟩ ⟨okA_of e28 c29, isK_pos e30⟩ ?_
              refine wa_callV 87 3 3 1 (av := [(0, v3), (2, (rf L v0 0)), (2, (rf L ((rf L ((rf L v0 0)) 2)) v3))]) (rest := [(2, v0)]) (k1 := (0, 0)) (k2 := (0, 0)) cvX1_holds dX9_would_84 rfl wM_X9_219 ⟨rfl, by decide, rfl, Nat.le_of_ble_eq_true rfl, by decide, Nat.le_of_ble_eq_true rfl, rfl, rfl⟩ rfl e27 (TR.mono h (fun r31 L32 μ33 h => ?_))
              obtain ⟨w34, rfl, rfl, h⟩ := h
              show WA mX9_would 7 (0, 0) 87 [(2, v0), (0, v1), (0, v2), (0, v3), (0, v4)] [(1, w34), (2, v0)] L μ33 Q
              refine wa_aload_n 88 dX9_would_87 rfl rfl ?_
              refine wa_getR 91 4 dX9_would_88 rfl wF_X9_31 rfl rfl ⟨k0, isK_pos e27⟩ ?_
              refine wa_getL 94 2 dX9_would_91 rfl wF_X9_223 rfl rfl e27 ?_
              refine wa_iload 96 dX9_would_94 rfl rfl ?_
              refine wa_callV 99 2 3 9 (av := [(1, w34), (1, (μ33 ((rf L v0 4)) 2)), (0, v4)]) (rest := []) (k1 := (0, 0)) (k2 := (0, 0)) cvX9_tell dX9_would_96 rfl wM_X9_132 ⟨rfl, by decide, rfl, Nat.le_of_ble_eq_true rfl, by decide, Nat.le_of_ble_eq_true rfl, rfl, rfl⟩ rfl k0 (TR.mono h (fun r35 L36 μ37 h => ?_))
              obtain ⟨w38, rfl, rfl, h⟩ := h
              show WA mX9_would 7 (0, 0) 99 [(2, v0), (0, v1), (0, v2), (0, v3), (0, v4)] [(1, w38)] L μ37 Q
              exact wa_lret dX9_would_99 rfl h
            · replace h := h.2 q
              refine wa_ldc2 64 (-9223372036854775808) dX9_would_61 rfl wJ_X9_126 ⟨rfl, by decide⟩ ?_
              exact wa_lret dX9_would_64 rfl h
        · replace h := h.2 q
          refine wa_ldc2 40 (-9223372036854775808) dX9_would_37 rfl wJ_X9_126 ⟨rfl, by decide⟩ ?_
          exact wa_lret dX9_would_40 rfl h
end
