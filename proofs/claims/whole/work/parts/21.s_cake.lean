/-! Cake: each method from its entry and from its loops' heads: what must hold, and the run (laid by wip/whole/gen/vc.py) -/
section
variable {L : Lay} {μ : Mem} {Q : Option AV → Lay → Mem → Prop}
set_option maxRecDepth 20000 in
theorem t_X0_between (hL : LayOK L) {v0 v1 v2 v3 v4 : Int} (k0 : isK L v0 (0, 0)) (k1 : isK L v1 (20, 16)) (k2 : isK L v2 (3, 0)) (k3 : isK L v3 (3, 0)) (h : TR mX3_parts 0 (0, 0) [(2, v3), (1, v4)] L μ (fun r1 L2 μ3 => ∃ w4, r1 = some (1, w4) ∧ L = L2 ∧ TR mX0_upTo 1 (0, 0) [(2, v0), (2, v1), (1, w4), (1, v4)] L μ3 (fun r5 L6 μ7 => ∃ w8, r5 = some (1, w8) ∧ L = L6 ∧ TR mX3_parts 0 (0, 0) [(2, v2), (1, v4)] L μ7 (fun r9 L10 μ11 => ∃ w12, r9 = some (1, w12) ∧ L = L10 ∧ TR mX0_upTo 1 (0, 0) [(2, v0), (2, v1), (1, w12), (1, v4)] L μ11 (fun r13 L14 μ15 => ∃ w16, r13 = some (1, w16) ∧ L = L14 ∧ (inL (w8 - w16)) ∧ Q (some (1, (w8 - w16))) L μ15))))) : TR mX0_between 2 (0, 0) [(2, v0), (2, v1), (2, v2), (2, v3), (1, v4)] L μ Q := by
  refine TR.of (ls := [(2, v0), (2, v1), (2, v2), (2, v3), (1, v4), (9, 0)]) (by decide) (by simp) rfl (Nat.le_of_ble_eq_true rfl) ?_
  refine wa_aload_n 1 dX0_between_0 rfl rfl ?_
  refine wa_aload_n 2 dX0_between_1 rfl rfl ?_
  refine wa_aload_n 3 dX0_between_2 rfl rfl ?_
  refine wa_lload 5 dX0_between_3 rfl rfl ?_
  refine wa_callV 8 0 1 3 (av := [(1, v4)]) (rest := [(2, v1), (2, v0)]) (k1 := (0, 0)) (k2 := (0, 0)) cvX3_parts dX0_between_5 rfl wM_X0_36 ⟨rfl, by decide, rfl, Nat.le_of_ble_eq_true rfl, by decide, Nat.le_of_ble_eq_true rfl, rfl, rfl⟩ rfl k3 (TR.mono h (fun r1 L2 μ3 h => ?_))
  obtain ⟨w4, rfl, rfl, h⟩ := h
  show WA mX0_between 2 (0, 0) 8 [(2, v0), (2, v1), (2, v2), (2, v3), (1, v4), (9, 0)] [(1, w4), (2, v1), (2, v0)] L μ3 Q
  refine wa_lload 10 dX0_between_8 rfl rfl ?_
  refine wa_callV 13 1 3 0 (av := [(2, v1), (1, w4), (1, v4)]) (rest := []) (k1 := (0, 0)) (k2 := (0, 0)) cvX0_upTo dX0_between_10 rfl wM_X0_42 ⟨rfl, by decide, rfl, Nat.le_of_ble_eq_true rfl, by decide, Nat.le_of_ble_eq_true rfl, rfl, rfl⟩ rfl k0 (TR.mono h (fun r5 L6 μ7 h => ?_))
  obtain ⟨w8, rfl, rfl, h⟩ := h
  show WA mX0_between 2 (0, 0) 13 [(2, v0), (2, v1), (2, v2), (2, v3), (1, v4), (9, 0)] [(1, w8)] L μ7 Q
  refine wa_aload_n 14 dX0_between_13 rfl rfl ?_
  refine wa_aload_n 15 dX0_between_14 rfl rfl ?_
  refine wa_aload_n 16 dX0_between_15 rfl rfl ?_
  refine wa_lload 18 dX0_between_16 rfl rfl ?_
  refine wa_callV 21 0 1 3 (av := [(1, v4)]) (rest := [(2, v1), (2, v0), (1, w8)]) (k1 := (0, 0)) (k2 := (0, 0)) cvX3_parts dX0_between_18 rfl wM_X0_36 ⟨rfl, by decide, rfl, Nat.le_of_ble_eq_true rfl, by decide, Nat.le_of_ble_eq_true rfl, rfl, rfl⟩ rfl k2 (TR.mono h (fun r9 L10 μ11 h => ?_))
  obtain ⟨w12, rfl, rfl, h⟩ := h
  show WA mX0_between 2 (0, 0) 21 [(2, v0), (2, v1), (2, v2), (2, v3), (1, v4), (9, 0)] [(1, w12), (2, v1), (2, v0), (1, w8)] L μ11 Q
  refine wa_lload 23 dX0_between_21 rfl rfl ?_
  refine wa_callV 26 1 3 0 (av := [(2, v1), (1, w12), (1, v4)]) (rest := [(1, w8)]) (k1 := (0, 0)) (k2 := (0, 0)) cvX0_upTo dX0_between_23 rfl wM_X0_42 ⟨rfl, by decide, rfl, Nat.le_of_ble_eq_true rfl, by decide, Nat.le_of_ble_eq_true rfl, rfl, rfl⟩ rfl k0 (TR.mono h (fun r13 L14 μ15 h => ?_))
  obtain ⟨w16, rfl, rfl, h⟩ := h
  show WA mX0_between 2 (0, 0) 26 [(2, v0), (2, v1), (2, v2), (2, v3), (1, v4), (9, 0)] [(1, w16), (1, w8)] L μ15 Q
  obtain ⟨c17, h⟩ := h
  refine wa_lsub 27 dX0_between_26 rfl c17 ?_
  exact wa_lret dX0_between_27 rfl h
set_option maxRecDepth 20000 in
theorem t_X0_copy (hL : LayOK L) {v0 v1 : Int} (k0 : isK L v0 (0, 0)) (k1 : isK L v1 (0, 0)) (h : WA mX0_copy 0 (0, 0) 18 [(2, v0), (2, v1), (0, 0), (9, 0)] [] L (up (up μ v0 0 ((μ v1 0))) v0 1 (((up μ v0 0 ((μ v1 0))) v1 1))) Q) : TR mX0_copy 0 (0, 0) [(2, v0), (2, v1)] L μ Q := by
  refine TR.of (ls := [(2, v0), (2, v1), (9, 0), (9, 0)]) (by decide) (by simp) rfl (Nat.le_of_ble_eq_true rfl) ?_
  refine wa_aload_n 1 dX0_copy_0 rfl rfl ?_
  refine wa_aload_n 2 dX0_copy_1 rfl rfl ?_
  refine wa_getI 5 0 dX0_copy_2 rfl wF_X0_23 rfl rfl k1 ?_
  refine wa_putN 8 0 dX0_copy_5 rfl wF_X0_23 rfl rfl k0 ?_
  refine wa_aload_n 9 dX0_copy_8 rfl rfl ?_
  refine wa_aload_n 10 dX0_copy_9 rfl rfl ?_
  refine wa_getI 13 1 dX0_copy_10 rfl wF_X0_27 rfl rfl k1 ?_
  refine wa_putN 16 1 dX0_copy_13 rfl wF_X0_27 rfl rfl k0 ?_
  refine wa_iconst 17 dX0_copy_16 rfl (by decide) ?_
  refine wa_istore_n 18 [(2, v0), (2, v1), (0, 0), (9, 0)] dX0_copy_17 rfl rfl rfl ?_
  exact h
set_option maxRecDepth 20000 in
theorem s_X0_copy_18 (hL : LayOK L) {v0 v1 v2 : Int} (k0 : isK L v0 (0, 0)) (k1 : isK L v1 (0, 0)) (h : (5 ≤ v2 → Q none L μ) ∧ (¬ 5 ≤ v2 → WA mX0_copy 0 (0, 0) 25 [(2, v0), (2, v1), (0, v2), (0, 0)] [] L μ Q)) : WA mX0_copy 0 (0, 0) 18 [(2, v0), (2, v1), (0, v2), (9, 0)] [] L μ Q := by
  refine wa_iload_n 19 dX0_copy_18 rfl rfl ?_
  refine wa_iconst 20 dX0_copy_19 rfl (by decide) ?_
  refine wa_icmp_ge 23 75 dX0_copy_20 rfl (by decide) (fun q => ?_) (fun q => ?_)
  · replace h := h.1 q
    exact wa_vret dX0_copy_75 rfl h
  · replace h := h.2 q
    refine wa_iconst 24 dX0_copy_23 rfl (by decide) ?_
    refine wa_istore_n 25 [(2, v0), (2, v1), (0, v2), (0, 0)] dX0_copy_24 rfl rfl rfl ?_
    exact h
set_option maxRecDepth 20000 in
theorem s_X0_copy_25 (hL : LayOK L) {v0 v1 v2 v3 : Int} (k0 : isK L v0 (0, 0)) (k1 : isK L v1 (0, 0)) (h : (16 ≤ v3 → (inI (v2 + 1)) ∧ WA mX0_copy 0 (0, 0) 18 [(2, v0), (2, v1), (0, (v2 + 1)), (9, 0)] [] L μ Q) ∧ (¬ 16 ≤ v3 → (0 ≤ v2 ∧ v2 < 5) ∧ (0 ≤ v3 ∧ v3 < 16) ∧ (inI (v3 + 1)) ∧ WA mX0_copy 0 (0, 0) 25 [(2, v0), (2, v1), (0, v2), (0, (v3 + 1))] [] L (up (up μ ((rf L ((rf L v0 2)) v2)) v3 ((μ ((rf L ((rf L v1 2)) v2)) v3))) ((rf L ((rf L v0 3)) v2)) v3 (((up μ ((rf L ((rf L v0 2)) v2)) v3 ((μ ((rf L ((rf L v1 2)) v2)) v3))) ((rf L ((rf L v1 3)) v2)) v3))) Q)) : WA mX0_copy 0 (0, 0) 25 [(2, v0), (2, v1), (0, v2), (0, v3)] [] L μ Q := by
  refine wa_iload_n 26 dX0_copy_25 rfl rfl ?_
  refine wa_bipush 28 dX0_copy_26 rfl ⟨by decide, by decide⟩ ?_
  refine wa_icmp_ge 31 69 dX0_copy_28 rfl (by decide) (fun q => ?_) (fun q => ?_)
  · replace h := h.1 q
    obtain ⟨c1, h⟩ := h
    refine wa_iinc 72 [(2, v0), (2, v1), (0, (v2 + 1)), (0, v3)] dX0_copy_69 rfl rfl rfl c1 rfl ?_
    refine wa_goto 18 dX0_copy_72 (by decide) ?_
    exact wa_weak [(2, v0), (2, v1), (0, (v2 + 1)), (9, 0)] ⟨Or.inl rfl, Or.inl rfl, Or.inl rfl, Or.inr rfl, trivial⟩ h
  · replace h := h.2 q
    refine wa_aload_n 32 dX0_copy_31 rfl rfl ?_
    have e2 : isK L (rf L v0 2) (23, 5) := lay_f hL k0 2 rfl
    refine wa_getR 35 2 dX0_copy_32 rfl wF_X0_11 rfl rfl ⟨k0, isK_pos e2⟩ ?_
    refine wa_iload_n 36 dX0_copy_35 rfl rfl ?_
    obtain ⟨c3, h⟩ := h
    have e4 : isK L (rf L ((rf L v0 2)) v2) (20, 16) := lay_e hL k0 2 rfl c3
    refine wa_aaload 37 23 dX0_copy_36 rfl ⟨by decide, by decide⟩ ⟨okA_of e2 c3, isK_pos e4⟩ ?_
    refine wa_iload_n 38 dX0_copy_37 rfl rfl ?_
    refine wa_aload_n 39 dX0_copy_38 rfl rfl ?_
    have e5 : isK L (rf L v1 2) (23, 5) := lay_f hL k1 2 rfl
    refine wa_getR 42 2 dX0_copy_39 rfl wF_X0_11 rfl rfl ⟨k1, isK_pos e5⟩ ?_
    refine wa_iload_n 43 dX0_copy_42 rfl rfl ?_
    have e6 : isK L (rf L ((rf L v1 2)) v2) (20, 16) := lay_e hL k1 2 rfl c3
    refine wa_aaload 44 23 dX0_copy_43 rfl ⟨by decide, by decide⟩ ⟨okA_of e5 c3, isK_pos e6⟩ ?_
    refine wa_iload_n 45 dX0_copy_44 rfl rfl ?_
    obtain ⟨c7, h⟩ := h
    refine wa_iaload 46 dX0_copy_45 rfl (okA_of e6 c7) ?_
    refine wa_iastore 47 dX0_copy_46 rfl (okA_of e4 c7) ?_
    refine wa_aload_n 48 dX0_copy_47 rfl rfl ?_
    have e8 : isK L (rf L v0 3) (23, 5) := lay_f hL k0 3 rfl
    refine wa_getR 51 3 dX0_copy_48 rfl wF_X0_16 rfl rfl ⟨k0, isK_pos e8⟩ ?_
    refine wa_iload_n 52 dX0_copy_51 rfl rfl ?_
    have e9 : isK L (rf L ((rf L v0 3)) v2) (20, 16) := lay_e hL k0 3 rfl c3
    refine wa_aaload 53 23 dX0_copy_52 rfl ⟨by decide, by decide⟩ ⟨okA_of e8 c3, isK_pos e9⟩ ?_
    refine wa_iload_n 54 dX0_copy_53 rfl rfl ?_
    refine wa_aload_n 55 dX0_copy_54 rfl rfl ?_
    have e10 : isK L (rf L v1 3) (23, 5) := lay_f hL k1 3 rfl
    refine wa_getR 58 3 dX0_copy_55 rfl wF_X0_16 rfl rfl ⟨k1, isK_pos e10⟩ ?_
    refine wa_iload_n 59 dX0_copy_58 rfl rfl ?_
    have e11 : isK L (rf L ((rf L v1 3)) v2) (20, 16) := lay_e hL k1 3 rfl c3
    refine wa_aaload 60 23 dX0_copy_59 rfl ⟨by decide, by decide⟩ ⟨okA_of e10 c3, isK_pos e11⟩ ?_
    refine wa_iload_n 61 dX0_copy_60 rfl rfl ?_
    refine wa_iaload 62 dX0_copy_61 rfl (okA_of e11 c7) ?_
    refine wa_iastore 63 dX0_copy_62 rfl (okA_of e9 c7) ?_
    obtain ⟨c12, h⟩ := h
    refine wa_iinc 66 [(2, v0), (2, v1), (0, v2), (0, (v3 + 1))] dX0_copy_63 rfl rfl rfl c12 rfl ?_
    refine wa_goto 25 dX0_copy_66 (by decide) ?_
    exact h
set_option maxRecDepth 20000 in
theorem t_X0_excess (hL : LayOK L) {v0 v1 v2 v4 : Int} (k0 : isK L v0 (0, 0)) (k1 : isK L v1 (20, 16)) (h : TR mX0_upTo 1 (0, 0) [(2, v0), (2, v1), (1, v4), (1, 5040)] L μ (fun r1 L2 μ3 => ∃ w4, r1 = some (1, w4) ∧ L = L2 ∧ TR mX0_upTo 1 (0, 0) [(2, v0), (2, v1), (1, v2), (1, 5040)] L μ3 (fun r5 L6 μ7 => ∃ w8, r5 = some (1, w8) ∧ L = L6 ∧ (inL (w4 - w8)) ∧ (inL (2 * (w4 - w8))) ∧ TR mX0_total 0 (0, 0) [(2, v0), (2, v1)] L μ7 (fun r11 L12 μ13 => ∃ w14, r11 = some (0, w14) ∧ L = L12 ∧ (inL (w14 * 5040)) ∧ (inL ((2 * (w4 - w8)) - (w14 * 5040))) ∧ Q (some (1, ((2 * (w4 - w8)) - (w14 * 5040)))) L μ13)))) : TR mX0_excess 2 (0, 0) [(2, v0), (2, v1), (1, v2), (1, v4)] L μ Q := by
  refine TR.of (ls := [(2, v0), (2, v1), (1, v2), (9, 0), (1, v4), (9, 0)]) (by decide) (by simp) rfl (Nat.le_of_ble_eq_true rfl) ?_
  refine wa_ldc2 3 2 dX0_excess_0 rfl wJ_X0_53 ⟨rfl, by decide⟩ ?_
  refine wa_aload_n 4 dX0_excess_3 rfl rfl ?_
  refine wa_aload_n 5 dX0_excess_4 rfl rfl ?_
  refine wa_lload 7 dX0_excess_5 rfl rfl ?_
  refine wa_ldc2 10 5040 dX0_excess_7 rfl wJ_X0_55 ⟨rfl, by decide⟩ ?_
  refine wa_callV 13 1 3 0 (av := [(2, v1), (1, v4), (1, 5040)]) (rest := [(1, 2)]) (k1 := (0, 0)) (k2 := (0, 0)) cvX0_upTo dX0_excess_10 rfl wM_X0_42 ⟨rfl, by decide, rfl, Nat.le_of_ble_eq_true rfl, by decide, Nat.le_of_ble_eq_true rfl, rfl, rfl⟩ rfl k0 (TR.mono h (fun r1 L2 μ3 h => ?_))
  obtain ⟨w4, rfl, rfl, h⟩ := h
  show WA mX0_excess 2 (0, 0) 13 [(2, v0), (2, v1), (1, v2), (9, 0), (1, v4), (9, 0)] [(1, w4), (1, 2)] L μ3 Q
  refine wa_aload_n 14 dX0_excess_13 rfl rfl ?_
  refine wa_aload_n 15 dX0_excess_14 rfl rfl ?_
  refine wa_lload_n 16 dX0_excess_15 rfl rfl ?_
  refine wa_ldc2 19 5040 dX0_excess_16 rfl wJ_X0_55 ⟨rfl, by decide⟩ ?_
  refine wa_callV 22 1 3 0 (av := [(2, v1), (1, v2), (1, 5040)]) (rest := [(1, w4), (1, 2)]) (k1 := (0, 0)) (k2 := (0, 0)) cvX0_upTo dX0_excess_19 rfl wM_X0_42 ⟨rfl, by decide, rfl, Nat.le_of_ble_eq_true rfl, by decide, Nat.le_of_ble_eq_true rfl, rfl, rfl⟩ rfl k0 (TR.mono h (fun r5 L6 μ7 h => ?_))
  obtain ⟨w8, rfl, rfl, h⟩ := h
  show WA mX0_excess 2 (0, 0) 22 [(2, v0), (2, v1), (1, v2), (9, 0), (1, v4), (9, 0)] [(1, w8), (1, w4), (1, 2)] L μ7 Q
  obtain ⟨c9, h⟩ := h
  refine wa_lsub 23 dX0_excess_22 rfl c9 ?_
  obtain ⟨c10, h⟩ := h
  refine wa_lmul 24 dX0_excess_23 rfl c10 ?_
  refine wa_aload_n 25 dX0_excess_24 rfl rfl ?_
  refine wa_aload_n 26 dX0_excess_25 rfl rfl ?_
  refine wa_callV 29 0 1 0 (av := [(2, v1)]) (rest := [(1, (2 * (w4 - w8)))]) (k1 := (0, 0)) (k2 := (0, 0)) cvX0_total dX0_excess_26 rfl wM_X0_57 ⟨rfl, by decide, rfl, Nat.le_of_ble_eq_true rfl, by decide, Nat.le_of_ble_eq_true rfl, rfl, rfl⟩ rfl k0 (TR.mono h (fun r11 L12 μ13 h => ?_))
  obtain ⟨w14, rfl, rfl, h⟩ := h
  show WA mX0_excess 2 (0, 0) 29 [(2, v0), (2, v1), (1, v2), (9, 0), (1, v4), (9, 0)] [(0, w14), (1, (2 * (w4 - w8)))] L μ13 Q
  refine wa_i2l 30 dX0_excess_29 rfl ?_
  refine wa_ldc2 33 5040 dX0_excess_30 rfl wJ_X0_55 ⟨rfl, by decide⟩ ?_
  obtain ⟨c15, h⟩ := h
  refine wa_lmul 34 dX0_excess_33 rfl c15 ?_
  obtain ⟨c16, h⟩ := h
  refine wa_lsub 35 dX0_excess_34 rfl c16 ?_
  exact wa_lret dX0_excess_35 rfl h
set_option maxRecDepth 20000 in
theorem t_X0_halfForBoth (hL : LayOK L) {v0 v1 v2 v3 : Int} (k0 : isK L v0 (0, 0)) (k1 : isK L v1 (7, 0)) (k2 : isK L v2 (20, 16)) (k3 : isK L v3 (20, 16)) (h : TR mX0_hasNoZero 0 (0, 0) [(2, v0), (2, v2)] L μ (fun r1 L2 μ3 => ∃ w4, r1 = some (0, w4) ∧ L = L2 ∧ (w4 = 0 → Q (some (0, 0)) L μ3) ∧ (¬ w4 = 0 → TR mX0_hasNoZero 0 (0, 0) [(2, v0), (2, v3)] L μ3 (fun r5 L6 μ7 => ∃ w8, r5 = some (0, w8) ∧ L = L6 ∧ (w8 = 0 → Q (some (0, 0)) L μ7) ∧ (¬ w8 = 0 → TR mX0_total 0 (0, 0) [(2, v0), (2, v2)] L μ7 (fun r10 L11 μ12 => ∃ w13, r10 = some (0, w13) ∧ L = L11 ∧ (inL (w13 * 5040)) ∧ TR mX0_reach 2 (0, 0) [(2, v0), (2, (rf L v1 1)), (2, v2), (1, 0), (1, 5040), (1, (w13 * 5040)), (1, 2)] L μ12 (fun r15 L16 μ17 => ∃ w18, r15 = some (0, w18) ∧ L = L16 ∧ (¬ w18 = 0 → TR mX3_parts 0 (0, 0) [(2, (rf L v1 1)), (1, 5040)] L μ17 (fun r19 L20 μ21 => ∃ w22, r19 = some (1, w22) ∧ L = L20 ∧ TR mX0_excess 2 (0, 0) [(2, v0), (2, v3), (1, 0), (1, w22)] L μ21 (fun r23 L24 μ25 => ∃ w26, r23 = some (1, w26) ∧ L = L24 ∧ WA mX0_halfForBoth 3 (0, 0) 76 [(2, v0), (2, v1), (2, v2), (2, v3), (1, 0), (9, 0), (1, w22), (9, 0), (1, w26), (9, 0), (0, 0), (9, 0), (9, 0), (9, 0), (9, 0), (9, 0), (9, 0), (9, 0), (9, 0), (9, 0), (9, 0), (9, 0), (9, 0)] [] L μ25 Q))) ∧ (w18 = 0 → Q (some (0, 0)) L μ17)))))))) : TR mX0_halfForBoth 3 (0, 0) [(2, v0), (2, v1), (2, v2), (2, v3)] L μ Q := by
  refine TR.of (ls := [(2, v0), (2, v1), (2, v2), (2, v3), (9, 0), (9, 0), (9, 0), (9, 0), (9, 0), (9, 0), (9, 0), (9, 0), (9, 0), (9, 0), (9, 0), (9, 0), (9, 0), (9, 0), (9, 0), (9, 0), (9, 0), (9, 0), (9, 0)]) (by decide) (by simp) rfl (Nat.le_of_ble_eq_true rfl) ?_
  refine wa_aload_n 1 dX0_halfForBoth_0 rfl rfl ?_
  refine wa_aload_n 2 dX0_halfForBoth_1 rfl rfl ?_
  refine wa_callV 5 0 1 0 (av := [(2, v2)]) (rest := []) (k1 := (0, 0)) (k2 := (0, 0)) cvX0_hasNoZero dX0_halfForBoth_2 rfl wM_X0_61 ⟨rfl, by decide, rfl, Nat.le_of_ble_eq_true rfl, by decide, Nat.le_of_ble_eq_true rfl, rfl, rfl⟩ rfl k0 (TR.mono h (fun r1 L2 μ3 h => ?_))
  obtain ⟨w4, rfl, rfl, h⟩ := h
  show WA mX0_halfForBoth 3 (0, 0) 5 [(2, v0), (2, v1), (2, v2), (2, v3), (9, 0), (9, 0), (9, 0), (9, 0), (9, 0), (9, 0), (9, 0), (9, 0), (9, 0), (9, 0), (9, 0), (9, 0), (9, 0), (9, 0), (9, 0), (9, 0), (9, 0), (9, 0), (9, 0)] [(0, w4)] L μ3 Q
  refine wa_if_eq 8 45 dX0_halfForBoth_5 rfl (by decide) (fun q => ?_) (fun q => ?_)
  · replace h := h.1 q
    refine wa_iconst 46 dX0_halfForBoth_45 rfl (by decide) ?_
    exact wa_zret dX0_halfForBoth_46 rfl (Or.inl rfl) h
  · replace h := h.2 q
    refine wa_aload_n 9 dX0_halfForBoth_8 rfl rfl ?_
    refine wa_aload_n 10 dX0_halfForBoth_9 rfl rfl ?_
    refine wa_callV 13 0 1 0 (av := [(2, v3)]) (rest := []) (k1 := (0, 0)) (k2 := (0, 0)) cvX0_hasNoZero dX0_halfForBoth_10 rfl wM_X0_61 ⟨rfl, by decide, rfl, Nat.le_of_ble_eq_true rfl, by decide, Nat.le_of_ble_eq_true rfl, rfl, rfl⟩ rfl k0 (TR.mono h (fun r5 L6 μ7 h => ?_))
    obtain ⟨w8, rfl, rfl, h⟩ := h
    show WA mX0_halfForBoth 3 (0, 0) 13 [(2, v0), (2, v1), (2, v2), (2, v3), (9, 0), (9, 0), (9, 0), (9, 0), (9, 0), (9, 0), (9, 0), (9, 0), (9, 0), (9, 0), (9, 0), (9, 0), (9, 0), (9, 0), (9, 0), (9, 0), (9, 0), (9, 0), (9, 0)] [(0, w8)] L μ7 Q
    refine wa_if_eq 16 45 dX0_halfForBoth_13 rfl (by decide) (fun q => ?_) (fun q => ?_)
    · replace h := h.1 q
      refine wa_iconst 46 dX0_halfForBoth_45 rfl (by decide) ?_
      exact wa_zret dX0_halfForBoth_46 rfl (Or.inl rfl) h
    · replace h := h.2 q
      refine wa_aload_n 17 dX0_halfForBoth_16 rfl rfl ?_
      refine wa_aload_n 18 dX0_halfForBoth_17 rfl rfl ?_
      have e9 : isK L (rf L v1 1) (3, 0) := lay_f hL k1 1 rfl
      refine wa_getR 21 1 dX0_halfForBoth_18 rfl wF_X0_65 rfl rfl ⟨k1, isK_pos e9⟩ ?_
      refine wa_aload_n 22 dX0_halfForBoth_21 rfl rfl ?_
      refine wa_lconst 23 0 dX0_halfForBoth_22 rfl ⟨rfl, by decide⟩ ?_
      refine wa_ldc2 26 5040 dX0_halfForBoth_23 rfl wJ_X0_55 ⟨rfl, by decide⟩ ?_
      refine wa_aload_n 27 dX0_halfForBoth_26 rfl rfl ?_
      refine wa_aload_n 28 dX0_halfForBoth_27 rfl rfl ?_
      refine wa_callV 31 0 1 0 (av := [(2, v2)]) (rest := [(1, 5040), (1, 0), (2, v2), (2, (rf L v1 1)), (2, v0)]) (k1 := (0, 0)) (k2 := (0, 0)) cvX0_total dX0_halfForBoth_28 rfl wM_X0_57 ⟨rfl, by decide, rfl, Nat.le_of_ble_eq_true rfl, by decide, Nat.le_of_ble_eq_true rfl, rfl, rfl⟩ rfl k0 (TR.mono h (fun r10 L11 μ12 h => ?_))
      obtain ⟨w13, rfl, rfl, h⟩ := h
      show WA mX0_halfForBoth 3 (0, 0) 31 [(2, v0), (2, v1), (2, v2), (2, v3), (9, 0), (9, 0), (9, 0), (9, 0), (9, 0), (9, 0), (9, 0), (9, 0), (9, 0), (9, 0), (9, 0), (9, 0), (9, 0), (9, 0), (9, 0), (9, 0), (9, 0), (9, 0), (9, 0)] [(0, w13), (1, 5040), (1, 0), (2, v2), (2, (rf L v1 1)), (2, v0)] L μ12 Q
      refine wa_i2l 32 dX0_halfForBoth_31 rfl ?_
      refine wa_ldc2 35 5040 dX0_halfForBoth_32 rfl wJ_X0_55 ⟨rfl, by decide⟩ ?_
      obtain ⟨c14, h⟩ := h
      refine wa_lmul 36 dX0_halfForBoth_35 rfl c14 ?_
      refine wa_ldc2 39 2 dX0_halfForBoth_36 rfl wJ_X0_53 ⟨rfl, by decide⟩ ?_
      refine wa_callV 42 2 6 0 (av := [(2, (rf L v1 1)), (2, v2), (1, 0), (1, 5040), (1, (w13 * 5040)), (1, 2)]) (rest := []) (k1 := (0, 0)) (k2 := (0, 0)) cvX0_reach dX0_halfForBoth_39 rfl wM_X0_71 ⟨rfl, by decide, rfl, Nat.le_of_ble_eq_true rfl, by decide, Nat.le_of_ble_eq_true rfl, rfl, rfl⟩ rfl k0 (TR.mono h (fun r15 L16 μ17 h => ?_))
      obtain ⟨w18, rfl, rfl, h⟩ := h
      show WA mX0_halfForBoth 3 (0, 0) 42 [(2, v0), (2, v1), (2, v2), (2, v3), (9, 0), (9, 0), (9, 0), (9, 0), (9, 0), (9, 0), (9, 0), (9, 0), (9, 0), (9, 0), (9, 0), (9, 0), (9, 0), (9, 0), (9, 0), (9, 0), (9, 0), (9, 0), (9, 0)] [(0, w18)] L μ17 Q
      refine wa_if_ne 45 47 dX0_halfForBoth_42 rfl (by decide) (fun q => ?_) (fun q => ?_)
      · replace h := h.1 q
        refine wa_lconst 48 0 dX0_halfForBoth_47 rfl ⟨rfl, by decide⟩ ?_
        refine wa_lstore 50 [(2, v0), (2, v1), (2, v2), (2, v3), (1, 0), (9, 0), (9, 0), (9, 0), (9, 0), (9, 0), (9, 0), (9, 0), (9, 0), (9, 0), (9, 0), (9, 0), (9, 0), (9, 0), (9, 0), (9, 0), (9, 0), (9, 0), (9, 0)] dX0_halfForBoth_48 rfl rfl rfl ?_
        refine wa_aload_n 51 dX0_halfForBoth_50 rfl rfl ?_
        refine wa_getR 54 1 dX0_halfForBoth_51 rfl wF_X0_65 rfl rfl ⟨k1, isK_pos e9⟩ ?_
        refine wa_ldc2 57 5040 dX0_halfForBoth_54 rfl wJ_X0_55 ⟨rfl, by decide⟩ ?_
        refine wa_callV 60 0 1 3 (av := [(1, 5040)]) (rest := []) (k1 := (0, 0)) (k2 := (0, 0)) cvX3_parts dX0_halfForBoth_57 rfl wM_X0_36 ⟨rfl, by decide, rfl, Nat.le_of_ble_eq_true rfl, by decide, Nat.le_of_ble_eq_true rfl, rfl, rfl⟩ rfl e9 (TR.mono h (fun r19 L20 μ21 h => ?_))
        obtain ⟨w22, rfl, rfl, h⟩ := h
        show WA mX0_halfForBoth 3 (0, 0) 60 [(2, v0), (2, v1), (2, v2), (2, v3), (1, 0), (9, 0), (9, 0), (9, 0), (9, 0), (9, 0), (9, 0), (9, 0), (9, 0), (9, 0), (9, 0), (9, 0), (9, 0), (9, 0), (9, 0), (9, 0), (9, 0), (9, 0), (9, 0)] [(1, w22)] L μ21 Q
        refine wa_lstore 62 [(2, v0), (2, v1), (2, v2), (2, v3), (1, 0), (9, 0), (1, w22), (9, 0), (9, 0), (9, 0), (9, 0), (9, 0), (9, 0), (9, 0), (9, 0), (9, 0), (9, 0), (9, 0), (9, 0), (9, 0), (9, 0), (9, 0), (9, 0)] dX0_halfForBoth_60 rfl rfl rfl ?_
        refine wa_aload_n 63 dX0_halfForBoth_62 rfl rfl ?_
        refine wa_aload_n 64 dX0_halfForBoth_63 rfl rfl ?_
        refine wa_lload 66 dX0_halfForBoth_64 rfl rfl ?_
        refine wa_lload 68 dX0_halfForBoth_66 rfl rfl ?_
        refine wa_callV 71 2 3 0 (av := [(2, v3), (1, 0), (1, w22)]) (rest := []) (k1 := (0, 0)) (k2 := (0, 0)) cvX0_excess dX0_halfForBoth_68 rfl wM_X0_75 ⟨rfl, by decide, rfl, Nat.le_of_ble_eq_true rfl, by decide, Nat.le_of_ble_eq_true rfl, rfl, rfl⟩ rfl k0 (TR.mono h (fun r23 L24 μ25 h => ?_))
        obtain ⟨w26, rfl, rfl, h⟩ := h
        show WA mX0_halfForBoth 3 (0, 0) 71 [(2, v0), (2, v1), (2, v2), (2, v3), (1, 0), (9, 0), (1, w22), (9, 0), (9, 0), (9, 0), (9, 0), (9, 0), (9, 0), (9, 0), (9, 0), (9, 0), (9, 0), (9, 0), (9, 0), (9, 0), (9, 0), (9, 0), (9, 0)] [(1, w26)] L μ25 Q
        refine wa_lstore 73 [(2, v0), (2, v1), (2, v2), (2, v3), (1, 0), (9, 0), (1, w22), (9, 0), (1, w26), (9, 0), (9, 0), (9, 0), (9, 0), (9, 0), (9, 0), (9, 0), (9, 0), (9, 0), (9, 0), (9, 0), (9, 0), (9, 0), (9, 0)] dX0_halfForBoth_71 rfl rfl rfl ?_
        refine wa_iconst 74 dX0_halfForBoth_73 rfl (by decide) ?_
        refine wa_istore 76 [(2, v0), (2, v1), (2, v2), (2, v3), (1, 0), (9, 0), (1, w22), (9, 0), (1, w26), (9, 0), (0, 0), (9, 0), (9, 0), (9, 0), (9, 0), (9, 0), (9, 0), (9, 0), (9, 0), (9, 0), (9, 0), (9, 0), (9, 0)] dX0_halfForBoth_74 rfl rfl rfl ?_
        exact h
      · replace h := h.2 q
        refine wa_iconst 46 dX0_halfForBoth_45 rfl (by decide) ?_
        exact wa_zret dX0_halfForBoth_46 rfl (Or.inl rfl) h
set_option maxRecDepth 20000 in
theorem s_X0_halfForBoth_76 (hL : LayOK L) {v0 v1 v2 v3 v4 v6 v8 v10 : Int} (k0 : isK L v0 (0, 0)) (k1 : isK L v1 (7, 0)) (k2 : isK L v2 (20, 16)) (k3 : isK L v3 (20, 16)) (h : (48 ≤ v10 → WA mX0_halfForBoth 3 (0, 0) 344 [(9, 0), (2, v1), (9, 0), (9, 0), (1, v4), (9, 0), (1, v6), (9, 0), (1, v8), (9, 0), (9, 0), (9, 0), (9, 0), (9, 0), (9, 0), (9, 0), (9, 0), (9, 0), (9, 0), (9, 0), (9, 0), (9, 0), (9, 0)] [] L μ Q) ∧ (¬ 48 ≤ v10 → (0 ≤ v4) ∧ (inI ((v4 / 5040))) ∧ (0 ≤ v6) ∧ (inI ((v6 / 5040))) ∧ (v8 = 0 → WA mX0_halfForBoth 3 (0, 0) 344 [(9, 0), (2, v1), (9, 0), (9, 0), (1, v4), (9, 0), (1, v6), (9, 0), (1, v8), (9, 0), (9, 0), (9, 0), (9, 0), (9, 0), (9, 0), (9, 0), (9, 0), (9, 0), (9, 0), (9, 0), (9, 0), (9, 0), (9, 0)] [] L μ Q) ∧ (¬ v8 = 0 → TR mX0_hasStrip 0 (0, 0) [(2, v0), (0, (v4 / 5040))] L μ (fun r5 L6 μ7 => ∃ w8, r5 = some (0, w8) ∧ L = L6 ∧ (w8 = 0 → WA mX0_halfForBoth 3 (0, 0) 344 [(9, 0), (2, v1), (9, 0), (9, 0), (1, v4), (9, 0), (1, v6), (9, 0), (1, v8), (9, 0), (9, 0), (9, 0), (9, 0), (9, 0), (9, 0), (9, 0), (9, 0), (9, 0), (9, 0), (9, 0), (9, 0), (9, 0), (9, 0)] [] L μ7 Q) ∧ (¬ w8 = 0 → TR mX0_hasStrip 0 (0, 0) [(2, v0), (0, (v6 / 5040))] L μ7 (fun r9 L10 μ11 => ∃ w12, r9 = some (0, w12) ∧ L = L10 ∧ (¬ w12 = 0 → (inI ((v4 / 5040) + 1)) ∧ (inL (((v4 / 5040) + 1) * 5040)) ∧ (inL ((((v4 / 5040) + 1) * 5040) - v4)) ∧ (inI ((v6 / 5040) + 1)) ∧ (inL (((v6 / 5040) + 1) * 5040)) ∧ (inL ((((v6 / 5040) + 1) * 5040) - v6)) ∧ (0 ≤ (v4 / 5040) ∧ (v4 / 5040) < 16) ∧ (inL (((((v4 / 5040) + 1) * 5040) - v4) * (μ11 v2 ((v4 / 5040))))) ∧ (0 ≤ (v6 / 5040) ∧ (v6 / 5040) < 16) ∧ (inL (((((v6 / 5040) + 1) * 5040) - v6) * (μ11 v2 ((v6 / 5040))))) ∧ ((((((v4 / 5040) + 1) * 5040) - v4) * (μ11 v2 ((v4 / 5040)))) ≤ (((((v6 / 5040) + 1) * 5040) - v6) * (μ11 v2 ((v6 / 5040)))) → (0 ≤ (((((v4 / 5040) + 1) * 5040) - v4) * (μ11 v2 ((v4 / 5040)))) ∧ 0 < (μ11 v2 ((v6 / 5040)))) ∧ WA mX0_halfForBoth 3 (0, 0) 212 [(2, v0), (2, v1), (2, v2), (2, v3), (1, v4), (9, 0), (1, v6), (9, 0), (1, v8), (9, 0), (0, v10), (9, 0), (9, 0), (1, ((((v4 / 5040) + 1) * 5040) - v4)), (9, 0), (1, ((((((v4 / 5040) + 1) * 5040) - v4) * (μ11 v2 ((v4 / 5040)))) / (μ11 v2 ((v6 / 5040))))), (9, 0), (9, 0), (9, 0), (9, 0), (9, 0), (9, 0), (9, 0)] [] L μ11 Q) ∧ (¬ (((((v4 / 5040) + 1) * 5040) - v4) * (μ11 v2 ((v4 / 5040)))) ≤ (((((v6 / 5040) + 1) * 5040) - v6) * (μ11 v2 ((v6 / 5040)))) → (0 ≤ (((((v6 / 5040) + 1) * 5040) - v6) * (μ11 v2 ((v6 / 5040)))) ∧ 0 < (μ11 v2 ((v4 / 5040)))) ∧ WA mX0_halfForBoth 3 (0, 0) 212 [(2, v0), (2, v1), (2, v2), (2, v3), (1, v4), (9, 0), (1, v6), (9, 0), (1, v8), (9, 0), (0, v10), (9, 0), (9, 0), (1, ((((((v6 / 5040) + 1) * 5040) - v6) * (μ11 v2 ((v6 / 5040)))) / (μ11 v2 ((v4 / 5040))))), (9, 0), (1, ((((v6 / 5040) + 1) * 5040) - v6)), (9, 0), (9, 0), (9, 0), (9, 0), (9, 0), (9, 0), (9, 0)] [] L μ11 Q)) ∧ (w12 = 0 → WA mX0_halfForBoth 3 (0, 0) 344 [(9, 0), (2, v1), (9, 0), (9, 0), (1, v4), (9, 0), (1, v6), (9, 0), (1, v8), (9, 0), (9, 0), (9, 0), (9, 0), (9, 0), (9, 0), (9, 0), (9, 0), (9, 0), (9, 0), (9, 0), (9, 0), (9, 0), (9, 0)] [] L μ11 Q))))))) : WA mX0_halfForBoth 3 (0, 0) 76 [(2, v0), (2, v1), (2, v2), (2, v3), (1, v4), (9, 0), (1, v6), (9, 0), (1, v8), (9, 0), (0, v10), (9, 0), (9, 0), (9, 0), (9, 0), (9, 0), (9, 0), (9, 0), (9, 0), (9, 0), (9, 0), (9, 0), (9, 0)] [] L μ Q := by
  refine wa_iload 78 dX0_halfForBoth_76 rfl rfl ?_
  refine wa_bipush 80 dX0_halfForBoth_78 rfl ⟨by decide, by decide⟩ ?_
  refine wa_icmp_ge 83 344 dX0_halfForBoth_80 rfl (by decide) (fun q => ?_) (fun q => ?_)
  · replace h := h.1 q
    exact wa_weak [(9, 0), (2, v1), (9, 0), (9, 0), (1, v4), (9, 0), (1, v6), (9, 0), (1, v8), (9, 0), (9, 0), (9, 0), (9, 0), (9, 0), (9, 0), (9, 0), (9, 0), (9, 0), (9, 0), (9, 0), (9, 0), (9, 0), (9, 0)] ⟨Or.inr rfl, Or.inl rfl, Or.inr rfl, Or.inr rfl, Or.inl rfl, Or.inl rfl, Or.inl rfl, Or.inl rfl, Or.inl rfl, Or.inl rfl, Or.inr rfl, Or.inl rfl, Or.inl rfl, Or.inl rfl, Or.inl rfl, Or.inl rfl, Or.inl rfl, Or.inl rfl, Or.inl rfl, Or.inl rfl, Or.inl rfl, Or.inl rfl, Or.inl rfl, trivial⟩ h
  · replace h := h.2 q
    refine wa_lload 85 dX0_halfForBoth_83 rfl rfl ?_
    refine wa_ldc2 88 5040 dX0_halfForBoth_85 rfl wJ_X0_55 ⟨rfl, by decide⟩ ?_
    obtain ⟨c1, h⟩ := h
    refine wa_ldivE 89 dX0_halfForBoth_88 rfl ⟨c1, by decide⟩ ?_
    obtain ⟨c2, h⟩ := h
    refine wa_l2i 90 dX0_halfForBoth_89 rfl c2 ?_
    refine wa_istore 92 [(2, v0), (2, v1), (2, v2), (2, v3), (1, v4), (9, 0), (1, v6), (9, 0), (1, v8), (9, 0), (0, v10), (0, (v4 / 5040)), (9, 0), (9, 0), (9, 0), (9, 0), (9, 0), (9, 0), (9, 0), (9, 0), (9, 0), (9, 0), (9, 0)] dX0_halfForBoth_90 rfl rfl rfl ?_
    refine wa_lload 94 dX0_halfForBoth_92 rfl rfl ?_
    refine wa_ldc2 97 5040 dX0_halfForBoth_94 rfl wJ_X0_55 ⟨rfl, by decide⟩ ?_
    obtain ⟨c3, h⟩ := h
    refine wa_ldivE 98 dX0_halfForBoth_97 rfl ⟨c3, by decide⟩ ?_
    obtain ⟨c4, h⟩ := h
    refine wa_l2i 99 dX0_halfForBoth_98 rfl c4 ?_
    refine wa_istore 101 [(2, v0), (2, v1), (2, v2), (2, v3), (1, v4), (9, 0), (1, v6), (9, 0), (1, v8), (9, 0), (0, v10), (0, (v4 / 5040)), (0, (v6 / 5040)), (9, 0), (9, 0), (9, 0), (9, 0), (9, 0), (9, 0), (9, 0), (9, 0), (9, 0), (9, 0)] dX0_halfForBoth_99 rfl rfl rfl ?_
    refine wa_lload 103 dX0_halfForBoth_101 rfl rfl ?_
    refine wa_lconst 104 0 dX0_halfForBoth_103 rfl ⟨rfl, by decide⟩ ?_
    refine wa_lc_eq 108 344 dX0_halfForBoth_104 dX0_halfForBoth_105 rfl (by decide) (fun q => ?_) (fun q => ?_)
    · replace h := h.1 q
      exact wa_weak [(9, 0), (2, v1), (9, 0), (9, 0), (1, v4), (9, 0), (1, v6), (9, 0), (1, v8), (9, 0), (9, 0), (9, 0), (9, 0), (9, 0), (9, 0), (9, 0), (9, 0), (9, 0), (9, 0), (9, 0), (9, 0), (9, 0), (9, 0)] ⟨Or.inr rfl, Or.inl rfl, Or.inr rfl, Or.inr rfl, Or.inl rfl, Or.inl rfl, Or.inl rfl, Or.inl rfl, Or.inl rfl, Or.inl rfl, Or.inr rfl, Or.inr rfl, Or.inr rfl, Or.inl rfl, Or.inl rfl, Or.inl rfl, Or.inl rfl, Or.inl rfl, Or.inl rfl, Or.inl rfl, Or.inl rfl, Or.inl rfl, Or.inl rfl, trivial⟩ h
    · replace h := h.2 q
      refine wa_aload_n 109 dX0_halfForBoth_108 rfl rfl ?_
      refine wa_iload 111 dX0_halfForBoth_109 rfl rfl ?_
      refine wa_callV 114 0 1 0 (av := [(0, (v4 / 5040))]) (rest := []) (k1 := (0, 0)) (k2 := (0, 0)) cvX0_hasStrip dX0_halfForBoth_111 rfl wM_X0_78 ⟨rfl, by decide, rfl, Nat.le_of_ble_eq_true rfl, by decide, Nat.le_of_ble_eq_true rfl, rfl, rfl⟩ rfl k0 (TR.mono h (fun r5 L6 μ7 h => ?_))
      obtain ⟨w8, rfl, rfl, h⟩ := h
      show WA mX0_halfForBoth 3 (0, 0) 114 [(2, v0), (2, v1), (2, v2), (2, v3), (1, v4), (9, 0), (1, v6), (9, 0), (1, v8), (9, 0), (0, v10), (0, (v4 / 5040)), (0, (v6 / 5040)), (9, 0), (9, 0), (9, 0), (9, 0), (9, 0), (9, 0), (9, 0), (9, 0), (9, 0), (9, 0)] [(0, w8)] L μ7 Q
      refine wa_if_eq 117 344 dX0_halfForBoth_114 rfl (by decide) (fun q => ?_) (fun q => ?_)
      · replace h := h.1 q
        exact wa_weak [(9, 0), (2, v1), (9, 0), (9, 0), (1, v4), (9, 0), (1, v6), (9, 0), (1, v8), (9, 0), (9, 0), (9, 0), (9, 0), (9, 0), (9, 0), (9, 0), (9, 0), (9, 0), (9, 0), (9, 0), (9, 0), (9, 0), (9, 0)] ⟨Or.inr rfl, Or.inl rfl, Or.inr rfl, Or.inr rfl, Or.inl rfl, Or.inl rfl, Or.inl rfl, Or.inl rfl, Or.inl rfl, Or.inl rfl, Or.inr rfl, Or.inr rfl, Or.inr rfl, Or.inl rfl, Or.inl rfl, Or.inl rfl, Or.inl rfl, Or.inl rfl, Or.inl rfl, Or.inl rfl, Or.inl rfl, Or.inl rfl, Or.inl rfl, trivial⟩ h
      · replace h := h.2 q
        refine wa_aload_n 118 dX0_halfForBoth_117 rfl rfl ?_
        refine wa_iload 120 dX0_halfForBoth_118 rfl rfl ?_
        refine wa_callV 123 0 1 0 (av := [(0, (v6 / 5040))]) (rest := []) (k1 := (0, 0)) (k2 := (0, 0)) cvX0_hasStrip dX0_halfForBoth_120 rfl wM_X0_78 ⟨rfl, by decide, rfl, Nat.le_of_ble_eq_true rfl, by decide, Nat.le_of_ble_eq_true rfl, rfl, rfl⟩ rfl k0 (TR.mono h (fun r9 L10 μ11 h => ?_))
        obtain ⟨w12, rfl, rfl, h⟩ := h
        show WA mX0_halfForBoth 3 (0, 0) 123 [(2, v0), (2, v1), (2, v2), (2, v3), (1, v4), (9, 0), (1, v6), (9, 0), (1, v8), (9, 0), (0, v10), (0, (v4 / 5040)), (0, (v6 / 5040)), (9, 0), (9, 0), (9, 0), (9, 0), (9, 0), (9, 0), (9, 0), (9, 0), (9, 0), (9, 0)] [(0, w12)] L μ11 Q
        refine wa_if_ne 126 129 dX0_halfForBoth_123 rfl (by decide) (fun q => ?_) (fun q => ?_)
        · replace h := h.1 q
          refine wa_iload 131 dX0_halfForBoth_129 rfl rfl ?_
          refine wa_iconst 132 dX0_halfForBoth_131 rfl (by decide) ?_
          obtain ⟨c13, h⟩ := h
          refine wa_iadd 133 dX0_halfForBoth_132 rfl c13 ?_
          refine wa_i2l 134 dX0_halfForBoth_133 rfl ?_
          refine wa_ldc2 137 5040 dX0_halfForBoth_134 rfl wJ_X0_55 ⟨rfl, by decide⟩ ?_
          obtain ⟨c14, h⟩ := h
          refine wa_lmul 138 dX0_halfForBoth_137 rfl c14 ?_
          refine wa_lload 140 dX0_halfForBoth_138 rfl rfl ?_
          obtain ⟨c15, h⟩ := h
          refine wa_lsub 141 dX0_halfForBoth_140 rfl c15 ?_
          refine wa_lstore 143 [(2, v0), (2, v1), (2, v2), (2, v3), (1, v4), (9, 0), (1, v6), (9, 0), (1, v8), (9, 0), (0, v10), (0, (v4 / 5040)), (0, (v6 / 5040)), (1, ((((v4 / 5040) + 1) * 5040) - v4)), (9, 0), (9, 0), (9, 0), (9, 0), (9, 0), (9, 0), (9, 0), (9, 0), (9, 0)] dX0_halfForBoth_141 rfl rfl rfl ?_
          refine wa_iload 145 dX0_halfForBoth_143 rfl rfl ?_
          refine wa_iconst 146 dX0_halfForBoth_145 rfl (by decide) ?_
          obtain ⟨c16, h⟩ := h
          refine wa_iadd 147 dX0_halfForBoth_146 rfl c16 ?_
          refine wa_i2l 148 dX0_halfForBoth_147 rfl ?_
          refine wa_ldc2 151 5040 dX0_halfForBoth_148 rfl wJ_X0_55 ⟨rfl, by decide⟩ ?_
          obtain ⟨c17, h⟩ := h
          refine wa_lmul 152 dX0_halfForBoth_151 rfl c17 ?_
          refine wa_lload 154 dX0_halfForBoth_152 rfl rfl ?_
          obtain ⟨c18, h⟩ := h
          refine wa_lsub 155 dX0_halfForBoth_154 rfl c18 ?_
          refine wa_lstore 157 [(2, v0), (2, v1), (2, v2), (2, v3), (1, v4), (9, 0), (1, v6), (9, 0), (1, v8), (9, 0), (0, v10), (0, (v4 / 5040)), (0, (v6 / 5040)), (1, ((((v4 / 5040) + 1) * 5040) - v4)), (9, 0), (1, ((((v6 / 5040) + 1) * 5040) - v6)), (9, 0), (9, 0), (9, 0), (9, 0), (9, 0), (9, 0), (9, 0)] dX0_halfForBoth_155 rfl rfl rfl ?_
          refine wa_lload 159 dX0_halfForBoth_157 rfl rfl ?_
          refine wa_aload_n 160 dX0_halfForBoth_159 rfl rfl ?_
          refine wa_iload 162 dX0_halfForBoth_160 rfl rfl ?_
          obtain ⟨c19, h⟩ := h
          refine wa_iaload 163 dX0_halfForBoth_162 rfl (okA_of k2 c19) ?_
          refine wa_i2l 164 dX0_halfForBoth_163 rfl ?_
          obtain ⟨c20, h⟩ := h
          refine wa_lmul 165 dX0_halfForBoth_164 rfl c20 ?_
          refine wa_lload 167 dX0_halfForBoth_165 rfl rfl ?_
          refine wa_aload_n 168 dX0_halfForBoth_167 rfl rfl ?_
          refine wa_iload 170 dX0_halfForBoth_168 rfl rfl ?_
          obtain ⟨c21, h⟩ := h
          refine wa_iaload 171 dX0_halfForBoth_170 rfl (okA_of k2 c21) ?_
          refine wa_i2l 172 dX0_halfForBoth_171 rfl ?_
          obtain ⟨c22, h⟩ := h
          refine wa_lmul 173 dX0_halfForBoth_172 rfl c22 ?_
          refine wa_lc_le 177 196 dX0_halfForBoth_173 dX0_halfForBoth_174 rfl (by decide) (fun q => ?_) (fun q => ?_)
          · replace h := h.1 q
            refine wa_lload 198 dX0_halfForBoth_196 rfl rfl ?_
            refine wa_aload_n 199 dX0_halfForBoth_198 rfl rfl ?_
            refine wa_iload 201 dX0_halfForBoth_199 rfl rfl ?_
            refine wa_iaload 202 dX0_halfForBoth_201 rfl (okA_of k2 c19) ?_
            refine wa_i2l 203 dX0_halfForBoth_202 rfl ?_
            refine wa_lmul 204 dX0_halfForBoth_203 rfl c20 ?_
            refine wa_aload_n 205 dX0_halfForBoth_204 rfl rfl ?_
            refine wa_iload 207 dX0_halfForBoth_205 rfl rfl ?_
            refine wa_iaload 208 dX0_halfForBoth_207 rfl (okA_of k2 c21) ?_
            refine wa_i2l 209 dX0_halfForBoth_208 rfl ?_
            obtain ⟨c23, h⟩ := h
            refine wa_ldivE 210 dX0_halfForBoth_209 rfl c23 ?_
            refine wa_lstore 212 [(2, v0), (2, v1), (2, v2), (2, v3), (1, v4), (9, 0), (1, v6), (9, 0), (1, v8), (9, 0), (0, v10), (0, (v4 / 5040)), (0, (v6 / 5040)), (1, ((((v4 / 5040) + 1) * 5040) - v4)), (9, 0), (1, ((((((v4 / 5040) + 1) * 5040) - v4) * (μ11 v2 ((v4 / 5040)))) / (μ11 v2 ((v6 / 5040))))), (9, 0), (9, 0), (9, 0), (9, 0), (9, 0), (9, 0), (9, 0)] dX0_halfForBoth_210 rfl rfl rfl ?_
            exact wa_weak [(2, v0), (2, v1), (2, v2), (2, v3), (1, v4), (9, 0), (1, v6), (9, 0), (1, v8), (9, 0), (0, v10), (9, 0), (9, 0), (1, ((((v4 / 5040) + 1) * 5040) - v4)), (9, 0), (1, ((((((v4 / 5040) + 1) * 5040) - v4) * (μ11 v2 ((v4 / 5040)))) / (μ11 v2 ((v6 / 5040))))), (9, 0), (9, 0), (9, 0), (9, 0), (9, 0), (9, 0), (9, 0)] ⟨Or.inl rfl, Or.inl rfl, Or.inl rfl, Or.inl rfl, Or.inl rfl, Or.inl rfl, Or.inl rfl, Or.inl rfl, Or.inl rfl, Or.inl rfl, Or.inl rfl, Or.inr rfl, Or.inr rfl, Or.inl rfl, Or.inl rfl, Or.inl rfl, Or.inl rfl, Or.inl rfl, Or.inl rfl, Or.inl rfl, Or.inl rfl, Or.inl rfl, Or.inl rfl, trivial⟩ h
          · replace h := h.2 q
            refine wa_lload 179 dX0_halfForBoth_177 rfl rfl ?_
            refine wa_aload_n 180 dX0_halfForBoth_179 rfl rfl ?_
            refine wa_iload 182 dX0_halfForBoth_180 rfl rfl ?_
            refine wa_iaload 183 dX0_halfForBoth_182 rfl (okA_of k2 c21) ?_
            refine wa_i2l 184 dX0_halfForBoth_183 rfl ?_
            refine wa_lmul 185 dX0_halfForBoth_184 rfl c22 ?_
            refine wa_aload_n 186 dX0_halfForBoth_185 rfl rfl ?_
            refine wa_iload 188 dX0_halfForBoth_186 rfl rfl ?_
            refine wa_iaload 189 dX0_halfForBoth_188 rfl (okA_of k2 c19) ?_
            refine wa_i2l 190 dX0_halfForBoth_189 rfl ?_
            obtain ⟨c24, h⟩ := h
            refine wa_ldivE 191 dX0_halfForBoth_190 rfl c24 ?_
            refine wa_lstore 193 [(2, v0), (2, v1), (2, v2), (2, v3), (1, v4), (9, 0), (1, v6), (9, 0), (1, v8), (9, 0), (0, v10), (0, (v4 / 5040)), (0, (v6 / 5040)), (1, ((((((v6 / 5040) + 1) * 5040) - v6) * (μ11 v2 ((v6 / 5040)))) / (μ11 v2 ((v4 / 5040))))), (9, 0), (1, ((((v6 / 5040) + 1) * 5040) - v6)), (9, 0), (9, 0), (9, 0), (9, 0), (9, 0), (9, 0), (9, 0)] dX0_halfForBoth_191 rfl rfl rfl ?_
            refine wa_goto 212 dX0_halfForBoth_193 (by decide) ?_
            exact wa_weak [(2, v0), (2, v1), (2, v2), (2, v3), (1, v4), (9, 0), (1, v6), (9, 0), (1, v8), (9, 0), (0, v10), (9, 0), (9, 0), (1, ((((((v6 / 5040) + 1) * 5040) - v6) * (μ11 v2 ((v6 / 5040)))) / (μ11 v2 ((v4 / 5040))))), (9, 0), (1, ((((v6 / 5040) + 1) * 5040) - v6)), (9, 0), (9, 0), (9, 0), (9, 0), (9, 0), (9, 0), (9, 0)] ⟨Or.inl rfl, Or.inl rfl, Or.inl rfl, Or.inl rfl, Or.inl rfl, Or.inl rfl, Or.inl rfl, Or.inl rfl, Or.inl rfl, Or.inl rfl, Or.inl rfl, Or.inr rfl, Or.inr rfl, Or.inl rfl, Or.inl rfl, Or.inl rfl, Or.inl rfl, Or.inl rfl, Or.inl rfl, Or.inl rfl, Or.inl rfl, Or.inl rfl, Or.inl rfl, trivial⟩ h
        · replace h := h.2 q
          refine wa_goto 344 dX0_halfForBoth_126 (by decide) ?_
          exact wa_weak [(9, 0), (2, v1), (9, 0), (9, 0), (1, v4), (9, 0), (1, v6), (9, 0), (1, v8), (9, 0), (9, 0), (9, 0), (9, 0), (9, 0), (9, 0), (9, 0), (9, 0), (9, 0), (9, 0), (9, 0), (9, 0), (9, 0), (9, 0)] ⟨Or.inr rfl, Or.inl rfl, Or.inr rfl, Or.inr rfl, Or.inl rfl, Or.inl rfl, Or.inl rfl, Or.inl rfl, Or.inl rfl, Or.inl rfl, Or.inr rfl, Or.inr rfl, Or.inr rfl, Or.inl rfl, Or.inl rfl, Or.inl rfl, Or.inl rfl, Or.inl rfl, Or.inl rfl, Or.inl rfl, Or.inl rfl, Or.inl rfl, Or.inl rfl, trivial⟩ h
set_option maxRecDepth 20000 in
theorem s_X0_halfForBoth_212 (hL : LayOK L) {v0 v1 v2 v3 v4 v6 v8 v10 v13 v15 : Int} (k0 : isK L v0 (0, 0)) (k1 : isK L v1 (7, 0)) (k2 : isK L v2 (20, 16)) (k3 : isK L v3 (20, 16)) (h : (inL (v4 + v13)) ∧ (inL (v6 + v15)) ∧ TR mX0_excess 2 (0, 0) [(2, v0), (2, v3), (1, (v4 + v13)), (1, (v6 + v15))] L μ (fun r3 L4 μ5 => ∃ w6, r3 = some (1, w6) ∧ L = L4 ∧ (0 ≤ v8 → (0 ≤ w6 → (inI (v10 + 1)) ∧ WA mX0_halfForBoth 3 (0, 0) 76 [(2, v0), (2, v1), (2, v2), (2, v3), (1, (v4 + v13)), (9, 0), (1, (v6 + v15)), (9, 0), (1, w6), (9, 0), (0, (v10 + 1)), (9, 0), (9, 0), (9, 0), (9, 0), (9, 0), (9, 0), (9, 0), (9, 0), (9, 0), (9, 0), (9, 0), (9, 0)] [] L μ5 Q) ∧ (¬ 0 ≤ w6 → WA mX0_halfForBoth 3 (0, 0) 253 [(9, 0), (2, v1), (9, 0), (9, 0), (1, v4), (9, 0), (1, v6), (9, 0), (1, v8), (9, 0), (9, 0), (9, 0), (9, 0), (1, v13), (9, 0), (1, v15), (9, 0), (1, w6), (9, 0), (9, 0), (9, 0), (9, 0), (9, 0)] [] L μ5 Q)) ∧ (¬ 0 ≤ v8 → (w6 ≤ 0 → (inI (v10 + 1)) ∧ WA mX0_halfForBoth 3 (0, 0) 76 [(2, v0), (2, v1), (2, v2), (2, v3), (1, (v4 + v13)), (9, 0), (1, (v6 + v15)), (9, 0), (1, w6), (9, 0), (0, (v10 + 1)), (9, 0), (9, 0), (9, 0), (9, 0), (9, 0), (9, 0), (9, 0), (9, 0), (9, 0), (9, 0), (9, 0), (9, 0)] [] L μ5 Q) ∧ (¬ w6 ≤ 0 → WA mX0_halfForBoth 3 (0, 0) 253 [(9, 0), (2, v1), (9, 0), (9, 0), (1, v4), (9, 0), (1, v6), (9, 0), (1, v8), (9, 0), (9, 0), (9, 0), (9, 0), (1, v13), (9, 0), (1, v15), (9, 0), (1, w6), (9, 0), (9, 0), (9, 0), (9, 0), (9, 0)] [] L μ5 Q)))) : WA mX0_halfForBoth 3 (0, 0) 212 [(2, v0), (2, v1), (2, v2), (2, v3), (1, v4), (9, 0), (1, v6), (9, 0), (1, v8), (9, 0), (0, v10), (9, 0), (9, 0), (1, v13), (9, 0), (1, v15), (9, 0), (9, 0), (9, 0), (9, 0), (9, 0), (9, 0), (9, 0)] [] L μ Q := by
  refine wa_aload_n 213 dX0_halfForBoth_212 rfl rfl ?_
  refine wa_aload_n 214 dX0_halfForBoth_213 rfl rfl ?_
  refine wa_lload 216 dX0_halfForBoth_214 rfl rfl ?_
  refine wa_lload 218 dX0_halfForBoth_216 rfl rfl ?_
  obtain ⟨c1, h⟩ := h
  refine wa_ladd 219 dX0_halfForBoth_218 rfl c1 ?_
  refine wa_lload 221 dX0_halfForBoth_219 rfl rfl ?_
  refine wa_lload 223 dX0_halfForBoth_221 rfl rfl ?_
  obtain ⟨c2, h⟩ := h
  refine wa_ladd 224 dX0_halfForBoth_223 rfl c2 ?_
  refine wa_callV 227 2 3 0 (av := [(2, v3), (1, (v4 + v13)), (1, (v6 + v15))]) (rest := []) (k1 := (0, 0)) (k2 := (0, 0)) cvX0_excess dX0_halfForBoth_224 rfl wM_X0_75 ⟨rfl, by decide, rfl, Nat.le_of_ble_eq_true rfl, by decide, Nat.le_of_ble_eq_true rfl, rfl, rfl⟩ rfl k0 (TR.mono h (fun r3 L4 μ5 h => ?_))
  obtain ⟨w6, rfl, rfl, h⟩ := h
  show WA mX0_halfForBoth 3 (0, 0) 227 [(2, v0), (2, v1), (2, v2), (2, v3), (1, v4), (9, 0), (1, v6), (9, 0), (1, v8), (9, 0), (0, v10), (9, 0), (9, 0), (1, v13), (9, 0), (1, v15), (9, 0), (9, 0), (9, 0), (9, 0), (9, 0), (9, 0), (9, 0)] [(1, w6)] L μ5 Q
  refine wa_lstore 229 [(2, v0), (2, v1), (2, v2), (2, v3), (1, v4), (9, 0), (1, v6), (9, 0), (1, v8), (9, 0), (0, v10), (9, 0), (9, 0), (1, v13), (9, 0), (1, v15), (9, 0), (1, w6), (9, 0), (9, 0), (9, 0), (9, 0), (9, 0)] dX0_halfForBoth_227 rfl rfl rfl ?_
  refine wa_lload 231 dX0_halfForBoth_229 rfl rfl ?_
  refine wa_lconst 232 0 dX0_halfForBoth_231 rfl ⟨rfl, by decide⟩ ?_
  refine wa_lc_ge 236 246 dX0_halfForBoth_232 dX0_halfForBoth_233 rfl (by decide) (fun q => ?_) (fun q => ?_)
  · replace h := h.1 q
    refine wa_lload 248 dX0_halfForBoth_246 rfl rfl ?_
    refine wa_lconst 249 0 dX0_halfForBoth_248 rfl ⟨rfl, by decide⟩ ?_
    refine wa_lc_ge 253 320 dX0_halfForBoth_249 dX0_halfForBoth_250 rfl (by decide) (fun q => ?_) (fun q => ?_)
    · replace h := h.1 q
      refine wa_lload 322 dX0_halfForBoth_320 rfl rfl ?_
      refine wa_lload 324 dX0_halfForBoth_322 rfl rfl ?_
      refine wa_ladd 325 dX0_halfForBoth_324 rfl c1 ?_
      refine wa_lstore 327 [(2, v0), (2, v1), (2, v2), (2, v3), (1, (v4 + v13)), (9, 0), (1, v6), (9, 0), (1, v8), (9, 0), (0, v10), (9, 0), (9, 0), (1, v13), (9, 0), (1, v15), (9, 0), (1, w6), (9, 0), (9, 0), (9, 0), (9, 0), (9, 0)] dX0_halfForBoth_325 rfl rfl rfl ?_
      refine wa_lload 329 dX0_halfForBoth_327 rfl rfl ?_
      refine wa_lload 331 dX0_halfForBoth_329 rfl rfl ?_
      refine wa_ladd 332 dX0_halfForBoth_331 rfl c2 ?_
      refine wa_lstore 334 [(2, v0), (2, v1), (2, v2), (2, v3), (1, (v4 + v13)), (9, 0), (1, (v6 + v15)), (9, 0), (1, v8), (9, 0), (0, v10), (9, 0), (9, 0), (1, v13), (9, 0), (1, v15), (9, 0), (1, w6), (9, 0), (9, 0), (9, 0), (9, 0), (9, 0)] dX0_halfForBoth_332 rfl rfl rfl ?_
      refine wa_lload 336 dX0_halfForBoth_334 rfl rfl ?_
      refine wa_lstore 338 [(2, v0), (2, v1), (2, v2), (2, v3), (1, (v4 + v13)), (9, 0), (1, (v6 + v15)), (9, 0), (1, w6), (9, 0), (0, v10), (9, 0), (9, 0), (1, v13), (9, 0), (1, v15), (9, 0), (1, w6), (9, 0), (9, 0), (9, 0), (9, 0), (9, 0)] dX0_halfForBoth_336 rfl rfl rfl ?_
      obtain ⟨c7, h⟩ := h
      refine wa_iinc 341 [(2, v0), (2, v1), (2, v2), (2, v3), (1, (v4 + v13)), (9, 0), (1, (v6 + v15)), (9, 0), (1, w6), (9, 0), (0, (v10 + 1)), (9, 0), (9, 0), (1, v13), (9, 0), (1, v15), (9, 0), (1, w6), (9, 0), (9, 0), (9, 0), (9, 0), (9, 0)] dX0_halfForBoth_338 rfl rfl rfl c7 rfl ?_
      refine wa_goto 76 dX0_halfForBoth_341 (by decide) ?_
      exact wa_weak [(2, v0), (2, v1), (2, v2), (2, v3), (1, (v4 + v13)), (9, 0), (1, (v6 + v15)), (9, 0), (1, w6), (9, 0), (0, (v10 + 1)), (9, 0), (9, 0), (9, 0), (9, 0), (9, 0), (9, 0), (9, 0), (9, 0), (9, 0), (9, 0), (9, 0), (9, 0)] ⟨Or.inl rfl, Or.inl rfl, Or.inl rfl, Or.inl rfl, Or.inl rfl, Or.inl rfl, Or.inl rfl, Or.inl rfl, Or.inl rfl, Or.inl rfl, Or.inl rfl, Or.inl rfl, Or.inl rfl, Or.inr rfl, Or.inl rfl, Or.inr rfl, Or.inl rfl, Or.inr rfl, Or.inl rfl, Or.inl rfl, Or.inl rfl, Or.inl rfl, Or.inl rfl, trivial⟩ h
    · replace h := h.2 q
      exact wa_weak [(9, 0), (2, v1), (9, 0), (9, 0), (1, v4), (9, 0), (1, v6), (9, 0), (1, v8), (9, 0), (9, 0), (9, 0), (9, 0), (1, v13), (9, 0), (1, v15), (9, 0), (1, w6), (9, 0), (9, 0), (9, 0), (9, 0), (9, 0)] ⟨Or.inr rfl, Or.inl rfl, Or.inr rfl, Or.inr rfl, Or.inl rfl, Or.inl rfl, Or.inl rfl, Or.inl rfl, Or.inl rfl, Or.inl rfl, Or.inr rfl, Or.inl rfl, Or.inl rfl, Or.inl rfl, Or.inl rfl, Or.inl rfl, Or.inl rfl, Or.inl rfl, Or.inl rfl, Or.inl rfl, Or.inl rfl, Or.inl rfl, Or.inl rfl, trivial⟩ h
  · replace h := h.2 q
    refine wa_lload 238 dX0_halfForBoth_236 rfl rfl ?_
    refine wa_lconst 239 0 dX0_halfForBoth_238 rfl ⟨rfl, by decide⟩ ?_
    refine wa_lc_le 243 320 dX0_halfForBoth_239 dX0_halfForBoth_240 rfl (by decide) (fun q => ?_) (fun q => ?_)
    · replace h := h.1 q
      refine wa_lload 322 dX0_halfForBoth_320 rfl rfl ?_
      refine wa_lload 324 dX0_halfForBoth_322 rfl rfl ?_
      refine wa_ladd 325 dX0_halfForBoth_324 rfl c1 ?_
      refine wa_lstore 327 [(2, v0), (2, v1), (2, v2), (2, v3), (1, (v4 + v13)), (9, 0), (1, v6), (9, 0), (1, v8), (9, 0), (0, v10), (9, 0), (9, 0), (1, v13), (9, 0), (1, v15), (9, 0), (1, w6), (9, 0), (9, 0), (9, 0), (9, 0), (9, 0)] dX0_halfForBoth_325 rfl rfl rfl ?_
      refine wa_lload 329 dX0_halfForBoth_327 rfl rfl ?_
      refine wa_lload 331 dX0_halfForBoth_329 rfl rfl ?_
      refine wa_ladd 332 dX0_halfForBoth_331 rfl c2 ?_
      refine wa_lstore 334 [(2, v0), (2, v1), (2, v2), (2, v3), (1, (v4 + v13)), (9, 0), (1, (v6 + v15)), (9, 0), (1, v8), (9, 0), (0, v10), (9, 0), (9, 0), (1, v13), (9, 0), (1, v15), (9, 0), (1, w6), (9, 0), (9, 0), (9, 0), (9, 0), (9, 0)] dX0_halfForBoth_332 rfl rfl rfl ?_
      refine wa_lload 336 dX0_halfForBoth_334 rfl rfl ?_
      refine wa_lstore 338 [(2, v0), (2, v1), (2, v2), (2, v3), (1, (v4 + v13)), (9, 0), (1, (v6 + v15)), (9, 0), (1, w6), (9, 0), (0, v10), (9, 0), (9, 0), (1, v13), (9, 0), (1, v15), (9, 0), (1, w6), (9, 0), (9, 0), (9, 0), (9, 0), (9, 0)] dX0_halfForBoth_336 rfl rfl rfl ?_
      obtain ⟨c8, h⟩ := h
      refine wa_iinc 341 [(2, v0), (2, v1), (2, v2), (2, v3), (1, (v4 + v13)), (9, 0), (1, (v6 + v15)), (9, 0), (1, w6), (9, 0), (0, (v10 + 1)), (9, 0), (9, 0), (1, v13), (9, 0), (1, v15), (9, 0), (1, w6), (9, 0), (9, 0), (9, 0), (9, 0), (9, 0)] dX0_halfForBoth_338 rfl rfl rfl c8 rfl ?_
      refine wa_goto 76 dX0_halfForBoth_341 (by decide) ?_
      exact wa_weak [(2, v0), (2, v1), (2, v2), (2, v3), (1, (v4 + v13)), (9, 0), (1, (v6 + v15)), (9, 0), (1, w6), (9, 0), (0, (v10 + 1)), (9, 0), (9, 0), (9, 0), (9, 0), (9, 0), (9, 0), (9, 0), (9, 0), (9, 0), (9, 0), (9, 0), (9, 0)] ⟨Or.inl rfl, Or.inl rfl, Or.inl rfl, Or.inl rfl, Or.inl rfl, Or.inl rfl, Or.inl rfl, Or.inl rfl, Or.inl rfl, Or.inl rfl, Or.inl rfl, Or.inl rfl, Or.inl rfl, Or.inr rfl, Or.inl rfl, Or.inr rfl, Or.inl rfl, Or.inr rfl, Or.inl rfl, Or.inl rfl, Or.inl rfl, Or.inl rfl, Or.inl rfl, trivial⟩ h
    · replace h := h.2 q
      refine wa_goto 253 dX0_halfForBoth_243 (by decide) ?_
      exact wa_weak [(9, 0), (2, v1), (9, 0), (9, 0), (1, v4), (9, 0), (1, v6), (9, 0), (1, v8), (9, 0), (9, 0), (9, 0), (9, 0), (1, v13), (9, 0), (1, v15), (9, 0), (1, w6), (9, 0), (9, 0), (9, 0), (9, 0), (9, 0)] ⟨Or.inr rfl, Or.inl rfl, Or.inr rfl, Or.inr rfl, Or.inl rfl, Or.inl rfl, Or.inl rfl, Or.inl rfl, Or.inl rfl, Or.inl rfl, Or.inr rfl, Or.inl rfl, Or.inl rfl, Or.inl rfl, Or.inl rfl, Or.inl rfl, Or.inl rfl, Or.inl rfl, Or.inl rfl, Or.inl rfl, Or.inl rfl, Or.inl rfl, Or.inl rfl, trivial⟩ h
set_option maxRecDepth 20000 in
theorem s_X0_halfForBoth_253 (hL : LayOK L) {v1 v4 v6 v8 v13 v15 v17 : Int} (k1 : isK L v1 (7, 0)) (h : (inL (-v8)) ∧ (inL (-v17)) ∧ (inL ((max v8 (-v8)) + (max v17 (-v17)))) ∧ (inL (v4 * ((max v8 (-v8)) + (max v17 (-v17))))) ∧ (inL (v13 * (max v8 (-v8)))) ∧ (inL ((v4 * ((max v8 (-v8)) + (max v17 (-v17)))) + (v13 * (max v8 (-v8))))) ∧ (inL (5040 * ((max v8 (-v8)) + (max v17 (-v17))))) ∧ TR mX3_put 1 (0, 0) [(2, (rf L v1 0)), (1, ((v4 * ((max v8 (-v8)) + (max v17 (-v17)))) + (v13 * (max v8 (-v8))))), (1, (5040 * ((max v8 (-v8)) + (max v17 (-v17)))))] L μ (fun r9 L10 μ11 => r9 = none ∧ L = L10 ∧ (inL (v6 * ((max v8 (-v8)) + (max v17 (-v17))))) ∧ (inL (v15 * (max v8 (-v8)))) ∧ (inL ((v6 * ((max v8 (-v8)) + (max v17 (-v17)))) + (v15 * (max v8 (-v8))))) ∧ TR mX3_put 1 (0, 0) [(2, (rf L v1 1)), (1, ((v6 * ((max v8 (-v8)) + (max v17 (-v17)))) + (v15 * (max v8 (-v8))))), (1, (5040 * ((max v8 (-v8)) + (max v17 (-v17)))))] L μ11 (fun r16 L17 μ18 => r16 = none ∧ L = L17 ∧ Q (some (0, 1)) L μ18))) : WA mX0_halfForBoth 3 (0, 0) 253 [(9, 0), (2, v1), (9, 0), (9, 0), (1, v4), (9, 0), (1, v6), (9, 0), (1, v8), (9, 0), (9, 0), (9, 0), (9, 0), (1, v13), (9, 0), (1, v15), (9, 0), (1, v17), (9, 0), (9, 0), (9, 0), (9, 0), (9, 0)] [] L μ Q := by
  refine wa_lload 255 dX0_halfForBoth_253 rfl rfl ?_
  obtain ⟨c1, h⟩ := h
  refine wa_labs 258 dX0_halfForBoth_255 rfl wM_X0_82 (Nat.le_of_ble_eq_true rfl) (by decide) c1 ?_
  refine wa_lstore 260 [(9, 0), (2, v1), (9, 0), (9, 0), (1, v4), (9, 0), (1, v6), (9, 0), (1, v8), (9, 0), (9, 0), (9, 0), (9, 0), (1, v13), (9, 0), (1, v15), (9, 0), (1, v17), (9, 0), (1, (max v8 (-v8))), (9, 0), (9, 0), (9, 0)] dX0_halfForBoth_258 rfl rfl rfl ?_
  refine wa_lload 262 dX0_halfForBoth_260 rfl rfl ?_
  refine wa_lload 264 dX0_halfForBoth_262 rfl rfl ?_
  obtain ⟨c2, h⟩ := h
  refine wa_labs 267 dX0_halfForBoth_264 rfl wM_X0_82 (Nat.le_of_ble_eq_true rfl) (by decide) c2 ?_
  obtain ⟨c3, h⟩ := h
  refine wa_ladd 268 dX0_halfForBoth_267 rfl c3 ?_
  refine wa_lstore 270 [(9, 0), (2, v1), (9, 0), (9, 0), (1, v4), (9, 0), (1, v6), (9, 0), (1, v8), (9, 0), (9, 0), (9, 0), (9, 0), (1, v13), (9, 0), (1, v15), (9, 0), (1, v17), (9, 0), (1, (max v8 (-v8))), (9, 0), (1, ((max v8 (-v8)) + (max v17 (-v17)))), (9, 0)] dX0_halfForBoth_268 rfl rfl rfl ?_
  refine wa_aload_n 271 dX0_halfForBoth_270 rfl rfl ?_
  have e4 : isK L (rf L v1 0) (3, 0) := lay_f hL k1 0 rfl
  refine wa_getR 274 0 dX0_halfForBoth_271 rfl wF_X0_85 rfl rfl ⟨k1, isK_pos e4⟩ ?_
  refine wa_lload 276 dX0_halfForBoth_274 rfl rfl ?_
  refine wa_lload 278 dX0_halfForBoth_276 rfl rfl ?_
  obtain ⟨c5, h⟩ := h
  refine wa_lmul 279 dX0_halfForBoth_278 rfl c5 ?_
  refine wa_lload 281 dX0_halfForBoth_279 rfl rfl ?_
  refine wa_lload 283 dX0_halfForBoth_281 rfl rfl ?_
  obtain ⟨c6, h⟩ := h
  refine wa_lmul 284 dX0_halfForBoth_283 rfl c6 ?_
  obtain ⟨c7, h⟩ := h
  refine wa_ladd 285 dX0_halfForBoth_284 rfl c7 ?_
  refine wa_ldc2 288 5040 dX0_halfForBoth_285 rfl wJ_X0_55 ⟨rfl, by decide⟩ ?_
  refine wa_lload 290 dX0_halfForBoth_288 rfl rfl ?_
  obtain ⟨c8, h⟩ := h
  refine wa_lmul 291 dX0_halfForBoth_290 rfl c8 ?_
  refine wa_callV 294 1 2 3 (av := [(1, ((v4 * ((max v8 (-v8)) + (max v17 (-v17)))) + (v13 * (max v8 (-v8))))), (1, (5040 * ((max v8 (-v8)) + (max v17 (-v17)))))]) (rest := []) (k1 := (0, 0)) (k2 := (0, 0)) cvX3_put dX0_halfForBoth_291 rfl wM_X0_46 ⟨rfl, by decide, rfl, Nat.le_of_ble_eq_true rfl, by decide, Nat.le_of_ble_eq_true rfl, rfl, rfl⟩ rfl e4 (TR.mono h (fun r9 L10 μ11 h => ?_))
  obtain ⟨rfl, rfl, h⟩ := h
  show WA mX0_halfForBoth 3 (0, 0) 294 [(9, 0), (2, v1), (9, 0), (9, 0), (1, v4), (9, 0), (1, v6), (9, 0), (1, v8), (9, 0), (9, 0), (9, 0), (9, 0), (1, v13), (9, 0), (1, v15), (9, 0), (1, v17), (9, 0), (1, (max v8 (-v8))), (9, 0), (1, ((max v8 (-v8)) + (max v17 (-v17)))), (9, 0)] [] L μ11 Q
  refine wa_aload_n 295 dX0_halfForBoth_294 rfl rfl ?_
  have e12 : isK L (rf L v1 1) (3, 0) := lay_f hL k1 1 rfl
  refine wa_getR 298 1 dX0_halfForBoth_295 rfl wF_X0_65 rfl rfl ⟨k1, isK_pos e12⟩ ?_
  refine wa_lload 300 dX0_halfForBoth_298 rfl rfl ?_
  refine wa_lload 302 dX0_halfForBoth_300 rfl rfl ?_
  obtain ⟨c13, h⟩ := h
  refine wa_lmul 303 dX0_halfForBoth_302 rfl c13 ?_
  refine wa_lload 305 dX0_halfForBoth_303 rfl rfl ?_
  refine wa_lload 307 dX0_halfForBoth_305 rfl rfl ?_
  obtain ⟨c14, h⟩ := h
  refine wa_lmul 308 dX0_halfForBoth_307 rfl c14 ?_
  obtain ⟨c15, h⟩ := h
  refine wa_ladd 309 dX0_halfForBoth_308 rfl c15 ?_
  refine wa_ldc2 312 5040 dX0_halfForBoth_309 rfl wJ_X0_55 ⟨rfl, by decide⟩ ?_
  refine wa_lload 314 dX0_halfForBoth_312 rfl rfl ?_
  refine wa_lmul 315 dX0_halfForBoth_314 rfl c8 ?_
  refine wa_callV 318 1 2 3 (av := [(1, ((v6 * ((max v8 (-v8)) + (max v17 (-v17)))) + (v15 * (max v8 (-v8))))), (1, (5040 * ((max v8 (-v8)) + (max v17 (-v17)))))]) (rest := []) (k1 := (0, 0)) (k2 := (0, 0)) cvX3_put dX0_halfForBoth_315 rfl wM_X0_46 ⟨rfl, by decide, rfl, Nat.le_of_ble_eq_true rfl, by decide, Nat.le_of_ble_eq_true rfl, rfl, rfl⟩ rfl e12 (TR.mono h (fun r16 L17 μ18 h => ?_))
  obtain ⟨rfl, rfl, h⟩ := h
  show WA mX0_halfForBoth 3 (0, 0) 318 [(9, 0), (2, v1), (9, 0), (9, 0), (1, v4), (9, 0), (1, v6), (9, 0), (1, v8), (9, 0), (9, 0), (9, 0), (9, 0), (1, v13), (9, 0), (1, v15), (9, 0), (1, v17), (9, 0), (1, (max v8 (-v8))), (9, 0), (1, ((max v8 (-v8)) + (max v17 (-v17)))), (9, 0)] [] L μ18 Q
  refine wa_iconst 319 dX0_halfForBoth_318 rfl (by decide) ?_
  exact wa_zret dX0_halfForBoth_319 rfl (Or.inr rfl) h
set_option maxRecDepth 20000 in
theorem s_X0_halfForBoth_344 (hL : LayOK L) {v1 v4 v6 v8 : Int} (k1 : isK L v1 (7, 0)) (h : TR mX3_put 1 (0, 0) [(2, (rf L v1 0)), (1, v4), (1, 5040)] L μ (fun r2 L3 μ4 => r2 = none ∧ L = L3 ∧ TR mX3_put 1 (0, 0) [(2, (rf L v1 1)), (1, v6), (1, 5040)] L μ4 (fun r6 L7 μ8 => r6 = none ∧ L = L7 ∧ (¬ v8 = 0 → Q (some (0, 0)) L μ8) ∧ (v8 = 0 → Q (some (0, 1)) L μ8)))) : WA mX0_halfForBoth 3 (0, 0) 344 [(9, 0), (2, v1), (9, 0), (9, 0), (1, v4), (9, 0), (1, v6), (9, 0), (1, v8), (9, 0), (9, 0), (9, 0), (9, 0), (9, 0), (9, 0), (9, 0), (9, 0), (9, 0), (9, 0), (9, 0), (9, 0), (9, 0), (9, 0)] [] L μ Q := by
  refine wa_aload_n 345 dX0_halfForBoth_344 rfl rfl ?_
  have e1 : isK L (rf L v1 0) (3, 0) := lay_f hL k1 0 rfl
  refine wa_getR 348 0 dX0_halfForBoth_345 rfl wF_X0_85 rfl rfl ⟨k1, isK_pos e1⟩ ?_
  refine wa_lload 350 dX0_halfForBoth_348 rfl rfl ?_
  refine wa_ldc2 353 5040 dX0_halfForBoth_350 rfl wJ_X0_55 ⟨rfl, by decide⟩ ?_
  refine wa_callV 356 1 2 3 (av := [(1, v4), (1, 5040)]) (rest := []) (k1 := (0, 0)) (k2 := (0, 0)) cvX3_put dX0_halfForBoth_353 rfl wM_X0_46 ⟨rfl, by decide, rfl, Nat.le_of_ble_eq_true rfl, by decide, Nat.le_of_ble_eq_true rfl, rfl, rfl⟩ rfl e1 (TR.mono h (fun r2 L3 μ4 h => ?_))
  obtain ⟨rfl, rfl, h⟩ := h
  show WA mX0_halfForBoth 3 (0, 0) 356 [(9, 0), (2, v1), (9, 0), (9, 0), (1, v4), (9, 0), (1, v6), (9, 0), (1, v8), (9, 0), (9, 0), (9, 0), (9, 0), (9, 0), (9, 0), (9, 0), (9, 0), (9, 0), (9, 0), (9, 0), (9, 0), (9, 0), (9, 0)] [] L μ4 Q
  refine wa_aload_n 357 dX0_halfForBoth_356 rfl rfl ?_
  have e5 : isK L (rf L v1 1) (3, 0) := lay_f hL k1 1 rfl
  refine wa_getR 360 1 dX0_halfForBoth_357 rfl wF_X0_65 rfl rfl ⟨k1, isK_pos e5⟩ ?_
  refine wa_lload 362 dX0_halfForBoth_360 rfl rfl ?_
  refine wa_ldc2 365 5040 dX0_halfForBoth_362 rfl wJ_X0_55 ⟨rfl, by decide⟩ ?_
  refine wa_callV 368 1 2 3 (av := [(1, v6), (1, 5040)]) (rest := []) (k1 := (0, 0)) (k2 := (0, 0)) cvX3_put dX0_halfForBoth_365 rfl wM_X0_46 ⟨rfl, by decide, rfl, Nat.le_of_ble_eq_true rfl, by decide, Nat.le_of_ble_eq_true rfl, rfl, rfl⟩ rfl e5 (TR.mono h (fun r6 L7 μ8 h => ?_))
  obtain ⟨rfl, rfl, h⟩ := h
  show WA mX0_halfForBoth 3 (0, 0) 368 [(9, 0), (2, v1), (9, 0), (9, 0), (1, v4), (9, 0), (1, v6), (9, 0), (1, v8), (9, 0), (9, 0), (9, 0), (9, 0), (9, 0), (9, 0), (9, 0), (9, 0), (9, 0), (9, 0), (9, 0), (9, 0), (9, 0), (9, 0)] [] L μ8 Q
  refine wa_lload 370 dX0_halfForBoth_368 rfl rfl ?_
  refine wa_lconst 371 0 dX0_halfForBoth_370 rfl ⟨rfl, by decide⟩ ?_
  refine wa_lc_ne 375 379 dX0_halfForBoth_371 dX0_halfForBoth_372 rfl (by decide) (fun q => ?_) (fun q => ?_)
  · replace h := h.1 q
    refine wa_iconst 380 dX0_halfForBoth_379 rfl (by decide) ?_
    exact wa_zret dX0_halfForBoth_380 rfl (Or.inl rfl) h
  · replace h := h.2 q
    refine wa_iconst 376 dX0_halfForBoth_375 rfl (by decide) ?_
    refine wa_goto 380 dX0_halfForBoth_376 (by decide) ?_
    exact wa_zret dX0_halfForBoth_380 rfl (Or.inr rfl) h
set_option maxRecDepth 20000 in
theorem t_X0_hasAgent (hL : LayOK L) {v0 v1 : Int} (k0 : isK L v0 (0, 0)) (h : (v1 < 0 → Q (some (0, 0)) L μ) ∧ (¬ v1 < 0 → ((μ v0 1) ≤ v1 → Q (some (0, 0)) L μ) ∧ (¬ (μ v0 1) ≤ v1 → Q (some (0, 1)) L μ))) : TR mX0_hasAgent 0 (0, 0) [(2, v0), (0, v1)] L μ Q := by
  refine TR.of (ls := [(2, v0), (0, v1)]) (by decide) (by simp) rfl (Nat.le_of_ble_eq_true rfl) ?_
  refine wa_iload_n 1 dX0_hasAgent_0 rfl rfl ?_
  refine wa_if_lt 4 16 dX0_hasAgent_1 rfl (by decide) (fun q => ?_) (fun q => ?_)
  · replace h := h.1 q
    refine wa_iconst 17 dX0_hasAgent_16 rfl (by decide) ?_
    exact wa_zret dX0_hasAgent_17 rfl (Or.inl rfl) h
  · replace h := h.2 q
    refine wa_iload_n 5 dX0_hasAgent_4 rfl rfl ?_
    refine wa_aload_n 6 dX0_hasAgent_5 rfl rfl ?_
    refine wa_getI 9 1 dX0_hasAgent_6 rfl wF_X0_27 rfl rfl k0 ?_
    refine wa_icmp_ge 12 16 dX0_hasAgent_9 rfl (by decide) (fun q => ?_) (fun q => ?_)
    · replace h := h.1 q
      refine wa_iconst 17 dX0_hasAgent_16 rfl (by decide) ?_
      exact wa_zret dX0_hasAgent_17 rfl (Or.inl rfl) h
    · replace h := h.2 q
      refine wa_iconst 13 dX0_hasAgent_12 rfl (by decide) ?_
      refine wa_goto 17 dX0_hasAgent_13 (by decide) ?_
      exact wa_zret dX0_hasAgent_17 rfl (Or.inr rfl) h
set_option maxRecDepth 20000 in
theorem t_X0_hasNoZero (hL : LayOK L) {v0 v1 : Int} (k0 : isK L v0 (0, 0)) (k1 : isK L v1 (20, 16)) (h : WA mX0_hasNoZero 0 (0, 0) 2 [(2, v0), (2, v1), (0, 0)] [] L μ Q) : TR mX0_hasNoZero 0 (0, 0) [(2, v0), (2, v1)] L μ Q := by
  refine TR.of (ls := [(2, v0), (2, v1), (9, 0)]) (by decide) (by simp) rfl (Nat.le_of_ble_eq_true rfl) ?_
  refine wa_iconst 1 dX0_hasNoZero_0 rfl (by decide) ?_
  refine wa_istore_n 2 [(2, v0), (2, v1), (0, 0)] dX0_hasNoZero_1 rfl rfl rfl ?_
  exact h
set_option maxRecDepth 20000 in
theorem s_X0_hasNoZero_2 (hL : LayOK L) {v0 v1 v2 : Int} (k0 : isK L v0 (0, 0)) (k1 : isK L v1 (20, 16)) (h : ((μ v0 0) ≤ v2 → Q (some (0, 1)) L μ) ∧ (¬ (μ v0 0) ≤ v2 → (0 ≤ v2 ∧ v2 < 16) ∧ (1 ≤ (μ v1 v2) → (inI (v2 + 1)) ∧ WA mX0_hasNoZero 0 (0, 0) 2 [(2, v0), (2, v1), (0, (v2 + 1))] [] L μ Q) ∧ (¬ 1 ≤ (μ v1 v2) → Q (some (0, 0)) L μ))) : WA mX0_hasNoZero 0 (0, 0) 2 [(2, v0), (2, v1), (0, v2)] [] L μ Q := by
  refine wa_iload_n 3 dX0_hasNoZero_2 rfl rfl ?_
  refine wa_aload_n 4 dX0_hasNoZero_3 rfl rfl ?_
  refine wa_getI 7 0 dX0_hasNoZero_4 rfl wF_X0_23 rfl rfl k0 ?_
  refine wa_icmp_ge 10 25 dX0_hasNoZero_7 rfl (by decide) (fun q => ?_) (fun q => ?_)
  · replace h := h.1 q
    refine wa_iconst 26 dX0_hasNoZero_25 rfl (by decide) ?_
    exact wa_zret dX0_hasNoZero_26 rfl (Or.inr rfl) h
  · replace h := h.2 q
    refine wa_aload_n 11 dX0_hasNoZero_10 rfl rfl ?_
    refine wa_iload_n 12 dX0_hasNoZero_11 rfl rfl ?_
    obtain ⟨c1, h⟩ := h
    refine wa_iaload 13 dX0_hasNoZero_12 rfl (okA_of k1 c1) ?_
    refine wa_iconst 14 dX0_hasNoZero_13 rfl (by decide) ?_
    refine wa_icmp_ge 17 19 dX0_hasNoZero_14 rfl (by decide) (fun q => ?_) (fun q => ?_)
    · replace h := h.1 q
      obtain ⟨c2, h⟩ := h
      refine wa_iinc 22 [(2, v0), (2, v1), (0, (v2 + 1))] dX0_hasNoZero_19 rfl rfl rfl c2 rfl ?_
      refine wa_goto 2 dX0_hasNoZero_22 (by decide) ?_
      exact h
    · replace h := h.2 q
      refine wa_iconst 18 dX0_hasNoZero_17 rfl (by decide) ?_
      exact wa_zret dX0_hasNoZero_18 rfl (Or.inl rfl) h
set_option maxRecDepth 20000 in
theorem t_X0_hasStrip (hL : LayOK L) {v0 v1 : Int} (k0 : isK L v0 (0, 0)) (h : (v1 < 0 → Q (some (0, 0)) L μ) ∧ (¬ v1 < 0 → ((μ v0 0) ≤ v1 → Q (some (0, 0)) L μ) ∧ (¬ (μ v0 0) ≤ v1 → Q (some (0, 1)) L μ))) : TR mX0_hasStrip 0 (0, 0) [(2, v0), (0, v1)] L μ Q := by
  refine TR.of (ls := [(2, v0), (0, v1)]) (by decide) (by simp) rfl (Nat.le_of_ble_eq_true rfl) ?_
  refine wa_iload_n 1 dX0_hasStrip_0 rfl rfl ?_
  refine wa_if_lt 4 16 dX0_hasStrip_1 rfl (by decide) (fun q => ?_) (fun q => ?_)
  · replace h := h.1 q
    refine wa_iconst 17 dX0_hasStrip_16 rfl (by decide) ?_
    exact wa_zret dX0_hasStrip_17 rfl (Or.inl rfl) h
  · replace h := h.2 q
    refine wa_iload_n 5 dX0_hasStrip_4 rfl rfl ?_
    refine wa_aload_n 6 dX0_hasStrip_5 rfl rfl ?_
    refine wa_getI 9 0 dX0_hasStrip_6 rfl wF_X0_23 rfl rfl k0 ?_
    refine wa_icmp_ge 12 16 dX0_hasStrip_9 rfl (by decide) (fun q => ?_) (fun q => ?_)
    · replace h := h.1 q
      refine wa_iconst 17 dX0_hasStrip_16 rfl (by decide) ?_
      exact wa_zret dX0_hasStrip_17 rfl (Or.inl rfl) h
    · replace h := h.2 q
      refine wa_iconst 13 dX0_hasStrip_12 rfl (by decide) ?_
      refine wa_goto 17 dX0_hasStrip_13 (by decide) ?_
      exact wa_zret dX0_hasStrip_17 rfl (Or.inr rfl) h
set_option maxRecDepth 20000 in
theorem t_X0_lay (hL : LayOK L) {v0 v1 v2 : Int} (k0 : isK L v0 (0, 0)) (h : WA mX0_lay 0 (0, 0) 12 [(2, v0), (9, 0), (9, 0), (0, 0), (9, 0)] [] L (up (up μ v0 0 v1) v0 1 v2) Q) : TR mX0_lay 0 (0, 0) [(2, v0), (0, v1), (0, v2)] L μ Q := by
  refine TR.of (ls := [(2, v0), (0, v1), (0, v2), (9, 0), (9, 0)]) (by decide) (by simp) rfl (Nat.le_of_ble_eq_true rfl) ?_
  refine wa_aload_n 1 dX0_lay_0 rfl rfl ?_
  refine wa_iload_n 2 dX0_lay_1 rfl rfl ?_
  refine wa_putN 5 0 dX0_lay_2 rfl wF_X0_23 rfl rfl k0 ?_
  refine wa_aload_n 6 dX0_lay_5 rfl rfl ?_
  refine wa_iload_n 7 dX0_lay_6 rfl rfl ?_
  refine wa_putN 10 1 dX0_lay_7 rfl wF_X0_27 rfl rfl k0 ?_
  refine wa_iconst 11 dX0_lay_10 rfl (by decide) ?_
  refine wa_istore_n 12 [(2, v0), (0, v1), (0, v2), (0, 0), (9, 0)] dX0_lay_11 rfl rfl rfl ?_
  exact wa_weak [(2, v0), (9, 0), (9, 0), (0, 0), (9, 0)] ⟨Or.inl rfl, Or.inr rfl, Or.inr rfl, Or.inl rfl, Or.inl rfl, trivial⟩ h
set_option maxRecDepth 20000 in
theorem s_X0_lay_12 (hL : LayOK L) {v0 v3 : Int} (k0 : isK L v0 (0, 0)) (h : (5 ≤ v3 → Q none L μ) ∧ (¬ 5 ≤ v3 → WA mX0_lay 0 (0, 0) 20 [(2, v0), (9, 0), (9, 0), (0, v3), (0, 0)] [] L μ Q)) : WA mX0_lay 0 (0, 0) 12 [(2, v0), (9, 0), (9, 0), (0, v3), (9, 0)] [] L μ Q := by
  refine wa_iload_n 13 dX0_lay_12 rfl rfl ?_
  refine wa_iconst 14 dX0_lay_13 rfl (by decide) ?_
  refine wa_icmp_ge 17 59 dX0_lay_14 rfl (by decide) (fun q => ?_) (fun q => ?_)
  · replace h := h.1 q
    exact wa_vret dX0_lay_59 rfl h
  · replace h := h.2 q
    refine wa_iconst 18 dX0_lay_17 rfl (by decide) ?_
    refine wa_istore 20 [(2, v0), (9, 0), (9, 0), (0, v3), (0, 0)] dX0_lay_18 rfl rfl rfl ?_
    exact h
set_option maxRecDepth 20000 in
theorem s_X0_lay_20 (hL : LayOK L) {v0 v3 v4 : Int} (k0 : isK L v0 (0, 0)) (h : (16 ≤ v4 → (inI (v3 + 1)) ∧ WA mX0_lay 0 (0, 0) 12 [(2, v0), (9, 0), (9, 0), (0, (v3 + 1)), (9, 0)] [] L μ Q) ∧ (¬ 16 ≤ v4 → (0 ≤ v3 ∧ v3 < 5) ∧ (0 ≤ v4 ∧ v4 < 16) ∧ (inI (v4 + 1)) ∧ WA mX0_lay 0 (0, 0) 20 [(2, v0), (9, 0), (9, 0), (0, v3), (0, (v4 + 1))] [] L (up (up μ ((rf L ((rf L v0 2)) v3)) v4 1) ((rf L ((rf L v0 3)) v3)) v4 1) Q)) : WA mX0_lay 0 (0, 0) 20 [(2, v0), (9, 0), (9, 0), (0, v3), (0, v4)] [] L μ Q := by
  refine wa_iload 22 dX0_lay_20 rfl rfl ?_
  refine wa_bipush 24 dX0_lay_22 rfl ⟨by decide, by decide⟩ ?_
  refine wa_icmp_ge 27 53 dX0_lay_24 rfl (by decide) (fun q => ?_) (fun q => ?_)
  · replace h := h.1 q
    obtain ⟨c1, h⟩ := h
    refine wa_iinc 56 [(2, v0), (9, 0), (9, 0), (0, (v3 + 1)), (0, v4)] dX0_lay_53 rfl rfl rfl c1 rfl ?_
    refine wa_goto 12 dX0_lay_56 (by decide) ?_
    exact wa_weak [(2, v0), (9, 0), (9, 0), (0, (v3 + 1)), (9, 0)] ⟨Or.inl rfl, Or.inl rfl, Or.inl rfl, Or.inl rfl, Or.inr rfl, trivial⟩ h
  · replace h := h.2 q
    refine wa_aload_n 28 dX0_lay_27 rfl rfl ?_
    have e2 : isK L (rf L v0 2) (23, 5) := lay_f hL k0 2 rfl
    refine wa_getR 31 2 dX0_lay_28 rfl wF_X0_11 rfl rfl ⟨k0, isK_pos e2⟩ ?_
    refine wa_iload_n 32 dX0_lay_31 rfl rfl ?_
    obtain ⟨c3, h⟩ := h
    have e4 : isK L (rf L ((rf L v0 2)) v3) (20, 16) := lay_e hL k0 2 rfl c3
    refine wa_aaload 33 23 dX0_lay_32 rfl ⟨by decide, by decide⟩ ⟨okA_of e2 c3, isK_pos e4⟩ ?_
    refine wa_iload 35 dX0_lay_33 rfl rfl ?_
    refine wa_iconst 36 dX0_lay_35 rfl (by decide) ?_
    obtain ⟨c5, h⟩ := h
    refine wa_iastore 37 dX0_lay_36 rfl (okA_of e4 c5) ?_
    refine wa_aload_n 38 dX0_lay_37 rfl rfl ?_
    have e6 : isK L (rf L v0 3) (23, 5) := lay_f hL k0 3 rfl
    refine wa_getR 41 3 dX0_lay_38 rfl wF_X0_16 rfl rfl ⟨k0, isK_pos e6⟩ ?_
    refine wa_iload_n 42 dX0_lay_41 rfl rfl ?_
    have e7 : isK L (rf L ((rf L v0 3)) v3) (20, 16) := lay_e hL k0 3 rfl c3
    refine wa_aaload 43 23 dX0_lay_42 rfl ⟨by decide, by decide⟩ ⟨okA_of e6 c3, isK_pos e7⟩ ?_
    refine wa_iload 45 dX0_lay_43 rfl rfl ?_
    refine wa_iconst 46 dX0_lay_45 rfl (by decide) ?_
    refine wa_iastore 47 dX0_lay_46 rfl (okA_of e7 c5) ?_
    obtain ⟨c8, h⟩ := h
    refine wa_iinc 50 [(2, v0), (9, 0), (9, 0), (0, v3), (0, (v4 + 1))] dX0_lay_47 rfl rfl rfl c8 rfl ?_
    refine wa_goto 20 dX0_lay_50 (by decide) ?_
    exact h
set_option maxRecDepth 20000 in
theorem t_X0_moveTold (hL : LayOK L) {v0 v1 v2 v3 : Int} (k0 : isK L v0 (0, 0)) (h : (0 ≤ v1 ∧ v1 < 5) ∧ (v2 = v3 → Q (some (0, 0)) L μ) ∧ (¬ v2 = v3 → (0 ≤ v2 ∧ v2 < 16) ∧ ((μ ((rf L ((rf L v0 3)) v1)) v2) < 1 → Q (some (0, 0)) L μ) ∧ (¬ (μ ((rf L ((rf L v0 3)) v1)) v2) < 1 → (0 ≤ v3 ∧ v3 < 16) ∧ ((μ ((rf L ((rf L v0 3)) v1)) v3) < 9 → (inI ((μ ((rf L ((rf L v0 3)) v1)) v2) - 1)) ∧ (inI (((up μ ((rf L ((rf L v0 3)) v1)) v2 (((μ ((rf L ((rf L v0 3)) v1)) v2) - 1))) ((rf L ((rf L v0 3)) v1)) v3) + 1)) ∧ Q (some (0, 1)) L (up (up μ ((rf L ((rf L v0 3)) v1)) v2 (((μ ((rf L ((rf L v0 3)) v1)) v2) - 1))) ((rf L ((rf L v0 3)) v1)) v3 ((((up μ ((rf L ((rf L v0 3)) v1)) v2 (((μ ((rf L ((rf L v0 3)) v1)) v2) - 1))) ((rf L ((rf L v0 3)) v1)) v3) + 1)))) ∧ (¬ (μ ((rf L ((rf L v0 3)) v1)) v3) < 9 → Q (some (0, 0)) L μ)))) : TR mX0_moveTold 0 (0, 0) [(2, v0), (0, v1), (0, v2), (0, v3)] L μ Q := by
  refine TR.of (ls := [(2, v0), (0, v1), (0, v2), (0, v3), (9, 0)]) (by decide) (by simp) rfl (Nat.le_of_ble_eq_true rfl) ?_
  refine wa_aload_n 1 dX0_moveTold_0 rfl rfl ?_
  have e1 : isK L (rf L v0 3) (23, 5) := lay_f hL k0 3 rfl
  refine wa_getR 4 3 dX0_moveTold_1 rfl wF_X0_16 rfl rfl ⟨k0, isK_pos e1⟩ ?_
  refine wa_iload_n 5 dX0_moveTold_4 rfl rfl ?_
  obtain ⟨c2, h⟩ := h
  have e3 : isK L (rf L ((rf L v0 3)) v1) (20, 16) := lay_e hL k0 3 rfl c2
  refine wa_aaload 6 23 dX0_moveTold_5 rfl ⟨by decide, by decide⟩ ⟨okA_of e1 c2, isK_pos e3⟩ ?_
  refine wa_astore 8 [(2, v0), (0, v1), (0, v2), (0, v3), (2, (rf L ((rf L v0 3)) v1))] dX0_moveTold_6 rfl rfl rfl ?_
  refine wa_iload_n 9 dX0_moveTold_8 rfl rfl ?_
  refine wa_iload_n 10 dX0_moveTold_9 rfl rfl ?_
  refine wa_icmp_eq 13 30 dX0_moveTold_10 rfl (by decide) (fun q => ?_) (fun q => ?_)
  · replace h := h.1 q
    refine wa_iconst 31 dX0_moveTold_30 rfl (by decide) ?_
    exact wa_zret dX0_moveTold_31 rfl (Or.inl rfl) h
  · replace h := h.2 q
    refine wa_aload 15 dX0_moveTold_13 rfl rfl ?_
    refine wa_iload_n 16 dX0_moveTold_15 rfl rfl ?_
    obtain ⟨c4, h⟩ := h
    refine wa_iaload 17 dX0_moveTold_16 rfl (okA_of e3 c4) ?_
    refine wa_iconst 18 dX0_moveTold_17 rfl (by decide) ?_
    refine wa_icmp_lt 21 30 dX0_moveTold_18 rfl (by decide) (fun q => ?_) (fun q => ?_)
    · replace h := h.1 q
      refine wa_iconst 31 dX0_moveTold_30 rfl (by decide) ?_
      exact wa_zret dX0_moveTold_31 rfl (Or.inl rfl) h
    · replace h := h.2 q
      refine wa_aload 23 dX0_moveTold_21 rfl rfl ?_
      refine wa_iload_n 24 dX0_moveTold_23 rfl rfl ?_
      obtain ⟨c5, h⟩ := h
      refine wa_iaload 25 dX0_moveTold_24 rfl (okA_of e3 c5) ?_
      refine wa_bipush 27 dX0_moveTold_25 rfl ⟨by decide, by decide⟩ ?_
      refine wa_icmp_lt 30 32 dX0_moveTold_27 rfl (by decide) (fun q => ?_) (fun q => ?_)
      · replace h := h.1 q
        refine wa_aload 34 dX0_moveTold_32 rfl rfl ?_
        refine wa_iload_n 35 dX0_moveTold_34 rfl rfl ?_
        refine wa_dup2 36 dX0_moveTold_35 rfl ⟨Or.inl rfl, Or.inr rfl⟩ ?_
        refine wa_iaload 37 dX0_moveTold_36 rfl (okA_of e3 c4) ?_
        refine wa_iconst 38 dX0_moveTold_37 rfl (by decide) ?_
        obtain ⟨c6, h⟩ := h
        refine wa_isub 39 dX0_moveTold_38 rfl c6 ?_
        refine wa_iastore 40 dX0_moveTold_39 rfl (okA_of e3 c4) ?_
        refine wa_aload 42 dX0_moveTold_40 rfl rfl ?_
        refine wa_iload_n 43 dX0_moveTold_42 rfl rfl ?_
        refine wa_dup2 44 dX0_moveTold_43 rfl ⟨Or.inl rfl, Or.inr rfl⟩ ?_
        refine wa_iaload 45 dX0_moveTold_44 rfl (okA_of e3 c5) ?_
        refine wa_iconst 46 dX0_moveTold_45 rfl (by decide) ?_
        obtain ⟨c7, h⟩ := h
        refine wa_iadd 47 dX0_moveTold_46 rfl c7 ?_
        refine wa_iastore 48 dX0_moveTold_47 rfl (okA_of e3 c5) ?_
        refine wa_iconst 49 dX0_moveTold_48 rfl (by decide) ?_
        exact wa_zret dX0_moveTold_49 rfl (Or.inr rfl) h
      · replace h := h.2 q
        refine wa_iconst 31 dX0_moveTold_30 rfl (by decide) ?_
        exact wa_zret dX0_moveTold_31 rfl (Or.inl rfl) h
set_option maxRecDepth 20000 in
theorem t_X0_reach (hL : LayOK L) {v0 v1 v2 v3 v5 v7 v9 : Int} (k0 : isK L v0 (0, 0)) (k1 : isK L v1 (3, 0)) (k2 : isK L v2 (20, 16)) (h : (¬ v7 = 0 → WA mX0_reach 2 (0, 0) 23 [(2, v0), (2, v1), (2, v2), (1, v3), (9, 0), (1, v5), (9, 0), (9, 0), (9, 0), (1, v9), (9, 0), (1, v7), (9, 0), (0, 0), (9, 0), (9, 0), (9, 0), (9, 0), (9, 0), (9, 0)] [] L μ Q) ∧ (v7 = 0 → TR mX3_put 1 (0, 0) [(2, v1), (1, v3), (1, v5)] L μ (fun r1 L2 μ3 => r1 = none ∧ L = L2 ∧ Q (some (0, 1)) L μ3))) : TR mX0_reach 2 (0, 0) [(2, v0), (2, v1), (2, v2), (1, v3), (1, v5), (1, v7), (1, v9)] L μ Q := by
  refine TR.of (ls := [(2, v0), (2, v1), (2, v2), (1, v3), (9, 0), (1, v5), (9, 0), (1, v7), (9, 0), (1, v9), (9, 0), (9, 0), (9, 0), (9, 0), (9, 0), (9, 0), (9, 0), (9, 0), (9, 0), (9, 0)]) (by decide) (by simp) rfl (Nat.le_of_ble_eq_true rfl) ?_
  refine wa_lload 2 dX0_reach_0 rfl rfl ?_
  refine wa_lconst 3 0 dX0_reach_2 rfl ⟨rfl, by decide⟩ ?_
  refine wa_lc_ne 7 16 dX0_reach_3 dX0_reach_4 rfl (by decide) (fun q => ?_) (fun q => ?_)
  · replace h := h.1 q
    refine wa_lload 18 dX0_reach_16 rfl rfl ?_
    refine wa_lstore 20 [(2, v0), (2, v1), (2, v2), (1, v3), (9, 0), (1, v5), (9, 0), (1, v7), (9, 0), (1, v9), (9, 0), (1, v7), (9, 0), (9, 0), (9, 0), (9, 0), (9, 0), (9, 0), (9, 0), (9, 0)] dX0_reach_18 rfl rfl rfl ?_
    refine wa_iconst 21 dX0_reach_20 rfl (by decide) ?_
    refine wa_istore 23 [(2, v0), (2, v1), (2, v2), (1, v3), (9, 0), (1, v5), (9, 0), (1, v7), (9, 0), (1, v9), (9, 0), (1, v7), (9, 0), (0, 0), (9, 0), (9, 0), (9, 0), (9, 0), (9, 0), (9, 0)] dX0_reach_21 rfl rfl rfl ?_
    exact wa_weak [(2, v0), (2, v1), (2, v2), (1, v3), (9, 0), (1, v5), (9, 0), (9, 0), (9, 0), (1, v9), (9, 0), (1, v7), (9, 0), (0, 0), (9, 0), (9, 0), (9, 0), (9, 0), (9, 0), (9, 0)] ⟨Or.inl rfl, Or.inl rfl, Or.inl rfl, Or.inl rfl, Or.inl rfl, Or.inl rfl, Or.inl rfl, Or.inr rfl, Or.inl rfl, Or.inl rfl, Or.inl rfl, Or.inl rfl, Or.inl rfl, Or.inl rfl, Or.inl rfl, Or.inl rfl, Or.inl rfl, Or.inl rfl, Or.inl rfl, Or.inl rfl, trivial⟩ h
  · replace h := h.2 q
    refine wa_aload_n 8 dX0_reach_7 rfl rfl ?_
    refine wa_lload_n 9 dX0_reach_8 rfl rfl ?_
    refine wa_lload 11 dX0_reach_9 rfl rfl ?_
    refine wa_callV 14 1 2 3 (av := [(1, v3), (1, v5)]) (rest := []) (k1 := (0, 0)) (k2 := (0, 0)) cvX3_put dX0_reach_11 rfl wM_X0_46 ⟨rfl, by decide, rfl, Nat.le_of_ble_eq_true rfl, by decide, Nat.le_of_ble_eq_true rfl, rfl, rfl⟩ rfl k1 (TR.mono h (fun r1 L2 μ3 h => ?_))
    obtain ⟨rfl, rfl, h⟩ := h
    show WA mX0_reach 2 (0, 0) 14 [(2, v0), (2, v1), (2, v2), (1, v3), (9, 0), (1, v5), (9, 0), (1, v7), (9, 0), (1, v9), (9, 0), (9, 0), (9, 0), (9, 0), (9, 0), (9, 0), (9, 0), (9, 0), (9, 0), (9, 0)] [] L μ3 Q
    refine wa_iconst 15 dX0_reach_14 rfl (by decide) ?_
    exact wa_zret dX0_reach_15 rfl (Or.inr rfl) h
set_option maxRecDepth 20000 in
theorem s_X0_reach_23 (hL : LayOK L) {v0 v1 v2 v3 v5 v9 v11 v13 : Int} (k0 : isK L v0 (0, 0)) (k1 : isK L v1 (3, 0)) (k2 : isK L v2 (20, 16)) (h : ((μ v0 0) ≤ v13 → Q (some (0, 0)) L μ) ∧ (¬ (μ v0 0) ≤ v13 → (inL (v13 * v5)) ∧ (0 ≤ v13 ∧ v13 < 16) ∧ (inL ((μ v2 v13) * v9)) ∧ (inI (v13 + 1)) ∧ (inL ((v13 + 1) * v5)) ∧ (inL (((v13 + 1) * v5) - (max v3 ((v13 * v5))))) ∧ (inL (((μ v2 v13) * v9) * (max 0 ((((v13 + 1) * v5) - (max v3 ((v13 * v5)))))))) ∧ ((((μ v2 v13) * v9) * (max 0 ((((v13 + 1) * v5) - (max v3 ((v13 * v5))))))) < v11 → (inL (v11 - (((μ v2 v13) * v9) * (max 0 ((((v13 + 1) * v5) - (max v3 ((v13 * v5))))))))) ∧ WA mX0_reach 2 (0, 0) 23 [(2, v0), (2, v1), (2, v2), (1, v3), (9, 0), (1, v5), (9, 0), (9, 0), (9, 0), (1, v9), (9, 0), (1, (v11 - (((μ v2 v13) * v9) * (max 0 ((((v13 + 1) * v5) - (max v3 ((v13 * v5))))))))), (9, 0), (0, (v13 + 1)), (9, 0), (9, 0), (9, 0), (9, 0), (9, 0), (9, 0)] [] L μ Q) ∧ (¬ (((μ v2 v13) * v9) * (max 0 ((((v13 + 1) * v5) - (max v3 ((v13 * v5))))))) < v11 → (inL ((max v3 ((v13 * v5))) * ((μ v2 v13) * v9))) ∧ (inL (((max v3 ((v13 * v5))) * ((μ v2 v13) * v9)) + v11)) ∧ (inL (v5 * ((μ v2 v13) * v9))) ∧ TR mX3_put 1 (0, 0) [(2, v1), (1, (((max v3 ((v13 * v5))) * ((μ v2 v13) * v9)) + v11)), (1, (v5 * ((μ v2 v13) * v9)))] L μ (fun r12 L13 μ14 => r12 = none ∧ L = L13 ∧ Q (some (0, 1)) L μ14)))) : WA mX0_reach 2 (0, 0) 23 [(2, v0), (2, v1), (2, v2), (1, v3), (9, 0), (1, v5), (9, 0), (9, 0), (9, 0), (1, v9), (9, 0), (1, v11), (9, 0), (0, v13), (9, 0), (9, 0), (9, 0), (9, 0), (9, 0), (9, 0)] [] L μ Q := by
  refine wa_iload 25 dX0_reach_23 rfl rfl ?_
  refine wa_aload_n 26 dX0_reach_25 rfl rfl ?_
  refine wa_getI 29 0 dX0_reach_26 rfl wF_X0_23 rfl rfl k0 ?_
  refine wa_icmp_ge 32 114 dX0_reach_29 rfl (by decide) (fun q => ?_) (fun q => ?_)
  · replace h := h.1 q
    refine wa_iconst 115 dX0_reach_114 rfl (by decide) ?_
    exact wa_zret dX0_reach_115 rfl (Or.inl rfl) h
  · replace h := h.2 q
    refine wa_lload_n 33 dX0_reach_32 rfl rfl ?_
    refine wa_iload 35 dX0_reach_33 rfl rfl ?_
    refine wa_i2l 36 dX0_reach_35 rfl ?_
    refine wa_lload 38 dX0_reach_36 rfl rfl ?_
    obtain ⟨c1, h⟩ := h
    refine wa_lmul 39 dX0_reach_38 rfl c1 ?_
    refine wa_lmax 42 dX0_reach_39 rfl wM_X0_50 (Nat.le_of_ble_eq_true rfl) (by decide) ?_
    refine wa_lstore 44 [(2, v0), (2, v1), (2, v2), (1, v3), (9, 0), (1, v5), (9, 0), (9, 0), (9, 0), (1, v9), (9, 0), (1, v11), (9, 0), (0, v13), (1, (max v3 ((v13 * v5)))), (9, 0), (9, 0), (9, 0), (9, 0), (9, 0)] dX0_reach_42 rfl rfl rfl ?_
    refine wa_aload_n 45 dX0_reach_44 rfl rfl ?_
    refine wa_iload 47 dX0_reach_45 rfl rfl ?_
    obtain ⟨c2, h⟩ := h
    refine wa_iaload 48 dX0_reach_47 rfl (okA_of k2 c2) ?_
    refine wa_i2l 49 dX0_reach_48 rfl ?_
    refine wa_lload 51 dX0_reach_49 rfl rfl ?_
    obtain ⟨c3, h⟩ := h
    refine wa_lmul 52 dX0_reach_51 rfl c3 ?_
    refine wa_lstore 54 [(2, v0), (2, v1), (2, v2), (1, v3), (9, 0), (1, v5), (9, 0), (9, 0), (9, 0), (1, v9), (9, 0), (1, v11), (9, 0), (0, v13), (1, (max v3 ((v13 * v5)))), (9, 0), (1, ((μ v2 v13) * v9)), (9, 0), (9, 0), (9, 0)] dX0_reach_52 rfl rfl rfl ?_
    refine wa_lload 56 dX0_reach_54 rfl rfl ?_
    refine wa_lconst 57 0 dX0_reach_56 rfl ⟨rfl, by decide⟩ ?_
    refine wa_iload 59 dX0_reach_57 rfl rfl ?_
    refine wa_iconst 60 dX0_reach_59 rfl (by decide) ?_
    obtain ⟨c4, h⟩ := h
    refine wa_iadd 61 dX0_reach_60 rfl c4 ?_
    refine wa_i2l 62 dX0_reach_61 rfl ?_
    refine wa_lload 64 dX0_reach_62 rfl rfl ?_
    obtain ⟨c5, h⟩ := h
    refine wa_lmul 65 dX0_reach_64 rfl c5 ?_
    refine wa_lload 67 dX0_reach_65 rfl rfl ?_
    obtain ⟨c6, h⟩ := h
    refine wa_lsub 68 dX0_reach_67 rfl c6 ?_
    refine wa_lmax 71 dX0_reach_68 rfl wM_X0_50 (Nat.le_of_ble_eq_true rfl) (by decide) ?_
    obtain ⟨c7, h⟩ := h
    refine wa_lmul 72 dX0_reach_71 rfl c7 ?_
    refine wa_lstore 74 [(2, v0), (2, v1), (2, v2), (1, v3), (9, 0), (1, v5), (9, 0), (9, 0), (9, 0), (1, v9), (9, 0), (1, v11), (9, 0), (0, v13), (1, (max v3 ((v13 * v5)))), (9, 0), (1, ((μ v2 v13) * v9)), (9, 0), (1, (((μ v2 v13) * v9) * (max 0 ((((v13 + 1) * v5) - (max v3 ((v13 * v5)))))))), (9, 0)] dX0_reach_72 rfl rfl rfl ?_
    refine wa_lload 76 dX0_reach_74 rfl rfl ?_
    refine wa_lload 78 dX0_reach_76 rfl rfl ?_
    refine wa_lc_lt 82 101 dX0_reach_78 dX0_reach_79 rfl (by decide) (fun q => ?_) (fun q => ?_)
    · replace h := h.1 q
      refine wa_lload 103 dX0_reach_101 rfl rfl ?_
      refine wa_lload 105 dX0_reach_103 rfl rfl ?_
      obtain ⟨c8, h⟩ := h
      refine wa_lsub 106 dX0_reach_105 rfl c8 ?_
      refine wa_lstore 108 [(2, v0), (2, v1), (2, v2), (1, v3), (9, 0), (1, v5), (9, 0), (9, 0), (9, 0), (1, v9), (9, 0), (1, (v11 - (((μ v2 v13) * v9) * (max 0 ((((v13 + 1) * v5) - (max v3 ((v13 * v5))))))))), (9, 0), (0, v13), (1, (max v3 ((v13 * v5)))), (9, 0), (1, ((μ v2 v13) * v9)), (9, 0), (1, (((μ v2 v13) * v9) * (max 0 ((((v13 + 1) * v5) - (max v3 ((v13 * v5)))))))), (9, 0)] dX0_reach_106 rfl rfl rfl ?_
      refine wa_iinc 111 [(2, v0), (2, v1), (2, v2), (1, v3), (9, 0), (1, v5), (9, 0), (9, 0), (9, 0), (1, v9), (9, 0), (1, (v11 - (((μ v2 v13) * v9) * (max 0 ((((v13 + 1) * v5) - (max v3 ((v13 * v5))))))))), (9, 0), (0, (v13 + 1)), (1, (max v3 ((v13 * v5)))), (9, 0), (1, ((μ v2 v13) * v9)), (9, 0), (1, (((μ v2 v13) * v9) * (max 0 ((((v13 + 1) * v5) - (max v3 ((v13 * v5)))))))), (9, 0)] dX0_reach_108 rfl rfl rfl c4 rfl ?_
      refine wa_goto 23 dX0_reach_111 (by decide) ?_
      exact wa_weak [(2, v0), (2, v1), (2, v2), (1, v3), (9, 0), (1, v5), (9, 0), (9, 0), (9, 0), (1, v9), (9, 0), (1, (v11 - (((μ v2 v13) * v9) * (max 0 ((((v13 + 1) * v5) - (max v3 ((v13 * v5))))))))), (9, 0), (0, (v13 + 1)), (9, 0), (9, 0), (9, 0), (9, 0), (9, 0), (9, 0)] ⟨Or.inl rfl, Or.inl rfl, Or.inl rfl, Or.inl rfl, Or.inl rfl, Or.inl rfl, Or.inl rfl, Or.inl rfl, Or.inl rfl, Or.inl rfl, Or.inl rfl, Or.inl rfl, Or.inl rfl, Or.inl rfl, Or.inr rfl, Or.inl rfl, Or.inr rfl, Or.inl rfl, Or.inr rfl, Or.inl rfl, trivial⟩ h
    · replace h := h.2 q
      refine wa_aload_n 83 dX0_reach_82 rfl rfl ?_
      refine wa_lload 85 dX0_reach_83 rfl rfl ?_
      refine wa_lload 87 dX0_reach_85 rfl rfl ?_
      obtain ⟨c9, h⟩ := h
      refine wa_lmul 88 dX0_reach_87 rfl c9 ?_
      refine wa_lload 90 dX0_reach_88 rfl rfl ?_
      obtain ⟨c10, h⟩ := h
      refine wa_ladd 91 dX0_reach_90 rfl c10 ?_
      refine wa_lload 93 dX0_reach_91 rfl rfl ?_
      refine wa_lload 95 dX0_reach_93 rfl rfl ?_
      obtain ⟨c11, h⟩ := h
      refine wa_lmul 96 dX0_reach_95 rfl c11 ?_
      refine wa_callV 99 1 2 3 (av := [(1, (((max v3 ((v13 * v5))) * ((μ v2 v13) * v9)) + v11)), (1, (v5 * ((μ v2 v13) * v9)))]) (rest := []) (k1 := (0, 0)) (k2 := (0, 0)) cvX3_put dX0_reach_96 rfl wM_X0_46 ⟨rfl, by decide, rfl, Nat.le_of_ble_eq_true rfl, by decide, Nat.le_of_ble_eq_true rfl, rfl, rfl⟩ rfl k1 (TR.mono h (fun r12 L13 μ14 h => ?_))
      obtain ⟨rfl, rfl, h⟩ := h
      show WA mX0_reach 2 (0, 0) 99 [(2, v0), (2, v1), (2, v2), (1, v3), (9, 0), (1, v5), (9, 0), (9, 0), (9, 0), (1, v9), (9, 0), (1, v11), (9, 0), (0, v13), (1, (max v3 ((v13 * v5)))), (9, 0), (1, ((μ v2 v13) * v9)), (9, 0), (1, (((μ v2 v13) * v9) * (max 0 ((((v13 + 1) * v5) - (max v3 ((v13 * v5)))))))), (9, 0)] [] L μ14 Q
      refine wa_iconst 100 dX0_reach_99 rfl (by decide) ?_
      exact wa_zret dX0_reach_100 rfl (Or.inr rfl) h
set_option maxRecDepth 20000 in
theorem t_X0_row (hL : LayOK L) {v0 v1 v2 : Int} (k0 : isK L v0 (0, 0)) (h : (¬ v2 = 1 → (0 ≤ v1 ∧ v1 < 5) ∧ Q (some (2, (rf L ((rf L v0 2)) v1))) L μ) ∧ (v2 = 1 → (0 ≤ v1 ∧ v1 < 5) ∧ Q (some (2, (rf L ((rf L v0 3)) v1))) L μ)) : TR mX0_row 0 (0, 0) [(2, v0), (0, v1), (0, v2)] L μ Q := by
  refine TR.of (ls := [(2, v0), (0, v1), (0, v2)]) (by decide) (by simp) rfl (Nat.le_of_ble_eq_true rfl) ?_
  refine wa_iload_n 1 dX0_row_0 rfl rfl ?_
  refine wa_iconst 2 dX0_row_1 rfl (by decide) ?_
  refine wa_icmp_ne 5 14 dX0_row_2 rfl (by decide) (fun q => ?_) (fun q => ?_)
  · replace h := h.1 q
    refine wa_aload_n 15 dX0_row_14 rfl rfl ?_
    have e1 : isK L (rf L v0 2) (23, 5) := lay_f hL k0 2 rfl
    refine wa_getR 18 2 dX0_row_15 rfl wF_X0_11 rfl rfl ⟨k0, isK_pos e1⟩ ?_
    refine wa_iload_n 19 dX0_row_18 rfl rfl ?_
    obtain ⟨c2, h⟩ := h
    have e3 : isK L (rf L ((rf L v0 2)) v1) (20, 16) := lay_e hL k0 2 rfl c2
    refine wa_aaload 20 23 dX0_row_19 rfl ⟨by decide, by decide⟩ ⟨okA_of e1 c2, isK_pos e3⟩ ?_
    exact wa_aret dX0_row_20 ⟨_, rfl, by first | exact Or.inl ⟨_, rfl⟩ | exact Or.inr ⟨_, rfl⟩⟩ h
  · replace h := h.2 q
    refine wa_aload_n 6 dX0_row_5 rfl rfl ?_
    have e4 : isK L (rf L v0 3) (23, 5) := lay_f hL k0 3 rfl
    refine wa_getR 9 3 dX0_row_6 rfl wF_X0_16 rfl rfl ⟨k0, isK_pos e4⟩ ?_
    refine wa_iload_n 10 dX0_row_9 rfl rfl ?_
    obtain ⟨c5, h⟩ := h
    have e6 : isK L (rf L ((rf L v0 3)) v1) (20, 16) := lay_e hL k0 3 rfl c5
    refine wa_aaload 11 23 dX0_row_10 rfl ⟨by decide, by decide⟩ ⟨okA_of e4 c5, isK_pos e6⟩ ?_
    refine wa_goto 20 dX0_row_11 (by decide) ?_
    exact wa_aret dX0_row_20 ⟨_, rfl, by first | exact Or.inl ⟨_, rfl⟩ | exact Or.inr ⟨_, rfl⟩⟩ h
set_option maxRecDepth 20000 in
theorem t_X0_total (hL : LayOK L) {v0 v1 : Int} (k0 : isK L v0 (0, 0)) (k1 : isK L v1 (20, 16)) (h : WA mX0_total 0 (0, 0) 4 [(2, v0), (2, v1), (0, 0), (0, 0)] [] L μ Q) : TR mX0_total 0 (0, 0) [(2, v0), (2, v1)] L μ Q := by
  refine TR.of (ls := [(2, v0), (2, v1), (9, 0), (9, 0)]) (by decide) (by simp) rfl (Nat.le_of_ble_eq_true rfl) ?_
  refine wa_iconst 1 dX0_total_0 rfl (by decide) ?_
  refine wa_istore_n 2 [(2, v0), (2, v1), (0, 0), (9, 0)] dX0_total_1 rfl rfl rfl ?_
  refine wa_iconst 3 dX0_total_2 rfl (by decide) ?_
  refine wa_istore_n 4 [(2, v0), (2, v1), (0, 0), (0, 0)] dX0_total_3 rfl rfl rfl ?_
  exact h
set_option maxRecDepth 20000 in
theorem s_X0_total_4 (hL : LayOK L) {v0 v1 v2 v3 : Int} (k0 : isK L v0 (0, 0)) (k1 : isK L v1 (20, 16)) (h : ((μ v0 0) ≤ v3 → Q (some (0, v2)) L μ) ∧ (¬ (μ v0 0) ≤ v3 → (0 ≤ v3 ∧ v3 < 16) ∧ (inI (v2 + (μ v1 v3))) ∧ (inI (v3 + 1)) ∧ WA mX0_total 0 (0, 0) 4 [(2, v0), (2, v1), (0, (v2 + (μ v1 v3))), (0, (v3 + 1))] [] L μ Q)) : WA mX0_total 0 (0, 0) 4 [(2, v0), (2, v1), (0, v2), (0, v3)] [] L μ Q := by
  refine wa_iload_n 5 dX0_total_4 rfl rfl ?_
  refine wa_aload_n 6 dX0_total_5 rfl rfl ?_
  refine wa_getI 9 0 dX0_total_6 rfl wF_X0_23 rfl rfl k0 ?_
  refine wa_icmp_ge 12 24 dX0_total_9 rfl (by decide) (fun q => ?_) (fun q => ?_)
  · replace h := h.1 q
    refine wa_iload_n 25 dX0_total_24 rfl rfl ?_
    exact wa_iret dX0_total_25 rfl h
  · replace h := h.2 q
    refine wa_iload_n 13 dX0_total_12 rfl rfl ?_
    refine wa_aload_n 14 dX0_total_13 rfl rfl ?_
    refine wa_iload_n 15 dX0_total_14 rfl rfl ?_
    obtain ⟨c1, h⟩ := h
    refine wa_iaload 16 dX0_total_15 rfl (okA_of k1 c1) ?_
    obtain ⟨c2, h⟩ := h
    refine wa_iadd 17 dX0_total_16 rfl c2 ?_
    refine wa_istore_n 18 [(2, v0), (2, v1), (0, (v2 + (μ v1 v3))), (0, v3)] dX0_total_17 rfl rfl rfl ?_
    obtain ⟨c3, h⟩ := h
    refine wa_iinc 21 [(2, v0), (2, v1), (0, (v2 + (μ v1 v3))), (0, (v3 + 1))] dX0_total_18 rfl rfl rfl c3 rfl ?_
    refine wa_goto 4 dX0_total_21 (by decide) ?_
    exact h
set_option maxRecDepth 20000 in
theorem t_X0_upTo (hL : LayOK L) {v0 v1 v2 v4 : Int} (k0 : isK L v0 (0, 0)) (k1 : isK L v1 (20, 16)) (h : WA mX0_upTo 1 (0, 0) 9 [(2, v0), (2, v1), (9, 0), (9, 0), (1, v4), (9, 0), (1, 0), (9, 0), (1, v2), (9, 0), (0, 0), (9, 0), (9, 0)] [] L μ Q) : TR mX0_upTo 1 (0, 0) [(2, v0), (2, v1), (1, v2), (1, v4)] L μ Q := by
  refine TR.of (ls := [(2, v0), (2, v1), (1, v2), (9, 0), (1, v4), (9, 0), (9, 0), (9, 0), (9, 0), (9, 0), (9, 0), (9, 0), (9, 0)]) (by decide) (by simp) rfl (Nat.le_of_ble_eq_true rfl) ?_
  refine wa_lconst 1 0 dX0_upTo_0 rfl ⟨rfl, by decide⟩ ?_
  refine wa_lstore 3 [(2, v0), (2, v1), (1, v2), (9, 0), (1, v4), (9, 0), (1, 0), (9, 0), (9, 0), (9, 0), (9, 0), (9, 0), (9, 0)] dX0_upTo_1 rfl rfl rfl ?_
  refine wa_lload_n 4 dX0_upTo_3 rfl rfl ?_
  refine wa_lstore 6 [(2, v0), (2, v1), (1, v2), (9, 0), (1, v4), (9, 0), (1, 0), (9, 0), (1, v2), (9, 0), (9, 0), (9, 0), (9, 0)] dX0_upTo_4 rfl rfl rfl ?_
  refine wa_iconst 7 dX0_upTo_6 rfl (by decide) ?_
  refine wa_istore 9 [(2, v0), (2, v1), (1, v2), (9, 0), (1, v4), (9, 0), (1, 0), (9, 0), (1, v2), (9, 0), (0, 0), (9, 0), (9, 0)] dX0_upTo_7 rfl rfl rfl ?_
  exact wa_weak [(2, v0), (2, v1), (9, 0), (9, 0), (1, v4), (9, 0), (1, 0), (9, 0), (1, v2), (9, 0), (0, 0), (9, 0), (9, 0)] ⟨Or.inl rfl, Or.inl rfl, Or.inr rfl, Or.inl rfl, Or.inl rfl, Or.inl rfl, Or.inl rfl, Or.inl rfl, Or.inl rfl, Or.inl rfl, Or.inl rfl, Or.inl rfl, Or.inl rfl, trivial⟩ h
set_option maxRecDepth 20000 in
theorem s_X0_upTo_9 (hL : LayOK L) {v0 v1 v4 v6 v8 v10 : Int} (k0 : isK L v0 (0, 0)) (k1 : isK L v1 (20, 16)) (h : ((μ v0 0) ≤ v10 → Q (some (1, v6)) L μ) ∧ (¬ (μ v0 0) ≤ v10 → (v8 ≤ 0 → Q (some (1, v6)) L μ) ∧ (¬ v8 ≤ 0 → (0 ≤ v10 ∧ v10 < 16) ∧ (inL ((μ v1 v10) * (min v8 v4))) ∧ (inL (v6 + ((μ v1 v10) * (min v8 v4)))) ∧ (inL (v8 - (min v8 v4))) ∧ (inI (v10 + 1)) ∧ WA mX0_upTo 1 (0, 0) 9 [(2, v0), (2, v1), (9, 0), (9, 0), (1, v4), (9, 0), (1, (v6 + ((μ v1 v10) * (min v8 v4)))), (9, 0), (1, (v8 - (min v8 v4))), (9, 0), (0, (v10 + 1)), (9, 0), (9, 0)] [] L μ Q))) : WA mX0_upTo 1 (0, 0) 9 [(2, v0), (2, v1), (9, 0), (9, 0), (1, v4), (9, 0), (1, v6), (9, 0), (1, v8), (9, 0), (0, v10), (9, 0), (9, 0)] [] L μ Q := by
  refine wa_iload 11 dX0_upTo_9 rfl rfl ?_
  refine wa_aload_n 12 dX0_upTo_11 rfl rfl ?_
  refine wa_getI 15 0 dX0_upTo_12 rfl wF_X0_23 rfl rfl k0 ?_
  refine wa_icmp_ge 18 60 dX0_upTo_15 rfl (by decide) (fun q => ?_) (fun q => ?_)
  · replace h := h.1 q
    refine wa_lload 62 dX0_upTo_60 rfl rfl ?_
    exact wa_lret dX0_upTo_62 rfl h
  · replace h := h.2 q
    refine wa_lload 20 dX0_upTo_18 rfl rfl ?_
    refine wa_lconst 21 0 dX0_upTo_20 rfl ⟨rfl, by decide⟩ ?_
    refine wa_lc_le 25 60 dX0_upTo_21 dX0_upTo_22 rfl (by decide) (fun q => ?_) (fun q => ?_)
    · replace h := h.1 q
      refine wa_lload 62 dX0_upTo_60 rfl rfl ?_
      exact wa_lret dX0_upTo_62 rfl h
    · replace h := h.2 q
      refine wa_lload 27 dX0_upTo_25 rfl rfl ?_
      refine wa_lload 29 dX0_upTo_27 rfl rfl ?_
      refine wa_lmin 32 dX0_upTo_29 rfl wM_X0_30 (Nat.le_of_ble_eq_true rfl) (by decide) ?_
      refine wa_lstore 34 [(2, v0), (2, v1), (9, 0), (9, 0), (1, v4), (9, 0), (1, v6), (9, 0), (1, v8), (9, 0), (0, v10), (1, (min v8 v4)), (9, 0)] dX0_upTo_32 rfl rfl rfl ?_
      refine wa_lload 36 dX0_upTo_34 rfl rfl ?_
      refine wa_aload_n 37 dX0_upTo_36 rfl rfl ?_
      refine wa_iload 39 dX0_upTo_37 rfl rfl ?_
      obtain ⟨c1, h⟩ := h
      refine wa_iaload 40 dX0_upTo_39 rfl (okA_of k1 c1) ?_
      refine wa_i2l 41 dX0_upTo_40 rfl ?_
      refine wa_lload 43 dX0_upTo_41 rfl rfl ?_
      obtain ⟨c2, h⟩ := h
      refine wa_lmul 44 dX0_upTo_43 rfl c2 ?_
      obtain ⟨c3, h⟩ := h
      refine wa_ladd 45 dX0_upTo_44 rfl c3 ?_
      refine wa_lstore 47 [(2, v0), (2, v1), (9, 0), (9, 0), (1, v4), (9, 0), (1, (v6 + ((μ v1 v10) * (min v8 v4)))), (9, 0), (1, v8), (9, 0), (0, v10), (1, (min v8 v4)), (9, 0)] dX0_upTo_45 rfl rfl rfl ?_
      refine wa_lload 49 dX0_upTo_47 rfl rfl ?_
      refine wa_lload 51 dX0_upTo_49 rfl rfl ?_
      obtain ⟨c4, h⟩ := h
      refine wa_lsub 52 dX0_upTo_51 rfl c4 ?_
      refine wa_lstore 54 [(2, v0), (2, v1), (9, 0), (9, 0), (1, v4), (9, 0), (1, (v6 + ((μ v1 v10) * (min v8 v4)))), (9, 0), (1, (v8 - (min v8 v4))), (9, 0), (0, v10), (1, (min v8 v4)), (9, 0)] dX0_upTo_52 rfl rfl rfl ?_
      obtain ⟨c5, h⟩ := h
      refine wa_iinc 57 [(2, v0), (2, v1), (9, 0), (9, 0), (1, v4), (9, 0), (1, (v6 + ((μ v1 v10) * (min v8 v4)))), (9, 0), (1, (v8 - (min v8 v4))), (9, 0), (0, (v10 + 1)), (1, (min v8 v4)), (9, 0)] dX0_upTo_54 rfl rfl rfl c5 rfl ?_
      refine wa_goto 9 dX0_upTo_57 (by decide) ?_
      exact wa_weak [(2, v0), (2, v1), (9, 0), (9, 0), (1, v4), (9, 0), (1, (v6 + ((μ v1 v10) * (min v8 v4)))), (9, 0), (1, (v8 - (min v8 v4))), (9, 0), (0, (v10 + 1)), (9, 0), (9, 0)] ⟨Or.inl rfl, Or.inl rfl, Or.inl rfl, Or.inl rfl, Or.inl rfl, Or.inl rfl, Or.inl rfl, Or.inl rfl, Or.inl rfl, Or.inl rfl, Or.inl rfl, Or.inr rfl, Or.inl rfl, trivial⟩ h
end
