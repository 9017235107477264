/-! constructors, and what they call, over a layout that grows (laid by wip/whole/gen/vc2.py) -/
section
variable {L : Lay} {μ : Mem} {k : Nat × Nat} {Q : Option AV → Lay → Mem → Prop}
set_option maxRecDepth 20000 in
theorem o_X0_lay {v0 v1 v2 : Int} (k0 : isK L v0 (0, 0)) (h : WA mX0_lay 0 k 12 [(2, v0), (9, 0), (9, 0), (0, 0), (9, 0)] [] L (up (up μ v0 0 v1) v0 1 v2) Q) : TR mX0_lay 0 k [(2, v0), (0, v1), (0, v2)] L μ Q := by
  refine TR.of (ls := [(2, v0), (0, v1), (0, v2), (9, 0), (9, 0)]) (by decide) (by simp) rfl (Nat.le_of_ble_eq_true rfl) ?_
  refine wa_aload_n 1 dX0_lay_0 rfl rfl ?_
  refine wa_iload_n 2 dX0_lay_1 rfl rfl ?_
  refine wa_putN 5 0 dX0_lay_2 rfl wF_X0_23 rfl rfl k0 ?_
  refine wa_aload_n 6 dX0_lay_5 rfl rfl ?_
  refine wa_iload_n 7 dX0_lay_6 rfl rfl ?_
  refine wa_putN 10 1 dX0_lay_7 rfl wF_X0_27 rfl rfl k0 ?_
  refine wa_iconst 11 dX0_lay_10 rfl (by decide) ?_
  refine wa_istore_n 12 [(2, v0), (0, v1), (0, v2), (0, 0), (9, 0)] dX0_lay_11 rfl rfl rfl ?_
  exact wa_weak [(2, v0), (9, 0), (9, 0), (0, 0), (9, 0)] ⟨Or.inl rfl, Or.inr rfl, Or.inr rfl, Or.inl rfl, Or.inl rfl, trivial⟩ h
set_option maxRecDepth 20000 in
theorem p_X0_lay_12 {v0 v3 : Int} (k0 : isK L v0 (0, 0)) (h : (5 ≤ v3 → Q none L μ) ∧ (¬ 5 ≤ v3 → WA mX0_lay 0 k 20 [(2, v0), (9, 0), (9, 0), (0, v3), (0, 0)] [] L μ Q)) : WA mX0_lay 0 k 12 [(2, v0), (9, 0), (9, 0), (0, v3), (9, 0)] [] L μ Q := by
  refine wa_iload_n 13 dX0_lay_12 rfl rfl ?_
  refine wa_iconst 14 dX0_lay_13 rfl (by decide) ?_
  refine wa_icmp_ge 17 59 dX0_lay_14 rfl (by decide) (fun q => ?_) (fun q => ?_)
  · replace h := h.1 q
    exact wa_vret dX0_lay_59 rfl h
  · replace h := h.2 q
    refine wa_iconst 18 dX0_lay_17 rfl (by decide) ?_
    refine wa_istore 20 [(2, v0), (9, 0), (9, 0), (0, v3), (0, 0)] dX0_lay_18 rfl rfl rfl ?_
    exact h
set_option maxRecDepth 20000 in
theorem p_X0_lay_20 {v0 v3 v4 : Int} (k0 : isK L v0 (0, 0)) (h : (16 ≤ v4 → (inI (v3 + 1)) ∧ WA mX0_lay 0 k 12 [(2, v0), (9, 0), (9, 0), (0, (v3 + 1)), (9, 0)] [] L μ Q) ∧ (¬ 16 ≤ v4 → (isK L (rf L v0 2) (23, 5)) ∧ (0 ≤ v3 ∧ v3 < 5) ∧ (isK L (rf L ((rf L v0 2)) v3) (20, 16)) ∧ (0 ≤ v4 ∧ v4 < 16) ∧ (isK L (rf L v0 3) (23, 5)) ∧ (isK L (rf L ((rf L v0 3)) v3) (20, 16)) ∧ (inI (v4 + 1)) ∧ WA mX0_lay 0 k 20 [(2, v0), (9, 0), (9, 0), (0, v3), (0, (v4 + 1))] [] L (up (up μ ((rf L ((rf L v0 2)) v3)) v4 1) ((rf L ((rf L v0 3)) v3)) v4 1) Q)) : WA mX0_lay 0 k 20 [(2, v0), (9, 0), (9, 0), (0, v3), (0, v4)] [] L μ Q := by
  refine wa_iload 22 dX0_lay_20 rfl rfl ?_
  refine wa_bipush 24 dX0_lay_22 rfl ⟨by decide, by decide⟩ ?_
  refine wa_icmp_ge 27 53 dX0_lay_24 rfl (by decide) (fun q => ?_) (fun q => ?_)
  · replace h := h.1 q
    obtain ⟨c1, h⟩ := h
    refine wa_iinc 56 [(2, v0), (9, 0), (9, 0), (0, (v3 + 1)), (0, v4)] dX0_lay_53 rfl rfl rfl c1 rfl ?_
    refine wa_goto 12 dX0_lay_56 (by decide) ?_
    exact wa_weak [(2, v0), (9, 0), (9, 0), (0, (v3 + 1)), (9, 0)] ⟨Or.inl rfl, Or.inl rfl, Or.inl rfl, Or.inl rfl, Or.inr rfl, trivial⟩ h
  · replace h := h.2 q
    refine wa_aload_n 28 dX0_lay_27 rfl rfl ?_
    obtain ⟨c2, h⟩ := h
    refine wa_getR 31 2 dX0_lay_28 rfl wF_X0_11 rfl rfl ⟨k0, isK_pos c2⟩ ?_
    refine wa_iload_n 32 dX0_lay_31 rfl rfl ?_
    obtain ⟨c3, h⟩ := h
    obtain ⟨c4, h⟩ := h
    refine wa_aaload 33 23 dX0_lay_32 rfl ⟨by decide, by decide⟩ ⟨okA_of c2 c3, isK_pos c4⟩ ?_
    refine wa_iload 35 dX0_lay_33 rfl rfl ?_
    refine wa_iconst 36 dX0_lay_35 rfl (by decide) ?_
    obtain ⟨c5, h⟩ := h
    refine wa_iastore 37 dX0_lay_36 rfl (okA_of c4 c5) ?_
    refine wa_aload_n 38 dX0_lay_37 rfl rfl ?_
    obtain ⟨c6, h⟩ := h
    refine wa_getR 41 3 dX0_lay_38 rfl wF_X0_16 rfl rfl ⟨k0, isK_pos c6⟩ ?_
    refine wa_iload_n 42 dX0_lay_41 rfl rfl ?_
    obtain ⟨c7, h⟩ := h
    refine wa_aaload 43 23 dX0_lay_42 rfl ⟨by decide, by decide⟩ ⟨okA_of c6 c3, isK_pos c7⟩ ?_
    refine wa_iload 45 dX0_lay_43 rfl rfl ?_
    refine wa_iconst 46 dX0_lay_45 rfl (by decide) ?_
    refine wa_iastore 47 dX0_lay_46 rfl (okA_of c7 c5) ?_
    obtain ⟨c8, h⟩ := h
    refine wa_iinc 50 [(2, v0), (9, 0), (9, 0), (0, v3), (0, (v4 + 1))] dX0_lay_47 rfl rfl rfl c8 rfl ?_
    refine wa_goto 20 dX0_lay_50 (by decide) ?_
    exact h
set_option maxRecDepth 20000 in
theorem o_X1_clear {v0 : Int} (k0 : isK L v0 (1, 0)) (h : WA mX1_clear 0 k 22 [(2, v0), (0, 0)] [] L (up (up (up (up μ v0 0 0) v0 1 0) v0 2 1) v0 3 0) Q) : TR mX1_clear 0 k [(2, v0)] L μ Q := by
  refine TR.of (ls := [(2, v0), (9, 0)]) (by decide) (by simp) rfl (Nat.le_of_ble_eq_true rfl) ?_
  refine wa_aload_n 1 dX1_clear_0 rfl rfl ?_
  refine wa_iconst 2 dX1_clear_1 rfl (by decide) ?_
  refine wa_putI 5 0 dX1_clear_2 rfl wF_X1_47 rfl rfl k0 (Or.inl rfl) ?_
  refine wa_aload_n 6 dX1_clear_5 rfl rfl ?_
  refine wa_iconst 7 dX1_clear_6 rfl (by decide) ?_
  refine wa_putI 10 1 dX1_clear_7 rfl wF_X1_51 rfl rfl k0 (Or.inl rfl) ?_
  refine wa_aload_n 11 dX1_clear_10 rfl rfl ?_
  refine wa_lconst 12 1 dX1_clear_11 rfl ⟨rfl, by decide⟩ ?_
  refine wa_putL 15 2 dX1_clear_12 rfl wF_X1_54 rfl rfl k0 ?_
  refine wa_aload_n 16 dX1_clear_15 rfl rfl ?_
  refine wa_iconst 17 dX1_clear_16 rfl (by decide) ?_
  refine wa_putN 20 3 dX1_clear_17 rfl wF_X1_58 rfl rfl k0 ?_
  refine wa_iconst 21 dX1_clear_20 rfl (by decide) ?_
  refine wa_istore_n 22 [(2, v0), (0, 0)] dX1_clear_21 rfl rfl rfl ?_
  exact h
set_option maxRecDepth 20000 in
theorem p_X1_clear_22 {v0 v1 : Int} (k0 : isK L v0 (1, 0)) (h : (5 ≤ v1 → Q none L μ) ∧ (¬ 5 ≤ v1 → (isK L (rf L v0 5) (20, 5)) ∧ (0 ≤ v1 ∧ v1 < 5) ∧ (inI (v1 + 1)) ∧ WA mX1_clear 0 k 22 [(2, v0), (0, (v1 + 1))] [] L (up μ ((rf L v0 5)) v1 0) Q)) : WA mX1_clear 0 k 22 [(2, v0), (0, v1)] [] L μ Q := by
  refine wa_iload_n 23 dX1_clear_22 rfl rfl ?_
  refine wa_iconst 24 dX1_clear_23 rfl (by decide) ?_
  refine wa_icmp_ge 27 40 dX1_clear_24 rfl (by decide) (fun q => ?_) (fun q => ?_)
  · replace h := h.1 q
    exact wa_vret dX1_clear_40 rfl h
  · replace h := h.2 q
    refine wa_aload_n 28 dX1_clear_27 rfl rfl ?_
    obtain ⟨c1, h⟩ := h
    refine wa_getR 31 5 dX1_clear_28 rfl wF_X1_17 rfl rfl ⟨k0, isK_pos c1⟩ ?_
    refine wa_iload_n 32 dX1_clear_31 rfl rfl ?_
    refine wa_iconst 33 dX1_clear_32 rfl (by decide) ?_
    obtain ⟨c2, h⟩ := h
    refine wa_iastore 34 dX1_clear_33 rfl (okA_of c1 c2) ?_
    obtain ⟨c3, h⟩ := h
    refine wa_iinc 37 [(2, v0), (0, (v1 + 1))] dX1_clear_34 rfl rfl rfl c3 rfl ?_
    refine wa_goto 22 dX1_clear_37 (by decide) ?_
    exact h
set_option maxRecDepth 20000 in
theorem o_X10_fresh {v0 v1 v2 : Int} (k0 : isK L v0 (10, 0)) (h : WA mX10_fresh 0 k 2 [(2, v0), (0, v1), (0, v2), (0, 0)] [] L μ Q) : TR mX10_fresh 0 k [(2, v0), (0, v1), (0, v2)] L μ Q := by
  refine TR.of (ls := [(2, v0), (0, v1), (0, v2), (9, 0)]) (by decide) (by simp) rfl (Nat.le_of_ble_eq_true rfl) ?_
  refine wa_iconst 1 dX10_fresh_0 rfl (by decide) ?_
  refine wa_istore_n 2 [(2, v0), (0, v1), (0, v2), (0, 0)] dX10_fresh_1 rfl rfl rfl ?_
  exact h
set_option maxRecDepth 20000 in
theorem p_X10_fresh_2 {v0 v1 v2 v3 : Int} (k0 : isK L v0 (10, 0)) (h : (510 ≤ v3 → (isK L (rf L v0 0) (21, 510)) ∧ Q none L (up (up (up μ ((rf L v0 0)) 0 v1) ((rf L v0 0)) 1 v2) ((rf L v0 0)) 3 1)) ∧ (¬ 510 ≤ v3 → (isK L (rf L v0 0) (21, 510)) ∧ (v3 < 5 → (0 ≤ v3 ∧ v3 < 510) ∧ (inI (v3 + 1)) ∧ WA mX10_fresh 0 k 2 [(2, v0), (0, v1), (0, v2), (0, (v3 + 1))] [] L (up μ ((rf L v0 0)) v3 0) Q) ∧ (¬ v3 < 5 → (165 ≤ v3 → (0 ≤ v3 ∧ v3 < 510) ∧ (inI (v3 + 1)) ∧ WA mX10_fresh 0 k 2 [(2, v0), (0, v1), (0, v2), (0, (v3 + 1))] [] L (up μ ((rf L v0 0)) v3 0) Q) ∧ (¬ 165 ≤ v3 → (0 ≤ v3 ∧ v3 < 510) ∧ (inI (v3 + 1)) ∧ WA mX10_fresh 0 k 2 [(2, v0), (0, v1), (0, v2), (0, (v3 + 1))] [] L (up μ ((rf L v0 0)) v3 1) Q)))) : WA mX10_fresh 0 k 2 [(2, v0), (0, v1), (0, v2), (0, v3)] [] L μ Q := by
  refine wa_iload_n 3 dX10_fresh_2 rfl rfl ?_
  refine wa_sipush 6 dX10_fresh_3 rfl ⟨by decide, by decide⟩ ?_
  refine wa_icmp_ge 9 38 dX10_fresh_6 rfl (by decide) (fun q => ?_) (fun q => ?_)
  · replace h := h.1 q
    refine wa_aload_n 39 dX10_fresh_38 rfl rfl ?_
    obtain ⟨c1, h⟩ := h
    refine wa_getR 42 0 dX10_fresh_39 rfl wF_X10_9 rfl rfl ⟨k0, isK_pos c1⟩ ?_
    refine wa_iconst 43 dX10_fresh_42 rfl (by decide) ?_
    refine wa_iload_n 44 dX10_fresh_43 rfl rfl ?_
    refine wa_i2l 45 dX10_fresh_44 rfl ?_
    refine wa_lastore 46 dX10_fresh_45 rfl (okA_of c1 ⟨by decide, by decide⟩) ?_
    refine wa_aload_n 47 dX10_fresh_46 rfl rfl ?_
    refine wa_getR 50 0 dX10_fresh_47 rfl wF_X10_9 rfl rfl ⟨k0, isK_pos c1⟩ ?_
    refine wa_iconst 51 dX10_fresh_50 rfl (by decide) ?_
    refine wa_iload_n 52 dX10_fresh_51 rfl rfl ?_
    refine wa_i2l 53 dX10_fresh_52 rfl ?_
    refine wa_lastore 54 dX10_fresh_53 rfl (okA_of c1 ⟨by decide, by decide⟩) ?_
    refine wa_aload_n 55 dX10_fresh_54 rfl rfl ?_
    refine wa_getR 58 0 dX10_fresh_55 rfl wF_X10_9 rfl rfl ⟨k0, isK_pos c1⟩ ?_
    refine wa_iconst 59 dX10_fresh_58 rfl (by decide) ?_
    refine wa_lconst 60 1 dX10_fresh_59 rfl ⟨rfl, by decide⟩ ?_
    refine wa_lastore 61 dX10_fresh_60 rfl (okA_of c1 ⟨by decide, by decide⟩) ?_
    exact wa_vret dX10_fresh_61 rfl h
  · replace h := h.2 q
    refine wa_aload_n 10 dX10_fresh_9 rfl rfl ?_
    obtain ⟨c2, h⟩ := h
    refine wa_getR 13 0 dX10_fresh_10 rfl wF_X10_9 rfl rfl ⟨k0, isK_pos c2⟩ ?_
    refine wa_iload_n 14 dX10_fresh_13 rfl rfl ?_
    refine wa_iload_n 15 dX10_fresh_14 rfl rfl ?_
    refine wa_iconst 16 dX10_fresh_15 rfl (by decide) ?_
    refine wa_icmp_lt 19 30 dX10_fresh_16 rfl (by decide) (fun q => ?_) (fun q => ?_)
    · replace h := h.1 q
      refine wa_lconst 31 0 dX10_fresh_30 rfl ⟨rfl, by decide⟩ ?_
      obtain ⟨c3, h⟩ := h
      refine wa_lastore 32 dX10_fresh_31 rfl (okA_of c2 c3) ?_
      obtain ⟨c4, h⟩ := h
      refine wa_iinc 35 [(2, v0), (0, v1), (0, v2), (0, (v3 + 1))] dX10_fresh_32 rfl rfl rfl c4 rfl ?_
      refine wa_goto 2 dX10_fresh_35 (by decide) ?_
      exact h
    · replace h := h.2 q
      refine wa_iload_n 20 dX10_fresh_19 rfl rfl ?_
      refine wa_sipush 23 dX10_fresh_20 rfl ⟨by decide, by decide⟩ ?_
      refine wa_icmp_ge 26 30 dX10_fresh_23 rfl (by decide) (fun q => ?_) (fun q => ?_)
      · replace h := h.1 q
        refine wa_lconst 31 0 dX10_fresh_30 rfl ⟨rfl, by decide⟩ ?_
        obtain ⟨c5, h⟩ := h
        refine wa_lastore 32 dX10_fresh_31 rfl (okA_of c2 c5) ?_
        obtain ⟨c6, h⟩ := h
        refine wa_iinc 35 [(2, v0), (0, v1), (0, v2), (0, (v3 + 1))] dX10_fresh_32 rfl rfl rfl c6 rfl ?_
        refine wa_goto 2 dX10_fresh_35 (by decide) ?_
        exact h
      · replace h := h.2 q
        refine wa_lconst 27 1 dX10_fresh_26 rfl ⟨rfl, by decide⟩ ?_
        refine wa_goto 31 dX10_fresh_27 (by decide) ?_
        obtain ⟨c7, h⟩ := h
        refine wa_lastore 32 dX10_fresh_31 rfl (okA_of c2 c7) ?_
        obtain ⟨c8, h⟩ := h
        refine wa_iinc 35 [(2, v0), (0, v1), (0, v2), (0, (v3 + 1))] dX10_fresh_32 rfl rfl rfl c8 rfl ?_
        refine wa_goto 2 dX10_fresh_35 (by decide) ?_
        exact h
set_option maxRecDepth 20000 in
theorem o_X3_init {v0 : Int} (k0 : isK L v0 (3, 0)) (h : Q none L (up μ v0 1 1)) : TR mX3_init 1 k [(2, v0)] L μ Q := by
  refine TR.of (ls := [(2, v0)]) (by decide) (by simp) rfl (Nat.le_of_ble_eq_true rfl) ?_
  refine wa_aload_n 1 dX3_init_0 rfl rfl ?_
  refine wa_objInit 4 dX3_init_1 rfl wM_X3_1 (by decide) ?_
  refine wa_aload_n 5 dX3_init_4 rfl rfl ?_
  refine wa_lconst 6 1 dX3_init_5 rfl ⟨rfl, by decide⟩ ?_
  refine wa_putL 9 1 dX3_init_6 rfl wF_X3_7 rfl rfl k0 ?_
  exact wa_vret dX3_init_9 rfl h
set_option maxRecDepth 20000 in
theorem o_X7_init {v0 : Int} (k0 : isK L v0 (7, 0)) (h : ∃ k1 : Nat × Nat, k = (k1.1 + 1, k1.2 + 2) ∧ ∀ (o2 : Int) (L3 : Lay) (μ4 : Mem), o2 = L.1 + 1 → L3 = nwL L (3, 0) → μ4 = nwM L μ → (isK L3 v0 (7, 0)) ∧ (isK L3 o2 (3, 0)) ∧ ∃ k14 k15 : Nat × Nat, k14.1 + k15.1 = (k1.1, k1.2).1 ∧ k14.2 + k15.2 = (k1.1, k1.2).2 ∧ TR mX3_init 1 k14 [(2, o2)] L3 μ4 (fun r11 L12 μ13 => r11 = none ∧ (isK L12 v0 (7, 0)) ∧ (isK L12 o2 (3, 0)) ∧ ∀ L20 : Lay, L20 = upR L12 v0 0 o2 → (isK L20 v0 (7, 0)) ∧ ∃ k22 : Nat × Nat, k15 = (k22.1 + 1, k22.2 + 2) ∧ ∀ (o23 : Int) (L24 : Lay) (μ25 : Mem), o23 = L20.1 + 1 → L24 = nwL L20 (3, 0) → μ25 = nwM L20 μ13 → (isK L24 v0 (7, 0)) ∧ (isK L24 o23 (3, 0)) ∧ ∃ k35 k36 : Nat × Nat, k35.1 + k36.1 = (k22.1, k22.2).1 ∧ k35.2 + k36.2 = (k22.1, k22.2).2 ∧ TR mX3_init 1 k35 [(2, o23)] L24 μ25 (fun r32 L33 μ34 => r32 = none ∧ (isK L33 v0 (7, 0)) ∧ (isK L33 o23 (3, 0)) ∧ ∀ L41 : Lay, L41 = upR L33 v0 1 o23 → (isK L41 v0 (7, 0)) ∧ Q none L41 μ34))) : TR mX7_init 2 k [(2, v0)] L μ Q := by
  refine TR.of (ls := [(2, v0)]) (by decide) (by simp) rfl (Nat.le_of_ble_eq_true rfl) ?_
  refine wa_aload_n 1 dX7_init_0 rfl rfl ?_
  refine wa_objInit 4 dX7_init_1 rfl wM_X7_1 (by decide) ?_
  refine wa_aload_n 5 dX7_init_4 rfl rfl ?_
  obtain ⟨k1, e5, h⟩ := h
  refine wa_new 8 3 dX7_init_5 rfl wC_X7_7 wI_X3 wZ_X3 ⟨by decide, e5⟩ ?_
  replace h := h _ _ _ rfl rfl rfl
  generalize nwL L (3, 0) = L3 at h ⊢
  generalize nwM L μ = μ4 at h ⊢
  generalize L.1 + 1 = o2 at h ⊢
  obtain ⟨c9, h⟩ := h
  obtain ⟨c10, h⟩ := h
  refine wa_dup 9 dX7_init_8 rfl (Or.inr rfl) ?_
  obtain ⟨k14, k15, e16, e17, h⟩ := h
  refine wa_callN 12 1 0 (host := "KnifeDesk") (av := []) (rest := [(2, o2), (2, v0)]) (k1 := k14) (k2 := k15) ⟨cvX3_init, rfl⟩ dX7_init_9 rfl (List.mem_of_getElem? (i := 3) rfl) ⟨rfl, Nat.le_of_ble_eq_true rfl, by decide, Nat.le_of_ble_eq_true rfl, e16, e17⟩ rfl (TR.mono h (fun r11 L12 μ13 h => ?_))
  obtain ⟨rfl, h⟩ := h
  obtain ⟨c18, h⟩ := h
  obtain ⟨c19, h⟩ := h
  show WA mX7_init 2 k15 12 [(2, v0)] [(2, o2), (2, v0)] L12 μ13 Q
  refine wa_putR 15 0 dX7_init_12 rfl wF_X7_10 rfl ⟨rfl, rfl⟩ rfl ⟨c18, isK_pos c19⟩ ?_
  replace h := h _ rfl
  generalize upR L12 v0 0 o2 = L20 at h ⊢
  obtain ⟨c21, h⟩ := h
  refine wa_aload_n 16 dX7_init_15 rfl rfl ?_
  obtain ⟨k22, e26, h⟩ := h
  refine wa_new 19 3 dX7_init_16 rfl wC_X7_7 wI_X3 wZ_X3 ⟨by decide, e26⟩ ?_
  replace h := h _ _ _ rfl rfl rfl
  generalize nwL L20 (3, 0) = L24 at h ⊢
  generalize nwM L20 μ13 = μ25 at h ⊢
  generalize L20.1 + 1 = o23 at h ⊢
  obtain ⟨c30, h⟩ := h
  obtain ⟨c31, h⟩ := h
  refine wa_dup 20 dX7_init_19 rfl (Or.inr rfl) ?_
  obtain ⟨k35, k36, e37, e38, h⟩ := h
  refine wa_callN 23 1 0 (host := "KnifeDesk") (av := []) (rest := [(2, o23), (2, v0)]) (k1 := k35) (k2 := k36) ⟨cvX3_init, rfl⟩ dX7_init_20 rfl (List.mem_of_getElem? (i := 3) rfl) ⟨rfl, Nat.le_of_ble_eq_true rfl, by decide, Nat.le_of_ble_eq_true rfl, e37, e38⟩ rfl (TR.mono h (fun r32 L33 μ34 h => ?_))
  obtain ⟨rfl, h⟩ := h
  obtain ⟨c39, h⟩ := h
  obtain ⟨c40, h⟩ := h
  show WA mX7_init 2 k36 23 [(2, v0)] [(2, o23), (2, v0)] L33 μ34 Q
  refine wa_putR 26 1 dX7_init_23 rfl wF_X7_16 rfl ⟨rfl, rfl⟩ rfl ⟨c39, isK_pos c40⟩ ?_
  replace h := h _ rfl
  generalize upR L33 v0 1 o23 = L41 at h ⊢
  obtain ⟨c42, h⟩ := h
  exact wa_vret dX7_init_26 rfl h
set_option maxRecDepth 20000 in
theorem o_X2_init {v0 : Int} (k0 : isK L v0 (2, 0)) (h : ∃ k1 : Nat × Nat, k = (k1.1 + 1, k1.2 + 2) ∧ ∀ (o2 : Int) (L3 : Lay) (μ4 : Mem), o2 = L.1 + 1 → L3 = nwL L (7, 0) → μ4 = nwM L μ → (isK L3 v0 (2, 0)) ∧ (isK L3 o2 (7, 0)) ∧ ∃ k14 k15 : Nat × Nat, k14.1 + k15.1 = (k1.1, k1.2).1 ∧ k14.2 + k15.2 = (k1.1, k1.2).2 ∧ TR mX7_init 2 k14 [(2, o2)] L3 μ4 (fun r11 L12 μ13 => r11 = none ∧ (isK L12 v0 (2, 0)) ∧ (isK L12 o2 (7, 0)) ∧ ∀ L20 : Lay, L20 = upR L12 v0 2 o2 → (isK L20 v0 (2, 0)) ∧ Q none L20 μ13)) : TR mX2_init 3 k [(2, v0)] L μ Q := by
  refine TR.of (ls := [(2, v0)]) (by decide) (by simp) rfl (Nat.le_of_ble_eq_true rfl) ?_
  refine wa_aload_n 1 dX2_init_0 rfl rfl ?_
  refine wa_objInit 4 dX2_init_1 rfl wM_X2_1 (by decide) ?_
  refine wa_aload_n 5 dX2_init_4 rfl rfl ?_
  obtain ⟨k1, e5, h⟩ := h
  refine wa_new 8 7 dX2_init_5 rfl wC_X2_7 wI_X7 wZ_X7 ⟨by decide, e5⟩ ?_
  replace h := h _ _ _ rfl rfl rfl
  generalize nwL L (7, 0) = L3 at h ⊢
  generalize nwM L μ = μ4 at h ⊢
  generalize L.1 + 1 = o2 at h ⊢
  obtain ⟨c9, h⟩ := h
  obtain ⟨c10, h⟩ := h
  refine wa_dup 9 dX2_init_8 rfl (Or.inr rfl) ?_
  obtain ⟨k14, k15, e16, e17, h⟩ := h
  refine wa_callN 12 2 0 (host := "KnifeDesk") (av := []) (rest := [(2, o2), (2, v0)]) (k1 := k14) (k2 := k15) ⟨cvX7_init, rfl⟩ dX2_init_9 rfl (List.mem_of_getElem? (i := 2) rfl) ⟨rfl, Nat.le_of_ble_eq_true rfl, by decide, Nat.le_of_ble_eq_true rfl, e16, e17⟩ rfl (TR.mono h (fun r11 L12 μ13 h => ?_))
  obtain ⟨rfl, h⟩ := h
  obtain ⟨c18, h⟩ := h
  obtain ⟨c19, h⟩ := h
  show WA mX2_init 3 k15 12 [(2, v0)] [(2, o2), (2, v0)] L12 μ13 Q
  refine wa_putR 15 2 dX2_init_12 rfl wF_X2_10 rfl ⟨rfl, rfl⟩ rfl ⟨c18, isK_pos c19⟩ ?_
  replace h := h _ rfl
  generalize upR L12 v0 2 o2 = L20 at h ⊢
  obtain ⟨c21, h⟩ := h
  exact wa_vret dX2_init_15 rfl h
set_option maxRecDepth 20000 in
theorem o_X0_init {v0 : Int} (k0 : isK L v0 (0, 0)) (h : ∃ k1 : Nat × Nat, k = (k1.1 + (1 + 5), k1.2 + (5 + 5 * 16)) ∧ ∀ (o2 : Int) (L3 : Lay) (μ4 : Mem), o2 = L.1 + 1 → L3 = nwRL L 5 16 → μ4 = nwRM L μ → (isK L3 v0 (0, 0)) ∧ (isK L3 o2 (23, 5)) ∧ ∀ L11 : Lay, L11 = upR L3 v0 2 o2 → (isK L11 v0 (0, 0)) ∧ ∃ k13 : Nat × Nat, (k1.1, k1.2) = (k13.1 + (1 + 5), k13.2 + (5 + 5 * 16)) ∧ ∀ (o14 : Int) (L15 : Lay) (μ16 : Mem), o14 = L11.1 + 1 → L15 = nwRL L11 5 16 → μ16 = nwRM L11 μ4 → (isK L15 v0 (0, 0)) ∧ (isK L15 o14 (23, 5)) ∧ ∀ L23 : Lay, L23 = upR L15 v0 3 o14 → (isK L23 v0 (0, 0)) ∧ TR mX0_lay 0 (0, 0) [(2, v0), (0, 8), (0, 3)] L23 μ16 (fun r25 L26 μ27 => r25 = none ∧ L23 = L26 ∧ Q none L23 μ27)) : TR mX0_init 1 k [(2, v0)] L μ Q := by
  refine TR.of (ls := [(2, v0)]) (by decide) (by simp) rfl (Nat.le_of_ble_eq_true rfl) ?_
  refine wa_aload_n 1 dX0_init_0 rfl rfl ?_
  refine wa_objInit 4 dX0_init_1 rfl wM_X0_3 (by decide) ?_
  refine wa_aload_n 5 dX0_init_4 rfl rfl ?_
  refine wa_iconst 6 dX0_init_5 rfl (by decide) ?_
  refine wa_bipush 8 dX0_init_6 rfl ⟨by decide, by decide⟩ ?_
  obtain ⟨k1, e5, h⟩ := h
  refine wa_multi 12 5 16 dX0_init_8 rfl wC_X0_9 ⟨rfl, rfl, by decide, by decide, e5⟩ ?_
  replace h := h _ _ _ rfl rfl rfl
  generalize nwRL L 5 16 = L3 at h ⊢
  generalize nwRM L μ = μ4 at h ⊢
  generalize L.1 + 1 = o2 at h ⊢
  obtain ⟨c9, h⟩ := h
  obtain ⟨c10, h⟩ := h
  refine wa_putR 15 2 dX0_init_12 rfl wF_X0_11 rfl ⟨rfl, rfl⟩ rfl ⟨c9, isK_pos c10⟩ ?_
  replace h := h _ rfl
  generalize upR L3 v0 2 o2 = L11 at h ⊢
  obtain ⟨c12, h⟩ := h
  refine wa_aload_n 16 dX0_init_15 rfl rfl ?_
  refine wa_iconst 17 dX0_init_16 rfl (by decide) ?_
  refine wa_bipush 19 dX0_init_17 rfl ⟨by decide, by decide⟩ ?_
  obtain ⟨k13, e17, h⟩ := h
  refine wa_multi 23 5 16 dX0_init_19 rfl wC_X0_9 ⟨rfl, rfl, by decide, by decide, e17⟩ ?_
  replace h := h _ _ _ rfl rfl rfl
  generalize nwRL L11 5 16 = L15 at h ⊢
  generalize nwRM L11 μ4 = μ16 at h ⊢
  generalize L11.1 + 1 = o14 at h ⊢
  obtain ⟨c21, h⟩ := h
  obtain ⟨c22, h⟩ := h
  refine wa_putR 26 3 dX0_init_23 rfl wF_X0_16 rfl ⟨rfl, rfl⟩ rfl ⟨c21, isK_pos c22⟩ ?_
  replace h := h _ rfl
  generalize upR L15 v0 3 o14 = L23 at h ⊢
  obtain ⟨c24, h⟩ := h
  refine wa_aload_n 27 dX0_init_26 rfl rfl ?_
  refine wa_bipush 29 dX0_init_27 rfl ⟨by decide, by decide⟩ ?_
  refine wa_iconst 30 dX0_init_29 rfl (by decide) ?_
  refine wa_callV 33 0 2 0 (av := [(0, 8), (0, 3)]) (rest := []) (k1 := (0, 0)) (k2 := (k13.1, k13.2)) cvX0_lay dX0_init_30 rfl wM_X0_19 ⟨rfl, by decide, rfl, Nat.le_of_ble_eq_true rfl, by decide, Nat.le_of_ble_eq_true rfl, Nat.zero_add _, Nat.zero_add _⟩ rfl c24 (TR.mono h (fun r25 L26 μ27 h => ?_))
  obtain ⟨rfl, rfl, h⟩ := h
  show WA mX0_init 1 (k13.1, k13.2) 33 [(2, v0)] [] L23 μ27 Q
  exact wa_vret dX0_init_33 rfl h
set_option maxRecDepth 20000 in
theorem o_X1_init {v0 : Int} (k0 : isK L v0 (1, 0)) (h : ∃ k1 : Nat × Nat, k = (k1.1 + 1, k1.2 + 19) ∧ ∀ (o2 : Int) (L3 : Lay) (μ4 : Mem), o2 = L.1 + 1 → L3 = nwL L (24, 19) → μ4 = nwM L μ → (isK L3 v0 (1, 0)) ∧ (isK L3 o2 (24, 19)) ∧ ∀ L11 : Lay, L11 = upR L3 v0 4 o2 → (isK L11 v0 (1, 0)) ∧ ∃ k13 : Nat × Nat, (k1.1, k1.2) = (k13.1 + 1, k13.2 + 5) ∧ ∀ (o14 : Int) (L15 : Lay) (μ16 : Mem), o14 = L11.1 + 1 → L15 = nwL L11 (20, 5) → μ16 = nwM L11 μ4 → (isK L15 v0 (1, 0)) ∧ (isK L15 o14 (20, 5)) ∧ ∀ L23 : Lay, L23 = upR L15 v0 5 o14 → (isK L23 v0 (1, 0)) ∧ ∃ k25 : Nat × Nat, (k13.1, k13.2) = (k25.1 + 1, k25.2 + 10) ∧ ∀ (o26 : Int) (L27 : Lay) (μ28 : Mem), o26 = L23.1 + 1 → L27 = nwL L23 (25, 10) → μ28 = nwM L23 μ16 → (isK L27 v0 (1, 0)) ∧ (isK L27 o26 (25, 10)) ∧ ∀ L35 : Lay, L35 = upR L27 v0 6 o26 → (isK L35 v0 (1, 0)) ∧ ∃ k37 : Nat × Nat, (k25.1, k25.2) = (k37.1 + 1, k37.2 + 20) ∧ ∀ (o38 : Int) (L39 : Lay) (μ40 : Mem), o38 = L35.1 + 1 → L39 = nwL L35 (26, 20) → μ40 = nwM L35 μ28 → (isK L39 v0 (1, 0)) ∧ (isK L39 o38 (26, 20)) ∧ ∀ L47 : Lay, L47 = upR L39 v0 7 o38 → (isK L47 v0 (1, 0)) ∧ ∃ k49 : Nat × Nat, (k37.1, k37.2) = (k49.1 + 1, k49.2 + 25) ∧ ∀ (o50 : Int) (L51 : Lay) (μ52 : Mem), o50 = L47.1 + 1 → L51 = nwL L47 (21, 25) → μ52 = nwM L47 μ40 → (isK L51 v0 (1, 0)) ∧ (isK L51 o50 (21, 25)) ∧ ∀ L59 : Lay, L59 = upR L51 v0 8 o50 → (isK L59 v0 (1, 0)) ∧ ∃ k61 : Nat × Nat, (k49.1, k49.2) = (k61.1 + 1, k61.2 + 2) ∧ ∀ (o62 : Int) (L63 : Lay) (μ64 : Mem), o62 = L59.1 + 1 → L63 = nwL L59 (3, 0) → μ64 = nwM L59 μ52 → (isK L63 v0 (1, 0)) ∧ (isK L63 o62 (3, 0)) ∧ ∃ k74 k75 : Nat × Nat, k74.1 + k75.1 = (k61.1, k61.2).1 ∧ k74.2 + k75.2 = (k61.1, k61.2).2 ∧ TR mX3_init 1 k74 [(2, o62)] L63 μ64 (fun r71 L72 μ73 => r71 = none ∧ (isK L72 v0 (1, 0)) ∧ (isK L72 o62 (3, 0)) ∧ ∀ L80 : Lay, L80 = upR L72 v0 9 o62 → (isK L80 v0 (1, 0)) ∧ WA mX1_init 4 k75 59 [(2, v0), (0, 0)] [] L80 μ73 Q)) : TR mX1_init 4 k [(2, v0)] L μ Q := by
  refine TR.of (ls := [(2, v0), (9, 0)]) (by decide) (by simp) rfl (Nat.le_of_ble_eq_true rfl) ?_
  refine wa_aload_n 1 dX1_init_0 rfl rfl ?_
  refine wa_objInit 4 dX1_init_1 rfl wM_X1_3 (by decide) ?_
  refine wa_aload_n 5 dX1_init_4 rfl rfl ?_
  refine wa_bipush 7 dX1_init_5 rfl ⟨by decide, by decide⟩ ?_
  obtain ⟨k1, e5, h⟩ := h
  refine wa_anewarray 10 24 19 dX1_init_7 rfl wC_X1_11 ⟨Or.inl ⟨rfl, rfl⟩, rfl, by decide, e5⟩ ?_
  replace h := h _ _ _ rfl rfl rfl
  generalize nwL L (24, 19) = L3 at h ⊢
  generalize nwM L μ = μ4 at h ⊢
  generalize L.1 + 1 = o2 at h ⊢
  obtain ⟨c9, h⟩ := h
  obtain ⟨c10, h⟩ := h
  refine wa_putR 13 4 dX1_init_10 rfl wF_X1_13 rfl ⟨rfl, rfl⟩ rfl ⟨c9, isK_pos c10⟩ ?_
  replace h := h _ rfl
  generalize upR L3 v0 4 o2 = L11 at h ⊢
  obtain ⟨c12, h⟩ := h
  refine wa_aload_n 14 dX1_init_13 rfl rfl ?_
  refine wa_iconst 15 dX1_init_14 rfl (by decide) ?_
  obtain ⟨k13, e17, h⟩ := h
  refine wa_newarray 17 20 5 (atype := .int) dX1_init_15 rfl ⟨Or.inl ⟨rfl, rfl⟩, rfl, by decide, e17⟩ ?_
  replace h := h _ _ _ rfl rfl rfl
  generalize nwL L11 (20, 5) = L15 at h ⊢
  generalize nwM L11 μ4 = μ16 at h ⊢
  generalize L11.1 + 1 = o14 at h ⊢
  obtain ⟨c21, h⟩ := h
  obtain ⟨c22, h⟩ := h
  refine wa_putR 20 5 dX1_init_17 rfl wF_X1_17 rfl ⟨rfl, rfl⟩ rfl ⟨c21, isK_pos c22⟩ ?_
  replace h := h _ rfl
  generalize upR L15 v0 5 o14 = L23 at h ⊢
  obtain ⟨c24, h⟩ := h
  refine wa_aload_n 21 dX1_init_20 rfl rfl ?_
  refine wa_bipush 23 dX1_init_21 rfl ⟨by decide, by decide⟩ ?_
  obtain ⟨k25, e29, h⟩ := h
  refine wa_anewarray 26 25 10 dX1_init_23 rfl wC_X1_21 ⟨Or.inr (Or.inl ⟨rfl, rfl⟩), rfl, by decide, e29⟩ ?_
  replace h := h _ _ _ rfl rfl rfl
  generalize nwL L23 (25, 10) = L27 at h ⊢
  generalize nwM L23 μ16 = μ28 at h ⊢
  generalize L23.1 + 1 = o26 at h ⊢
  obtain ⟨c33, h⟩ := h
  obtain ⟨c34, h⟩ := h
  refine wa_putR 29 6 dX1_init_26 rfl wF_X1_23 rfl ⟨rfl, rfl⟩ rfl ⟨c33, isK_pos c34⟩ ?_
  replace h := h _ rfl
  generalize upR L27 v0 6 o26 = L35 at h ⊢
  obtain ⟨c36, h⟩ := h
  refine wa_aload_n 30 dX1_init_29 rfl rfl ?_
  refine wa_bipush 32 dX1_init_30 rfl ⟨by decide, by decide⟩ ?_
  obtain ⟨k37, e41, h⟩ := h
  refine wa_anewarray 35 26 20 dX1_init_32 rfl wC_X1_27 ⟨Or.inr (Or.inr ⟨rfl, rfl⟩), rfl, by decide, e41⟩ ?_
  replace h := h _ _ _ rfl rfl rfl
  generalize nwL L35 (26, 20) = L39 at h ⊢
  generalize nwM L35 μ28 = μ40 at h ⊢
  generalize L35.1 + 1 = o38 at h ⊢
  obtain ⟨c45, h⟩ := h
  obtain ⟨c46, h⟩ := h
  refine wa_putR 38 7 dX1_init_35 rfl wF_X1_29 rfl ⟨rfl, rfl⟩ rfl ⟨c45, isK_pos c46⟩ ?_
  replace h := h _ rfl
  generalize upR L39 v0 7 o38 = L47 at h ⊢
  obtain ⟨c48, h⟩ := h
  refine wa_aload_n 39 dX1_init_38 rfl rfl ?_
  refine wa_bipush 41 dX1_init_39 rfl ⟨by decide, by decide⟩ ?_
  obtain ⟨k49, e53, h⟩ := h
  refine wa_newarray 43 21 25 (atype := .long) dX1_init_41 rfl ⟨Or.inr (Or.inl ⟨rfl, rfl⟩), rfl, by decide, e53⟩ ?_
  replace h := h _ _ _ rfl rfl rfl
  generalize nwL L47 (21, 25) = L51 at h ⊢
  generalize nwM L47 μ40 = μ52 at h ⊢
  generalize L47.1 + 1 = o50 at h ⊢
  obtain ⟨c57, h⟩ := h
  obtain ⟨c58, h⟩ := h
  refine wa_putR 46 8 dX1_init_43 rfl wF_X1_33 rfl ⟨rfl, rfl⟩ rfl ⟨c57, isK_pos c58⟩ ?_
  replace h := h _ rfl
  generalize upR L51 v0 8 o50 = L59 at h ⊢
  obtain ⟨c60, h⟩ := h
  refine wa_aload_n 47 dX1_init_46 rfl rfl ?_
  obtain ⟨k61, e65, h⟩ := h
  refine wa_new 50 3 dX1_init_47 rfl wC_X1_27 wI_X3 wZ_X3 ⟨by decide, e65⟩ ?_
  replace h := h _ _ _ rfl rfl rfl
  generalize nwL L59 (3, 0) = L63 at h ⊢
  generalize nwM L59 μ52 = μ64 at h ⊢
  generalize L59.1 + 1 = o62 at h ⊢
  obtain ⟨c69, h⟩ := h
  obtain ⟨c70, h⟩ := h
  refine wa_dup 51 dX1_init_50 rfl (Or.inr rfl) ?_
  obtain ⟨k74, k75, e76, e77, h⟩ := h
  refine wa_callN 54 1 0 (host := "KnifeDesk") (av := []) (rest := [(2, o62), (2, v0)]) (k1 := k74) (k2 := k75) ⟨cvX3_init, rfl⟩ dX1_init_51 rfl (List.mem_of_getElem? (i := 0) rfl) ⟨rfl, Nat.le_of_ble_eq_true rfl, by decide, Nat.le_of_ble_eq_true rfl, e76, e77⟩ rfl (TR.mono h (fun r71 L72 μ73 h => ?_))
  obtain ⟨rfl, h⟩ := h
  obtain ⟨c78, h⟩ := h
  obtain ⟨c79, h⟩ := h
  show WA mX1_init 4 k75 54 [(2, v0), (9, 0)] [(2, o62), (2, v0)] L72 μ73 Q
  refine wa_putR 57 9 dX1_init_54 rfl wF_X1_38 rfl ⟨rfl, rfl⟩ rfl ⟨c78, isK_pos c79⟩ ?_
  replace h := h _ rfl
  generalize upR L72 v0 9 o62 = L80 at h ⊢
  obtain ⟨c81, h⟩ := h
  refine wa_iconst 58 dX1_init_57 rfl (by decide) ?_
  refine wa_istore_n 59 [(2, v0), (0, 0)] dX1_init_58 rfl rfl rfl ?_
  exact h
set_option maxRecDepth 20000 in
theorem p_X1_init_59 {v0 v1 : Int} (k0 : isK L v0 (1, 0)) (h : (isK L (rf L v0 4) (24, 19)) ∧ (19 ≤ v1 → WA mX1_init 4 k 89 [(2, v0), (0, 0)] [] L μ Q) ∧ (¬ 19 ≤ v1 → ∃ k2 : Nat × Nat, k = (k2.1 + 1, k2.2 + 3) ∧ ∀ (o3 : Int) (L4 : Lay) (μ5 : Mem), o3 = L.1 + 1 → L4 = nwL L (2, 0) → μ5 = nwM L μ → (isK L4 v0 (1, 0)) ∧ (isK L4 o3 (2, 0)) ∧ (isK L4 ((rf L v0 4)) (24, 19)) ∧ ∃ k16 k17 : Nat × Nat, k16.1 + k17.1 = (k2.1, k2.2).1 ∧ k16.2 + k17.2 = (k2.1, k2.2).2 ∧ TR mX2_init 3 k16 [(2, o3)] L4 μ5 (fun r13 L14 μ15 => r13 = none ∧ (isK L14 v0 (1, 0)) ∧ (isK L14 o3 (2, 0)) ∧ (isK L14 ((rf L v0 4)) (24, 19)) ∧ (0 ≤ v1 ∧ v1 < 19) ∧ ∀ L24 : Lay, L24 = upR L14 ((rf L v0 4)) v1 o3 → (isK L24 v0 (1, 0)) ∧ (inI (v1 + 1)) ∧ WA mX1_init 4 k17 59 [(2, v0), (0, (v1 + 1))] [] L24 μ15 Q))) : WA mX1_init 4 k 59 [(2, v0), (0, v1)] [] L μ Q := by
  refine wa_iload_n 60 dX1_init_59 rfl rfl ?_
  refine wa_aload_n 61 dX1_init_60 rfl rfl ?_
  obtain ⟨c1, h⟩ := h
  refine wa_getR 64 4 dX1_init_61 rfl wF_X1_13 rfl rfl ⟨k0, isK_pos c1⟩ ?_
  refine wa_alen 65 dX1_init_64 rfl ⟨c1.1, c1.2.1, by rw [c1.2.2], by rw [c1.2.2]; decide, by decide, by decide⟩ ?_
  refine wa_icmp_ge 68 87 dX1_init_65 rfl (by decide) (fun q => ?_) (fun q => ?_)
  · replace h := h.1 q
    refine wa_iconst 88 dX1_init_87 rfl (by decide) ?_
    refine wa_istore_n 89 [(2, v0), (0, 0)] dX1_init_88 rfl rfl rfl ?_
    exact h
  · replace h := h.2 q
    refine wa_aload_n 69 dX1_init_68 rfl rfl ?_
    refine wa_getR 72 4 dX1_init_69 rfl wF_X1_13 rfl rfl ⟨k0, isK_pos c1⟩ ?_
    refine wa_iload_n 73 dX1_init_72 rfl rfl ?_
    obtain ⟨k2, e6, h⟩ := h
    refine wa_new 76 2 dX1_init_73 rfl wC_X1_11 wI_X2 wZ_X2 ⟨by decide, e6⟩ ?_
    replace h := h _ _ _ rfl rfl rfl
    generalize nwL L (2, 0) = L4 at h ⊢
    generalize nwM L μ = μ5 at h ⊢
    generalize L.1 + 1 = o3 at h ⊢
    obtain ⟨c10, h⟩ := h
    obtain ⟨c11, h⟩ := h
    obtain ⟨c12, h⟩ := h
    refine wa_dup 77 dX1_init_76 rfl (Or.inr rfl) ?_
    obtain ⟨k16, k17, e18, e19, h⟩ := h
    refine wa_callN 80 3 0 (host := "KnifeDesk") (av := []) (rest := [(2, o3), (0, v1), (2, (rf L v0 4))]) (k1 := k16) (k2 := k17) ⟨cvX2_init, rfl⟩ dX1_init_77 rfl (List.mem_of_getElem? (i := 1) rfl) ⟨rfl, Nat.le_of_ble_eq_true rfl, by decide, Nat.le_of_ble_eq_true rfl, e18, e19⟩ rfl (TR.mono h (fun r13 L14 μ15 h => ?_))
    obtain ⟨rfl, h⟩ := h
    obtain ⟨c20, h⟩ := h
    obtain ⟨c21, h⟩ := h
    obtain ⟨c22, h⟩ := h
    show WA mX1_init 4 k17 80 [(2, v0), (0, v1)] [(2, o3), (0, v1), (2, (rf L v0 4))] L14 μ15 Q
    obtain ⟨c23, h⟩ := h
    refine wa_aastore 81 24 2 dX1_init_80 rfl (Or.inl ⟨rfl, rfl⟩) ⟨okA_of c22 c23, c21⟩ ?_
    replace h := h _ rfl
    generalize upR L14 ((rf L v0 4)) v1 o3 = L24 at h ⊢
    obtain ⟨c25, h⟩ := h
    obtain ⟨c26, h⟩ := h
    refine wa_iinc 84 [(2, v0), (0, (v1 + 1))] dX1_init_81 rfl rfl rfl c26 rfl ?_
    refine wa_goto 59 dX1_init_84 (by decide) ?_
    exact h
set_option maxRecDepth 20000 in
theorem p_X1_init_89 {v0 v1 : Int} (k0 : isK L v0 (1, 0)) (h : (isK L (rf L v0 6) (25, 10)) ∧ (10 ≤ v1 → WA mX1_init 4 k 119 [(2, v0), (0, 0)] [] L μ Q) ∧ (¬ 10 ≤ v1 → ∃ k2 : Nat × Nat, k = (k2.1 + 1, k2.2 + 2) ∧ ∀ (o3 : Int) (L4 : Lay) (μ5 : Mem), o3 = L.1 + 1 → L4 = nwL L (7, 0) → μ5 = nwM L μ → (isK L4 v0 (1, 0)) ∧ (isK L4 o3 (7, 0)) ∧ (isK L4 ((rf L v0 6)) (25, 10)) ∧ ∃ k16 k17 : Nat × Nat, k16.1 + k17.1 = (k2.1, k2.2).1 ∧ k16.2 + k17.2 = (k2.1, k2.2).2 ∧ TR mX7_init 2 k16 [(2, o3)] L4 μ5 (fun r13 L14 μ15 => r13 = none ∧ (isK L14 v0 (1, 0)) ∧ (isK L14 o3 (7, 0)) ∧ (isK L14 ((rf L v0 6)) (25, 10)) ∧ (0 ≤ v1 ∧ v1 < 10) ∧ ∀ L24 : Lay, L24 = upR L14 ((rf L v0 6)) v1 o3 → (isK L24 v0 (1, 0)) ∧ (inI (v1 + 1)) ∧ WA mX1_init 4 k17 89 [(2, v0), (0, (v1 + 1))] [] L24 μ15 Q))) : WA mX1_init 4 k 89 [(2, v0), (0, v1)] [] L μ Q := by
  refine wa_iload_n 90 dX1_init_89 rfl rfl ?_
  refine wa_aload_n 91 dX1_init_90 rfl rfl ?_
  obtain ⟨c1, h⟩ := h
  refine wa_getR 94 6 dX1_init_91 rfl wF_X1_23 rfl rfl ⟨k0, isK_pos c1⟩ ?_
  refine wa_alen 95 dX1_init_94 rfl ⟨c1.1, c1.2.1, by rw [c1.2.2], by rw [c1.2.2]; decide, by decide, by decide⟩ ?_
  refine wa_icmp_ge 98 117 dX1_init_95 rfl (by decide) (fun q => ?_) (fun q => ?_)
  · replace h := h.1 q
    refine wa_iconst 118 dX1_init_117 rfl (by decide) ?_
    refine wa_istore_n 119 [(2, v0), (0, 0)] dX1_init_118 rfl rfl rfl ?_
    exact h
  · replace h := h.2 q
    refine wa_aload_n 99 dX1_init_98 rfl rfl ?_
    refine wa_getR 102 6 dX1_init_99 rfl wF_X1_23 rfl rfl ⟨k0, isK_pos c1⟩ ?_
    refine wa_iload_n 103 dX1_init_102 rfl rfl ?_
    obtain ⟨k2, e6, h⟩ := h
    refine wa_new 106 7 dX1_init_103 rfl wC_X1_21 wI_X7 wZ_X7 ⟨by decide, e6⟩ ?_
    replace h := h _ _ _ rfl rfl rfl
    generalize nwL L (7, 0) = L4 at h ⊢
    generalize nwM L μ = μ5 at h ⊢
    generalize L.1 + 1 = o3 at h ⊢
    obtain ⟨c10, h⟩ := h
    obtain ⟨c11, h⟩ := h
    obtain ⟨c12, h⟩ := h
    refine wa_dup 107 dX1_init_106 rfl (Or.inr rfl) ?_
    obtain ⟨k16, k17, e18, e19, h⟩ := h
    refine wa_callN 110 2 0 (host := "KnifeDesk") (av := []) (rest := [(2, o3), (0, v1), (2, (rf L v0 6))]) (k1 := k16) (k2 := k17) ⟨cvX7_init, rfl⟩ dX1_init_107 rfl (List.mem_of_getElem? (i := 4) rfl) ⟨rfl, Nat.le_of_ble_eq_true rfl, by decide, Nat.le_of_ble_eq_true rfl, e18, e19⟩ rfl (TR.mono h (fun r13 L14 μ15 h => ?_))
    obtain ⟨rfl, h⟩ := h
    obtain ⟨c20, h⟩ := h
    obtain ⟨c21, h⟩ := h
    obtain ⟨c22, h⟩ := h
    show WA mX1_init 4 k17 110 [(2, v0), (0, v1)] [(2, o3), (0, v1), (2, (rf L v0 6))] L14 μ15 Q
    obtain ⟨c23, h⟩ := h
    refine wa_aastore 111 25 7 dX1_init_110 rfl (Or.inr (Or.inl ⟨rfl, rfl⟩)) ⟨okA_of c22 c23, c21⟩ ?_
    replace h := h _ rfl
    generalize upR L14 ((rf L v0 6)) v1 o3 = L24 at h ⊢
    obtain ⟨c25, h⟩ := h
    obtain ⟨c26, h⟩ := h
    refine wa_iinc 114 [(2, v0), (0, (v1 + 1))] dX1_init_111 rfl rfl rfl c26 rfl ?_
    refine wa_goto 89 dX1_init_114 (by decide) ?_
    exact h
set_option maxRecDepth 20000 in
theorem p_X1_init_119 {v0 v1 : Int} (k0 : isK L v0 (1, 0)) (h : (isK L (rf L v0 7) (26, 20)) ∧ (20 ≤ v1 → TR mX1_clear 0 (0, 0) [(2, v0)] L μ (fun r2 L3 μ4 => r2 = none ∧ L = L3 ∧ Q none L μ4)) ∧ (¬ 20 ≤ v1 → ∃ k5 : Nat × Nat, k = (k5.1 + 1, k5.2 + 2) ∧ ∀ (o6 : Int) (L7 : Lay) (μ8 : Mem), o6 = L.1 + 1 → L7 = nwL L (3, 0) → μ8 = nwM L μ → (isK L7 v0 (1, 0)) ∧ (isK L7 o6 (3, 0)) ∧ (isK L7 ((rf L v0 7)) (26, 20)) ∧ ∃ k19 k20 : Nat × Nat, k19.1 + k20.1 = (k5.1, k5.2).1 ∧ k19.2 + k20.2 = (k5.1, k5.2).2 ∧ TR mX3_init 1 k19 [(2, o6)] L7 μ8 (fun r16 L17 μ18 => r16 = none ∧ (isK L17 v0 (1, 0)) ∧ (isK L17 o6 (3, 0)) ∧ (isK L17 ((rf L v0 7)) (26, 20)) ∧ (0 ≤ v1 ∧ v1 < 20) ∧ ∀ L27 : Lay, L27 = upR L17 ((rf L v0 7)) v1 o6 → (isK L27 v0 (1, 0)) ∧ (inI (v1 + 1)) ∧ WA mX1_init 4 k20 119 [(2, v0), (0, (v1 + 1))] [] L27 μ18 Q))) : WA mX1_init 4 k 119 [(2, v0), (0, v1)] [] L μ Q := by
  refine wa_iload_n 120 dX1_init_119 rfl rfl ?_
  refine wa_aload_n 121 dX1_init_120 rfl rfl ?_
  obtain ⟨c1, h⟩ := h
  refine wa_getR 124 7 dX1_init_121 rfl wF_X1_29 rfl rfl ⟨k0, isK_pos c1⟩ ?_
  refine wa_alen 125 dX1_init_124 rfl ⟨c1.1, c1.2.1, by rw [c1.2.2], by rw [c1.2.2]; decide, by decide, by decide⟩ ?_
  refine wa_icmp_ge 128 147 dX1_init_125 rfl (by decide) (fun q => ?_) (fun q => ?_)
  · replace h := h.1 q
    refine wa_aload_n 148 dX1_init_147 rfl rfl ?_
    refine wa_callV 151 0 0 1 (av := []) (rest := []) (k1 := (0, 0)) (k2 := k) cvX1_clear dX1_init_148 rfl wM_X1_44 ⟨rfl, by decide, rfl, Nat.le_of_ble_eq_true rfl, by decide, Nat.le_of_ble_eq_true rfl, Nat.zero_add _, Nat.zero_add _⟩ rfl k0 (TR.mono h (fun r2 L3 μ4 h => ?_))
    obtain ⟨rfl, rfl, h⟩ := h
    show WA mX1_init 4 k 151 [(2, v0), (0, v1)] [] L μ4 Q
    exact wa_vret dX1_init_151 rfl h
  · replace h := h.2 q
    refine wa_aload_n 129 dX1_init_128 rfl rfl ?_
    refine wa_getR 132 7 dX1_init_129 rfl wF_X1_29 rfl rfl ⟨k0, isK_pos c1⟩ ?_
    refine wa_iload_n 133 dX1_init_132 rfl rfl ?_
    obtain ⟨k5, e9, h⟩ := h
    refine wa_new 136 3 dX1_init_133 rfl wC_X1_27 wI_X3 wZ_X3 ⟨by decide, e9⟩ ?_
    replace h := h _ _ _ rfl rfl rfl
    generalize nwL L (3, 0) = L7 at h ⊢
    generalize nwM L μ = μ8 at h ⊢
    generalize L.1 + 1 = o6 at h ⊢
    obtain ⟨c13, h⟩ := h
    obtain ⟨c14, h⟩ := h
    obtain ⟨c15, h⟩ := h
    refine wa_dup 137 dX1_init_136 rfl (Or.inr rfl) ?_
    obtain ⟨k19, k20, e21, e22, h⟩ := h
    refine wa_callN 140 1 0 (host := "KnifeDesk") (av := []) (rest := [(2, o6), (0, v1), (2, (rf L v0 7))]) (k1 := k19) (k2 := k20) ⟨cvX3_init, rfl⟩ dX1_init_137 rfl (List.mem_of_getElem? (i := 0) rfl) ⟨rfl, Nat.le_of_ble_eq_true rfl, by decide, Nat.le_of_ble_eq_true rfl, e21, e22⟩ rfl (TR.mono h (fun r16 L17 μ18 h => ?_))
    obtain ⟨rfl, h⟩ := h
    obtain ⟨c23, h⟩ := h
    obtain ⟨c24, h⟩ := h
    obtain ⟨c25, h⟩ := h
    show WA mX1_init 4 k20 140 [(2, v0), (0, v1)] [(2, o6), (0, v1), (2, (rf L v0 7))] L17 μ18 Q
    obtain ⟨c26, h⟩ := h
    refine wa_aastore 141 26 3 dX1_init_140 rfl (Or.inr (Or.inr ⟨rfl, rfl⟩)) ⟨okA_of c25 c26, c24⟩ ?_
    replace h := h _ rfl
    generalize upR L17 ((rf L v0 7)) v1 o6 = L27 at h ⊢
    obtain ⟨c28, h⟩ := h
    obtain ⟨c29, h⟩ := h
    refine wa_iinc 144 [(2, v0), (0, (v1 + 1))] dX1_init_141 rfl rfl rfl c29 rfl ?_
    refine wa_goto 119 dX1_init_144 (by decide) ?_
    exact h
set_option maxRecDepth 20000 in
theorem o_X5_init {v0 v1 v2 : Int} (k0 : isK L v0 (5, 0)) (k1 : isK L v1 (0, 0)) (k2 : isK L v2 (1, 0)) (h : ∃ k1 : Nat × Nat, k = (k1.1 + 1, k1.2 + 2) ∧ ∀ (o2 : Int) (L3 : Lay) (μ4 : Mem), o2 = L.1 + 1 → L3 = nwL L (7, 0) → μ4 = nwM L μ → (isK L3 v0 (5, 0)) ∧ (isK L3 v1 (0, 0)) ∧ (isK L3 v2 (1, 0)) ∧ (isK L3 o2 (7, 0)) ∧ ∃ k16 k17 : Nat × Nat, k16.1 + k17.1 = (k1.1, k1.2).1 ∧ k16.2 + k17.2 = (k1.1, k1.2).2 ∧ TR mX7_init 2 k16 [(2, o2)] L3 μ4 (fun r13 L14 μ15 => r13 = none ∧ (isK L14 v0 (5, 0)) ∧ (isK L14 v1 (0, 0)) ∧ (isK L14 v2 (1, 0)) ∧ (isK L14 o2 (7, 0)) ∧ ∀ L24 : Lay, L24 = upR L14 v0 3 o2 → (isK L24 v0 (5, 0)) ∧ (isK L24 v1 (0, 0)) ∧ (isK L24 v2 (1, 0)) ∧ ∃ k28 : Nat × Nat, k17 = (k28.1 + 1, k28.2 + 2) ∧ ∀ (o29 : Int) (L30 : Lay) (μ31 : Mem), o29 = L24.1 + 1 → L30 = nwL L24 (7, 0) → μ31 = nwM L24 μ15 → (isK L30 v0 (5, 0)) ∧ (isK L30 v1 (0, 0)) ∧ (isK L30 v2 (1, 0)) ∧ (isK L30 o29 (7, 0)) ∧ ∃ k43 k44 : Nat × Nat, k43.1 + k44.1 = (k28.1, k28.2).1 ∧ k43.2 + k44.2 = (k28.1, k28.2).2 ∧ TR mX7_init 2 k43 [(2, o29)] L30 μ31 (fun r40 L41 μ42 => r40 = none ∧ (isK L41 v0 (5, 0)) ∧ (isK L41 v1 (0, 0)) ∧ (isK L41 v2 (1, 0)) ∧ (isK L41 o29 (7, 0)) ∧ ∀ L51 : Lay, L51 = upR L41 v0 4 o29 → (isK L51 v0 (5, 0)) ∧ (isK L51 v1 (0, 0)) ∧ (isK L51 v2 (1, 0)) ∧ ∃ k55 : Nat × Nat, k44 = (k55.1 + 1, k55.2 + 5) ∧ ∀ (o56 : Int) (L57 : Lay) (μ58 : Mem), o56 = L51.1 + 1 → L57 = nwL L51 (26, 5) → μ58 = nwM L51 μ42 → (isK L57 v0 (5, 0)) ∧ (isK L57 v1 (0, 0)) ∧ (isK L57 v2 (1, 0)) ∧ (isK L57 o56 (26, 5)) ∧ ∀ L67 : Lay, L67 = upR L57 v0 5 o56 → (isK L67 v0 (5, 0)) ∧ (isK L67 v1 (0, 0)) ∧ (isK L67 v2 (1, 0)) ∧ ∃ k71 : Nat × Nat, (k55.1, k55.2) = (k71.1 + 1, k71.2 + 5) ∧ ∀ (o72 : Int) (L73 : Lay) (μ74 : Mem), o72 = L67.1 + 1 → L73 = nwL L67 (26, 5) → μ74 = nwM L67 μ58 → (isK L73 v0 (5, 0)) ∧ (isK L73 v1 (0, 0)) ∧ (isK L73 v2 (1, 0)) ∧ (isK L73 o72 (26, 5)) ∧ ∀ L83 : Lay, L83 = upR L73 v0 6 o72 → (isK L83 v0 (5, 0)) ∧ (isK L83 v1 (0, 0)) ∧ (isK L83 v2 (1, 0)) ∧ ∃ k87 : Nat × Nat, (k71.1, k71.2) = (k87.1 + 1, k87.2 + 5) ∧ ∀ (o88 : Int) (L89 : Lay) (μ90 : Mem), o88 = L83.1 + 1 → L89 = nwL L83 (20, 5) → μ90 = nwM L83 μ74 → (isK L89 v0 (5, 0)) ∧ (isK L89 v1 (0, 0)) ∧ (isK L89 v2 (1, 0)) ∧ (isK L89 o88 (20, 5)) ∧ ∀ L99 : Lay, L99 = upR L89 v0 7 o88 → (isK L99 v0 (5, 0)) ∧ (isK L99 v1 (0, 0)) ∧ (isK L99 v2 (1, 0)) ∧ ∃ k103 : Nat × Nat, (k87.1, k87.2) = (k103.1 + 1, k103.2 + 3) ∧ ∀ (o104 : Int) (L105 : Lay) (μ106 : Mem), o104 = L99.1 + 1 → L105 = nwL L99 (25, 3) → μ106 = nwM L99 μ90 → (isK L105 v0 (5, 0)) ∧ (isK L105 v1 (0, 0)) ∧ (isK L105 v2 (1, 0)) ∧ (isK L105 o104 (25, 3)) ∧ ∀ L115 : Lay, L115 = upR L105 v0 8 o104 → (isK L115 v0 (5, 0)) ∧ (isK L115 v1 (0, 0)) ∧ (isK L115 v2 (1, 0)) ∧ ∃ k119 : Nat × Nat, (k103.1, k103.2) = (k119.1 + 1, k119.2 + 2) ∧ ∀ (o120 : Int) (L121 : Lay) (μ122 : Mem), o120 = L115.1 + 1 → L121 = nwL L115 (7, 0) → μ122 = nwM L115 μ106 → (isK L121 v0 (5, 0)) ∧ (isK L121 v1 (0, 0)) ∧ (isK L121 v2 (1, 0)) ∧ (isK L121 o120 (7, 0)) ∧ ∃ k134 k135 : Nat × Nat, k134.1 + k135.1 = (k119.1, k119.2).1 ∧ k134.2 + k135.2 = (k119.1, k119.2).2 ∧ TR mX7_init 2 k134 [(2, o120)] L121 μ122 (fun r131 L132 μ133 => r131 = none ∧ (isK L132 v0 (5, 0)) ∧ (isK L132 v1 (0, 0)) ∧ (isK L132 v2 (1, 0)) ∧ (isK L132 o120 (7, 0)) ∧ ∀ L142 : Lay, L142 = upR L132 v0 9 o120 → (isK L142 v0 (5, 0)) ∧ (isK L142 v1 (0, 0)) ∧ (isK L142 v2 (1, 0)) ∧ ∀ L146 : Lay, L146 = upR L142 v0 0 v1 → (isK L146 v0 (5, 0)) ∧ (isK L146 v2 (1, 0)) ∧ ∀ L149 : Lay, L149 = upR L146 v0 1 v2 → (isK L149 v0 (5, 0)) ∧ WA mX5_init 3 k135 80 [(2, v0), (9, 0), (9, 0), (0, 0)] [] L149 μ133 Q)))) : TR mX5_init 3 k [(2, v0), (2, v1), (2, v2)] L μ Q := by
  refine TR.of (ls := [(2, v0), (2, v1), (2, v2), (9, 0)]) (by decide) (by simp) rfl (Nat.le_of_ble_eq_true rfl) ?_
  refine wa_aload_n 1 dX5_init_0 rfl rfl ?_
  refine wa_objInit 4 dX5_init_1 rfl wM_X5_3 (by decide) ?_
  refine wa_aload_n 5 dX5_init_4 rfl rfl ?_
  obtain ⟨k1, e5, h⟩ := h
  refine wa_new 8 7 dX5_init_5 rfl wC_X5_9 wI_X7 wZ_X7 ⟨by decide, e5⟩ ?_
  replace h := h _ _ _ rfl rfl rfl
  generalize nwL L (7, 0) = L3 at h ⊢
  generalize nwM L μ = μ4 at h ⊢
  generalize L.1 + 1 = o2 at h ⊢
  obtain ⟨c9, h⟩ := h
  obtain ⟨c10, h⟩ := h
  obtain ⟨c11, h⟩ := h
  obtain ⟨c12, h⟩ := h
  refine wa_dup 9 dX5_init_8 rfl (Or.inr rfl) ?_
  obtain ⟨k16, k17, e18, e19, h⟩ := h
  refine wa_callN 12 2 0 (host := "KnifeDesk") (av := []) (rest := [(2, o2), (2, v0)]) (k1 := k16) (k2 := k17) ⟨cvX7_init, rfl⟩ dX5_init_9 rfl (List.mem_of_getElem? (i := 5) rfl) ⟨rfl, Nat.le_of_ble_eq_true rfl, by decide, Nat.le_of_ble_eq_true rfl, e18, e19⟩ rfl (TR.mono h (fun r13 L14 μ15 h => ?_))
  obtain ⟨rfl, h⟩ := h
  obtain ⟨c20, h⟩ := h
  obtain ⟨c21, h⟩ := h
  obtain ⟨c22, h⟩ := h
  obtain ⟨c23, h⟩ := h
  show WA mX5_init 3 k17 12 [(2, v0), (2, v1), (2, v2), (9, 0)] [(2, o2), (2, v0)] L14 μ15 Q
  refine wa_putR 15 3 dX5_init_12 rfl wF_X5_12 rfl ⟨rfl, rfl⟩ rfl ⟨c20, isK_pos c23⟩ ?_
  replace h := h _ rfl
  generalize upR L14 v0 3 o2 = L24 at h ⊢
  obtain ⟨c25, h⟩ := h
  obtain ⟨c26, h⟩ := h
  obtain ⟨c27, h⟩ := h
  refine wa_aload_n 16 dX5_init_15 rfl rfl ?_
  obtain ⟨k28, e32, h⟩ := h
  refine wa_new 19 7 dX5_init_16 rfl wC_X5_9 wI_X7 wZ_X7 ⟨by decide, e32⟩ ?_
  replace h := h _ _ _ rfl rfl rfl
  generalize nwL L24 (7, 0) = L30 at h ⊢
  generalize nwM L24 μ15 = μ31 at h ⊢
  generalize L24.1 + 1 = o29 at h ⊢
  obtain ⟨c36, h⟩ := h
  obtain ⟨c37, h⟩ := h
  obtain ⟨c38, h⟩ := h
  obtain ⟨c39, h⟩ := h
  refine wa_dup 20 dX5_init_19 rfl (Or.inr rfl) ?_
  obtain ⟨k43, k44, e45, e46, h⟩ := h
  refine wa_callN 23 2 0 (host := "KnifeDesk") (av := []) (rest := [(2, o29), (2, v0)]) (k1 := k43) (k2 := k44) ⟨cvX7_init, rfl⟩ dX5_init_20 rfl (List.mem_of_getElem? (i := 5) rfl) ⟨rfl, Nat.le_of_ble_eq_true rfl, by decide, Nat.le_of_ble_eq_true rfl, e45, e46⟩ rfl (TR.mono h (fun r40 L41 μ42 h => ?_))
  obtain ⟨rfl, h⟩ := h
  obtain ⟨c47, h⟩ := h
  obtain ⟨c48, h⟩ := h
  obtain ⟨c49, h⟩ := h
  obtain ⟨c50, h⟩ := h
  show WA mX5_init 3 k44 23 [(2, v0), (2, v1), (2, v2), (9, 0)] [(2, o29), (2, v0)] L41 μ42 Q
  refine wa_putR 26 4 dX5_init_23 rfl wF_X5_18 rfl ⟨rfl, rfl⟩ rfl ⟨c47, isK_pos c50⟩ ?_
  replace h := h _ rfl
  generalize upR L41 v0 4 o29 = L51 at h ⊢
  obtain ⟨c52, h⟩ := h
  obtain ⟨c53, h⟩ := h
  obtain ⟨c54, h⟩ := h
  refine wa_aload_n 27 dX5_init_26 rfl rfl ?_
  refine wa_iconst 28 dX5_init_27 rfl (by decide) ?_
  obtain ⟨k55, e59, h⟩ := h
  refine wa_anewarray 31 26 5 dX5_init_28 rfl wC_X5_21 ⟨Or.inr (Or.inr ⟨rfl, rfl⟩), rfl, by decide, e59⟩ ?_
  replace h := h _ _ _ rfl rfl rfl
  generalize nwL L51 (26, 5) = L57 at h ⊢
  generalize nwM L51 μ42 = μ58 at h ⊢
  generalize L51.1 + 1 = o56 at h ⊢
  obtain ⟨c63, h⟩ := h
  obtain ⟨c64, h⟩ := h
  obtain ⟨c65, h⟩ := h
  obtain ⟨c66, h⟩ := h
  refine wa_putR 34 5 dX5_init_31 rfl wF_X5_23 rfl ⟨rfl, rfl⟩ rfl ⟨c63, isK_pos c66⟩ ?_
  replace h := h _ rfl
  generalize upR L57 v0 5 o56 = L67 at h ⊢
  obtain ⟨c68, h⟩ := h
  obtain ⟨c69, h⟩ := h
  obtain ⟨c70, h⟩ := h
  refine wa_aload_n 35 dX5_init_34 rfl rfl ?_
  refine wa_iconst 36 dX5_init_35 rfl (by decide) ?_
  obtain ⟨k71, e75, h⟩ := h
  refine wa_anewarray 39 26 5 dX5_init_36 rfl wC_X5_21 ⟨Or.inr (Or.inr ⟨rfl, rfl⟩), rfl, by decide, e75⟩ ?_
  replace h := h _ _ _ rfl rfl rfl
  generalize nwL L67 (26, 5) = L73 at h ⊢
  generalize nwM L67 μ58 = μ74 at h ⊢
  generalize L67.1 + 1 = o72 at h ⊢
  obtain ⟨c79, h⟩ := h
  obtain ⟨c80, h⟩ := h
  obtain ⟨c81, h⟩ := h
  obtain ⟨c82, h⟩ := h
  refine wa_putR 42 6 dX5_init_39 rfl wF_X5_27 rfl ⟨rfl, rfl⟩ rfl ⟨c79, isK_pos c82⟩ ?_
  replace h := h _ rfl
  generalize upR L73 v0 6 o72 = L83 at h ⊢
  obtain ⟨c84, h⟩ := h
  obtain ⟨c85, h⟩ := h
  obtain ⟨c86, h⟩ := h
  refine wa_aload_n 43 dX5_init_42 rfl rfl ?_
  refine wa_iconst 44 dX5_init_43 rfl (by decide) ?_
  obtain ⟨k87, e91, h⟩ := h
  refine wa_newarray 46 20 5 (atype := .int) dX5_init_44 rfl ⟨Or.inl ⟨rfl, rfl⟩, rfl, by decide, e91⟩ ?_
  replace h := h _ _ _ rfl rfl rfl
  generalize nwL L83 (20, 5) = L89 at h ⊢
  generalize nwM L83 μ74 = μ90 at h ⊢
  generalize L83.1 + 1 = o88 at h ⊢
  obtain ⟨c95, h⟩ := h
  obtain ⟨c96, h⟩ := h
  obtain ⟨c97, h⟩ := h
  obtain ⟨c98, h⟩ := h
  refine wa_putR 49 7 dX5_init_46 rfl wF_X5_30 rfl ⟨rfl, rfl⟩ rfl ⟨c95, isK_pos c98⟩ ?_
  replace h := h _ rfl
  generalize upR L89 v0 7 o88 = L99 at h ⊢
  obtain ⟨c100, h⟩ := h
  obtain ⟨c101, h⟩ := h
  obtain ⟨c102, h⟩ := h
  refine wa_aload_n 50 dX5_init_49 rfl rfl ?_
  refine wa_iconst 51 dX5_init_50 rfl (by decide) ?_
  obtain ⟨k103, e107, h⟩ := h
  refine wa_anewarray 54 25 3 dX5_init_51 rfl wC_X5_9 ⟨Or.inr (Or.inl ⟨rfl, rfl⟩), rfl, by decide, e107⟩ ?_
  replace h := h _ _ _ rfl rfl rfl
  generalize nwL L99 (25, 3) = L105 at h ⊢
  generalize nwM L99 μ90 = μ106 at h ⊢
  generalize L99.1 + 1 = o104 at h ⊢
  obtain ⟨c111, h⟩ := h
  obtain ⟨c112, h⟩ := h
  obtain ⟨c113, h⟩ := h
  obtain ⟨c114, h⟩ := h
  refine wa_putR 57 8 dX5_init_54 rfl wF_X5_34 rfl ⟨rfl, rfl⟩ rfl ⟨c111, isK_pos c114⟩ ?_
  replace h := h _ rfl
  generalize upR L105 v0 8 o104 = L115 at h ⊢
  obtain ⟨c116, h⟩ := h
  obtain ⟨c117, h⟩ := h
  obtain ⟨c118, h⟩ := h
  refine wa_aload_n 58 dX5_init_57 rfl rfl ?_
  obtain ⟨k119, e123, h⟩ := h
  refine wa_new 61 7 dX5_init_58 rfl wC_X5_9 wI_X7 wZ_X7 ⟨by decide, e123⟩ ?_
  replace h := h _ _ _ rfl rfl rfl
  generalize nwL L115 (7, 0) = L121 at h ⊢
  generalize nwM L115 μ106 = μ122 at h ⊢
  generalize L115.1 + 1 = o120 at h ⊢
  obtain ⟨c127, h⟩ := h
  obtain ⟨c128, h⟩ := h
  obtain ⟨c129, h⟩ := h
  obtain ⟨c130, h⟩ := h
  refine wa_dup 62 dX5_init_61 rfl (Or.inr rfl) ?_
  obtain ⟨k134, k135, e136, e137, h⟩ := h
  refine wa_callN 65 2 0 (host := "KnifeDesk") (av := []) (rest := [(2, o120), (2, v0)]) (k1 := k134) (k2 := k135) ⟨cvX7_init, rfl⟩ dX5_init_62 rfl (List.mem_of_getElem? (i := 5) rfl) ⟨rfl, Nat.le_of_ble_eq_true rfl, by decide, Nat.le_of_ble_eq_true rfl, e136, e137⟩ rfl (TR.mono h (fun r131 L132 μ133 h => ?_))
  obtain ⟨rfl, h⟩ := h
  obtain ⟨c138, h⟩ := h
  obtain ⟨c139, h⟩ := h
  obtain ⟨c140, h⟩ := h
  obtain ⟨c141, h⟩ := h
  show WA mX5_init 3 k135 65 [(2, v0), (2, v1), (2, v2), (9, 0)] [(2, o120), (2, v0)] L132 μ133 Q
  refine wa_putR 68 9 dX5_init_65 rfl wF_X5_38 rfl ⟨rfl, rfl⟩ rfl ⟨c138, isK_pos c141⟩ ?_
  replace h := h _ rfl
  generalize upR L132 v0 9 o120 = L142 at h ⊢
  obtain ⟨c143, h⟩ := h
  obtain ⟨c144, h⟩ := h
  obtain ⟨c145, h⟩ := h
  refine wa_aload_n 69 dX5_init_68 rfl rfl ?_
  refine wa_aload_n 70 dX5_init_69 rfl rfl ?_
  refine wa_putR 73 0 dX5_init_70 rfl wF_X5_41 rfl ⟨rfl, rfl⟩ rfl ⟨c143, isK_pos c144⟩ ?_
  replace h := h _ rfl
  generalize upR L142 v0 0 v1 = L146 at h ⊢
  obtain ⟨c147, h⟩ := h
  obtain ⟨c148, h⟩ := h
  refine wa_aload_n 74 dX5_init_73 rfl rfl ?_
  refine wa_aload_n 75 dX5_init_74 rfl rfl ?_
  refine wa_putR 78 1 dX5_init_75 rfl wF_X5_45 rfl ⟨rfl, rfl⟩ rfl ⟨c147, isK_pos c148⟩ ?_
  replace h := h _ rfl
  generalize upR L146 v0 1 v2 = L149 at h ⊢
  obtain ⟨c150, h⟩ := h
  refine wa_iconst 79 dX5_init_78 rfl (by decide) ?_
  refine wa_istore_n 80 [(2, v0), (2, v1), (2, v2), (0, 0)] dX5_init_79 rfl rfl rfl ?_
  exact wa_weak [(2, v0), (9, 0), (9, 0), (0, 0)] ⟨Or.inl rfl, Or.inr rfl, Or.inr rfl, Or.inl rfl, trivial⟩ h
set_option maxRecDepth 20000 in
theorem p_X5_init_80 {v0 v3 : Int} (k0 : isK L v0 (5, 0)) (h : (5 ≤ v3 → WA mX5_init 3 k 119 [(2, v0), (9, 0), (9, 0), (0, 0)] [] L μ Q) ∧ (¬ 5 ≤ v3 → (isK L (rf L v0 5) (26, 5)) ∧ ∃ k2 : Nat × Nat, k = (k2.1 + 1, k2.2 + 2) ∧ ∀ (o3 : Int) (L4 : Lay) (μ5 : Mem), o3 = L.1 + 1 → L4 = nwL L (3, 0) → μ5 = nwM L μ → (isK L4 v0 (5, 0)) ∧ (isK L4 o3 (3, 0)) ∧ (isK L4 ((rf L v0 5)) (26, 5)) ∧ ∃ k16 k17 : Nat × Nat, k16.1 + k17.1 = (k2.1, k2.2).1 ∧ k16.2 + k17.2 = (k2.1, k2.2).2 ∧ TR mX3_init 1 k16 [(2, o3)] L4 μ5 (fun r13 L14 μ15 => r13 = none ∧ (isK L14 v0 (5, 0)) ∧ (isK L14 o3 (3, 0)) ∧ (isK L14 ((rf L v0 5)) (26, 5)) ∧ (0 ≤ v3 ∧ v3 < 5) ∧ ∀ L24 : Lay, L24 = upR L14 ((rf L v0 5)) v3 o3 → (isK L24 v0 (5, 0)) ∧ (isK L24 (rf L24 v0 6) (26, 5)) ∧ ∃ k27 : Nat × Nat, k17 = (k27.1 + 1, k27.2 + 2) ∧ ∀ (o28 : Int) (L29 : Lay) (μ30 : Mem), o28 = L24.1 + 1 → L29 = nwL L24 (3, 0) → μ30 = nwM L24 μ15 → (isK L29 v0 (5, 0)) ∧ (isK L29 o28 (3, 0)) ∧ (isK L29 ((rf L24 v0 6)) (26, 5)) ∧ ∃ k41 k42 : Nat × Nat, k41.1 + k42.1 = (k27.1, k27.2).1 ∧ k41.2 + k42.2 = (k27.1, k27.2).2 ∧ TR mX3_init 1 k41 [(2, o28)] L29 μ30 (fun r38 L39 μ40 => r38 = none ∧ (isK L39 v0 (5, 0)) ∧ (isK L39 o28 (3, 0)) ∧ (isK L39 ((rf L24 v0 6)) (26, 5)) ∧ ∀ L48 : Lay, L48 = upR L39 ((rf L24 v0 6)) v3 o28 → (isK L48 v0 (5, 0)) ∧ (inI (v3 + 1)) ∧ WA mX5_init 3 k42 80 [(2, v0), (9, 0), (9, 0), (0, (v3 + 1))] [] L48 μ40 Q)))) : WA mX5_init 3 k 80 [(2, v0), (9, 0), (9, 0), (0, v3)] [] L μ Q := by
  refine wa_iload_n 81 dX5_init_80 rfl rfl ?_
  refine wa_iconst 82 dX5_init_81 rfl (by decide) ?_
  refine wa_icmp_ge 85 117 dX5_init_82 rfl (by decide) (fun q => ?_) (fun q => ?_)
  · replace h := h.1 q
    refine wa_iconst 118 dX5_init_117 rfl (by decide) ?_
    refine wa_istore_n 119 [(2, v0), (9, 0), (9, 0), (0, 0)] dX5_init_118 rfl rfl rfl ?_
    exact h
  · replace h := h.2 q
    refine wa_aload_n 86 dX5_init_85 rfl rfl ?_
    obtain ⟨c1, h⟩ := h
    refine wa_getR 89 5 dX5_init_86 rfl wF_X5_23 rfl rfl ⟨k0, isK_pos c1⟩ ?_
    refine wa_iload_n 90 dX5_init_89 rfl rfl ?_
    obtain ⟨k2, e6, h⟩ := h
    refine wa_new 93 3 dX5_init_90 rfl wC_X5_21 wI_X3 wZ_X3 ⟨by decide, e6⟩ ?_
    replace h := h _ _ _ rfl rfl rfl
    generalize nwL L (3, 0) = L4 at h ⊢
    generalize nwM L μ = μ5 at h ⊢
    generalize L.1 + 1 = o3 at h ⊢
    obtain ⟨c10, h⟩ := h
    obtain ⟨c11, h⟩ := h
    obtain ⟨c12, h⟩ := h
    refine wa_dup 94 dX5_init_93 rfl (Or.inr rfl) ?_
    obtain ⟨k16, k17, e18, e19, h⟩ := h
    refine wa_callN 97 1 0 (host := "KnifeDesk") (av := []) (rest := [(2, o3), (0, v3), (2, (rf L v0 5))]) (k1 := k16) (k2 := k17) ⟨cvX3_init, rfl⟩ dX5_init_94 rfl (List.mem_of_getElem? (i := 6) rfl) ⟨rfl, Nat.le_of_ble_eq_true rfl, by decide, Nat.le_of_ble_eq_true rfl, e18, e19⟩ rfl (TR.mono h (fun r13 L14 μ15 h => ?_))
    obtain ⟨rfl, h⟩ := h
    obtain ⟨c20, h⟩ := h
    obtain ⟨c21, h⟩ := h
    obtain ⟨c22, h⟩ := h
    show WA mX5_init 3 k17 97 [(2, v0), (9, 0), (9, 0), (0, v3)] [(2, o3), (0, v3), (2, (rf L v0 5))] L14 μ15 Q
    obtain ⟨c23, h⟩ := h
    refine wa_aastore 98 26 3 dX5_init_97 rfl (Or.inr (Or.inr ⟨rfl, rfl⟩)) ⟨okA_of c22 c23, c21⟩ ?_
    replace h := h _ rfl
    generalize upR L14 ((rf L v0 5)) v3 o3 = L24 at h ⊢
    obtain ⟨c25, h⟩ := h
    refine wa_aload_n 99 dX5_init_98 rfl rfl ?_
    obtain ⟨c26, h⟩ := h
    refine wa_getR 102 6 dX5_init_99 rfl wF_X5_27 rfl rfl ⟨c25, isK_pos c26⟩ ?_
    refine wa_iload_n 103 dX5_init_102 rfl rfl ?_
    obtain ⟨k27, e31, h⟩ := h
    refine wa_new 106 3 dX5_init_103 rfl wC_X5_21 wI_X3 wZ_X3 ⟨by decide, e31⟩ ?_
    replace h := h _ _ _ rfl rfl rfl
    generalize nwL L24 (3, 0) = L29 at h ⊢
    generalize nwM L24 μ15 = μ30 at h ⊢
    generalize L24.1 + 1 = o28 at h ⊢
    obtain ⟨c35, h⟩ := h
    obtain ⟨c36, h⟩ := h
    obtain ⟨c37, h⟩ := h
    refine wa_dup 107 dX5_init_106 rfl (Or.inr rfl) ?_
    obtain ⟨k41, k42, e43, e44, h⟩ := h
    refine wa_callN 110 1 0 (host := "KnifeDesk") (av := []) (rest := [(2, o28), (0, v3), (2, (rf L24 v0 6))]) (k1 := k41) (k2 := k42) ⟨cvX3_init, rfl⟩ dX5_init_107 rfl (List.mem_of_getElem? (i := 6) rfl) ⟨rfl, Nat.le_of_ble_eq_true rfl, by decide, Nat.le_of_ble_eq_true rfl, e43, e44⟩ rfl (TR.mono h (fun r38 L39 μ40 h => ?_))
    obtain ⟨rfl, h⟩ := h
    obtain ⟨c45, h⟩ := h
    obtain ⟨c46, h⟩ := h
    obtain ⟨c47, h⟩ := h
    show WA mX5_init 3 k42 110 [(2, v0), (9, 0), (9, 0), (0, v3)] [(2, o28), (0, v3), (2, (rf L24 v0 6))] L39 μ40 Q
    refine wa_aastore 111 26 3 dX5_init_110 rfl (Or.inr (Or.inr ⟨rfl, rfl⟩)) ⟨okA_of c47 c23, c46⟩ ?_
    replace h := h _ rfl
    generalize upR L39 ((rf L24 v0 6)) v3 o28 = L48 at h ⊢
    obtain ⟨c49, h⟩ := h
    obtain ⟨c50, h⟩ := h
    refine wa_iinc 114 [(2, v0), (9, 0), (9, 0), (0, (v3 + 1))] dX5_init_111 rfl rfl rfl c50 rfl ?_
    refine wa_goto 80 dX5_init_114 (by decide) ?_
    exact h
set_option maxRecDepth 20000 in
theorem p_X5_init_119 {v0 v3 : Int} (k0 : isK L v0 (5, 0)) (h : (isK L (rf L v0 8) (25, 3)) ∧ (3 ≤ v3 → Q none L μ) ∧ (¬ 3 ≤ v3 → ∃ k2 : Nat × Nat, k = (k2.1 + 1, k2.2 + 2) ∧ ∀ (o3 : Int) (L4 : Lay) (μ5 : Mem), o3 = L.1 + 1 → L4 = nwL L (7, 0) → μ5 = nwM L μ → (isK L4 v0 (5, 0)) ∧ (isK L4 o3 (7, 0)) ∧ (isK L4 ((rf L v0 8)) (25, 3)) ∧ ∃ k16 k17 : Nat × Nat, k16.1 + k17.1 = (k2.1, k2.2).1 ∧ k16.2 + k17.2 = (k2.1, k2.2).2 ∧ TR mX7_init 2 k16 [(2, o3)] L4 μ5 (fun r13 L14 μ15 => r13 = none ∧ (isK L14 v0 (5, 0)) ∧ (isK L14 o3 (7, 0)) ∧ (isK L14 ((rf L v0 8)) (25, 3)) ∧ (0 ≤ v3 ∧ v3 < 3) ∧ ∀ L24 : Lay, L24 = upR L14 ((rf L v0 8)) v3 o3 → (isK L24 v0 (5, 0)) ∧ (inI (v3 + 1)) ∧ WA mX5_init 3 k17 119 [(2, v0), (9, 0), (9, 0), (0, (v3 + 1))] [] L24 μ15 Q))) : WA mX5_init 3 k 119 [(2, v0), (9, 0), (9, 0), (0, v3)] [] L μ Q := by
  refine wa_iload_n 120 dX5_init_119 rfl rfl ?_
  refine wa_aload_n 121 dX5_init_120 rfl rfl ?_
  obtain ⟨c1, h⟩ := h
  refine wa_getR 124 8 dX5_init_121 rfl wF_X5_34 rfl rfl ⟨k0, isK_pos c1⟩ ?_
  refine wa_alen 125 dX5_init_124 rfl ⟨c1.1, c1.2.1, by rw [c1.2.2], by rw [c1.2.2]; decide, by decide, by decide⟩ ?_
  refine wa_icmp_ge 128 147 dX5_init_125 rfl (by decide) (fun q => ?_) (fun q => ?_)
  · replace h := h.1 q
    exact wa_vret dX5_init_147 rfl h
  · replace h := h.2 q
    refine wa_aload_n 129 dX5_init_128 rfl rfl ?_
    refine wa_getR 132 8 dX5_init_129 rfl wF_X5_34 rfl rfl ⟨k0, isK_pos c1⟩ ?_
    refine wa_iload_n 133 dX5_init_132 rfl rfl ?_
    obtain ⟨k2, e6, h⟩ := h
    refine wa_new 136 7 dX5_init_133 rfl wC_X5_9 wI_X7 wZ_X7 ⟨by decide, e6⟩ ?_
    replace h := h _ _ _ rfl rfl rfl
    generalize nwL L (7, 0) = L4 at h ⊢
    generalize nwM L μ = μ5 at h ⊢
    generalize L.1 + 1 = o3 at h ⊢
    obtain ⟨c10, h⟩ := h
    obtain ⟨c11, h⟩ := h
    obtain ⟨c12, h⟩ := h
    refine wa_dup 137 dX5_init_136 rfl (Or.inr rfl) ?_
    obtain ⟨k16, k17, e18, e19, h⟩ := h
    refine wa_callN 140 2 0 (host := "KnifeDesk") (av := []) (rest := [(2, o3), (0, v3), (2, (rf L v0 8))]) (k1 := k16) (k2 := k17) ⟨cvX7_init, rfl⟩ dX5_init_137 rfl (List.mem_of_getElem? (i := 5) rfl) ⟨rfl, Nat.le_of_ble_eq_true rfl, by decide, Nat.le_of_ble_eq_true rfl, e18, e19⟩ rfl (TR.mono h (fun r13 L14 μ15 h => ?_))
    obtain ⟨rfl, h⟩ := h
    obtain ⟨c20, h⟩ := h
    obtain ⟨c21, h⟩ := h
    obtain ⟨c22, h⟩ := h
    show WA mX5_init 3 k17 140 [(2, v0), (9, 0), (9, 0), (0, v3)] [(2, o3), (0, v3), (2, (rf L v0 8))] L14 μ15 Q
    obtain ⟨c23, h⟩ := h
    refine wa_aastore 141 25 7 dX5_init_140 rfl (Or.inr (Or.inl ⟨rfl, rfl⟩)) ⟨okA_of c22 c23, c21⟩ ?_
    replace h := h _ rfl
    generalize upR L14 ((rf L v0 8)) v3 o3 = L24 at h ⊢
    obtain ⟨c25, h⟩ := h
    obtain ⟨c26, h⟩ := h
    refine wa_iinc 144 [(2, v0), (9, 0), (9, 0), (0, (v3 + 1))] dX5_init_141 rfl rfl rfl c26 rfl ?_
    refine wa_goto 119 dX5_init_144 (by decide) ?_
    exact h
set_option maxRecDepth 20000 in
theorem o_X8_init {v0 : Int} (k0 : isK L v0 (8, 0)) (h : ∃ k1 : Nat × Nat, k = (k1.1 + 1, k1.2 + 160) ∧ ∀ (o2 : Int) (L3 : Lay) (μ4 : Mem), o2 = L.1 + 1 → L3 = nwL L (22, 160) → μ4 = nwM L μ → (isK L3 v0 (8, 0)) ∧ (isK L3 o2 (22, 160)) ∧ ∀ L11 : Lay, L11 = upR L3 v0 2 o2 → (isK L11 v0 (8, 0)) ∧ ∃ k13 : Nat × Nat, (k1.1, k1.2) = (k13.1 + 1, k13.2 + 2) ∧ ∀ (o14 : Int) (L15 : Lay) (μ16 : Mem), o14 = L11.1 + 1 → L15 = nwL L11 (3, 0) → μ16 = nwM L11 μ4 → (isK L15 v0 (8, 0)) ∧ (isK L15 o14 (3, 0)) ∧ ∃ k26 k27 : Nat × Nat, k26.1 + k27.1 = (k13.1, k13.2).1 ∧ k26.2 + k27.2 = (k13.1, k13.2).2 ∧ TR mX3_init 1 k26 [(2, o14)] L15 μ16 (fun r23 L24 μ25 => r23 = none ∧ (isK L24 v0 (8, 0)) ∧ (isK L24 o14 (3, 0)) ∧ ∀ L32 : Lay, L32 = upR L24 v0 3 o14 → (isK L32 v0 (8, 0)) ∧ ∃ k34 : Nat × Nat, k27 = (k34.1 + 1, k34.2 + 2) ∧ ∀ (o35 : Int) (L36 : Lay) (μ37 : Mem), o35 = L32.1 + 1 → L36 = nwL L32 (7, 0) → μ37 = nwM L32 μ25 → (isK L36 v0 (8, 0)) ∧ (isK L36 o35 (7, 0)) ∧ ∃ k47 k48 : Nat × Nat, k47.1 + k48.1 = (k34.1, k34.2).1 ∧ k47.2 + k48.2 = (k34.1, k34.2).2 ∧ TR mX7_init 2 k47 [(2, o35)] L36 μ37 (fun r44 L45 μ46 => r44 = none ∧ (isK L45 v0 (8, 0)) ∧ (isK L45 o35 (7, 0)) ∧ ∀ L53 : Lay, L53 = upR L45 v0 4 o35 → (isK L53 v0 (8, 0)) ∧ Q none L53 μ46))) : TR mX8_init 3 k [(2, v0)] L μ Q := by
  refine TR.of (ls := [(2, v0)]) (by decide) (by simp) rfl (Nat.le_of_ble_eq_true rfl) ?_
  refine wa_aload_n 1 dX8_init_0 rfl rfl ?_
  refine wa_objInit 4 dX8_init_1 rfl wM_X8_3 (by decide) ?_
  refine wa_aload_n 5 dX8_init_4 rfl rfl ?_
  refine wa_sipush 8 dX8_init_5 rfl ⟨by decide, by decide⟩ ?_
  obtain ⟨k1, e5, h⟩ := h
  refine wa_newarray 10 22 160 (atype := .byte) dX8_init_8 rfl ⟨Or.inr (Or.inr ⟨rfl, rfl⟩), rfl, by decide, e5⟩ ?_
  replace h := h _ _ _ rfl rfl rfl
  generalize nwL L (22, 160) = L3 at h ⊢
  generalize nwM L μ = μ4 at h ⊢
  generalize L.1 + 1 = o2 at h ⊢
  obtain ⟨c9, h⟩ := h
  obtain ⟨c10, h⟩ := h
  refine wa_putR 13 2 dX8_init_10 rfl wF_X8_11 rfl ⟨rfl, rfl⟩ rfl ⟨c9, isK_pos c10⟩ ?_
  replace h := h _ rfl
  generalize upR L3 v0 2 o2 = L11 at h ⊢
  obtain ⟨c12, h⟩ := h
  refine wa_aload_n 14 dX8_init_13 rfl rfl ?_
  obtain ⟨k13, e17, h⟩ := h
  refine wa_new 17 3 dX8_init_14 rfl wC_X8_15 wI_X3 wZ_X3 ⟨by decide, e17⟩ ?_
  replace h := h _ _ _ rfl rfl rfl
  generalize nwL L11 (3, 0) = L15 at h ⊢
  generalize nwM L11 μ4 = μ16 at h ⊢
  generalize L11.1 + 1 = o14 at h ⊢
  obtain ⟨c21, h⟩ := h
  obtain ⟨c22, h⟩ := h
  refine wa_dup 18 dX8_init_17 rfl (Or.inr rfl) ?_
  obtain ⟨k26, k27, e28, e29, h⟩ := h
  refine wa_callN 21 1 0 (host := "KnifeDesk") (av := []) (rest := [(2, o14), (2, v0)]) (k1 := k26) (k2 := k27) ⟨cvX3_init, rfl⟩ dX8_init_18 rfl (List.mem_of_getElem? (i := 8) rfl) ⟨rfl, Nat.le_of_ble_eq_true rfl, by decide, Nat.le_of_ble_eq_true rfl, e28, e29⟩ rfl (TR.mono h (fun r23 L24 μ25 h => ?_))
  obtain ⟨rfl, h⟩ := h
  obtain ⟨c30, h⟩ := h
  obtain ⟨c31, h⟩ := h
  show WA mX8_init 3 k27 21 [(2, v0)] [(2, o14), (2, v0)] L24 μ25 Q
  refine wa_putR 24 3 dX8_init_21 rfl wF_X8_18 rfl ⟨rfl, rfl⟩ rfl ⟨c30, isK_pos c31⟩ ?_
  replace h := h _ rfl
  generalize upR L24 v0 3 o14 = L32 at h ⊢
  obtain ⟨c33, h⟩ := h
  refine wa_aload_n 25 dX8_init_24 rfl rfl ?_
  obtain ⟨k34, e38, h⟩ := h
  refine wa_new 28 7 dX8_init_25 rfl wC_X8_22 wI_X7 wZ_X7 ⟨by decide, e38⟩ ?_
  replace h := h _ _ _ rfl rfl rfl
  generalize nwL L32 (7, 0) = L36 at h ⊢
  generalize nwM L32 μ25 = μ37 at h ⊢
  generalize L32.1 + 1 = o35 at h ⊢
  obtain ⟨c42, h⟩ := h
  obtain ⟨c43, h⟩ := h
  refine wa_dup 29 dX8_init_28 rfl (Or.inr rfl) ?_
  obtain ⟨k47, k48, e49, e50, h⟩ := h
  refine wa_callN 32 2 0 (host := "KnifeDesk") (av := []) (rest := [(2, o35), (2, v0)]) (k1 := k47) (k2 := k48) ⟨cvX7_init, rfl⟩ dX8_init_29 rfl (List.mem_of_getElem? (i := 9) rfl) ⟨rfl, Nat.le_of_ble_eq_true rfl, by decide, Nat.le_of_ble_eq_true rfl, e49, e50⟩ rfl (TR.mono h (fun r44 L45 μ46 h => ?_))
  obtain ⟨rfl, h⟩ := h
  obtain ⟨c51, h⟩ := h
  obtain ⟨c52, h⟩ := h
  show WA mX8_init 3 k48 32 [(2, v0)] [(2, o35), (2, v0)] L45 μ46 Q
  refine wa_putR 35 4 dX8_init_32 rfl wF_X8_25 rfl ⟨rfl, rfl⟩ rfl ⟨c51, isK_pos c52⟩ ?_
  replace h := h _ rfl
  generalize upR L45 v0 4 o35 = L53 at h ⊢
  obtain ⟨c54, h⟩ := h
  exact wa_vret dX8_init_35 rfl h
set_option maxRecDepth 20000 in
theorem o_X6_init {v0 : Int} (k0 : isK L v0 (6, 0)) (h : ∃ k1 : Nat × Nat, k = (k1.1 + 1, k1.2 + 640) ∧ ∀ (o2 : Int) (L3 : Lay) (μ4 : Mem), o2 = L.1 + 1 → L3 = nwL L (22, 640) → μ4 = nwM L μ → (isK L3 v0 (6, 0)) ∧ (isK L3 o2 (22, 640)) ∧ ∀ L11 : Lay, L11 = upR L3 v0 1 o2 → (isK L11 v0 (6, 0)) ∧ Q none L11 μ4) : TR mX6_init 1 k [(2, v0)] L μ Q := by
  refine TR.of (ls := [(2, v0)]) (by decide) (by simp) rfl (Nat.le_of_ble_eq_true rfl) ?_
  refine wa_aload_n 1 dX6_init_0 rfl rfl ?_
  refine wa_objInit 4 dX6_init_1 rfl wM_X6_3 (by decide) ?_
  refine wa_aload_n 5 dX6_init_4 rfl rfl ?_
  refine wa_sipush 8 dX6_init_5 rfl ⟨by decide, by decide⟩ ?_
  obtain ⟨k1, e5, h⟩ := h
  refine wa_newarray 10 22 640 (atype := .byte) dX6_init_8 rfl ⟨Or.inr (Or.inr ⟨rfl, rfl⟩), rfl, by decide, e5⟩ ?_
  replace h := h _ _ _ rfl rfl rfl
  generalize nwL L (22, 640) = L3 at h ⊢
  generalize nwM L μ = μ4 at h ⊢
  generalize L.1 + 1 = o2 at h ⊢
  obtain ⟨c9, h⟩ := h
  obtain ⟨c10, h⟩ := h
  refine wa_putR 13 1 dX6_init_10 rfl wF_X6_11 rfl ⟨rfl, rfl⟩ rfl ⟨c9, isK_pos c10⟩ ?_
  replace h := h _ rfl
  generalize upR L3 v0 1 o2 = L11 at h ⊢
  obtain ⟨c12, h⟩ := h
  exact wa_vret dX6_init_13 rfl h
set_option maxRecDepth 20000 in
theorem o_X4_init {v0 : Int} (k0 : isK L v0 (4, 0)) (h : ∃ k1 : Nat × Nat, k = (k1.1 + (1 + 4), k1.2 + (4 + 4 * 20)) ∧ ∀ (o2 : Int) (L3 : Lay) (μ4 : Mem), o2 = L.1 + 1 → L3 = nwRL L 4 20 → μ4 = nwRM L μ → (isK L3 v0 (4, 0)) ∧ (isK L3 o2 (23, 4)) ∧ ∀ L11 : Lay, L11 = upR L3 v0 0 o2 → (isK L11 v0 (4, 0)) ∧ ∃ k13 : Nat × Nat, (k1.1, k1.2) = (k13.1 + 1, k13.2 + 4) ∧ ∀ (o14 : Int) (L15 : Lay) (μ16 : Mem), o14 = L11.1 + 1 → L15 = nwL L11 (20, 4) → μ16 = nwM L11 μ4 → (isK L15 v0 (4, 0)) ∧ (isK L15 o14 (20, 4)) ∧ ∀ L23 : Lay, L23 = upR L15 v0 1 o14 → (isK L23 v0 (4, 0)) ∧ WA mX4_init 1 (k13.1, k13.2) 24 [(2, v0), (0, 0)] [] L23 μ16 Q) : TR mX4_init 1 k [(2, v0)] L μ Q := by
  refine TR.of (ls := [(2, v0), (9, 0)]) (by decide) (by simp) rfl (Nat.le_of_ble_eq_true rfl) ?_
  refine wa_aload_n 1 dX4_init_0 rfl rfl ?_
  refine wa_objInit 4 dX4_init_1 rfl wM_X4_1 (by decide) ?_
  refine wa_aload_n 5 dX4_init_4 rfl rfl ?_
  refine wa_iconst 6 dX4_init_5 rfl (by decide) ?_
  refine wa_bipush 8 dX4_init_6 rfl ⟨by decide, by decide⟩ ?_
  obtain ⟨k1, e5, h⟩ := h
  refine wa_multi 12 4 20 dX4_init_8 rfl wC_X4_9 ⟨rfl, rfl, by decide, by decide, e5⟩ ?_
  replace h := h _ _ _ rfl rfl rfl
  generalize nwRL L 4 20 = L3 at h ⊢
  generalize nwRM L μ = μ4 at h ⊢
  generalize L.1 + 1 = o2 at h ⊢
  obtain ⟨c9, h⟩ := h
  obtain ⟨c10, h⟩ := h
  refine wa_putR 15 0 dX4_init_12 rfl wF_X4_11 rfl ⟨rfl, rfl⟩ rfl ⟨c9, isK_pos c10⟩ ?_
  replace h := h _ rfl
  generalize upR L3 v0 0 o2 = L11 at h ⊢
  obtain ⟨c12, h⟩ := h
  refine wa_aload_n 16 dX4_init_15 rfl rfl ?_
  refine wa_iconst 17 dX4_init_16 rfl (by decide) ?_
  obtain ⟨k13, e17, h⟩ := h
  refine wa_newarray 19 20 4 (atype := .int) dX4_init_17 rfl ⟨Or.inl ⟨rfl, rfl⟩, rfl, by decide, e17⟩ ?_
  replace h := h _ _ _ rfl rfl rfl
  generalize nwL L11 (20, 4) = L15 at h ⊢
  generalize nwM L11 μ4 = μ16 at h ⊢
  generalize L11.1 + 1 = o14 at h ⊢
  obtain ⟨c21, h⟩ := h
  obtain ⟨c22, h⟩ := h
  refine wa_putR 22 1 dX4_init_19 rfl wF_X4_14 rfl ⟨rfl, rfl⟩ rfl ⟨c21, isK_pos c22⟩ ?_
  replace h := h _ rfl
  generalize upR L15 v0 1 o14 = L23 at h ⊢
  obtain ⟨c24, h⟩ := h
  refine wa_iconst 23 dX4_init_22 rfl (by decide) ?_
  refine wa_istore_n 24 [(2, v0), (0, 0)] dX4_init_23 rfl rfl rfl ?_
  exact h
set_option maxRecDepth 20000 in
theorem p_X4_init_24 {v0 v1 : Int} (k0 : isK L v0 (4, 0)) (h : (4 ≤ v1 → Q none L μ) ∧ (¬ 4 ≤ v1 → (isK L (rf L v0 1) (20, 4)) ∧ (0 ≤ v1 ∧ v1 < 4) ∧ (inI (v1 + 1)) ∧ WA mX4_init 1 k 24 [(2, v0), (0, (v1 + 1))] [] L (up μ ((rf L v0 1)) v1 ((-1))) Q)) : WA mX4_init 1 k 24 [(2, v0), (0, v1)] [] L μ Q := by
  refine wa_iload_n 25 dX4_init_24 rfl rfl ?_
  refine wa_iconst 26 dX4_init_25 rfl (by decide) ?_
  refine wa_icmp_ge 29 42 dX4_init_26 rfl (by decide) (fun q => ?_) (fun q => ?_)
  · replace h := h.1 q
    exact wa_vret dX4_init_42 rfl h
  · replace h := h.2 q
    refine wa_aload_n 30 dX4_init_29 rfl rfl ?_
    obtain ⟨c1, h⟩ := h
    refine wa_getR 33 1 dX4_init_30 rfl wF_X4_14 rfl rfl ⟨k0, isK_pos c1⟩ ?_
    refine wa_iload_n 34 dX4_init_33 rfl rfl ?_
    refine wa_iconst 35 dX4_init_34 rfl (by decide) ?_
    obtain ⟨c2, h⟩ := h
    refine wa_iastore 36 dX4_init_35 rfl (okA_of c1 c2) ?_
    obtain ⟨c3, h⟩ := h
    refine wa_iinc 39 [(2, v0), (0, (v1 + 1))] dX4_init_36 rfl rfl rfl c3 rfl ?_
    refine wa_goto 24 dX4_init_39 (by decide) ?_
    exact h
set_option maxRecDepth 20000 in
theorem o_X9_init {v0 : Int} (k0 : isK L v0 (9, 0)) (h : ∃ k1 : Nat × Nat, k = (k1.1 + 1, k1.2 + 4) ∧ ∀ (o2 : Int) (L3 : Lay) (μ4 : Mem), o2 = L.1 + 1 → L3 = nwL L (0, 0) → μ4 = nwM L μ → (isK L3 v0 (9, 0)) ∧ (isK L3 o2 (0, 0)) ∧ ∃ k14 k15 : Nat × Nat, k14.1 + k15.1 = (k1.1, k1.2).1 ∧ k14.2 + k15.2 = (k1.1, k1.2).2 ∧ TR mX0_init 1 k14 [(2, o2)] L3 μ4 (fun r11 L12 μ13 => r11 = none ∧ (isK L12 v0 (9, 0)) ∧ (isK L12 o2 (0, 0)) ∧ ∀ L20 : Lay, L20 = upR L12 v0 0 o2 → (isK L20 v0 (9, 0)) ∧ ∃ k22 : Nat × Nat, k15 = (k22.1 + 1, k22.2 + 4) ∧ ∀ (o23 : Int) (L24 : Lay) (μ25 : Mem), o23 = L20.1 + 1 → L24 = nwL L20 (0, 0) → μ25 = nwM L20 μ13 → (isK L24 v0 (9, 0)) ∧ (isK L24 o23 (0, 0)) ∧ ∃ k35 k36 : Nat × Nat, k35.1 + k36.1 = (k22.1, k22.2).1 ∧ k35.2 + k36.2 = (k22.1, k22.2).2 ∧ TR mX0_init 1 k35 [(2, o23)] L24 μ25 (fun r32 L33 μ34 => r32 = none ∧ (isK L33 v0 (9, 0)) ∧ (isK L33 o23 (0, 0)) ∧ ∀ L41 : Lay, L41 = upR L33 v0 1 o23 → (isK L41 v0 (9, 0)) ∧ ∃ k43 : Nat × Nat, k36 = (k43.1 + 1, k43.2 + 4) ∧ ∀ (o44 : Int) (L45 : Lay) (μ46 : Mem), o44 = L41.1 + 1 → L45 = nwL L41 (0, 0) → μ46 = nwM L41 μ34 → (isK L45 v0 (9, 0)) ∧ (isK L45 o44 (0, 0)) ∧ ∃ k56 k57 : Nat × Nat, k56.1 + k57.1 = (k43.1, k43.2).1 ∧ k56.2 + k57.2 = (k43.1, k43.2).2 ∧ TR mX0_init 1 k56 [(2, o44)] L45 μ46 (fun r53 L54 μ55 => r53 = none ∧ (isK L54 v0 (9, 0)) ∧ (isK L54 o44 (0, 0)) ∧ ∀ L62 : Lay, L62 = upR L54 v0 2 o44 → (isK L62 v0 (9, 0)) ∧ ∃ k64 : Nat × Nat, k57 = (k64.1 + 1, k64.2 + 10) ∧ ∀ (o65 : Int) (L66 : Lay) (μ67 : Mem), o65 = L62.1 + 1 → L66 = nwL L62 (1, 0) → μ67 = nwM L62 μ55 → (isK L66 v0 (9, 0)) ∧ (isK L66 o65 (1, 0)) ∧ ∃ k77 k78 : Nat × Nat, k77.1 + k78.1 = (k64.1, k64.2).1 ∧ k77.2 + k78.2 = (k64.1, k64.2).2 ∧ TR mX1_init 4 k77 [(2, o65)] L66 μ67 (fun r74 L75 μ76 => r74 = none ∧ (isK L75 v0 (9, 0)) ∧ (isK L75 o65 (1, 0)) ∧ ∀ L83 : Lay, L83 = upR L75 v0 3 o65 → (isK L83 v0 (9, 0)) ∧ ∃ k85 : Nat × Nat, k78 = (k85.1 + 1, k85.2 + 10) ∧ ∀ (o86 : Int) (L87 : Lay) (μ88 : Mem), o86 = L83.1 + 1 → L87 = nwL L83 (1, 0) → μ88 = nwM L83 μ76 → (isK L87 v0 (9, 0)) ∧ (isK L87 o86 (1, 0)) ∧ ∃ k98 k99 : Nat × Nat, k98.1 + k99.1 = (k85.1, k85.2).1 ∧ k98.2 + k99.2 = (k85.1, k85.2).2 ∧ TR mX1_init 4 k98 [(2, o86)] L87 μ88 (fun r95 L96 μ97 => r95 = none ∧ (isK L96 v0 (9, 0)) ∧ (isK L96 o86 (1, 0)) ∧ ∀ L104 : Lay, L104 = upR L96 v0 4 o86 → (isK L104 v0 (9, 0)) ∧ ∃ k106 : Nat × Nat, k99 = (k106.1 + 1, k106.2 + 10) ∧ ∀ (o107 : Int) (L108 : Lay) (μ109 : Mem), o107 = L104.1 + 1 → L108 = nwL L104 (1, 0) → μ109 = nwM L104 μ97 → (isK L108 v0 (9, 0)) ∧ (isK L108 o107 (1, 0)) ∧ ∃ k119 k120 : Nat × Nat, k119.1 + k120.1 = (k106.1, k106.2).1 ∧ k119.2 + k120.2 = (k106.1, k106.2).2 ∧ TR mX1_init 4 k119 [(2, o107)] L108 μ109 (fun r116 L117 μ118 => r116 = none ∧ (isK L117 v0 (9, 0)) ∧ (isK L117 o107 (1, 0)) ∧ ∀ L125 : Lay, L125 = upR L117 v0 5 o107 → (isK L125 v0 (9, 0)) ∧ ∃ k127 : Nat × Nat, k120 = (k127.1 + 1, k127.2 + 13) ∧ ∀ (o128 : Int) (L129 : Lay) (μ130 : Mem), o128 = L125.1 + 1 → L129 = nwL L125 (5, 0) → μ130 = nwM L125 μ118 → (isK L129 v0 (9, 0)) ∧ (isK L129 o128 (5, 0)) ∧ (isK L129 (rf L129 v0 0) (0, 0)) ∧ (isK L129 (rf L129 v0 4) (1, 0)) ∧ ∃ k142 k143 : Nat × Nat, k142.1 + k143.1 = (k127.1, k127.2).1 ∧ k142.2 + k143.2 = (k127.1, k127.2).2 ∧ TR mX5_init 3 k142 [(2, o128), (2, (rf L129 v0 0)), (2, (rf L129 v0 4))] L129 μ130 (fun r139 L140 μ141 => r139 = none ∧ (isK L140 v0 (9, 0)) ∧ (isK L140 o128 (5, 0)) ∧ ∀ L148 : Lay, L148 = upR L140 v0 7 o128 → (isK L148 v0 (9, 0)) ∧ ∃ k150 : Nat × Nat, k143 = (k150.1 + 1, k150.2 + 5) ∧ ∀ (o151 : Int) (L152 : Lay) (μ153 : Mem), o151 = L148.1 + 1 → L152 = nwL L148 (8, 0) → μ153 = nwM L148 μ141 → (isK L152 v0 (9, 0)) ∧ (isK L152 o151 (8, 0)) ∧ ∃ k163 k164 : Nat × Nat, k163.1 + k164.1 = (k150.1, k150.2).1 ∧ k163.2 + k164.2 = (k150.1, k150.2).2 ∧ TR mX8_init 3 k163 [(2, o151)] L152 μ153 (fun r160 L161 μ162 => r160 = none ∧ (isK L161 v0 (9, 0)) ∧ (isK L161 o151 (8, 0)) ∧ ∀ L169 : Lay, L169 = upR L161 v0 8 o151 → (isK L169 v0 (9, 0)) ∧ ∃ k171 : Nat × Nat, k164 = (k171.1 + 1, k171.2 + 2) ∧ ∀ (o172 : Int) (L173 : Lay) (μ174 : Mem), o172 = L169.1 + 1 → L173 = nwL L169 (6, 0) → μ174 = nwM L169 μ162 → (isK L173 v0 (9, 0)) ∧ (isK L173 o172 (6, 0)) ∧ ∃ k184 k185 : Nat × Nat, k184.1 + k185.1 = (k171.1, k171.2).1 ∧ k184.2 + k185.2 = (k171.1, k171.2).2 ∧ TR mX6_init 1 k184 [(2, o172)] L173 μ174 (fun r181 L182 μ183 => r181 = none ∧ (isK L182 v0 (9, 0)) ∧ (isK L182 o172 (6, 0)) ∧ ∀ L190 : Lay, L190 = upR L182 v0 9 o172 → (isK L190 v0 (9, 0)) ∧ ∃ k192 : Nat × Nat, k185 = (k192.1 + 1, k192.2 + 2) ∧ ∀ (o193 : Int) (L194 : Lay) (μ195 : Mem), o193 = L190.1 + 1 → L194 = nwL L190 (4, 0) → μ195 = nwM L190 μ183 → (isK L194 v0 (9, 0)) ∧ (isK L194 o193 (4, 0)) ∧ ∃ k205 k206 : Nat × Nat, k205.1 + k206.1 = (k192.1, k192.2).1 ∧ k205.2 + k206.2 = (k192.1, k192.2).2 ∧ TR mX4_init 1 k205 [(2, o193)] L194 μ195 (fun r202 L203 μ204 => r202 = none ∧ (isK L203 v0 (9, 0)) ∧ (isK L203 o193 (4, 0)) ∧ ∀ L211 : Lay, L211 = upR L203 v0 10 o193 → (isK L211 v0 (9, 0)) ∧ ∃ k213 : Nat × Nat, k206 = (k213.1 + 1, k213.2 + 2) ∧ ∀ (o214 : Int) (L215 : Lay) (μ216 : Mem), o214 = L211.1 + 1 → L215 = nwL L211 (3, 0) → μ216 = nwM L211 μ204 → (isK L215 v0 (9, 0)) ∧ (isK L215 o214 (3, 0)) ∧ ∃ k226 k227 : Nat × Nat, k226.1 + k227.1 = (k213.1, k213.2).1 ∧ k226.2 + k227.2 = (k213.1, k213.2).2 ∧ TR mX3_init 1 k226 [(2, o214)] L215 μ216 (fun r223 L224 μ225 => r223 = none ∧ (isK L224 v0 (9, 0)) ∧ (isK L224 o214 (3, 0)) ∧ ∀ L232 : Lay, L232 = upR L224 v0 11 o214 → (isK L232 v0 (9, 0)) ∧ ∃ k234 : Nat × Nat, k227 = (k234.1 + 1, k234.2 + 2) ∧ ∀ (o235 : Int) (L236 : Lay) (μ237 : Mem), o235 = L232.1 + 1 → L236 = nwL L232 (3, 0) → μ237 = nwM L232 μ225 → (isK L236 v0 (9, 0)) ∧ (isK L236 o235 (3, 0)) ∧ ∃ k247 k248 : Nat × Nat, k247.1 + k248.1 = (k234.1, k234.2).1 ∧ k247.2 + k248.2 = (k234.1, k234.2).2 ∧ TR mX3_init 1 k247 [(2, o235)] L236 μ237 (fun r244 L245 μ246 => r244 = none ∧ (isK L245 v0 (9, 0)) ∧ (isK L245 o235 (3, 0)) ∧ ∀ L253 : Lay, L253 = upR L245 v0 12 o235 → (isK L253 v0 (9, 0)) ∧ ∃ k255 : Nat × Nat, k248 = (k255.1 + 1, k255.2 + 2) ∧ ∀ (o256 : Int) (L257 : Lay) (μ258 : Mem), o256 = L253.1 + 1 → L257 = nwL L253 (7, 0) → μ258 = nwM L253 μ246 → (isK L257 v0 (9, 0)) ∧ (isK L257 o256 (7, 0)) ∧ ∃ k268 k269 : Nat × Nat, k268.1 + k269.1 = (k255.1, k255.2).1 ∧ k268.2 + k269.2 = (k255.1, k255.2).2 ∧ TR mX7_init 2 k268 [(2, o256)] L257 μ258 (fun r265 L266 μ267 => r265 = none ∧ (isK L266 v0 (9, 0)) ∧ (isK L266 o256 (7, 0)) ∧ ∀ L274 : Lay, L274 = upR L266 v0 13 o256 → (isK L274 v0 (9, 0)) ∧ Q none L274 μ267)))))))))))))) : TR mX9_init 5 k [(2, v0)] L μ Q := by
  refine TR.of (ls := [(2, v0)]) (by decide) (by simp) rfl (Nat.le_of_ble_eq_true rfl) ?_
  refine wa_aload_n 1 dX9_init_0 rfl rfl ?_
  refine wa_objInit 4 dX9_init_1 rfl wM_X9_3 (by decide) ?_
  refine wa_aload_n 5 dX9_init_4 rfl rfl ?_
  obtain ⟨k1, e5, h⟩ := h
  refine wa_new 8 0 dX9_init_5 rfl wC_X9_9 wI_X0 wZ_X0 ⟨by decide, e5⟩ ?_
  replace h := h _ _ _ rfl rfl rfl
  generalize nwL L (0, 0) = L3 at h ⊢
  generalize nwM L μ = μ4 at h ⊢
  generalize L.1 + 1 = o2 at h ⊢
  obtain ⟨c9, h⟩ := h
  obtain ⟨c10, h⟩ := h
  refine wa_dup 9 dX9_init_8 rfl (Or.inr rfl) ?_
  obtain ⟨k14, k15, e16, e17, h⟩ := h
  refine wa_callI 12 1 0 (av := []) (rest := [(2, o2), (2, v0)]) (k1 := k14) (k2 := k15) ⟨cvX0_init, rfl⟩ dX9_init_9 rfl wM_X9_11 ⟨rfl, Nat.le_of_ble_eq_true rfl, by decide, Nat.le_of_ble_eq_true rfl, e16, e17⟩ rfl (TR.mono h (fun r11 L12 μ13 h => ?_))
  obtain ⟨rfl, h⟩ := h
  obtain ⟨c18, h⟩ := h
  obtain ⟨c19, h⟩ := h
  show WA mX9_init 5 k15 12 [(2, v0)] [(2, o2), (2, v0)] L12 μ13 Q
  refine wa_putR 15 0 dX9_init_12 rfl wF_X9_12 rfl ⟨rfl, rfl⟩ rfl ⟨c18, isK_pos c19⟩ ?_
  replace h := h _ rfl
  generalize upR L12 v0 0 o2 = L20 at h ⊢
  obtain ⟨c21, h⟩ := h
  refine wa_aload_n 16 dX9_init_15 rfl rfl ?_
  obtain ⟨k22, e26, h⟩ := h
  refine wa_new 19 0 dX9_init_16 rfl wC_X9_9 wI_X0 wZ_X0 ⟨by decide, e26⟩ ?_
  replace h := h _ _ _ rfl rfl rfl
  generalize nwL L20 (0, 0) = L24 at h ⊢
  generalize nwM L20 μ13 = μ25 at h ⊢
  generalize L20.1 + 1 = o23 at h ⊢
  obtain ⟨c30, h⟩ := h
  obtain ⟨c31, h⟩ := h
  refine wa_dup 20 dX9_init_19 rfl (Or.inr rfl) ?_
  obtain ⟨k35, k36, e37, e38, h⟩ := h
  refine wa_callI 23 1 0 (av := []) (rest := [(2, o23), (2, v0)]) (k1 := k35) (k2 := k36) ⟨cvX0_init, rfl⟩ dX9_init_20 rfl wM_X9_11 ⟨rfl, Nat.le_of_ble_eq_true rfl, by decide, Nat.le_of_ble_eq_true rfl, e37, e38⟩ rfl (TR.mono h (fun r32 L33 μ34 h => ?_))
  obtain ⟨rfl, h⟩ := h
  obtain ⟨c39, h⟩ := h
  obtain ⟨c40, h⟩ := h
  show WA mX9_init 5 k36 23 [(2, v0)] [(2, o23), (2, v0)] L33 μ34 Q
  refine wa_putR 26 1 dX9_init_23 rfl wF_X9_18 rfl ⟨rfl, rfl⟩ rfl ⟨c39, isK_pos c40⟩ ?_
  replace h := h _ rfl
  generalize upR L33 v0 1 o23 = L41 at h ⊢
  obtain ⟨c42, h⟩ := h
  refine wa_aload_n 27 dX9_init_26 rfl rfl ?_
  obtain ⟨k43, e47, h⟩ := h
  refine wa_new 30 0 dX9_init_27 rfl wC_X9_9 wI_X0 wZ_X0 ⟨by decide, e47⟩ ?_
  replace h := h _ _ _ rfl rfl rfl
  generalize nwL L41 (0, 0) = L45 at h ⊢
  generalize nwM L41 μ34 = μ46 at h ⊢
  generalize L41.1 + 1 = o44 at h ⊢
  obtain ⟨c51, h⟩ := h
  obtain ⟨c52, h⟩ := h
  refine wa_dup 31 dX9_init_30 rfl (Or.inr rfl) ?_
  obtain ⟨k56, k57, e58, e59, h⟩ := h
  refine wa_callI 34 1 0 (av := []) (rest := [(2, o44), (2, v0)]) (k1 := k56) (k2 := k57) ⟨cvX0_init, rfl⟩ dX9_init_31 rfl wM_X9_11 ⟨rfl, Nat.le_of_ble_eq_true rfl, by decide, Nat.le_of_ble_eq_true rfl, e58, e59⟩ rfl (TR.mono h (fun r53 L54 μ55 h => ?_))
  obtain ⟨rfl, h⟩ := h
  obtain ⟨c60, h⟩ := h
  obtain ⟨c61, h⟩ := h
  show WA mX9_init 5 k57 34 [(2, v0)] [(2, o44), (2, v0)] L54 μ55 Q
  refine wa_putR 37 2 dX9_init_34 rfl wF_X9_21 rfl ⟨rfl, rfl⟩ rfl ⟨c60, isK_pos c61⟩ ?_
  replace h := h _ rfl
  generalize upR L54 v0 2 o44 = L62 at h ⊢
  obtain ⟨c63, h⟩ := h
  refine wa_aload_n 38 dX9_init_37 rfl rfl ?_
  obtain ⟨k64, e68, h⟩ := h
  refine wa_new 41 1 dX9_init_38 rfl wC_X9_24 wI_X1 wZ_X1 ⟨by decide, e68⟩ ?_
  replace h := h _ _ _ rfl rfl rfl
  generalize nwL L62 (1, 0) = L66 at h ⊢
  generalize nwM L62 μ55 = μ67 at h ⊢
  generalize L62.1 + 1 = o65 at h ⊢
  obtain ⟨c72, h⟩ := h
  obtain ⟨c73, h⟩ := h
  refine wa_dup 42 dX9_init_41 rfl (Or.inr rfl) ?_
  obtain ⟨k77, k78, e79, e80, h⟩ := h
  refine wa_callI 45 4 0 (av := []) (rest := [(2, o65), (2, v0)]) (k1 := k77) (k2 := k78) ⟨cvX1_init, rfl⟩ dX9_init_42 rfl wM_X9_26 ⟨rfl, Nat.le_of_ble_eq_true rfl, by decide, Nat.le_of_ble_eq_true rfl, e79, e80⟩ rfl (TR.mono h (fun r74 L75 μ76 h => ?_))
  obtain ⟨rfl, h⟩ := h
  obtain ⟨c81, h⟩ := h
  obtain ⟨c82, h⟩ := h
  show WA mX9_init 5 k78 45 [(2, v0)] [(2, o65), (2, v0)] L75 μ76 Q
  refine wa_putR 48 3 dX9_init_45 rfl wF_X9_27 rfl ⟨rfl, rfl⟩ rfl ⟨c81, isK_pos c82⟩ ?_
  replace h := h _ rfl
  generalize upR L75 v0 3 o65 = L83 at h ⊢
  obtain ⟨c84, h⟩ := h
  refine wa_aload_n 49 dX9_init_48 rfl rfl ?_
  obtain ⟨k85, e89, h⟩ := h
  refine wa_new 52 1 dX9_init_49 rfl wC_X9_24 wI_X1 wZ_X1 ⟨by decide, e89⟩ ?_
  replace h := h _ _ _ rfl rfl rfl
  generalize nwL L83 (1, 0) = L87 at h ⊢
  generalize nwM L83 μ76 = μ88 at h ⊢
  generalize L83.1 + 1 = o86 at h ⊢
  obtain ⟨c93, h⟩ := h
  obtain ⟨c94, h⟩ := h
  refine wa_dup 53 dX9_init_52 rfl (Or.inr rfl) ?_
  obtain ⟨k98, k99, e100, e101, h⟩ := h
  refine wa_callI 56 4 0 (av := []) (rest := [(2, o86), (2, v0)]) (k1 := k98) (k2 := k99) ⟨cvX1_init, rfl⟩ dX9_init_53 rfl wM_X9_26 ⟨rfl, Nat.le_of_ble_eq_true rfl, by decide, Nat.le_of_ble_eq_true rfl, e100, e101⟩ rfl (TR.mono h (fun r95 L96 μ97 h => ?_))
  obtain ⟨rfl, h⟩ := h
  obtain ⟨c102, h⟩ := h
  obtain ⟨c103, h⟩ := h
  show WA mX9_init 5 k99 56 [(2, v0)] [(2, o86), (2, v0)] L96 μ97 Q
  refine wa_putR 59 4 dX9_init_56 rfl wF_X9_31 rfl ⟨rfl, rfl⟩ rfl ⟨c102, isK_pos c103⟩ ?_
  replace h := h _ rfl
  generalize upR L96 v0 4 o86 = L104 at h ⊢
  obtain ⟨c105, h⟩ := h
  refine wa_aload_n 60 dX9_init_59 rfl rfl ?_
  obtain ⟨k106, e110, h⟩ := h
  refine wa_new 63 1 dX9_init_60 rfl wC_X9_24 wI_X1 wZ_X1 ⟨by decide, e110⟩ ?_
  replace h := h _ _ _ rfl rfl rfl
  generalize nwL L104 (1, 0) = L108 at h ⊢
  generalize nwM L104 μ97 = μ109 at h ⊢
  generalize L104.1 + 1 = o107 at h ⊢
  obtain ⟨c114, h⟩ := h
  obtain ⟨c115, h⟩ := h
  refine wa_dup 64 dX9_init_63 rfl (Or.inr rfl) ?_
  obtain ⟨k119, k120, e121, e122, h⟩ := h
  refine wa_callI 67 4 0 (av := []) (rest := [(2, o107), (2, v0)]) (k1 := k119) (k2 := k120) ⟨cvX1_init, rfl⟩ dX9_init_64 rfl wM_X9_26 ⟨rfl, Nat.le_of_ble_eq_true rfl, by decide, Nat.le_of_ble_eq_true rfl, e121, e122⟩ rfl (TR.mono h (fun r116 L117 μ118 h => ?_))
  obtain ⟨rfl, h⟩ := h
  obtain ⟨c123, h⟩ := h
  obtain ⟨c124, h⟩ := h
  show WA mX9_init 5 k120 67 [(2, v0)] [(2, o107), (2, v0)] L117 μ118 Q
  refine wa_putR 70 5 dX9_init_67 rfl wF_X9_34 rfl ⟨rfl, rfl⟩ rfl ⟨c123, isK_pos c124⟩ ?_
  replace h := h _ rfl
  generalize upR L117 v0 5 o107 = L125 at h ⊢
  obtain ⟨c126, h⟩ := h
  refine wa_aload_n 71 dX9_init_70 rfl rfl ?_
  obtain ⟨k127, e131, h⟩ := h
  refine wa_new 74 5 dX9_init_71 rfl wC_X9_37 wI_X5 wZ_X5 ⟨by decide, e131⟩ ?_
  replace h := h _ _ _ rfl rfl rfl
  generalize nwL L125 (5, 0) = L129 at h ⊢
  generalize nwM L125 μ118 = μ130 at h ⊢
  generalize L125.1 + 1 = o128 at h ⊢
  obtain ⟨c135, h⟩ := h
  obtain ⟨c136, h⟩ := h
  refine wa_dup 75 dX9_init_74 rfl (Or.inr rfl) ?_
  refine wa_aload_n 76 dX9_init_75 rfl rfl ?_
  obtain ⟨c137, h⟩ := h
  refine wa_getR 79 0 dX9_init_76 rfl wF_X9_12 rfl rfl ⟨c135, isK_pos c137⟩ ?_
  refine wa_aload_n 80 dX9_init_79 rfl rfl ?_
  obtain ⟨c138, h⟩ := h
  refine wa_getR 83 4 dX9_init_80 rfl wF_X9_31 rfl rfl ⟨c135, isK_pos c138⟩ ?_
  obtain ⟨k142, k143, e144, e145, h⟩ := h
  refine wa_callI 86 3 2 (av := [(2, (rf L129 v0 0)), (2, (rf L129 v0 4))]) (rest := [(2, o128), (2, v0)]) (k1 := k142) (k2 := k143) ⟨cvX5_init, rfl⟩ dX9_init_83 rfl wM_X9_39 ⟨rfl, Nat.le_of_ble_eq_true rfl, by decide, Nat.le_of_ble_eq_true rfl, e144, e145⟩ rfl (TR.mono h (fun r139 L140 μ141 h => ?_))
  obtain ⟨rfl, h⟩ := h
  obtain ⟨c146, h⟩ := h
  obtain ⟨c147, h⟩ := h
  show WA mX9_init 5 k143 86 [(2, v0)] [(2, o128), (2, v0)] L140 μ141 Q
  refine wa_putR 89 7 dX9_init_86 rfl wF_X9_42 rfl ⟨rfl, rfl⟩ rfl ⟨c146, isK_pos c147⟩ ?_
  replace h := h _ rfl
  generalize upR L140 v0 7 o128 = L148 at h ⊢
  obtain ⟨c149, h⟩ := h
  refine wa_aload_n 90 dX9_init_89 rfl rfl ?_
  obtain ⟨k150, e154, h⟩ := h
  refine wa_new 93 8 dX9_init_90 rfl wC_X9_46 wI_X8 wZ_X8 ⟨by decide, e154⟩ ?_
  replace h := h _ _ _ rfl rfl rfl
  generalize nwL L148 (8, 0) = L152 at h ⊢
  generalize nwM L148 μ141 = μ153 at h ⊢
  generalize L148.1 + 1 = o151 at h ⊢
  obtain ⟨c158, h⟩ := h
  obtain ⟨c159, h⟩ := h
  refine wa_dup 94 dX9_init_93 rfl (Or.inr rfl) ?_
  obtain ⟨k163, k164, e165, e166, h⟩ := h
  refine wa_callN 97 3 0 (host := "KnifeDesk") (av := []) (rest := [(2, o151), (2, v0)]) (k1 := k163) (k2 := k164) ⟨cvX8_init, rfl⟩ dX9_init_94 rfl (List.mem_of_getElem? (i := 7) rfl) ⟨rfl, Nat.le_of_ble_eq_true rfl, by decide, Nat.le_of_ble_eq_true rfl, e165, e166⟩ rfl (TR.mono h (fun r160 L161 μ162 h => ?_))
  obtain ⟨rfl, h⟩ := h
  obtain ⟨c167, h⟩ := h
  obtain ⟨c168, h⟩ := h
  show WA mX9_init 5 k164 97 [(2, v0)] [(2, o151), (2, v0)] L161 μ162 Q
  refine wa_putR 100 8 dX9_init_97 rfl wF_X9_49 rfl ⟨rfl, rfl⟩ rfl ⟨c167, isK_pos c168⟩ ?_
  replace h := h _ rfl
  generalize upR L161 v0 8 o151 = L169 at h ⊢
  obtain ⟨c170, h⟩ := h
  refine wa_aload_n 101 dX9_init_100 rfl rfl ?_
  obtain ⟨k171, e175, h⟩ := h
  refine wa_new 104 6 dX9_init_101 rfl wC_X9_53 wI_X6 wZ_X6 ⟨by decide, e175⟩ ?_
  replace h := h _ _ _ rfl rfl rfl
  generalize nwL L169 (6, 0) = L173 at h ⊢
  generalize nwM L169 μ162 = μ174 at h ⊢
  generalize L169.1 + 1 = o172 at h ⊢
  obtain ⟨c179, h⟩ := h
  obtain ⟨c180, h⟩ := h
  refine wa_dup 105 dX9_init_104 rfl (Or.inr rfl) ?_
  obtain ⟨k184, k185, e186, e187, h⟩ := h
  refine wa_callN 108 1 0 (host := "KnifeDesk") (av := []) (rest := [(2, o172), (2, v0)]) (k1 := k184) (k2 := k185) ⟨cvX6_init, rfl⟩ dX9_init_105 rfl (List.mem_of_getElem? (i := 10) rfl) ⟨rfl, Nat.le_of_ble_eq_true rfl, by decide, Nat.le_of_ble_eq_true rfl, e186, e187⟩ rfl (TR.mono h (fun r181 L182 μ183 h => ?_))
  obtain ⟨rfl, h⟩ := h
  obtain ⟨c188, h⟩ := h
  obtain ⟨c189, h⟩ := h
  show WA mX9_init 5 k185 108 [(2, v0)] [(2, o172), (2, v0)] L182 μ183 Q
  refine wa_putR 111 9 dX9_init_108 rfl wF_X9_56 rfl ⟨rfl, rfl⟩ rfl ⟨c188, isK_pos c189⟩ ?_
  replace h := h _ rfl
  generalize upR L182 v0 9 o172 = L190 at h ⊢
  obtain ⟨c191, h⟩ := h
  refine wa_aload_n 112 dX9_init_111 rfl rfl ?_
  obtain ⟨k192, e196, h⟩ := h
  refine wa_new 115 4 dX9_init_112 rfl wC_X9_60 wI_X4 wZ_X4 ⟨by decide, e196⟩ ?_
  replace h := h _ _ _ rfl rfl rfl
  generalize nwL L190 (4, 0) = L194 at h ⊢
  generalize nwM L190 μ183 = μ195 at h ⊢
  generalize L190.1 + 1 = o193 at h ⊢
  obtain ⟨c200, h⟩ := h
  obtain ⟨c201, h⟩ := h
  refine wa_dup 116 dX9_init_115 rfl (Or.inr rfl) ?_
  obtain ⟨k205, k206, e207, e208, h⟩ := h
  refine wa_callI 119 1 0 (av := []) (rest := [(2, o193), (2, v0)]) (k1 := k205) (k2 := k206) ⟨cvX4_init, rfl⟩ dX9_init_116 rfl wM_X9_62 ⟨rfl, Nat.le_of_ble_eq_true rfl, by decide, Nat.le_of_ble_eq_true rfl, e207, e208⟩ rfl (TR.mono h (fun r202 L203 μ204 h => ?_))
  obtain ⟨rfl, h⟩ := h
  obtain ⟨c209, h⟩ := h
  obtain ⟨c210, h⟩ := h
  show WA mX9_init 5 k206 119 [(2, v0)] [(2, o193), (2, v0)] L203 μ204 Q
  refine wa_putR 122 10 dX9_init_119 rfl wF_X9_63 rfl ⟨rfl, rfl⟩ rfl ⟨c209, isK_pos c210⟩ ?_
  replace h := h _ rfl
  generalize upR L203 v0 10 o193 = L211 at h ⊢
  obtain ⟨c212, h⟩ := h
  refine wa_aload_n 123 dX9_init_122 rfl rfl ?_
  obtain ⟨k213, e217, h⟩ := h
  refine wa_new 126 3 dX9_init_123 rfl wC_X9_67 wI_X3 wZ_X3 ⟨by decide, e217⟩ ?_
  replace h := h _ _ _ rfl rfl rfl
  generalize nwL L211 (3, 0) = L215 at h ⊢
  generalize nwM L211 μ204 = μ216 at h ⊢
  generalize L211.1 + 1 = o214 at h ⊢
  obtain ⟨c221, h⟩ := h
  obtain ⟨c222, h⟩ := h
  refine wa_dup 127 dX9_init_126 rfl (Or.inr rfl) ?_
  obtain ⟨k226, k227, e228, e229, h⟩ := h
  refine wa_callN 130 1 0 (host := "KnifeDesk") (av := []) (rest := [(2, o214), (2, v0)]) (k1 := k226) (k2 := k227) ⟨cvX3_init, rfl⟩ dX9_init_127 rfl (List.mem_of_getElem? (i := 11) rfl) ⟨rfl, Nat.le_of_ble_eq_true rfl, by decide, Nat.le_of_ble_eq_true rfl, e228, e229⟩ rfl (TR.mono h (fun r223 L224 μ225 h => ?_))
  obtain ⟨rfl, h⟩ := h
  obtain ⟨c230, h⟩ := h
  obtain ⟨c231, h⟩ := h
  show WA mX9_init 5 k227 130 [(2, v0)] [(2, o214), (2, v0)] L224 μ225 Q
  refine wa_putR 133 11 dX9_init_130 rfl wF_X9_70 rfl ⟨rfl, rfl⟩ rfl ⟨c230, isK_pos c231⟩ ?_
  replace h := h _ rfl
  generalize upR L224 v0 11 o214 = L232 at h ⊢
  obtain ⟨c233, h⟩ := h
  refine wa_aload_n 134 dX9_init_133 rfl rfl ?_
  obtain ⟨k234, e238, h⟩ := h
  refine wa_new 137 3 dX9_init_134 rfl wC_X9_67 wI_X3 wZ_X3 ⟨by decide, e238⟩ ?_
  replace h := h _ _ _ rfl rfl rfl
  generalize nwL L232 (3, 0) = L236 at h ⊢
  generalize nwM L232 μ225 = μ237 at h ⊢
  generalize L232.1 + 1 = o235 at h ⊢
  obtain ⟨c242, h⟩ := h
  obtain ⟨c243, h⟩ := h
  refine wa_dup 138 dX9_init_137 rfl (Or.inr rfl) ?_
  obtain ⟨k247, k248, e249, e250, h⟩ := h
  refine wa_callN 141 1 0 (host := "KnifeDesk") (av := []) (rest := [(2, o235), (2, v0)]) (k1 := k247) (k2 := k248) ⟨cvX3_init, rfl⟩ dX9_init_138 rfl (List.mem_of_getElem? (i := 11) rfl) ⟨rfl, Nat.le_of_ble_eq_true rfl, by decide, Nat.le_of_ble_eq_true rfl, e249, e250⟩ rfl (TR.mono h (fun r244 L245 μ246 h => ?_))
  obtain ⟨rfl, h⟩ := h
  obtain ⟨c251, h⟩ := h
  obtain ⟨c252, h⟩ := h
  show WA mX9_init 5 k248 141 [(2, v0)] [(2, o235), (2, v0)] L245 μ246 Q
  refine wa_putR 144 12 dX9_init_141 rfl wF_X9_74 rfl ⟨rfl, rfl⟩ rfl ⟨c251, isK_pos c252⟩ ?_
  replace h := h _ rfl
  generalize upR L245 v0 12 o235 = L253 at h ⊢
  obtain ⟨c254, h⟩ := h
  refine wa_aload_n 145 dX9_init_144 rfl rfl ?_
  obtain ⟨k255, e259, h⟩ := h
  refine wa_new 148 7 dX9_init_145 rfl wC_X9_77 wI_X7 wZ_X7 ⟨by decide, e259⟩ ?_
  replace h := h _ _ _ rfl rfl rfl
  generalize nwL L253 (7, 0) = L257 at h ⊢
  generalize nwM L253 μ246 = μ258 at h ⊢
  generalize L253.1 + 1 = o256 at h ⊢
  obtain ⟨c263, h⟩ := h
  obtain ⟨c264, h⟩ := h
  refine wa_dup 149 dX9_init_148 rfl (Or.inr rfl) ?_
  obtain ⟨k268, k269, e270, e271, h⟩ := h
  refine wa_callN 152 2 0 (host := "KnifeDesk") (av := []) (rest := [(2, o256), (2, v0)]) (k1 := k268) (k2 := k269) ⟨cvX7_init, rfl⟩ dX9_init_149 rfl (List.mem_of_getElem? (i := 12) rfl) ⟨rfl, Nat.le_of_ble_eq_true rfl, by decide, Nat.le_of_ble_eq_true rfl, e270, e271⟩ rfl (TR.mono h (fun r265 L266 μ267 h => ?_))
  obtain ⟨rfl, h⟩ := h
  obtain ⟨c272, h⟩ := h
  obtain ⟨c273, h⟩ := h
  show WA mX9_init 5 k269 152 [(2, v0)] [(2, o256), (2, v0)] L266 μ267 Q
  refine wa_putR 155 13 dX9_init_152 rfl wF_X9_80 rfl ⟨rfl, rfl⟩ rfl ⟨c272, isK_pos c273⟩ ?_
  replace h := h _ rfl
  generalize upR L266 v0 13 o256 = L274 at h ⊢
  obtain ⟨c275, h⟩ := h
  exact wa_vret dX9_init_155 rfl h
set_option maxRecDepth 20000 in
theorem o_X10_init {v0 : Int} (k0 : isK L v0 (10, 0)) (h : ∃ k1 : Nat × Nat, k = (k1.1 + 1, k1.2 + 510) ∧ ∀ (o2 : Int) (L3 : Lay) (μ4 : Mem), o2 = L.1 + 1 → L3 = nwL L (21, 510) → μ4 = nwM L μ → (isK L3 v0 (10, 0)) ∧ (isK L3 o2 (21, 510)) ∧ ∀ L11 : Lay, L11 = upR L3 v0 0 o2 → (isK L11 v0 (10, 0)) ∧ ∃ k13 : Nat × Nat, (k1.1, k1.2) = (k13.1 + 1, k13.2 + 510) ∧ ∀ (o14 : Int) (L15 : Lay) (μ16 : Mem), o14 = L11.1 + 1 → L15 = nwL L11 (21, 510) → μ16 = nwM L11 μ4 → (isK L15 v0 (10, 0)) ∧ (isK L15 o14 (21, 510)) ∧ ∀ L23 : Lay, L23 = upR L15 v0 1 o14 → (isK L23 v0 (10, 0)) ∧ ∃ k25 : Nat × Nat, (k13.1, k13.2) = (k25.1 + 1, k25.2 + 510) ∧ ∀ (o26 : Int) (L27 : Lay) (μ28 : Mem), o26 = L23.1 + 1 → L27 = nwL L23 (21, 510) → μ28 = nwM L23 μ16 → (isK L27 v0 (10, 0)) ∧ (isK L27 o26 (21, 510)) ∧ ∀ L35 : Lay, L35 = upR L27 v0 2 o26 → (isK L35 v0 (10, 0)) ∧ ∃ k37 : Nat × Nat, (k25.1, k25.2) = (k37.1 + 1, k37.2 + 160) ∧ ∀ (o38 : Int) (L39 : Lay) (μ40 : Mem), o38 = L35.1 + 1 → L39 = nwL L35 (20, 160) → μ40 = nwM L35 μ28 → (isK L39 v0 (10, 0)) ∧ (isK L39 o38 (20, 160)) ∧ ∀ L47 : Lay, L47 = upR L39 v0 6 o38 → (isK L47 v0 (10, 0)) ∧ ∃ k49 : Nat × Nat, (k37.1, k37.2) = (k49.1 + 1, k49.2 + 5) ∧ ∀ (o50 : Int) (L51 : Lay) (μ52 : Mem), o50 = L47.1 + 1 → L51 = nwL L47 (21, 5) → μ52 = nwM L47 μ40 → (isK L51 v0 (10, 0)) ∧ (isK L51 o50 (21, 5)) ∧ ∀ L59 : Lay, L59 = upR L51 v0 13 o50 → (isK L59 v0 (10, 0)) ∧ ∃ k61 : Nat × Nat, (k49.1, k49.2) = (k61.1 + 1, k61.2 + 5) ∧ ∀ (o62 : Int) (L63 : Lay) (μ64 : Mem), o62 = L59.1 + 1 → L63 = nwL L59 (21, 5) → μ64 = nwM L59 μ52 → (isK L63 v0 (10, 0)) ∧ (isK L63 o62 (21, 5)) ∧ ∀ L71 : Lay, L71 = upR L63 v0 14 o62 → (isK L71 v0 (10, 0)) ∧ ∃ k73 : Nat × Nat, (k61.1, k61.2) = (k73.1 + 1, k73.2 + 10) ∧ ∀ (o74 : Int) (L75 : Lay) (μ76 : Mem), o74 = L71.1 + 1 → L75 = nwL L71 (20, 10) → μ76 = nwM L71 μ64 → (isK L75 v0 (10, 0)) ∧ (isK L75 o74 (20, 10)) ∧ ∀ L83 : Lay, L83 = upR L75 v0 16 o74 → (isK L83 v0 (10, 0)) ∧ ∃ k85 : Nat × Nat, (k73.1, k73.2) = (k85.1 + 1, k85.2 + 40) ∧ ∀ (o86 : Int) (L87 : Lay) (μ88 : Mem), o86 = L83.1 + 1 → L87 = nwL L83 (21, 40) → μ88 = nwM L83 μ76 → (isK L87 v0 (10, 0)) ∧ (isK L87 o86 (21, 40)) ∧ ∀ L95 : Lay, L95 = upR L87 v0 17 o86 → (isK L95 v0 (10, 0)) ∧ ∃ k97 : Nat × Nat, (k85.1, k85.2) = (k97.1 + 1, k97.2 + 12) ∧ ∀ (o98 : Int) (L99 : Lay) (μ100 : Mem), o98 = L95.1 + 1 → L99 = nwL L95 (21, 12) → μ100 = nwM L95 μ88 → (isK L99 v0 (10, 0)) ∧ (isK L99 o98 (21, 12)) ∧ ∀ L107 : Lay, L107 = upR L99 v0 19 o98 → (isK L107 v0 (10, 0)) ∧ ∃ k109 : Nat × Nat, (k97.1, k97.2) = (k109.1 + 1, k109.2 + 4000) ∧ ∀ (o110 : Int) (L111 : Lay) (μ112 : Mem), o110 = L107.1 + 1 → L111 = nwL L107 (20, 4000) → μ112 = nwM L107 μ100 → (isK L111 v0 (10, 0)) ∧ (isK L111 o110 (20, 4000)) ∧ ∀ L119 : Lay, L119 = upR L111 v0 20 o110 → (isK L119 v0 (10, 0)) ∧ ∃ k121 : Nat × Nat, (k109.1, k109.2) = (k121.1 + 1, k121.2 + 20) ∧ ∀ (o122 : Int) (L123 : Lay) (μ124 : Mem), o122 = L119.1 + 1 → L123 = nwL L119 (20, 20) → μ124 = nwM L119 μ112 → (isK L123 v0 (10, 0)) ∧ (isK L123 o122 (20, 20)) ∧ ∀ L131 : Lay, L131 = upR L123 v0 22 o122 → (isK L131 v0 (10, 0)) ∧ ∃ k133 : Nat × Nat, (k121.1, k121.2) = (k133.1 + 1, k133.2 + 25) ∧ ∀ (o134 : Int) (L135 : Lay) (μ136 : Mem), o134 = L131.1 + 1 → L135 = nwL L131 (21, 25) → μ136 = nwM L131 μ124 → (isK L135 v0 (10, 0)) ∧ (isK L135 o134 (21, 25)) ∧ ∀ L143 : Lay, L143 = upR L135 v0 23 o134 → (isK L143 v0 (10, 0)) ∧ ∃ k145 : Nat × Nat, (k133.1, k133.2) = (k145.1 + 1, k145.2 + 20) ∧ ∀ (o146 : Int) (L147 : Lay) (μ148 : Mem), o146 = L143.1 + 1 → L147 = nwL L143 (21, 20) → μ148 = nwM L143 μ136 → (isK L147 v0 (10, 0)) ∧ (isK L147 o146 (21, 20)) ∧ ∀ L155 : Lay, L155 = upR L147 v0 24 o146 → (isK L155 v0 (10, 0)) ∧ ∃ k157 : Nat × Nat, (k145.1, k145.2) = (k157.1 + 1, k157.2 + 510) ∧ ∀ (o158 : Int) (L159 : Lay) (μ160 : Mem), o158 = L155.1 + 1 → L159 = nwL L155 (21, 510) → μ160 = nwM L155 μ148 → (isK L159 v0 (10, 0)) ∧ (isK L159 o158 (21, 510)) ∧ ∀ L167 : Lay, L167 = upR L159 v0 25 o158 → (isK L167 v0 (10, 0)) ∧ ∃ k169 : Nat × Nat, (k157.1, k157.2) = (k169.1 + 1, k169.2 + 4) ∧ ∀ (o170 : Int) (L171 : Lay) (μ172 : Mem), o170 = L167.1 + 1 → L171 = nwL L167 (20, 4) → μ172 = nwM L167 μ160 → (isK L171 v0 (10, 0)) ∧ (isK L171 o170 (20, 4)) ∧ ∀ L179 : Lay, L179 = upR L171 v0 26 o170 → (isK L179 v0 (10, 0)) ∧ ∃ k181 : Nat × Nat, (k169.1, k169.2) = (k181.1 + 1, k181.2 + 80) ∧ ∀ (o182 : Int) (L183 : Lay) (μ184 : Mem), o182 = L179.1 + 1 → L183 = nwL L179 (20, 80) → μ184 = nwM L179 (up (up (up (up μ172 o170 0 ((-1))) o170 1 ((-1))) o170 2 ((-1))) o170 3 ((-1))) → (isK L183 v0 (10, 0)) ∧ (isK L183 o182 (20, 80)) ∧ ∀ L191 : Lay, L191 = upR L183 v0 27 o182 → (isK L191 v0 (10, 0)) ∧ TR mX10_fresh 0 (0, 0) [(2, v0), (0, 8), (0, 3)] L191 μ184 (fun r193 L194 μ195 => r193 = none ∧ L191 = L194 ∧ Q none L191 μ195)) : TR mX10_init 1 k [(2, v0)] L μ Q := by
  refine TR.of (ls := [(2, v0)]) (by decide) (by simp) rfl (Nat.le_of_ble_eq_true rfl) ?_
  refine wa_aload_n 1 dX10_init_0 rfl rfl ?_
  refine wa_objInit 4 dX10_init_1 rfl wM_X10_3 (by decide) ?_
  refine wa_aload_n 5 dX10_init_4 rfl rfl ?_
  refine wa_sipush 8 dX10_init_5 rfl ⟨by decide, by decide⟩ ?_
  obtain ⟨k1, e5, h⟩ := h
  refine wa_newarray 10 21 510 (atype := .long) dX10_init_8 rfl ⟨Or.inr (Or.inl ⟨rfl, rfl⟩), rfl, by decide, e5⟩ ?_
  replace h := h _ _ _ rfl rfl rfl
  generalize nwL L (21, 510) = L3 at h ⊢
  generalize nwM L μ = μ4 at h ⊢
  generalize L.1 + 1 = o2 at h ⊢
  obtain ⟨c9, h⟩ := h
  obtain ⟨c10, h⟩ := h
  refine wa_putR 13 0 dX10_init_10 rfl wF_X10_9 rfl ⟨rfl, rfl⟩ rfl ⟨c9, isK_pos c10⟩ ?_
  replace h := h _ rfl
  generalize upR L3 v0 0 o2 = L11 at h ⊢
  obtain ⟨c12, h⟩ := h
  refine wa_aload_n 14 dX10_init_13 rfl rfl ?_
  refine wa_sipush 17 dX10_init_14 rfl ⟨by decide, by decide⟩ ?_
  obtain ⟨k13, e17, h⟩ := h
  refine wa_newarray 19 21 510 (atype := .long) dX10_init_17 rfl ⟨Or.inr (Or.inl ⟨rfl, rfl⟩), rfl, by decide, e17⟩ ?_
  replace h := h _ _ _ rfl rfl rfl
  generalize nwL L11 (21, 510) = L15 at h ⊢
  generalize nwM L11 μ4 = μ16 at h ⊢
  generalize L11.1 + 1 = o14 at h ⊢
  obtain ⟨c21, h⟩ := h
  obtain ⟨c22, h⟩ := h
  refine wa_putR 22 1 dX10_init_19 rfl wF_X10_15 rfl ⟨rfl, rfl⟩ rfl ⟨c21, isK_pos c22⟩ ?_
  replace h := h _ rfl
  generalize upR L15 v0 1 o14 = L23 at h ⊢
  obtain ⟨c24, h⟩ := h
  refine wa_aload_n 23 dX10_init_22 rfl rfl ?_
  refine wa_sipush 26 dX10_init_23 rfl ⟨by decide, by decide⟩ ?_
  obtain ⟨k25, e29, h⟩ := h
  refine wa_newarray 28 21 510 (atype := .long) dX10_init_26 rfl ⟨Or.inr (Or.inl ⟨rfl, rfl⟩), rfl, by decide, e29⟩ ?_
  replace h := h _ _ _ rfl rfl rfl
  generalize nwL L23 (21, 510) = L27 at h ⊢
  generalize nwM L23 μ16 = μ28 at h ⊢
  generalize L23.1 + 1 = o26 at h ⊢
  obtain ⟨c33, h⟩ := h
  obtain ⟨c34, h⟩ := h
  refine wa_putR 31 2 dX10_init_28 rfl wF_X10_18 rfl ⟨rfl, rfl⟩ rfl ⟨c33, isK_pos c34⟩ ?_
  replace h := h _ rfl
  generalize upR L27 v0 2 o26 = L35 at h ⊢
  obtain ⟨c36, h⟩ := h
  refine wa_aload_n 32 dX10_init_31 rfl rfl ?_
  refine wa_sipush 35 dX10_init_32 rfl ⟨by decide, by decide⟩ ?_
  obtain ⟨k37, e41, h⟩ := h
  refine wa_newarray 37 20 160 (atype := .int) dX10_init_35 rfl ⟨Or.inl ⟨rfl, rfl⟩, rfl, by decide, e41⟩ ?_
  replace h := h _ _ _ rfl rfl rfl
  generalize nwL L35 (20, 160) = L39 at h ⊢
  generalize nwM L35 μ28 = μ40 at h ⊢
  generalize L35.1 + 1 = o38 at h ⊢
  obtain ⟨c45, h⟩ := h
  obtain ⟨c46, h⟩ := h
  refine wa_putR 40 6 dX10_init_37 rfl wF_X10_21 rfl ⟨rfl, rfl⟩ rfl ⟨c45, isK_pos c46⟩ ?_
  replace h := h _ rfl
  generalize upR L39 v0 6 o38 = L47 at h ⊢
  obtain ⟨c48, h⟩ := h
  refine wa_aload_n 41 dX10_init_40 rfl rfl ?_
  refine wa_iconst 42 dX10_init_41 rfl (by decide) ?_
  obtain ⟨k49, e53, h⟩ := h
  refine wa_newarray 44 21 5 (atype := .long) dX10_init_42 rfl ⟨Or.inr (Or.inl ⟨rfl, rfl⟩), rfl, by decide, e53⟩ ?_
  replace h := h _ _ _ rfl rfl rfl
  generalize nwL L47 (21, 5) = L51 at h ⊢
  generalize nwM L47 μ40 = μ52 at h ⊢
  generalize L47.1 + 1 = o50 at h ⊢
  obtain ⟨c57, h⟩ := h
  obtain ⟨c58, h⟩ := h
  refine wa_putR 47 13 dX10_init_44 rfl wF_X10_25 rfl ⟨rfl, rfl⟩ rfl ⟨c57, isK_pos c58⟩ ?_
  replace h := h _ rfl
  generalize upR L51 v0 13 o50 = L59 at h ⊢
  obtain ⟨c60, h⟩ := h
  refine wa_aload_n 48 dX10_init_47 rfl rfl ?_
  refine wa_iconst 49 dX10_init_48 rfl (by decide) ?_
  obtain ⟨k61, e65, h⟩ := h
  refine wa_newarray 51 21 5 (atype := .long) dX10_init_49 rfl ⟨Or.inr (Or.inl ⟨rfl, rfl⟩), rfl, by decide, e65⟩ ?_
  replace h := h _ _ _ rfl rfl rfl
  generalize nwL L59 (21, 5) = L63 at h ⊢
  generalize nwM L59 μ52 = μ64 at h ⊢
  generalize L59.1 + 1 = o62 at h ⊢
  obtain ⟨c69, h⟩ := h
  obtain ⟨c70, h⟩ := h
  refine wa_putR 54 14 dX10_init_51 rfl wF_X10_28 rfl ⟨rfl, rfl⟩ rfl ⟨c69, isK_pos c70⟩ ?_
  replace h := h _ rfl
  generalize upR L63 v0 14 o62 = L71 at h ⊢
  obtain ⟨c72, h⟩ := h
  refine wa_aload_n 55 dX10_init_54 rfl rfl ?_
  refine wa_bipush 57 dX10_init_55 rfl ⟨by decide, by decide⟩ ?_
  obtain ⟨k73, e77, h⟩ := h
  refine wa_newarray 59 20 10 (atype := .int) dX10_init_57 rfl ⟨Or.inl ⟨rfl, rfl⟩, rfl, by decide, e77⟩ ?_
  replace h := h _ _ _ rfl rfl rfl
  generalize nwL L71 (20, 10) = L75 at h ⊢
  generalize nwM L71 μ64 = μ76 at h ⊢
  generalize L71.1 + 1 = o74 at h ⊢
  obtain ⟨c81, h⟩ := h
  obtain ⟨c82, h⟩ := h
  refine wa_putR 62 16 dX10_init_59 rfl wF_X10_31 rfl ⟨rfl, rfl⟩ rfl ⟨c81, isK_pos c82⟩ ?_
  replace h := h _ rfl
  generalize upR L75 v0 16 o74 = L83 at h ⊢
  obtain ⟨c84, h⟩ := h
  refine wa_aload_n 63 dX10_init_62 rfl rfl ?_
  refine wa_bipush 65 dX10_init_63 rfl ⟨by decide, by decide⟩ ?_
  obtain ⟨k85, e89, h⟩ := h
  refine wa_newarray 67 21 40 (atype := .long) dX10_init_65 rfl ⟨Or.inr (Or.inl ⟨rfl, rfl⟩), rfl, by decide, e89⟩ ?_
  replace h := h _ _ _ rfl rfl rfl
  generalize nwL L83 (21, 40) = L87 at h ⊢
  generalize nwM L83 μ76 = μ88 at h ⊢
  generalize L83.1 + 1 = o86 at h ⊢
  obtain ⟨c93, h⟩ := h
  obtain ⟨c94, h⟩ := h
  refine wa_putR 70 17 dX10_init_67 rfl wF_X10_34 rfl ⟨rfl, rfl⟩ rfl ⟨c93, isK_pos c94⟩ ?_
  replace h := h _ rfl
  generalize upR L87 v0 17 o86 = L95 at h ⊢
  obtain ⟨c96, h⟩ := h
  refine wa_aload_n 71 dX10_init_70 rfl rfl ?_
  refine wa_bipush 73 dX10_init_71 rfl ⟨by decide, by decide⟩ ?_
  obtain ⟨k97, e101, h⟩ := h
  refine wa_newarray 75 21 12 (atype := .long) dX10_init_73 rfl ⟨Or.inr (Or.inl ⟨rfl, rfl⟩), rfl, by decide, e101⟩ ?_
  replace h := h _ _ _ rfl rfl rfl
  generalize nwL L95 (21, 12) = L99 at h ⊢
  generalize nwM L95 μ88 = μ100 at h ⊢
  generalize L95.1 + 1 = o98 at h ⊢
  obtain ⟨c105, h⟩ := h
  obtain ⟨c106, h⟩ := h
  refine wa_putR 78 19 dX10_init_75 rfl wF_X10_37 rfl ⟨rfl, rfl⟩ rfl ⟨c105, isK_pos c106⟩ ?_
  replace h := h _ rfl
  generalize upR L99 v0 19 o98 = L107 at h ⊢
  obtain ⟨c108, h⟩ := h
  refine wa_aload_n 79 dX10_init_78 rfl rfl ?_
  refine wa_sipush 82 dX10_init_79 rfl ⟨by decide, by decide⟩ ?_
  obtain ⟨k109, e113, h⟩ := h
  refine wa_newarray 84 20 4000 (atype := .int) dX10_init_82 rfl ⟨Or.inl ⟨rfl, rfl⟩, rfl, by decide, e113⟩ ?_
  replace h := h _ _ _ rfl rfl rfl
  generalize nwL L107 (20, 4000) = L111 at h ⊢
  generalize nwM L107 μ100 = μ112 at h ⊢
  generalize L107.1 + 1 = o110 at h ⊢
  obtain ⟨c117, h⟩ := h
  obtain ⟨c118, h⟩ := h
  refine wa_putR 87 20 dX10_init_84 rfl wF_X10_40 rfl ⟨rfl, rfl⟩ rfl ⟨c117, isK_pos c118⟩ ?_
  replace h := h _ rfl
  generalize upR L111 v0 20 o110 = L119 at h ⊢
  obtain ⟨c120, h⟩ := h
  refine wa_aload_n 88 dX10_init_87 rfl rfl ?_
  refine wa_bipush 90 dX10_init_88 rfl ⟨by decide, by decide⟩ ?_
  obtain ⟨k121, e125, h⟩ := h
  refine wa_newarray 92 20 20 (atype := .int) dX10_init_90 rfl ⟨Or.inl ⟨rfl, rfl⟩, rfl, by decide, e125⟩ ?_
  replace h := h _ _ _ rfl rfl rfl
  generalize nwL L119 (20, 20) = L123 at h ⊢
  generalize nwM L119 μ112 = μ124 at h ⊢
  generalize L119.1 + 1 = o122 at h ⊢
  obtain ⟨c129, h⟩ := h
  obtain ⟨c130, h⟩ := h
  refine wa_putR 95 22 dX10_init_92 rfl wF_X10_43 rfl ⟨rfl, rfl⟩ rfl ⟨c129, isK_pos c130⟩ ?_
  replace h := h _ rfl
  generalize upR L123 v0 22 o122 = L131 at h ⊢
  obtain ⟨c132, h⟩ := h
  refine wa_aload_n 96 dX10_init_95 rfl rfl ?_
  refine wa_bipush 98 dX10_init_96 rfl ⟨by decide, by decide⟩ ?_
  obtain ⟨k133, e137, h⟩ := h
  refine wa_newarray 100 21 25 (atype := .long) dX10_init_98 rfl ⟨Or.inr (Or.inl ⟨rfl, rfl⟩), rfl, by decide, e137⟩ ?_
  replace h := h _ _ _ rfl rfl rfl
  generalize nwL L131 (21, 25) = L135 at h ⊢
  generalize nwM L131 μ124 = μ136 at h ⊢
  generalize L131.1 + 1 = o134 at h ⊢
  obtain ⟨c141, h⟩ := h
  obtain ⟨c142, h⟩ := h
  refine wa_putR 103 23 dX10_init_100 rfl wF_X10_46 rfl ⟨rfl, rfl⟩ rfl ⟨c141, isK_pos c142⟩ ?_
  replace h := h _ rfl
  generalize upR L135 v0 23 o134 = L143 at h ⊢
  obtain ⟨c144, h⟩ := h
  refine wa_aload_n 104 dX10_init_103 rfl rfl ?_
  refine wa_bipush 106 dX10_init_104 rfl ⟨by decide, by decide⟩ ?_
  obtain ⟨k145, e149, h⟩ := h
  refine wa_newarray 108 21 20 (atype := .long) dX10_init_106 rfl ⟨Or.inr (Or.inl ⟨rfl, rfl⟩), rfl, by decide, e149⟩ ?_
  replace h := h _ _ _ rfl rfl rfl
  generalize nwL L143 (21, 20) = L147 at h ⊢
  generalize nwM L143 μ136 = μ148 at h ⊢
  generalize L143.1 + 1 = o146 at h ⊢
  obtain ⟨c153, h⟩ := h
  obtain ⟨c154, h⟩ := h
  refine wa_putR 111 24 dX10_init_108 rfl wF_X10_49 rfl ⟨rfl, rfl⟩ rfl ⟨c153, isK_pos c154⟩ ?_
  replace h := h _ rfl
  generalize upR L147 v0 24 o146 = L155 at h ⊢
  obtain ⟨c156, h⟩ := h
  refine wa_aload_n 112 dX10_init_111 rfl rfl ?_
  refine wa_sipush 115 dX10_init_112 rfl ⟨by decide, by decide⟩ ?_
  obtain ⟨k157, e161, h⟩ := h
  refine wa_newarray 117 21 510 (atype := .long) dX10_init_115 rfl ⟨Or.inr (Or.inl ⟨rfl, rfl⟩), rfl, by decide, e161⟩ ?_
  replace h := h _ _ _ rfl rfl rfl
  generalize nwL L155 (21, 510) = L159 at h ⊢
  generalize nwM L155 μ148 = μ160 at h ⊢
  generalize L155.1 + 1 = o158 at h ⊢
  obtain ⟨c165, h⟩ := h
  obtain ⟨c166, h⟩ := h
  refine wa_putR 120 25 dX10_init_117 rfl wF_X10_52 rfl ⟨rfl, rfl⟩ rfl ⟨c165, isK_pos c166⟩ ?_
  replace h := h _ rfl
  generalize upR L159 v0 25 o158 = L167 at h ⊢
  obtain ⟨c168, h⟩ := h
  refine wa_aload_n 121 dX10_init_120 rfl rfl ?_
  refine wa_iconst 122 dX10_init_121 rfl (by decide) ?_
  obtain ⟨k169, e173, h⟩ := h
  refine wa_newarray 124 20 4 (atype := .int) dX10_init_122 rfl ⟨Or.inl ⟨rfl, rfl⟩, rfl, by decide, e173⟩ ?_
  replace h := h _ _ _ rfl rfl rfl
  generalize nwL L167 (20, 4) = L171 at h ⊢
  generalize nwM L167 μ160 = μ172 at h ⊢
  generalize L167.1 + 1 = o170 at h ⊢
  obtain ⟨c177, h⟩ := h
  obtain ⟨c178, h⟩ := h
  refine wa_dup 125 dX10_init_124 rfl (Or.inr rfl) ?_
  refine wa_iconst 126 dX10_init_125 rfl (by decide) ?_
  refine wa_iconst 127 dX10_init_126 rfl (by decide) ?_
  refine wa_iastore 128 dX10_init_127 rfl (okA_of c178 ⟨by decide, by decide⟩) ?_
  refine wa_dup 129 dX10_init_128 rfl (Or.inr rfl) ?_
  refine wa_iconst 130 dX10_init_129 rfl (by decide) ?_
  refine wa_iconst 131 dX10_init_130 rfl (by decide) ?_
  refine wa_iastore 132 dX10_init_131 rfl (okA_of c178 ⟨by decide, by decide⟩) ?_
  refine wa_dup 133 dX10_init_132 rfl (Or.inr rfl) ?_
  refine wa_iconst 134 dX10_init_133 rfl (by decide) ?_
  refine wa_iconst 135 dX10_init_134 rfl (by decide) ?_
  refine wa_iastore 136 dX10_init_135 rfl (okA_of c178 ⟨by decide, by decide⟩) ?_
  refine wa_dup 137 dX10_init_136 rfl (Or.inr rfl) ?_
  refine wa_iconst 138 dX10_init_137 rfl (by decide) ?_
  refine wa_iconst 139 dX10_init_138 rfl (by decide) ?_
  refine wa_iastore 140 dX10_init_139 rfl (okA_of c178 ⟨by decide, by decide⟩) ?_
  refine wa_putR 143 26 dX10_init_140 rfl wF_X10_55 rfl ⟨rfl, rfl⟩ rfl ⟨c177, isK_pos c178⟩ ?_
  replace h := h _ rfl
  generalize upR L171 v0 26 o170 = L179 at h ⊢
  obtain ⟨c180, h⟩ := h
  refine wa_aload_n 144 dX10_init_143 rfl rfl ?_
  refine wa_bipush 146 dX10_init_144 rfl ⟨by decide, by decide⟩ ?_
  obtain ⟨k181, e185, h⟩ := h
  refine wa_newarray 148 20 80 (atype := .int) dX10_init_146 rfl ⟨Or.inl ⟨rfl, rfl⟩, rfl, by decide, e185⟩ ?_
  replace h := h _ _ _ rfl rfl rfl
  generalize nwL L179 (20, 80) = L183 at h ⊢
  generalize nwM L179 (up (up (up (up μ172 o170 0 ((-1))) o170 1 ((-1))) o170 2 ((-1))) o170 3 ((-1))) = μ184 at h ⊢
  generalize L179.1 + 1 = o182 at h ⊢
  obtain ⟨c189, h⟩ := h
  obtain ⟨c190, h⟩ := h
  refine wa_putR 151 27 dX10_init_148 rfl wF_X10_58 rfl ⟨rfl, rfl⟩ rfl ⟨c189, isK_pos c190⟩ ?_
  replace h := h _ rfl
  generalize upR L183 v0 27 o182 = L191 at h ⊢
  obtain ⟨c192, h⟩ := h
  refine wa_aload_n 152 dX10_init_151 rfl rfl ?_
  refine wa_bipush 154 dX10_init_152 rfl ⟨by decide, by decide⟩ ?_
  refine wa_iconst 155 dX10_init_154 rfl (by decide) ?_
  refine wa_callV 158 0 2 10 (av := [(0, 8), (0, 3)]) (rest := []) (k1 := (0, 0)) (k2 := (k181.1, k181.2)) cvX10_fresh dX10_init_155 rfl wM_X10_61 ⟨rfl, by decide, rfl, Nat.le_of_ble_eq_true rfl, by decide, Nat.le_of_ble_eq_true rfl, Nat.zero_add _, Nat.zero_add _⟩ rfl c192 (TR.mono h (fun r193 L194 μ195 h => ?_))
  obtain ⟨rfl, rfl, h⟩ := h
  show WA mX10_init 1 (k181.1, k181.2) 158 [(2, v0)] [] L191 μ195 Q
  exact wa_vret dX10_init_158 rfl h
end
