/-! Tape, Sheet, Rows, bitCount: each method from its entry and from its loops' heads: what must hold, and the run (laid by wip/whole/gen/vc.py) -/
section
variable {L : Lay} {μ : Mem} {Q : Option AV → Lay → Mem → Prop}
set_option maxRecDepth 20000 in
theorem t_X8_add (hL : LayOK L) {v0 v1 : Int} (k0 : isK L v0 (8, 0)) (h : ((μ v0 0) < 160 → (-128 ≤ v1 ∧ v1 < 128) ∧ (0 ≤ (μ v0 0) ∧ (μ v0 0) < 160) ∧ (inI (((up μ ((rf L v0 2)) ((μ v0 0)) v1) v0 0) + 1)) ∧ Q (some (0, 1)) L (up (up μ ((rf L v0 2)) ((μ v0 0)) v1) v0 0 ((((up μ ((rf L v0 2)) ((μ v0 0)) v1) v0 0) + 1)))) ∧ (¬ (μ v0 0) < 160 → Q (some (0, 0)) L μ)) : TR mX8_add 0 (0, 0) [(2, v0), (0, v1)] L μ Q := by
  refine TR.of (ls := [(2, v0), (0, v1)]) (by decide) (by simp) rfl (Nat.le_of_ble_eq_true rfl) ?_
  refine wa_aload_n 1 dX8_add_0 rfl rfl ?_
  refine wa_getI 4 0 dX8_add_1 rfl wF_X8_29 rfl rfl k0 ?_
  refine wa_sipush 7 dX8_add_4 rfl ⟨by decide, by decide⟩ ?_
  refine wa_icmp_lt 10 12 dX8_add_7 rfl (by decide) (fun q => ?_) (fun q => ?_)
  · replace h := h.1 q
    refine wa_aload_n 13 dX8_add_12 rfl rfl ?_
    have e1 : isK L (rf L v0 2) (22, 160) := lay_f hL k0 2 rfl
    refine wa_getR 16 2 dX8_add_13 rfl wF_X8_11 rfl rfl ⟨k0, isK_pos e1⟩ ?_
    refine wa_aload_n 17 dX8_add_16 rfl rfl ?_
    refine wa_getI 20 0 dX8_add_17 rfl wF_X8_29 rfl rfl k0 ?_
    refine wa_iload_n 21 dX8_add_20 rfl rfl ?_
    obtain ⟨c2, h⟩ := h
    refine wa_i2b 22 dX8_add_21 rfl c2 ?_
    obtain ⟨c3, h⟩ := h
    refine wa_bastore 23 dX8_add_22 rfl (okA_of e1 c3) c2 ?_
    refine wa_aload_n 24 dX8_add_23 rfl rfl ?_
    refine wa_dup 25 dX8_add_24 rfl (Or.inr rfl) ?_
    refine wa_getI 28 0 dX8_add_25 rfl wF_X8_29 rfl rfl k0 ?_
    refine wa_iconst 29 dX8_add_28 rfl (by decide) ?_
    obtain ⟨c4, h⟩ := h
    refine wa_iadd 30 dX8_add_29 rfl c4 ?_
    refine wa_putN 33 0 dX8_add_30 rfl wF_X8_29 rfl rfl k0 ?_
    refine wa_iconst 34 dX8_add_33 rfl (by decide) ?_
    exact wa_zret dX8_add_34 rfl (Or.inr rfl) h
  · replace h := h.2 q
    refine wa_iconst 11 dX8_add_10 rfl (by decide) ?_
    exact wa_zret dX8_add_11 rfl (Or.inl rfl) h
set_option maxRecDepth 20000 in
theorem t_X8_figure (hL : LayOK L) {v0 : Int} (k0 : isK L v0 (8, 0)) (h : ((μ v0 0) ≤ (μ v0 1) → Q (some (0, (-1))) L μ) ∧ (¬ (μ v0 0) ≤ (μ v0 1) → (0 ≤ (μ v0 1) ∧ (μ v0 1) < 160) ∧ ((μ ((rf L v0 2)) ((μ v0 1))) < 48 → Q (some (0, (-1))) L μ) ∧ (¬ (μ ((rf L v0 2)) ((μ v0 1))) < 48 → ((μ ((rf L v0 2)) ((μ v0 1))) ≤ 57 → (inI ((μ ((rf L v0 2)) ((μ v0 1))) - 48)) ∧ Q (some (0, ((μ ((rf L v0 2)) ((μ v0 1))) - 48))) L μ) ∧ (¬ (μ ((rf L v0 2)) ((μ v0 1))) ≤ 57 → Q (some (0, (-1))) L μ)))) : TR mX8_figure 0 (0, 0) [(2, v0)] L μ Q := by
  refine TR.of (ls := [(2, v0)]) (by decide) (by simp) rfl (Nat.le_of_ble_eq_true rfl) ?_
  refine wa_aload_n 1 dX8_figure_0 rfl rfl ?_
  refine wa_getI 4 1 dX8_figure_1 rfl wF_X8_33 rfl rfl k0 ?_
  refine wa_aload_n 5 dX8_figure_4 rfl rfl ?_
  refine wa_getI 8 0 dX8_figure_5 rfl wF_X8_29 rfl rfl k0 ?_
  refine wa_icmp_ge 11 39 dX8_figure_8 rfl (by decide) (fun q => ?_) (fun q => ?_)
  · replace h := h.1 q
    refine wa_iconst 40 dX8_figure_39 rfl (by decide) ?_
    exact wa_iret dX8_figure_40 rfl h
  · replace h := h.2 q
    refine wa_aload_n 12 dX8_figure_11 rfl rfl ?_
    have e1 : isK L (rf L v0 2) (22, 160) := lay_f hL k0 2 rfl
    refine wa_getR 15 2 dX8_figure_12 rfl wF_X8_11 rfl rfl ⟨k0, isK_pos e1⟩ ?_
    refine wa_aload_n 16 dX8_figure_15 rfl rfl ?_
    refine wa_getI 19 1 dX8_figure_16 rfl wF_X8_33 rfl rfl k0 ?_
    obtain ⟨c2, h⟩ := h
    refine wa_baload 20 dX8_figure_19 rfl (okA_of e1 c2) ?_
    refine wa_bipush 22 dX8_figure_20 rfl ⟨by decide, by decide⟩ ?_
    refine wa_icmp_lt 25 39 dX8_figure_22 rfl (by decide) (fun q => ?_) (fun q => ?_)
    · replace h := h.1 q
      refine wa_iconst 40 dX8_figure_39 rfl (by decide) ?_
      exact wa_iret dX8_figure_40 rfl h
    · replace h := h.2 q
      refine wa_aload_n 26 dX8_figure_25 rfl rfl ?_
      refine wa_getR 29 2 dX8_figure_26 rfl wF_X8_11 rfl rfl ⟨k0, isK_pos e1⟩ ?_
      refine wa_aload_n 30 dX8_figure_29 rfl rfl ?_
      refine wa_getI 33 1 dX8_figure_30 rfl wF_X8_33 rfl rfl k0 ?_
      refine wa_baload 34 dX8_figure_33 rfl (okA_of e1 c2) ?_
      refine wa_bipush 36 dX8_figure_34 rfl ⟨by decide, by decide⟩ ?_
      refine wa_icmp_le 39 41 dX8_figure_36 rfl (by decide) (fun q => ?_) (fun q => ?_)
      · replace h := h.1 q
        refine wa_aload_n 42 dX8_figure_41 rfl rfl ?_
        refine wa_getR 45 2 dX8_figure_42 rfl wF_X8_11 rfl rfl ⟨k0, isK_pos e1⟩ ?_
        refine wa_aload_n 46 dX8_figure_45 rfl rfl ?_
        refine wa_getI 49 1 dX8_figure_46 rfl wF_X8_33 rfl rfl k0 ?_
        refine wa_baload 50 dX8_figure_49 rfl (okA_of e1 c2) ?_
        refine wa_bipush 52 dX8_figure_50 rfl ⟨by decide, by decide⟩ ?_
        obtain ⟨c3, h⟩ := h
        refine wa_isub 53 dX8_figure_52 rfl c3 ?_
        exact wa_iret dX8_figure_53 rfl h
      · replace h := h.2 q
        refine wa_iconst 40 dX8_figure_39 rfl (by decide) ?_
        exact wa_iret dX8_figure_40 rfl h
set_option maxRecDepth 20000 in
theorem t_X8_read (hL : LayOK L) {v0 v1 v2 v3 : Int} (k0 : isK L v0 (8, 0)) (k2 : isK L v2 (0, 0)) (k3 : isK L v3 (1, 0)) (h : WA mX8_read 6 (0, 0) 11 [(2, v0), (0, v1), (2, v2), (2, v3), (0, 0), (0, 1)] [] L (up μ v0 1 0) Q) : TR mX8_read 6 (0, 0) [(2, v0), (0, v1), (2, v2), (2, v3)] L μ Q := by
  refine TR.of (ls := [(2, v0), (0, v1), (2, v2), (2, v3), (9, 0), (9, 0)]) (by decide) (by simp) rfl (Nat.le_of_ble_eq_true rfl) ?_
  refine wa_aload_n 1 dX8_read_0 rfl rfl ?_
  refine wa_iconst 2 dX8_read_1 rfl (by decide) ?_
  refine wa_putN 5 1 dX8_read_2 rfl wF_X8_33 rfl rfl k0 ?_
  refine wa_iconst 6 dX8_read_5 rfl (by decide) ?_
  refine wa_istore 8 [(2, v0), (0, v1), (2, v2), (2, v3), (0, 0), (9, 0)] dX8_read_6 rfl rfl rfl ?_
  refine wa_iconst 9 dX8_read_8 rfl (by decide) ?_
  refine wa_istore 11 [(2, v0), (0, v1), (2, v2), (2, v3), (0, 0), (0, 1)] dX8_read_9 rfl rfl rfl ?_
  exact h
set_option maxRecDepth 20000 in
theorem s_X8_read_11 (hL : LayOK L) {v0 v1 v2 v3 v4 v5 : Int} (k0 : isK L v0 (8, 0)) (k2 : isK L v2 (0, 0)) (k3 : isK L v3 (1, 0)) (h : (v5 = 0 → (inI ((-100) - ((up μ v0 0 0) v0 1))) ∧ Q (some (0, ((-100) - ((up μ v0 0 0) v0 1)))) L (up μ v0 0 0)) ∧ (¬ v5 = 0 → (160 ≤ v4 → (inI ((-100) - ((up μ v0 0 0) v0 1))) ∧ Q (some (0, ((-100) - ((up μ v0 0 0) v0 1)))) L (up μ v0 0 0)) ∧ (¬ 160 ≤ v4 → (v1 = 0 → TR mX8_readShare 5 (0, 0) [(2, v0), (2, v2), (2, v3)] L μ (fun r3 L4 μ5 => ∃ w6, r3 = some (0, w6) ∧ L = L4 ∧ (w6 = 0 → WA mX8_read 6 (0, 0) 11 [(2, v0), (0, v1), (2, v2), (2, v3), (0, v4), (0, w6)] [] L μ5 Q) ∧ (¬ w6 = 0 → (inI (v4 + 1)) ∧ ((μ5 v0 1) < (μ5 v0 0) → TR mX8_skips 0 (0, 0) [(2, v0), (0, 59)] L μ5 (fun r8 L9 μ10 => ∃ w11, r8 = some (0, w11) ∧ L = L9 ∧ WA mX8_read 6 (0, 0) 11 [(2, v0), (0, v1), (2, v2), (2, v3), (0, (v4 + 1)), (0, w11)] [] L μ10 Q)) ∧ (¬ (μ5 v0 1) < (μ5 v0 0) → Q (some (0, (v4 + 1))) L (up μ5 v0 0 0))))) ∧ (¬ v1 = 0 → TR mX8_readWorths 1 (0, 0) [(2, v0), (2, v2)] L μ (fun r12 L13 μ14 => ∃ w15, r12 = some (0, w15) ∧ L = L13 ∧ (w15 = 0 → WA mX8_read 6 (0, 0) 11 [(2, v0), (0, v1), (2, v2), (2, v3), (0, v4), (0, w15)] [] L μ14 Q) ∧ (¬ w15 = 0 → (inI (v4 + 1)) ∧ ((μ14 v0 1) < (μ14 v0 0) → TR mX8_skips 0 (0, 0) [(2, v0), (0, 59)] L μ14 (fun r17 L18 μ19 => ∃ w20, r17 = some (0, w20) ∧ L = L18 ∧ WA mX8_read 6 (0, 0) 11 [(2, v0), (0, v1), (2, v2), (2, v3), (0, (v4 + 1)), (0, w20)] [] L μ19 Q)) ∧ (¬ (μ14 v0 1) < (μ14 v0 0) → Q (some (0, (v4 + 1))) L (up μ14 v0 0 0)))))))) : WA mX8_read 6 (0, 0) 11 [(2, v0), (0, v1), (2, v2), (2, v3), (0, v4), (0, v5)] [] L μ Q := by
  refine wa_iload 13 dX8_read_11 rfl rfl ?_
  refine wa_if_eq 16 82 dX8_read_13 rfl (by decide) (fun q => ?_) (fun q => ?_)
  · replace h := h.1 q
    refine wa_aload_n 83 dX8_read_82 rfl rfl ?_
    refine wa_iconst 84 dX8_read_83 rfl (by decide) ?_
    refine wa_putN 87 0 dX8_read_84 rfl wF_X8_29 rfl rfl k0 ?_
    refine wa_bipush 89 dX8_read_87 rfl ⟨by decide, by decide⟩ ?_
    refine wa_aload_n 90 dX8_read_89 rfl rfl ?_
    refine wa_getI 93 1 dX8_read_90 rfl wF_X8_33 rfl rfl k0 ?_
    obtain ⟨c1, h⟩ := h
    refine wa_isub 94 dX8_read_93 rfl c1 ?_
    exact wa_iret dX8_read_94 rfl h
  · replace h := h.2 q
    refine wa_iload 18 dX8_read_16 rfl rfl ?_
    refine wa_sipush 21 dX8_read_18 rfl ⟨by decide, by decide⟩ ?_
    refine wa_icmp_ge 24 82 dX8_read_21 rfl (by decide) (fun q => ?_) (fun q => ?_)
    · replace h := h.1 q
      refine wa_aload_n 83 dX8_read_82 rfl rfl ?_
      refine wa_iconst 84 dX8_read_83 rfl (by decide) ?_
      refine wa_putN 87 0 dX8_read_84 rfl wF_X8_29 rfl rfl k0 ?_
      refine wa_bipush 89 dX8_read_87 rfl ⟨by decide, by decide⟩ ?_
      refine wa_aload_n 90 dX8_read_89 rfl rfl ?_
      refine wa_getI 93 1 dX8_read_90 rfl wF_X8_33 rfl rfl k0 ?_
      obtain ⟨c2, h⟩ := h
      refine wa_isub 94 dX8_read_93 rfl c2 ?_
      exact wa_iret dX8_read_94 rfl h
    · replace h := h.2 q
      refine wa_iload_n 25 dX8_read_24 rfl rfl ?_
      refine wa_if_eq 28 36 dX8_read_25 rfl (by decide) (fun q => ?_) (fun q => ?_)
      · replace h := h.1 q
        refine wa_aload_n 37 dX8_read_36 rfl rfl ?_
        refine wa_aload_n 38 dX8_read_37 rfl rfl ?_
        refine wa_aload_n 39 dX8_read_38 rfl rfl ?_
        refine wa_callV 42 5 2 8 (av := [(2, v2), (2, v3)]) (rest := []) (k1 := (0, 0)) (k2 := (0, 0)) cvX8_readShare dX8_read_39 rfl wM_X8_40 ⟨rfl, by decide, rfl, Nat.le_of_ble_eq_true rfl, by decide, Nat.le_of_ble_eq_true rfl, rfl, rfl⟩ rfl k0 (TR.mono h (fun r3 L4 μ5 h => ?_))
        obtain ⟨w6, rfl, rfl, h⟩ := h
        show WA mX8_read 6 (0, 0) 42 [(2, v0), (0, v1), (2, v2), (2, v3), (0, v4), (0, v5)] [(0, w6)] L μ5 Q
        refine wa_istore 44 [(2, v0), (0, v1), (2, v2), (2, v3), (0, v4), (0, w6)] dX8_read_42 rfl rfl rfl ?_
        refine wa_iload 46 dX8_read_44 rfl rfl ?_
        refine wa_if_eq 49 11 dX8_read_46 rfl (by decide) (fun q => ?_) (fun q => ?_)
        · replace h := h.1 q
          exact h
        · replace h := h.2 q
          obtain ⟨c7, h⟩ := h
          refine wa_iinc 52 [(2, v0), (0, v1), (2, v2), (2, v3), (0, (v4 + 1)), (0, w6)] dX8_read_49 rfl rfl rfl c7 rfl ?_
          refine wa_aload_n 53 dX8_read_52 rfl rfl ?_
          refine wa_getI 56 1 dX8_read_53 rfl wF_X8_33 rfl rfl k0 ?_
          refine wa_aload_n 57 dX8_read_56 rfl rfl ?_
          refine wa_getI 60 0 dX8_read_57 rfl wF_X8_29 rfl rfl k0 ?_
          refine wa_icmp_lt 63 71 dX8_read_60 rfl (by decide) (fun q => ?_) (fun q => ?_)
          · replace h := h.1 q
            refine wa_aload_n 72 dX8_read_71 rfl rfl ?_
            refine wa_bipush 74 dX8_read_72 rfl ⟨by decide, by decide⟩ ?_
            refine wa_callV 77 0 1 8 (av := [(0, 59)]) (rest := []) (k1 := (0, 0)) (k2 := (0, 0)) cvX8_skips dX8_read_74 rfl wM_X8_44 ⟨rfl, by decide, rfl, Nat.le_of_ble_eq_true rfl, by decide, Nat.le_of_ble_eq_true rfl, rfl, rfl⟩ rfl k0 (TR.mono h (fun r8 L9 μ10 h => ?_))
            obtain ⟨w11, rfl, rfl, h⟩ := h
            show WA mX8_read 6 (0, 0) 77 [(2, v0), (0, v1), (2, v2), (2, v3), (0, (v4 + 1)), (0, w6)] [(0, w11)] L μ10 Q
            refine wa_istore 79 [(2, v0), (0, v1), (2, v2), (2, v3), (0, (v4 + 1)), (0, w11)] dX8_read_77 rfl rfl rfl ?_
            refine wa_goto 11 dX8_read_79 (by decide) ?_
            exact h
          · replace h := h.2 q
            refine wa_aload_n 64 dX8_read_63 rfl rfl ?_
            refine wa_iconst 65 dX8_read_64 rfl (by decide) ?_
            refine wa_putN 68 0 dX8_read_65 rfl wF_X8_29 rfl rfl k0 ?_
            refine wa_iload 70 dX8_read_68 rfl rfl ?_
            exact wa_iret dX8_read_70 rfl h
      · replace h := h.2 q
        refine wa_aload_n 29 dX8_read_28 rfl rfl ?_
        refine wa_aload_n 30 dX8_read_29 rfl rfl ?_
        refine wa_callV 33 1 1 8 (av := [(2, v2)]) (rest := []) (k1 := (0, 0)) (k2 := (0, 0)) cvX8_readWorths dX8_read_30 rfl wM_X8_36 ⟨rfl, by decide, rfl, Nat.le_of_ble_eq_true rfl, by decide, Nat.le_of_ble_eq_true rfl, rfl, rfl⟩ rfl k0 (TR.mono h (fun r12 L13 μ14 h => ?_))
        obtain ⟨w15, rfl, rfl, h⟩ := h
        show WA mX8_read 6 (0, 0) 33 [(2, v0), (0, v1), (2, v2), (2, v3), (0, v4), (0, v5)] [(0, w15)] L μ14 Q
        refine wa_goto 42 dX8_read_33 (by decide) ?_
        refine wa_istore 44 [(2, v0), (0, v1), (2, v2), (2, v3), (0, v4), (0, w15)] dX8_read_42 rfl rfl rfl ?_
        refine wa_iload 46 dX8_read_44 rfl rfl ?_
        refine wa_if_eq 49 11 dX8_read_46 rfl (by decide) (fun q => ?_) (fun q => ?_)
        · replace h := h.1 q
          exact h
        · replace h := h.2 q
          obtain ⟨c16, h⟩ := h
          refine wa_iinc 52 [(2, v0), (0, v1), (2, v2), (2, v3), (0, (v4 + 1)), (0, w15)] dX8_read_49 rfl rfl rfl c16 rfl ?_
          refine wa_aload_n 53 dX8_read_52 rfl rfl ?_
          refine wa_getI 56 1 dX8_read_53 rfl wF_X8_33 rfl rfl k0 ?_
          refine wa_aload_n 57 dX8_read_56 rfl rfl ?_
          refine wa_getI 60 0 dX8_read_57 rfl wF_X8_29 rfl rfl k0 ?_
          refine wa_icmp_lt 63 71 dX8_read_60 rfl (by decide) (fun q => ?_) (fun q => ?_)
          · replace h := h.1 q
            refine wa_aload_n 72 dX8_read_71 rfl rfl ?_
            refine wa_bipush 74 dX8_read_72 rfl ⟨by decide, by decide⟩ ?_
            refine wa_callV 77 0 1 8 (av := [(0, 59)]) (rest := []) (k1 := (0, 0)) (k2 := (0, 0)) cvX8_skips dX8_read_74 rfl wM_X8_44 ⟨rfl, by decide, rfl, Nat.le_of_ble_eq_true rfl, by decide, Nat.le_of_ble_eq_true rfl, rfl, rfl⟩ rfl k0 (TR.mono h (fun r17 L18 μ19 h => ?_))
            obtain ⟨w20, rfl, rfl, h⟩ := h
            show WA mX8_read 6 (0, 0) 77 [(2, v0), (0, v1), (2, v2), (2, v3), (0, (v4 + 1)), (0, w15)] [(0, w20)] L μ19 Q
            refine wa_istore 79 [(2, v0), (0, v1), (2, v2), (2, v3), (0, (v4 + 1)), (0, w20)] dX8_read_77 rfl rfl rfl ?_
            refine wa_goto 11 dX8_read_79 (by decide) ?_
            exact h
          · replace h := h.2 q
            refine wa_aload_n 64 dX8_read_63 rfl rfl ?_
            refine wa_iconst 65 dX8_read_64 rfl (by decide) ?_
            refine wa_putN 68 0 dX8_read_65 rfl wF_X8_29 rfl rfl k0 ?_
            refine wa_iload 70 dX8_read_68 rfl rfl ?_
            exact wa_iret dX8_read_70 rfl h
set_option maxRecDepth 20000 in
theorem t_X8_readNumber (hL : LayOK L) {v0 v1 : Int} (k0 : isK L v0 (8, 0)) (h : TR mX8_figure 0 (0, 0) [(2, v0)] L μ (fun r1 L2 μ3 => ∃ w4, r1 = some (0, w4) ∧ L = L2 ∧ (0 ≤ w4 → (inI ((μ3 v0 1) + 1)) ∧ WA mX8_readNumber 1 (0, 0) 23 [(2, v0), (0, v1), (0, w4), (0, 1)] [] L (up μ3 v0 1 (((μ3 v0 1) + 1))) Q) ∧ (¬ 0 ≤ w4 → Q (some (0, (-1))) L μ3))) : TR mX8_readNumber 1 (0, 0) [(2, v0), (0, v1)] L μ Q := by
  refine TR.of (ls := [(2, v0), (0, v1), (9, 0), (9, 0)]) (by decide) (by simp) rfl (Nat.le_of_ble_eq_true rfl) ?_
  refine wa_aload_n 1 dX8_readNumber_0 rfl rfl ?_
  refine wa_callV 4 0 0 8 (av := []) (rest := []) (k1 := (0, 0)) (k2 := (0, 0)) cvX8_figure dX8_readNumber_1 rfl wM_X8_48 ⟨rfl, by decide, rfl, Nat.le_of_ble_eq_true rfl, by decide, Nat.le_of_ble_eq_true rfl, rfl, rfl⟩ rfl k0 (TR.mono h (fun r1 L2 μ3 h => ?_))
  obtain ⟨w4, rfl, rfl, h⟩ := h
  show WA mX8_readNumber 1 (0, 0) 4 [(2, v0), (0, v1), (9, 0), (9, 0)] [(0, w4)] L μ3 Q
  refine wa_istore_n 5 [(2, v0), (0, v1), (0, w4), (9, 0)] dX8_readNumber_4 rfl rfl rfl ?_
  refine wa_iload_n 6 dX8_readNumber_5 rfl rfl ?_
  refine wa_if_ge 9 11 dX8_readNumber_6 rfl (by decide) (fun q => ?_) (fun q => ?_)
  · replace h := h.1 q
    refine wa_aload_n 12 dX8_readNumber_11 rfl rfl ?_
    refine wa_dup 13 dX8_readNumber_12 rfl (Or.inr rfl) ?_
    refine wa_getI 16 1 dX8_readNumber_13 rfl wF_X8_33 rfl rfl k0 ?_
    refine wa_iconst 17 dX8_readNumber_16 rfl (by decide) ?_
    obtain ⟨c5, h⟩ := h
    refine wa_iadd 18 dX8_readNumber_17 rfl c5 ?_
    refine wa_putN 21 1 dX8_readNumber_18 rfl wF_X8_33 rfl rfl k0 ?_
    refine wa_iconst 22 dX8_readNumber_21 rfl (by decide) ?_
    refine wa_istore_n 23 [(2, v0), (0, v1), (0, w4), (0, 1)] dX8_readNumber_22 rfl rfl rfl ?_
    exact h
  · replace h := h.2 q
    refine wa_iconst 10 dX8_readNumber_9 rfl (by decide) ?_
    exact wa_iret dX8_readNumber_10 rfl h
set_option maxRecDepth 20000 in
theorem s_X8_readNumber_23 (hL : LayOK L) {v0 v1 v2 v3 : Int} (k0 : isK L v0 (8, 0)) (h : (v1 ≤ v3 → Q (some (0, v2)) L μ) ∧ (¬ v1 ≤ v3 → TR mX8_figure 0 (0, 0) [(2, v0)] L μ (fun r1 L2 μ3 => ∃ w4, r1 = some (0, w4) ∧ L = L2 ∧ (w4 < 0 → Q (some (0, v2)) L μ3) ∧ (¬ w4 < 0 → (inI (v2 * 10)) ∧ TR mX8_figure 0 (0, 0) [(2, v0)] L μ3 (fun r6 L7 μ8 => ∃ w9, r6 = some (0, w9) ∧ L = L7 ∧ (inI ((v2 * 10) + w9)) ∧ (inI ((μ8 v0 1) + 1)) ∧ (inI (v3 + 1)) ∧ WA mX8_readNumber 1 (0, 0) 23 [(2, v0), (0, v1), (0, ((v2 * 10) + w9)), (0, (v3 + 1))] [] L (up μ8 v0 1 (((μ8 v0 1) + 1))) Q))))) : WA mX8_readNumber 1 (0, 0) 23 [(2, v0), (0, v1), (0, v2), (0, v3)] [] L μ Q := by
  refine wa_iload_n 24 dX8_readNumber_23 rfl rfl ?_
  refine wa_iload_n 25 dX8_readNumber_24 rfl rfl ?_
  refine wa_icmp_ge 28 61 dX8_readNumber_25 rfl (by decide) (fun q => ?_) (fun q => ?_)
  · replace h := h.1 q
    refine wa_iload_n 62 dX8_readNumber_61 rfl rfl ?_
    exact wa_iret dX8_readNumber_62 rfl h
  · replace h := h.2 q
    refine wa_aload_n 29 dX8_readNumber_28 rfl rfl ?_
    refine wa_callV 32 0 0 8 (av := []) (rest := []) (k1 := (0, 0)) (k2 := (0, 0)) cvX8_figure dX8_readNumber_29 rfl wM_X8_48 ⟨rfl, by decide, rfl, Nat.le_of_ble_eq_true rfl, by decide, Nat.le_of_ble_eq_true rfl, rfl, rfl⟩ rfl k0 (TR.mono h (fun r1 L2 μ3 h => ?_))
    obtain ⟨w4, rfl, rfl, h⟩ := h
    show WA mX8_readNumber 1 (0, 0) 32 [(2, v0), (0, v1), (0, v2), (0, v3)] [(0, w4)] L μ3 Q
    refine wa_if_lt 35 61 dX8_readNumber_32 rfl (by decide) (fun q => ?_) (fun q => ?_)
    · replace h := h.1 q
      refine wa_iload_n 62 dX8_readNumber_61 rfl rfl ?_
      exact wa_iret dX8_readNumber_62 rfl h
    · replace h := h.2 q
      refine wa_iload_n 36 dX8_readNumber_35 rfl rfl ?_
      refine wa_bipush 38 dX8_readNumber_36 rfl ⟨by decide, by decide⟩ ?_
      obtain ⟨c5, h⟩ := h
      refine wa_imul 39 dX8_readNumber_38 rfl c5 ?_
      refine wa_aload_n 40 dX8_readNumber_39 rfl rfl ?_
      refine wa_callV 43 0 0 8 (av := []) (rest := [(0, (v2 * 10))]) (k1 := (0, 0)) (k2 := (0, 0)) cvX8_figure dX8_readNumber_40 rfl wM_X8_48 ⟨rfl, by decide, rfl, Nat.le_of_ble_eq_true rfl, by decide, Nat.le_of_ble_eq_true rfl, rfl, rfl⟩ rfl k0 (TR.mono h (fun r6 L7 μ8 h => ?_))
      obtain ⟨w9, rfl, rfl, h⟩ := h
      show WA mX8_readNumber 1 (0, 0) 43 [(2, v0), (0, v1), (0, v2), (0, v3)] [(0, w9), (0, (v2 * 10))] L μ8 Q
      obtain ⟨c10, h⟩ := h
      refine wa_iadd 44 dX8_readNumber_43 rfl c10 ?_
      refine wa_istore_n 45 [(2, v0), (0, v1), (0, ((v2 * 10) + w9)), (0, v3)] dX8_readNumber_44 rfl rfl rfl ?_
      refine wa_aload_n 46 dX8_readNumber_45 rfl rfl ?_
      refine wa_dup 47 dX8_readNumber_46 rfl (Or.inr rfl) ?_
      refine wa_getI 50 1 dX8_readNumber_47 rfl wF_X8_33 rfl rfl k0 ?_
      refine wa_iconst 51 dX8_readNumber_50 rfl (by decide) ?_
      obtain ⟨c11, h⟩ := h
      refine wa_iadd 52 dX8_readNumber_51 rfl c11 ?_
      refine wa_putN 55 1 dX8_readNumber_52 rfl wF_X8_33 rfl rfl k0 ?_
      obtain ⟨c12, h⟩ := h
      refine wa_iinc 58 [(2, v0), (0, v1), (0, ((v2 * 10) + w9)), (0, (v3 + 1))] dX8_readNumber_55 rfl rfl rfl c12 rfl ?_
      refine wa_goto 23 dX8_readNumber_58 (by decide) ?_
      exact h
set_option maxRecDepth 20000 in
theorem t_X8_readPoint (hL : LayOK L) {v0 v1 v2 : Int} (k0 : isK L v0 (8, 0)) (k1 : isK L v1 (3, 0)) (h : TR mX8_readNumber 1 (0, 0) [(2, v0), (0, 2)] L μ (fun r1 L2 μ3 => ∃ w4, r1 = some (0, w4) ∧ L = L2 ∧ (0 ≤ w4 → TR mX8_skips 0 (0, 0) [(2, v0), (0, 47)] L μ3 (fun r5 L6 μ7 => ∃ w8, r5 = some (0, w8) ∧ L = L6 ∧ (w8 = 0 → (inI (v2 * 1)) ∧ (w4 ≤ (v2 * 1) → TR mX3_put 1 (0, 0) [(2, v1), (1, w4), (1, 1)] L μ7 (fun r10 L11 μ12 => r10 = none ∧ L = L11 ∧ Q (some (0, 1)) L μ12)) ∧ (¬ w4 ≤ (v2 * 1) → Q (some (0, 0)) L (up μ7 v0 1 ((μ v0 1))))) ∧ (¬ w8 = 0 → TR mX8_readNumber 1 (0, 0) [(2, v0), (0, 3)] L μ7 (fun r13 L14 μ15 => ∃ w16, r13 = some (0, w16) ∧ L = L14 ∧ (1 ≤ w16 → (inI (v2 * w16)) ∧ (w4 ≤ (v2 * w16) → TR mX3_put 1 (0, 0) [(2, v1), (1, w4), (1, w16)] L μ15 (fun r18 L19 μ20 => r18 = none ∧ L = L19 ∧ Q (some (0, 1)) L μ20)) ∧ (¬ w4 ≤ (v2 * w16) → Q (some (0, 0)) L (up μ15 v0 1 ((μ v0 1))))) ∧ (¬ 1 ≤ w16 → (0 ≤ w16 → Q (some (0, 0)) L (up μ15 v0 1 ((μ7 v0 1)))) ∧ (¬ 0 ≤ w16 → Q (some (0, 0)) L (up μ15 v0 1 ((μ15 v0 1))))))))) ∧ (¬ 0 ≤ w4 → Q (some (0, 0)) L μ3))) : TR mX8_readPoint 2 (0, 0) [(2, v0), (2, v1), (0, v2)] L μ Q := by
  refine TR.of (ls := [(2, v0), (2, v1), (0, v2), (9, 0), (9, 0), (9, 0), (9, 0)]) (by decide) (by simp) rfl (Nat.le_of_ble_eq_true rfl) ?_
  refine wa_aload_n 1 dX8_readPoint_0 rfl rfl ?_
  refine wa_getI 4 1 dX8_readPoint_1 rfl wF_X8_33 rfl rfl k0 ?_
  refine wa_istore_n 5 [(2, v0), (2, v1), (0, v2), (0, (μ v0 1)), (9, 0), (9, 0), (9, 0)] dX8_readPoint_4 rfl rfl rfl ?_
  refine wa_aload_n 6 dX8_readPoint_5 rfl rfl ?_
  refine wa_iconst 7 dX8_readPoint_6 rfl (by decide) ?_
  refine wa_callV 10 1 1 8 (av := [(0, 2)]) (rest := []) (k1 := (0, 0)) (k2 := (0, 0)) cvX8_readNumber dX8_readPoint_7 rfl wM_X8_102 ⟨rfl, by decide, rfl, Nat.le_of_ble_eq_true rfl, by decide, Nat.le_of_ble_eq_true rfl, rfl, rfl⟩ rfl k0 (TR.mono h (fun r1 L2 μ3 h => ?_))
  obtain ⟨w4, rfl, rfl, h⟩ := h
  show WA mX8_readPoint 2 (0, 0) 10 [(2, v0), (2, v1), (0, v2), (0, (μ v0 1)), (9, 0), (9, 0), (9, 0)] [(0, w4)] L μ3 Q
  refine wa_istore 12 [(2, v0), (2, v1), (0, v2), (0, (μ v0 1)), (0, w4), (9, 0), (9, 0)] dX8_readPoint_10 rfl rfl rfl ?_
  refine wa_iload 14 dX8_readPoint_12 rfl rfl ?_
  refine wa_if_ge 17 19 dX8_readPoint_14 rfl (by decide) (fun q => ?_) (fun q => ?_)
  · replace h := h.1 q
    refine wa_iconst 20 dX8_readPoint_19 rfl (by decide) ?_
    refine wa_istore 22 [(2, v0), (2, v1), (0, v2), (0, (μ v0 1)), (0, w4), (0, 1), (9, 0)] dX8_readPoint_20 rfl rfl rfl ?_
    refine wa_aload_n 23 dX8_readPoint_22 rfl rfl ?_
    refine wa_bipush 25 dX8_readPoint_23 rfl ⟨by decide, by decide⟩ ?_
    refine wa_callV 28 0 1 8 (av := [(0, 47)]) (rest := []) (k1 := (0, 0)) (k2 := (0, 0)) cvX8_skips dX8_readPoint_25 rfl wM_X8_44 ⟨rfl, by decide, rfl, Nat.le_of_ble_eq_true rfl, by decide, Nat.le_of_ble_eq_true rfl, rfl, rfl⟩ rfl k0 (TR.mono h (fun r5 L6 μ7 h => ?_))
    obtain ⟨w8, rfl, rfl, h⟩ := h
    show WA mX8_readPoint 2 (0, 0) 28 [(2, v0), (2, v1), (0, v2), (0, (μ v0 1)), (0, w4), (0, 1), (9, 0)] [(0, w8)] L μ7 Q
    refine wa_if_eq 31 70 dX8_readPoint_28 rfl (by decide) (fun q => ?_) (fun q => ?_)
    · replace h := h.1 q
      refine wa_iload 72 dX8_readPoint_70 rfl rfl ?_
      refine wa_iload_n 73 dX8_readPoint_72 rfl rfl ?_
      refine wa_iload 75 dX8_readPoint_73 rfl rfl ?_
      obtain ⟨c9, h⟩ := h
      refine wa_imul 76 dX8_readPoint_75 rfl c9 ?_
      refine wa_icmp_le 79 86 dX8_readPoint_76 rfl (by decide) (fun q => ?_) (fun q => ?_)
      · replace h := h.1 q
        refine wa_aload_n 87 dX8_readPoint_86 rfl rfl ?_
        refine wa_iload 89 dX8_readPoint_87 rfl rfl ?_
        refine wa_i2l 90 dX8_readPoint_89 rfl ?_
        refine wa_iload 92 dX8_readPoint_90 rfl rfl ?_
        refine wa_i2l 93 dX8_readPoint_92 rfl ?_
        refine wa_callV 96 1 2 3 (av := [(1, w4), (1, 1)]) (rest := []) (k1 := (0, 0)) (k2 := (0, 0)) cvX3_put dX8_readPoint_93 rfl wM_X8_106 ⟨rfl, by decide, rfl, Nat.le_of_ble_eq_true rfl, by decide, Nat.le_of_ble_eq_true rfl, rfl, rfl⟩ rfl k1 (TR.mono h (fun r10 L11 μ12 h => ?_))
        obtain ⟨rfl, rfl, h⟩ := h
        show WA mX8_readPoint 2 (0, 0) 96 [(2, v0), (2, v1), (0, v2), (0, (μ v0 1)), (0, w4), (0, 1), (9, 0)] [] L μ12 Q
        refine wa_iconst 97 dX8_readPoint_96 rfl (by decide) ?_
        exact wa_zret dX8_readPoint_97 rfl (Or.inr rfl) h
      · replace h := h.2 q
        refine wa_aload_n 80 dX8_readPoint_79 rfl rfl ?_
        refine wa_iload_n 81 dX8_readPoint_80 rfl rfl ?_
        refine wa_putN 84 1 dX8_readPoint_81 rfl wF_X8_33 rfl rfl k0 ?_
        refine wa_iconst 85 dX8_readPoint_84 rfl (by decide) ?_
        exact wa_zret dX8_readPoint_85 rfl (Or.inl rfl) h
    · replace h := h.2 q
      refine wa_aload_n 32 dX8_readPoint_31 rfl rfl ?_
      refine wa_getI 35 1 dX8_readPoint_32 rfl wF_X8_33 rfl rfl k0 ?_
      refine wa_istore 37 [(2, v0), (2, v1), (0, v2), (0, (μ v0 1)), (0, w4), (0, 1), (0, (μ7 v0 1))] dX8_readPoint_35 rfl rfl rfl ?_
      refine wa_aload_n 38 dX8_readPoint_37 rfl rfl ?_
      refine wa_iconst 39 dX8_readPoint_38 rfl (by decide) ?_
      refine wa_callV 42 1 1 8 (av := [(0, 3)]) (rest := []) (k1 := (0, 0)) (k2 := (0, 0)) cvX8_readNumber dX8_readPoint_39 rfl wM_X8_102 ⟨rfl, by decide, rfl, Nat.le_of_ble_eq_true rfl, by decide, Nat.le_of_ble_eq_true rfl, rfl, rfl⟩ rfl k0 (TR.mono h (fun r13 L14 μ15 h => ?_))
      obtain ⟨w16, rfl, rfl, h⟩ := h
      show WA mX8_readPoint 2 (0, 0) 42 [(2, v0), (2, v1), (0, v2), (0, (μ v0 1)), (0, w4), (0, 1), (0, (μ7 v0 1))] [(0, w16)] L μ15 Q
      refine wa_istore 44 [(2, v0), (2, v1), (0, v2), (0, (μ v0 1)), (0, w4), (0, w16), (0, (μ7 v0 1))] dX8_readPoint_42 rfl rfl rfl ?_
      refine wa_iload 46 dX8_readPoint_44 rfl rfl ?_
      refine wa_iconst 47 dX8_readPoint_46 rfl (by decide) ?_
      refine wa_icmp_ge 50 70 dX8_readPoint_47 rfl (by decide) (fun q => ?_) (fun q => ?_)
      · replace h := h.1 q
        refine wa_iload 72 dX8_readPoint_70 rfl rfl ?_
        refine wa_iload_n 73 dX8_readPoint_72 rfl rfl ?_
        refine wa_iload 75 dX8_readPoint_73 rfl rfl ?_
        obtain ⟨c17, h⟩ := h
        refine wa_imul 76 dX8_readPoint_75 rfl c17 ?_
        refine wa_icmp_le 79 86 dX8_readPoint_76 rfl (by decide) (fun q => ?_) (fun q => ?_)
        · replace h := h.1 q
          refine wa_aload_n 87 dX8_readPoint_86 rfl rfl ?_
          refine wa_iload 89 dX8_readPoint_87 rfl rfl ?_
          refine wa_i2l 90 dX8_readPoint_89 rfl ?_
          refine wa_iload 92 dX8_readPoint_90 rfl rfl ?_
          refine wa_i2l 93 dX8_readPoint_92 rfl ?_
          refine wa_callV 96 1 2 3 (av := [(1, w4), (1, w16)]) (rest := []) (k1 := (0, 0)) (k2 := (0, 0)) cvX3_put dX8_readPoint_93 rfl wM_X8_106 ⟨rfl, by decide, rfl, Nat.le_of_ble_eq_true rfl, by decide, Nat.le_of_ble_eq_true rfl, rfl, rfl⟩ rfl k1 (TR.mono h (fun r18 L19 μ20 h => ?_))
          obtain ⟨rfl, rfl, h⟩ := h
          show WA mX8_readPoint 2 (0, 0) 96 [(2, v0), (2, v1), (0, v2), (0, (μ v0 1)), (0, w4), (0, w16), (0, (μ7 v0 1))] [] L μ20 Q
          refine wa_iconst 97 dX8_readPoint_96 rfl (by decide) ?_
          exact wa_zret dX8_readPoint_97 rfl (Or.inr rfl) h
        · replace h := h.2 q
          refine wa_aload_n 80 dX8_readPoint_79 rfl rfl ?_
          refine wa_iload_n 81 dX8_readPoint_80 rfl rfl ?_
          refine wa_putN 84 1 dX8_readPoint_81 rfl wF_X8_33 rfl rfl k0 ?_
          refine wa_iconst 85 dX8_readPoint_84 rfl (by decide) ?_
          exact wa_zret dX8_readPoint_85 rfl (Or.inl rfl) h
      · replace h := h.2 q
        refine wa_aload_n 51 dX8_readPoint_50 rfl rfl ?_
        refine wa_iload 53 dX8_readPoint_51 rfl rfl ?_
        refine wa_if_ge 56 63 dX8_readPoint_53 rfl (by decide) (fun q => ?_) (fun q => ?_)
        · replace h := h.1 q
          refine wa_iload 65 dX8_readPoint_63 rfl rfl ?_
          refine wa_putN 68 1 dX8_readPoint_65 rfl wF_X8_33 rfl rfl k0 ?_
          refine wa_iconst 69 dX8_readPoint_68 rfl (by decide) ?_
          exact wa_zret dX8_readPoint_69 rfl (Or.inl rfl) h
        · replace h := h.2 q
          refine wa_aload_n 57 dX8_readPoint_56 rfl rfl ?_
          refine wa_getI 60 1 dX8_readPoint_57 rfl wF_X8_33 rfl rfl k0 ?_
          refine wa_goto 65 dX8_readPoint_60 (by decide) ?_
          refine wa_putN 68 1 dX8_readPoint_65 rfl wF_X8_33 rfl rfl k0 ?_
          refine wa_iconst 69 dX8_readPoint_68 rfl (by decide) ?_
          exact wa_zret dX8_readPoint_69 rfl (Or.inl rfl) h
  · replace h := h.2 q
    refine wa_iconst 18 dX8_readPoint_17 rfl (by decide) ?_
    exact wa_zret dX8_readPoint_18 rfl (Or.inl rfl) h
set_option maxRecDepth 20000 in
theorem t_X8_readShare (hL : LayOK L) {v0 v1 v2 : Int} (k0 : isK L v0 (8, 0)) (k1 : isK L v1 (0, 0)) (k2 : isK L v2 (1, 0)) (h : TR mX8_figure 0 (0, 0) [(2, v0)] L μ (fun r1 L2 μ3 => ∃ w4, r1 = some (0, w4) ∧ L = L2 ∧ TR mX0_hasAgent 0 (0, 0) [(2, v1), (0, w4)] L μ3 (fun r5 L6 μ7 => ∃ w8, r5 = some (0, w8) ∧ L = L6 ∧ (w8 = 0 → Q (some (0, 0)) L μ7) ∧ (¬ w8 = 0 → (0 ≤ w4 ∧ w4 < 5) ∧ ((μ7 ((rf L v2 5)) w4) ≤ 0 → (inI ((μ7 v0 1) + 1)) ∧ TR mX8_skips 0 (0, 0) [(2, v0), (0, 61)] L (up μ7 v0 1 (((μ7 v0 1) + 1))) (fun r12 L13 μ14 => ∃ w15, r12 = some (0, w15) ∧ L = L13 ∧ (w15 = 0 → Q (some (0, 0)) L μ14) ∧ (¬ w15 = 0 → TR mX8_readSpan 4 (0, 0) [(2, v0), (0, w4), (0, (μ14 v1 0)), (2, v2)] L μ14 (fun r16 L17 μ18 => ∃ w19, r16 = some (0, w19) ∧ L = L17 ∧ (¬ w19 = 0 → TR mX8_skips 0 (0, 0) [(2, v0), (0, 44)] L μ18 (fun r20 L21 μ22 => ∃ w23, r20 = some (0, w23) ∧ L = L21 ∧ (w23 = 0 → Q (some (0, 1)) L μ22) ∧ (¬ w23 = 0 → TR mX8_readSpan 4 (0, 0) [(2, v0), (0, w4), (0, (μ22 v1 0)), (2, v2)] L μ22 (fun r24 L25 μ26 => ∃ w27, r24 = some (0, w27) ∧ L = L25 ∧ (w27 = 0 → Q (some (0, 0)) L μ26) ∧ (¬ w27 = 0 → Q (some (0, 1)) L μ26))))) ∧ (w19 = 0 → Q (some (0, 0)) L μ18))))) ∧ (¬ (μ7 ((rf L v2 5)) w4) ≤ 0 → Q (some (0, 0)) L μ7))))) : TR mX8_readShare 5 (0, 0) [(2, v0), (2, v1), (2, v2)] L μ Q := by
  refine TR.of (ls := [(2, v0), (2, v1), (2, v2), (9, 0)]) (by decide) (by simp) rfl (Nat.le_of_ble_eq_true rfl) ?_
  refine wa_aload_n 1 dX8_readShare_0 rfl rfl ?_
  refine wa_callV 4 0 0 8 (av := []) (rest := []) (k1 := (0, 0)) (k2 := (0, 0)) cvX8_figure dX8_readShare_1 rfl wM_X8_48 ⟨rfl, by decide, rfl, Nat.le_of_ble_eq_true rfl, by decide, Nat.le_of_ble_eq_true rfl, rfl, rfl⟩ rfl k0 (TR.mono h (fun r1 L2 μ3 h => ?_))
  obtain ⟨w4, rfl, rfl, h⟩ := h
  show WA mX8_readShare 5 (0, 0) 4 [(2, v0), (2, v1), (2, v2), (9, 0)] [(0, w4)] L μ3 Q
  refine wa_istore_n 5 [(2, v0), (2, v1), (2, v2), (0, w4)] dX8_readShare_4 rfl rfl rfl ?_
  refine wa_aload_n 6 dX8_readShare_5 rfl rfl ?_
  refine wa_iload_n 7 dX8_readShare_6 rfl rfl ?_
  refine wa_callV 10 0 1 0 (av := [(0, w4)]) (rest := []) (k1 := (0, 0)) (k2 := (0, 0)) cvX0_hasAgent dX8_readShare_7 rfl wM_X8_52 ⟨rfl, by decide, rfl, Nat.le_of_ble_eq_true rfl, by decide, Nat.le_of_ble_eq_true rfl, rfl, rfl⟩ rfl k1 (TR.mono h (fun r5 L6 μ7 h => ?_))
  obtain ⟨w8, rfl, rfl, h⟩ := h
  show WA mX8_readShare 5 (0, 0) 10 [(2, v0), (2, v1), (2, v2), (0, w4)] [(0, w8)] L μ7 Q
  refine wa_if_eq 13 22 dX8_readShare_10 rfl (by decide) (fun q => ?_) (fun q => ?_)
  · replace h := h.1 q
    refine wa_iconst 23 dX8_readShare_22 rfl (by decide) ?_
    exact wa_zret dX8_readShare_23 rfl (Or.inl rfl) h
  · replace h := h.2 q
    refine wa_aload_n 14 dX8_readShare_13 rfl rfl ?_
    have e9 : isK L (rf L v2 5) (20, 5) := lay_f hL k2 5 rfl
    refine wa_getR 17 5 dX8_readShare_14 rfl wF_X8_67 rfl rfl ⟨k2, isK_pos e9⟩ ?_
    refine wa_iload_n 18 dX8_readShare_17 rfl rfl ?_
    obtain ⟨c10, h⟩ := h
    refine wa_iaload 19 dX8_readShare_18 rfl (okA_of e9 c10) ?_
    refine wa_if_le 22 24 dX8_readShare_19 rfl (by decide) (fun q => ?_) (fun q => ?_)
    · replace h := h.1 q
      refine wa_aload_n 25 dX8_readShare_24 rfl rfl ?_
      refine wa_dup 26 dX8_readShare_25 rfl (Or.inr rfl) ?_
      refine wa_getI 29 1 dX8_readShare_26 rfl wF_X8_33 rfl rfl k0 ?_
      refine wa_iconst 30 dX8_readShare_29 rfl (by decide) ?_
      obtain ⟨c11, h⟩ := h
      refine wa_iadd 31 dX8_readShare_30 rfl c11 ?_
      refine wa_putN 34 1 dX8_readShare_31 rfl wF_X8_33 rfl rfl k0 ?_
      refine wa_aload_n 35 dX8_readShare_34 rfl rfl ?_
      refine wa_bipush 37 dX8_readShare_35 rfl ⟨by decide, by decide⟩ ?_
      refine wa_callV 40 0 1 8 (av := [(0, 61)]) (rest := []) (k1 := (0, 0)) (k2 := (0, 0)) cvX8_skips dX8_readShare_37 rfl wM_X8_44 ⟨rfl, by decide, rfl, Nat.le_of_ble_eq_true rfl, by decide, Nat.le_of_ble_eq_true rfl, rfl, rfl⟩ rfl k0 (TR.mono h (fun r12 L13 μ14 h => ?_))
      obtain ⟨w15, rfl, rfl, h⟩ := h
      show WA mX8_readShare 5 (0, 0) 40 [(2, v0), (2, v1), (2, v2), (0, w4)] [(0, w15)] L μ14 Q
      refine wa_if_eq 43 56 dX8_readShare_40 rfl (by decide) (fun q => ?_) (fun q => ?_)
      · replace h := h.1 q
        refine wa_iconst 57 dX8_readShare_56 rfl (by decide) ?_
        exact wa_zret dX8_readShare_57 rfl (Or.inl rfl) h
      · replace h := h.2 q
        refine wa_aload_n 44 dX8_readShare_43 rfl rfl ?_
        refine wa_iload_n 45 dX8_readShare_44 rfl rfl ?_
        refine wa_aload_n 46 dX8_readShare_45 rfl rfl ?_
        refine wa_getI 49 0 dX8_readShare_46 rfl wF_X8_57 rfl rfl k1 ?_
        refine wa_aload_n 50 dX8_readShare_49 rfl rfl ?_
        refine wa_callV 53 4 3 8 (av := [(0, w4), (0, (μ14 v1 0)), (2, v2)]) (rest := []) (k1 := (0, 0)) (k2 := (0, 0)) cvX8_readSpan dX8_readShare_50 rfl wM_X8_73 ⟨rfl, by decide, rfl, Nat.le_of_ble_eq_true rfl, by decide, Nat.le_of_ble_eq_true rfl, rfl, rfl⟩ rfl k0 (TR.mono h (fun r16 L17 μ18 h => ?_))
        obtain ⟨w19, rfl, rfl, h⟩ := h
        show WA mX8_readShare 5 (0, 0) 53 [(2, v0), (2, v1), (2, v2), (0, w4)] [(0, w19)] L μ18 Q
        refine wa_if_ne 56 58 dX8_readShare_53 rfl (by decide) (fun q => ?_) (fun q => ?_)
        · replace h := h.1 q
          refine wa_aload_n 59 dX8_readShare_58 rfl rfl ?_
          refine wa_bipush 61 dX8_readShare_59 rfl ⟨by decide, by decide⟩ ?_
          refine wa_callV 64 0 1 8 (av := [(0, 44)]) (rest := []) (k1 := (0, 0)) (k2 := (0, 0)) cvX8_skips dX8_readShare_61 rfl wM_X8_44 ⟨rfl, by decide, rfl, Nat.le_of_ble_eq_true rfl, by decide, Nat.le_of_ble_eq_true rfl, rfl, rfl⟩ rfl k0 (TR.mono h (fun r20 L21 μ22 h => ?_))
          obtain ⟨w23, rfl, rfl, h⟩ := h
          show WA mX8_readShare 5 (0, 0) 64 [(2, v0), (2, v1), (2, v2), (0, w4)] [(0, w23)] L μ22 Q
          refine wa_if_eq 67 80 dX8_readShare_64 rfl (by decide) (fun q => ?_) (fun q => ?_)
          · replace h := h.1 q
            refine wa_iconst 81 dX8_readShare_80 rfl (by decide) ?_
            refine wa_goto 85 dX8_readShare_81 (by decide) ?_
            exact wa_zret dX8_readShare_85 rfl (Or.inr rfl) h
          · replace h := h.2 q
            refine wa_aload_n 68 dX8_readShare_67 rfl rfl ?_
            refine wa_iload_n 69 dX8_readShare_68 rfl rfl ?_
            refine wa_aload_n 70 dX8_readShare_69 rfl rfl ?_
            refine wa_getI 73 0 dX8_readShare_70 rfl wF_X8_57 rfl rfl k1 ?_
            refine wa_aload_n 74 dX8_readShare_73 rfl rfl ?_
            refine wa_callV 77 4 3 8 (av := [(0, w4), (0, (μ22 v1 0)), (2, v2)]) (rest := []) (k1 := (0, 0)) (k2 := (0, 0)) cvX8_readSpan dX8_readShare_74 rfl wM_X8_73 ⟨rfl, by decide, rfl, Nat.le_of_ble_eq_true rfl, by decide, Nat.le_of_ble_eq_true rfl, rfl, rfl⟩ rfl k0 (TR.mono h (fun r24 L25 μ26 h => ?_))
            obtain ⟨w27, rfl, rfl, h⟩ := h
            show WA mX8_readShare 5 (0, 0) 77 [(2, v0), (2, v1), (2, v2), (0, w4)] [(0, w27)] L μ26 Q
            refine wa_if_eq 80 84 dX8_readShare_77 rfl (by decide) (fun q => ?_) (fun q => ?_)
            · replace h := h.1 q
              refine wa_iconst 85 dX8_readShare_84 rfl (by decide) ?_
              exact wa_zret dX8_readShare_85 rfl (Or.inl rfl) h
            · replace h := h.2 q
              refine wa_iconst 81 dX8_readShare_80 rfl (by decide) ?_
              refine wa_goto 85 dX8_readShare_81 (by decide) ?_
              exact wa_zret dX8_readShare_85 rfl (Or.inr rfl) h
        · replace h := h.2 q
          refine wa_iconst 57 dX8_readShare_56 rfl (by decide) ?_
          exact wa_zret dX8_readShare_57 rfl (Or.inl rfl) h
    · replace h := h.2 q
      refine wa_iconst 23 dX8_readShare_22 rfl (by decide) ?_
      exact wa_zret dX8_readShare_23 rfl (Or.inl rfl) h
set_option maxRecDepth 20000 in
theorem t_X8_readSpan (hL : LayOK L) {v0 v1 v2 v3 : Int} (k0 : isK L v0 (8, 0)) (k3 : isK L v3 (1, 0)) (h : TR mX8_readPoint 2 (0, 0) [(2, v0), (2, (rf L ((rf L v0 4)) 0)), (0, v2)] L μ (fun r3 L4 μ5 => ∃ w6, r3 = some (0, w6) ∧ L = L4 ∧ (w6 = 0 → Q (some (0, 0)) L μ5) ∧ (¬ w6 = 0 → TR mX8_skips 0 (0, 0) [(2, v0), (0, 45)] L μ5 (fun r7 L8 μ9 => ∃ w10, r7 = some (0, w10) ∧ L = L8 ∧ (¬ w10 = 0 → TR mX8_readPoint 2 (0, 0) [(2, v0), (2, (rf L ((rf L v0 4)) 1)), (0, v2)] L μ9 (fun r12 L13 μ14 => ∃ w15, r12 = some (0, w15) ∧ L = L13 ∧ (¬ w15 = 0 → TR mX3_isBelow 1 (0, 0) [(2, (rf L ((rf L v0 4)) 1)), (2, (rf L ((rf L v0 4)) 0))] L μ14 (fun r16 L17 μ18 => ∃ w19, r16 = some (0, w19) ∧ L = L17 ∧ (w19 = 0 → TR mX1_overlaps 3 (0, 0) [(2, v3), (2, (rf L v0 4))] L μ18 (fun r20 L21 μ22 => ∃ w23, r20 = some (0, w23) ∧ L = L21 ∧ (w23 = 0 → TR mX1_takesIn 2 (0, 0) [(2, v3), (2, (rf L ((rf L v0 4)) 0))] L μ22 (fun r24 L25 μ26 => ∃ w27, r24 = some (0, w27) ∧ L = L25 ∧ TR mX1_takesIn 2 (0, 0) [(2, v3), (2, (rf L ((rf L v0 4)) 1))] L μ26 (fun r28 L29 μ30 => ∃ w31, r28 = some (0, w31) ∧ L = L29 ∧ TR mX1_give 2 (0, 0) [(2, v3), (0, v1), (2, (rf L ((rf L v0 4)) 0)), (2, (rf L ((rf L v0 4)) 1))] L μ30 (fun r32 L33 μ34 => r32 = none ∧ L = L33 ∧ Q (some (0, 1)) L μ34)))) ∧ (¬ w23 = 0 → Q (some (0, 0)) L (up μ22 v0 1 ((μ v0 1)))))) ∧ (¬ w19 = 0 → Q (some (0, 0)) L (up μ18 v0 1 ((μ9 v0 1)))))) ∧ (w15 = 0 → Q (some (0, 0)) L μ14))) ∧ (w10 = 0 → Q (some (0, 0)) L μ9))))) : TR mX8_readSpan 4 (0, 0) [(2, v0), (0, v1), (0, v2), (2, v3)] L μ Q := by
  refine TR.of (ls := [(2, v0), (0, v1), (0, v2), (2, v3), (9, 0), (9, 0)]) (by decide) (by simp) rfl (Nat.le_of_ble_eq_true rfl) ?_
  refine wa_aload_n 1 dX8_readSpan_0 rfl rfl ?_
  refine wa_getI 4 1 dX8_readSpan_1 rfl wF_X8_33 rfl rfl k0 ?_
  refine wa_istore 6 [(2, v0), (0, v1), (0, v2), (2, v3), (0, (μ v0 1)), (9, 0)] dX8_readSpan_4 rfl rfl rfl ?_
  refine wa_aload_n 7 dX8_readSpan_6 rfl rfl ?_
  refine wa_aload_n 8 dX8_readSpan_7 rfl rfl ?_
  have e1 : isK L (rf L v0 4) (7, 0) := lay_f hL k0 4 rfl
  refine wa_getR 11 4 dX8_readSpan_8 rfl wF_X8_25 rfl rfl ⟨k0, isK_pos e1⟩ ?_
  have e2 : isK L (rf L ((rf L v0 4)) 0) (3, 0) := lay_f hL e1 0 rfl
  refine wa_getR 14 0 dX8_readSpan_11 rfl wF_X8_77 rfl rfl ⟨e1, isK_pos e2⟩ ?_
  refine wa_iload_n 15 dX8_readSpan_14 rfl rfl ?_
  refine wa_callV 18 2 2 8 (av := [(2, (rf L ((rf L v0 4)) 0)), (0, v2)]) (rest := []) (k1 := (0, 0)) (k2 := (0, 0)) cvX8_readPoint dX8_readSpan_15 rfl wM_X8_80 ⟨rfl, by decide, rfl, Nat.le_of_ble_eq_true rfl, by decide, Nat.le_of_ble_eq_true rfl, rfl, rfl⟩ rfl k0 (TR.mono h (fun r3 L4 μ5 h => ?_))
  obtain ⟨w6, rfl, rfl, h⟩ := h
  show WA mX8_readSpan 4 (0, 0) 18 [(2, v0), (0, v1), (0, v2), (2, v3), (0, (μ v0 1)), (9, 0)] [(0, w6)] L μ5 Q
  refine wa_if_eq 21 30 dX8_readSpan_18 rfl (by decide) (fun q => ?_) (fun q => ?_)
  · replace h := h.1 q
    refine wa_iconst 31 dX8_readSpan_30 rfl (by decide) ?_
    exact wa_zret dX8_readSpan_31 rfl (Or.inl rfl) h
  · replace h := h.2 q
    refine wa_aload_n 22 dX8_readSpan_21 rfl rfl ?_
    refine wa_bipush 24 dX8_readSpan_22 rfl ⟨by decide, by decide⟩ ?_
    refine wa_callV 27 0 1 8 (av := [(0, 45)]) (rest := []) (k1 := (0, 0)) (k2 := (0, 0)) cvX8_skips dX8_readSpan_24 rfl wM_X8_44 ⟨rfl, by decide, rfl, Nat.le_of_ble_eq_true rfl, by decide, Nat.le_of_ble_eq_true rfl, rfl, rfl⟩ rfl k0 (TR.mono h (fun r7 L8 μ9 h => ?_))
    obtain ⟨w10, rfl, rfl, h⟩ := h
    show WA mX8_readSpan 4 (0, 0) 27 [(2, v0), (0, v1), (0, v2), (2, v3), (0, (μ v0 1)), (9, 0)] [(0, w10)] L μ9 Q
    refine wa_if_ne 30 32 dX8_readSpan_27 rfl (by decide) (fun q => ?_) (fun q => ?_)
    · replace h := h.1 q
      refine wa_aload_n 33 dX8_readSpan_32 rfl rfl ?_
      refine wa_getI 36 1 dX8_readSpan_33 rfl wF_X8_33 rfl rfl k0 ?_
      refine wa_istore 38 [(2, v0), (0, v1), (0, v2), (2, v3), (0, (μ v0 1)), (0, (μ9 v0 1))] dX8_readSpan_36 rfl rfl rfl ?_
      refine wa_aload_n 39 dX8_readSpan_38 rfl rfl ?_
      refine wa_aload_n 40 dX8_readSpan_39 rfl rfl ?_
      refine wa_getR 43 4 dX8_readSpan_40 rfl wF_X8_25 rfl rfl ⟨k0, isK_pos e1⟩ ?_
      have e11 : isK L (rf L ((rf L v0 4)) 1) (3, 0) := lay_f hL e1 1 rfl
      refine wa_getR 46 1 dX8_readSpan_43 rfl wF_X8_84 rfl rfl ⟨e1, isK_pos e11⟩ ?_
      refine wa_iload_n 47 dX8_readSpan_46 rfl rfl ?_
      refine wa_callV 50 2 2 8 (av := [(2, (rf L ((rf L v0 4)) 1)), (0, v2)]) (rest := []) (k1 := (0, 0)) (k2 := (0, 0)) cvX8_readPoint dX8_readSpan_47 rfl wM_X8_80 ⟨rfl, by decide, rfl, Nat.le_of_ble_eq_true rfl, by decide, Nat.le_of_ble_eq_true rfl, rfl, rfl⟩ rfl k0 (TR.mono h (fun r12 L13 μ14 h => ?_))
      obtain ⟨w15, rfl, rfl, h⟩ := h
      show WA mX8_readSpan 4 (0, 0) 50 [(2, v0), (0, v1), (0, v2), (2, v3), (0, (μ v0 1)), (0, (μ9 v0 1))] [(0, w15)] L μ14 Q
      refine wa_if_ne 53 55 dX8_readSpan_50 rfl (by decide) (fun q => ?_) (fun q => ?_)
      · replace h := h.1 q
        refine wa_aload_n 56 dX8_readSpan_55 rfl rfl ?_
        refine wa_getR 59 4 dX8_readSpan_56 rfl wF_X8_25 rfl rfl ⟨k0, isK_pos e1⟩ ?_
        refine wa_getR 62 1 dX8_readSpan_59 rfl wF_X8_84 rfl rfl ⟨e1, isK_pos e11⟩ ?_
        refine wa_aload_n 63 dX8_readSpan_62 rfl rfl ?_
        refine wa_getR 66 4 dX8_readSpan_63 rfl wF_X8_25 rfl rfl ⟨k0, isK_pos e1⟩ ?_
        refine wa_getR 69 0 dX8_readSpan_66 rfl wF_X8_77 rfl rfl ⟨e1, isK_pos e2⟩ ?_
        refine wa_callV 72 1 1 3 (av := [(2, (rf L ((rf L v0 4)) 0))]) (rest := []) (k1 := (0, 0)) (k2 := (0, 0)) cvX3_isBelow dX8_readSpan_69 rfl wM_X8_87 ⟨rfl, by decide, rfl, Nat.le_of_ble_eq_true rfl, by decide, Nat.le_of_ble_eq_true rfl, rfl, rfl⟩ rfl e11 (TR.mono h (fun r16 L17 μ18 h => ?_))
        obtain ⟨w19, rfl, rfl, h⟩ := h
        show WA mX8_readSpan 4 (0, 0) 72 [(2, v0), (0, v1), (0, v2), (2, v3), (0, (μ v0 1)), (0, (μ9 v0 1))] [(0, w19)] L μ18 Q
        refine wa_if_eq 75 83 dX8_readSpan_72 rfl (by decide) (fun q => ?_) (fun q => ?_)
        · replace h := h.1 q
          refine wa_aload_n 84 dX8_readSpan_83 rfl rfl ?_
          refine wa_aload_n 85 dX8_readSpan_84 rfl rfl ?_
          refine wa_getR 88 4 dX8_readSpan_85 rfl wF_X8_25 rfl rfl ⟨k0, isK_pos e1⟩ ?_
          refine wa_callV 91 3 1 1 (av := [(2, (rf L v0 4))]) (rest := []) (k1 := (0, 0)) (k2 := (0, 0)) cvX1_overlaps dX8_readSpan_88 rfl wM_X8_91 ⟨rfl, by decide, rfl, Nat.le_of_ble_eq_true rfl, by decide, Nat.le_of_ble_eq_true rfl, rfl, rfl⟩ rfl k3 (TR.mono h (fun r20 L21 μ22 h => ?_))
          obtain ⟨w23, rfl, rfl, h⟩ := h
          show WA mX8_readSpan 4 (0, 0) 91 [(2, v0), (0, v1), (0, v2), (2, v3), (0, (μ v0 1)), (0, (μ9 v0 1))] [(0, w23)] L μ22 Q
          refine wa_if_eq 94 102 dX8_readSpan_91 rfl (by decide) (fun q => ?_) (fun q => ?_)
          · replace h := h.1 q
            refine wa_aload_n 103 dX8_readSpan_102 rfl rfl ?_
            refine wa_aload_n 104 dX8_readSpan_103 rfl rfl ?_
            refine wa_getR 107 4 dX8_readSpan_104 rfl wF_X8_25 rfl rfl ⟨k0, isK_pos e1⟩ ?_
            refine wa_getR 110 0 dX8_readSpan_107 rfl wF_X8_77 rfl rfl ⟨e1, isK_pos e2⟩ ?_
            refine wa_callV 113 2 1 1 (av := [(2, (rf L ((rf L v0 4)) 0))]) (rest := []) (k1 := (0, 0)) (k2 := (0, 0)) cvX1_takesIn dX8_readSpan_110 rfl wM_X8_95 ⟨rfl, by decide, rfl, Nat.le_of_ble_eq_true rfl, by decide, Nat.le_of_ble_eq_true rfl, rfl, rfl⟩ rfl k3 (TR.mono h (fun r24 L25 μ26 h => ?_))
            obtain ⟨w27, rfl, rfl, h⟩ := h
            show WA mX8_readSpan 4 (0, 0) 113 [(2, v0), (0, v1), (0, v2), (2, v3), (0, (μ v0 1)), (0, (μ9 v0 1))] [(0, w27)] L μ26 Q
            refine wa_pop 114 dX8_readSpan_113 rfl (Or.inl rfl) ?_
            refine wa_aload_n 115 dX8_readSpan_114 rfl rfl ?_
            refine wa_aload_n 116 dX8_readSpan_115 rfl rfl ?_
            refine wa_getR 119 4 dX8_readSpan_116 rfl wF_X8_25 rfl rfl ⟨k0, isK_pos e1⟩ ?_
            refine wa_getR 122 1 dX8_readSpan_119 rfl wF_X8_84 rfl rfl ⟨e1, isK_pos e11⟩ ?_
            refine wa_callV 125 2 1 1 (av := [(2, (rf L ((rf L v0 4)) 1))]) (rest := []) (k1 := (0, 0)) (k2 := (0, 0)) cvX1_takesIn dX8_readSpan_122 rfl wM_X8_95 ⟨rfl, by decide, rfl, Nat.le_of_ble_eq_true rfl, by decide, Nat.le_of_ble_eq_true rfl, rfl, rfl⟩ rfl k3 (TR.mono h (fun r28 L29 μ30 h => ?_))
            obtain ⟨w31, rfl, rfl, h⟩ := h
            show WA mX8_readSpan 4 (0, 0) 125 [(2, v0), (0, v1), (0, v2), (2, v3), (0, (μ v0 1)), (0, (μ9 v0 1))] [(0, w31)] L μ30 Q
            refine wa_pop 126 dX8_readSpan_125 rfl (Or.inl rfl) ?_
            refine wa_aload_n 127 dX8_readSpan_126 rfl rfl ?_
            refine wa_iload_n 128 dX8_readSpan_127 rfl rfl ?_
            refine wa_aload_n 129 dX8_readSpan_128 rfl rfl ?_
            refine wa_getR 132 4 dX8_readSpan_129 rfl wF_X8_25 rfl rfl ⟨k0, isK_pos e1⟩ ?_
            refine wa_getR 135 0 dX8_readSpan_132 rfl wF_X8_77 rfl rfl ⟨e1, isK_pos e2⟩ ?_
            refine wa_aload_n 136 dX8_readSpan_135 rfl rfl ?_
            refine wa_getR 139 4 dX8_readSpan_136 rfl wF_X8_25 rfl rfl ⟨k0, isK_pos e1⟩ ?_
            refine wa_getR 142 1 dX8_readSpan_139 rfl wF_X8_84 rfl rfl ⟨e1, isK_pos e11⟩ ?_
            refine wa_callV 145 2 3 1 (av := [(0, v1), (2, (rf L ((rf L v0 4)) 0)), (2, (rf L ((rf L v0 4)) 1))]) (rest := []) (k1 := (0, 0)) (k2 := (0, 0)) cvX1_give dX8_readSpan_142 rfl wM_X8_98 ⟨rfl, by decide, rfl, Nat.le_of_ble_eq_true rfl, by decide, Nat.le_of_ble_eq_true rfl, rfl, rfl⟩ rfl k3 (TR.mono h (fun r32 L33 μ34 h => ?_))
            obtain ⟨rfl, rfl, h⟩ := h
            show WA mX8_readSpan 4 (0, 0) 145 [(2, v0), (0, v1), (0, v2), (2, v3), (0, (μ v0 1)), (0, (μ9 v0 1))] [] L μ34 Q
            refine wa_iconst 146 dX8_readSpan_145 rfl (by decide) ?_
            exact wa_zret dX8_readSpan_146 rfl (Or.inr rfl) h
          · replace h := h.2 q
            refine wa_aload_n 95 dX8_readSpan_94 rfl rfl ?_
            refine wa_iload 97 dX8_readSpan_95 rfl rfl ?_
            refine wa_putN 100 1 dX8_readSpan_97 rfl wF_X8_33 rfl rfl k0 ?_
            refine wa_iconst 101 dX8_readSpan_100 rfl (by decide) ?_
            exact wa_zret dX8_readSpan_101 rfl (Or.inl rfl) h
        · replace h := h.2 q
          refine wa_aload_n 76 dX8_readSpan_75 rfl rfl ?_
          refine wa_iload 78 dX8_readSpan_76 rfl rfl ?_
          refine wa_putN 81 1 dX8_readSpan_78 rfl wF_X8_33 rfl rfl k0 ?_
          refine wa_iconst 82 dX8_readSpan_81 rfl (by decide) ?_
          exact wa_zret dX8_readSpan_82 rfl (Or.inl rfl) h
      · replace h := h.2 q
        refine wa_iconst 54 dX8_readSpan_53 rfl (by decide) ?_
        exact wa_zret dX8_readSpan_54 rfl (Or.inl rfl) h
    · replace h := h.2 q
      refine wa_iconst 31 dX8_readSpan_30 rfl (by decide) ?_
      exact wa_zret dX8_readSpan_31 rfl (Or.inl rfl) h
set_option maxRecDepth 20000 in
theorem t_X8_readWorths (hL : LayOK L) {v0 v1 : Int} (k0 : isK L v0 (8, 0)) (k1 : isK L v1 (0, 0)) (h : TR mX8_skips 0 (0, 0) [(2, v0), (0, 119)] L μ (fun r1 L2 μ3 => ∃ w4, r1 = some (0, w4) ∧ L = L2 ∧ (¬ w4 = 0 → TR mX8_figure 0 (0, 0) [(2, v0)] L μ3 (fun r5 L6 μ7 => ∃ w8, r5 = some (0, w8) ∧ L = L6 ∧ TR mX0_hasAgent 0 (0, 0) [(2, v1), (0, w8)] L μ7 (fun r9 L10 μ11 => ∃ w12, r9 = some (0, w12) ∧ L = L10 ∧ (¬ w12 = 0 → (inI ((μ11 v0 1) + 1)) ∧ TR mX8_skips 0 (0, 0) [(2, v0), (0, 58)] L (up μ11 v0 1 (((μ11 v0 1) + 1))) (fun r14 L15 μ16 => ∃ w17, r14 = some (0, w17) ∧ L = L15 ∧ (¬ w17 = 0 → WA mX8_readWorths 1 (0, 0) 61 [(2, v0), (2, v1), (0, w4), (0, w8), (0, 0), (9, 0)] [] L μ16 Q) ∧ (w17 = 0 → Q (some (0, 0)) L μ16))) ∧ (w12 = 0 → Q (some (0, 0)) L μ11)))) ∧ (w4 = 0 → TR mX8_skips 0 (0, 0) [(2, v0), (0, 116)] L μ3 (fun r18 L19 μ20 => ∃ w21, r18 = some (0, w21) ∧ L = L19 ∧ (¬ w21 = 0 → TR mX8_figure 0 (0, 0) [(2, v0)] L μ20 (fun r22 L23 μ24 => ∃ w25, r22 = some (0, w25) ∧ L = L23 ∧ TR mX0_hasAgent 0 (0, 0) [(2, v1), (0, w25)] L μ24 (fun r26 L27 μ28 => ∃ w29, r26 = some (0, w29) ∧ L = L27 ∧ (¬ w29 = 0 → (inI ((μ28 v0 1) + 1)) ∧ TR mX8_skips 0 (0, 0) [(2, v0), (0, 58)] L (up μ28 v0 1 (((μ28 v0 1) + 1))) (fun r31 L32 μ33 => ∃ w34, r31 = some (0, w34) ∧ L = L32 ∧ (¬ w34 = 0 → WA mX8_readWorths 1 (0, 0) 61 [(2, v0), (2, v1), (0, w4), (0, w25), (0, 0), (9, 0)] [] L μ33 Q) ∧ (w34 = 0 → Q (some (0, 0)) L μ33))) ∧ (w29 = 0 → Q (some (0, 0)) L μ28)))) ∧ (w21 = 0 → Q (some (0, 0)) L μ20))))) : TR mX8_readWorths 1 (0, 0) [(2, v0), (2, v1)] L μ Q := by
  refine TR.of (ls := [(2, v0), (2, v1), (9, 0), (9, 0), (9, 0), (9, 0)]) (by decide) (by simp) rfl (Nat.le_of_ble_eq_true rfl) ?_
  refine wa_aload_n 1 dX8_readWorths_0 rfl rfl ?_
  refine wa_bipush 3 dX8_readWorths_1 rfl ⟨by decide, by decide⟩ ?_
  refine wa_callV 6 0 1 8 (av := [(0, 119)]) (rest := []) (k1 := (0, 0)) (k2 := (0, 0)) cvX8_skips dX8_readWorths_3 rfl wM_X8_44 ⟨rfl, by decide, rfl, Nat.le_of_ble_eq_true rfl, by decide, Nat.le_of_ble_eq_true rfl, rfl, rfl⟩ rfl k0 (TR.mono h (fun r1 L2 μ3 h => ?_))
  obtain ⟨w4, rfl, rfl, h⟩ := h
  show WA mX8_readWorths 1 (0, 0) 6 [(2, v0), (2, v1), (9, 0), (9, 0), (9, 0), (9, 0)] [(0, w4)] L μ3 Q
  refine wa_istore_n 7 [(2, v0), (2, v1), (0, w4), (9, 0), (9, 0), (9, 0)] dX8_readWorths_6 rfl rfl rfl ?_
  refine wa_iload_n 8 dX8_readWorths_7 rfl rfl ?_
  refine wa_if_ne 11 22 dX8_readWorths_8 rfl (by decide) (fun q => ?_) (fun q => ?_)
  · replace h := h.1 q
    refine wa_aload_n 23 dX8_readWorths_22 rfl rfl ?_
    refine wa_callV 26 0 0 8 (av := []) (rest := []) (k1 := (0, 0)) (k2 := (0, 0)) cvX8_figure dX8_readWorths_23 rfl wM_X8_48 ⟨rfl, by decide, rfl, Nat.le_of_ble_eq_true rfl, by decide, Nat.le_of_ble_eq_true rfl, rfl, rfl⟩ rfl k0 (TR.mono h (fun r5 L6 μ7 h => ?_))
    obtain ⟨w8, rfl, rfl, h⟩ := h
    show WA mX8_readWorths 1 (0, 0) 26 [(2, v0), (2, v1), (0, w4), (9, 0), (9, 0), (9, 0)] [(0, w8)] L μ7 Q
    refine wa_istore_n 27 [(2, v0), (2, v1), (0, w4), (0, w8), (9, 0), (9, 0)] dX8_readWorths_26 rfl rfl rfl ?_
    refine wa_aload_n 28 dX8_readWorths_27 rfl rfl ?_
    refine wa_iload_n 29 dX8_readWorths_28 rfl rfl ?_
    refine wa_callV 32 0 1 0 (av := [(0, w8)]) (rest := []) (k1 := (0, 0)) (k2 := (0, 0)) cvX0_hasAgent dX8_readWorths_29 rfl wM_X8_52 ⟨rfl, by decide, rfl, Nat.le_of_ble_eq_true rfl, by decide, Nat.le_of_ble_eq_true rfl, rfl, rfl⟩ rfl k1 (TR.mono h (fun r9 L10 μ11 h => ?_))
    obtain ⟨w12, rfl, rfl, h⟩ := h
    show WA mX8_readWorths 1 (0, 0) 32 [(2, v0), (2, v1), (0, w4), (0, w8), (9, 0), (9, 0)] [(0, w12)] L μ11 Q
    refine wa_if_ne 35 37 dX8_readWorths_32 rfl (by decide) (fun q => ?_) (fun q => ?_)
    · replace h := h.1 q
      refine wa_aload_n 38 dX8_readWorths_37 rfl rfl ?_
      refine wa_dup 39 dX8_readWorths_38 rfl (Or.inr rfl) ?_
      refine wa_getI 42 1 dX8_readWorths_39 rfl wF_X8_33 rfl rfl k0 ?_
      refine wa_iconst 43 dX8_readWorths_42 rfl (by decide) ?_
      obtain ⟨c13, h⟩ := h
      refine wa_iadd 44 dX8_readWorths_43 rfl c13 ?_
      refine wa_putN 47 1 dX8_readWorths_44 rfl wF_X8_33 rfl rfl k0 ?_
      refine wa_aload_n 48 dX8_readWorths_47 rfl rfl ?_
      refine wa_bipush 50 dX8_readWorths_48 rfl ⟨by decide, by decide⟩ ?_
      refine wa_callV 53 0 1 8 (av := [(0, 58)]) (rest := []) (k1 := (0, 0)) (k2 := (0, 0)) cvX8_skips dX8_readWorths_50 rfl wM_X8_44 ⟨rfl, by decide, rfl, Nat.le_of_ble_eq_true rfl, by decide, Nat.le_of_ble_eq_true rfl, rfl, rfl⟩ rfl k0 (TR.mono h (fun r14 L15 μ16 h => ?_))
      obtain ⟨w17, rfl, rfl, h⟩ := h
      show WA mX8_readWorths 1 (0, 0) 53 [(2, v0), (2, v1), (0, w4), (0, w8), (9, 0), (9, 0)] [(0, w17)] L μ16 Q
      refine wa_if_ne 56 58 dX8_readWorths_53 rfl (by decide) (fun q => ?_) (fun q => ?_)
      · replace h := h.1 q
        refine wa_iconst 59 dX8_readWorths_58 rfl (by decide) ?_
        refine wa_istore 61 [(2, v0), (2, v1), (0, w4), (0, w8), (0, 0), (9, 0)] dX8_readWorths_59 rfl rfl rfl ?_
        exact h
      · replace h := h.2 q
        refine wa_iconst 57 dX8_readWorths_56 rfl (by decide) ?_
        exact wa_zret dX8_readWorths_57 rfl (Or.inl rfl) h
    · replace h := h.2 q
      refine wa_iconst 36 dX8_readWorths_35 rfl (by decide) ?_
      exact wa_zret dX8_readWorths_36 rfl (Or.inl rfl) h
  · replace h := h.2 q
    refine wa_aload_n 12 dX8_readWorths_11 rfl rfl ?_
    refine wa_bipush 14 dX8_readWorths_12 rfl ⟨by decide, by decide⟩ ?_
    refine wa_callV 17 0 1 8 (av := [(0, 116)]) (rest := []) (k1 := (0, 0)) (k2 := (0, 0)) cvX8_skips dX8_readWorths_14 rfl wM_X8_44 ⟨rfl, by decide, rfl, Nat.le_of_ble_eq_true rfl, by decide, Nat.le_of_ble_eq_true rfl, rfl, rfl⟩ rfl k0 (TR.mono h (fun r18 L19 μ20 h => ?_))
    obtain ⟨w21, rfl, rfl, h⟩ := h
    show WA mX8_readWorths 1 (0, 0) 17 [(2, v0), (2, v1), (0, w4), (9, 0), (9, 0), (9, 0)] [(0, w21)] L μ20 Q
    refine wa_if_ne 20 22 dX8_readWorths_17 rfl (by decide) (fun q => ?_) (fun q => ?_)
    · replace h := h.1 q
      refine wa_aload_n 23 dX8_readWorths_22 rfl rfl ?_
      refine wa_callV 26 0 0 8 (av := []) (rest := []) (k1 := (0, 0)) (k2 := (0, 0)) cvX8_figure dX8_readWorths_23 rfl wM_X8_48 ⟨rfl, by decide, rfl, Nat.le_of_ble_eq_true rfl, by decide, Nat.le_of_ble_eq_true rfl, rfl, rfl⟩ rfl k0 (TR.mono h (fun r22 L23 μ24 h => ?_))
      obtain ⟨w25, rfl, rfl, h⟩ := h
      show WA mX8_readWorths 1 (0, 0) 26 [(2, v0), (2, v1), (0, w4), (9, 0), (9, 0), (9, 0)] [(0, w25)] L μ24 Q
      refine wa_istore_n 27 [(2, v0), (2, v1), (0, w4), (0, w25), (9, 0), (9, 0)] dX8_readWorths_26 rfl rfl rfl ?_
      refine wa_aload_n 28 dX8_readWorths_27 rfl rfl ?_
      refine wa_iload_n 29 dX8_readWorths_28 rfl rfl ?_
      refine wa_callV 32 0 1 0 (av := [(0, w25)]) (rest := []) (k1 := (0, 0)) (k2 := (0, 0)) cvX0_hasAgent dX8_readWorths_29 rfl wM_X8_52 ⟨rfl, by decide, rfl, Nat.le_of_ble_eq_true rfl, by decide, Nat.le_of_ble_eq_true rfl, rfl, rfl⟩ rfl k1 (TR.mono h (fun r26 L27 μ28 h => ?_))
      obtain ⟨w29, rfl, rfl, h⟩ := h
      show WA mX8_readWorths 1 (0, 0) 32 [(2, v0), (2, v1), (0, w4), (0, w25), (9, 0), (9, 0)] [(0, w29)] L μ28 Q
      refine wa_if_ne 35 37 dX8_readWorths_32 rfl (by decide) (fun q => ?_) (fun q => ?_)
      · replace h := h.1 q
        refine wa_aload_n 38 dX8_readWorths_37 rfl rfl ?_
        refine wa_dup 39 dX8_readWorths_38 rfl (Or.inr rfl) ?_
        refine wa_getI 42 1 dX8_readWorths_39 rfl wF_X8_33 rfl rfl k0 ?_
        refine wa_iconst 43 dX8_readWorths_42 rfl (by decide) ?_
        obtain ⟨c30, h⟩ := h
        refine wa_iadd 44 dX8_readWorths_43 rfl c30 ?_
        refine wa_putN 47 1 dX8_readWorths_44 rfl wF_X8_33 rfl rfl k0 ?_
        refine wa_aload_n 48 dX8_readWorths_47 rfl rfl ?_
        refine wa_bipush 50 dX8_readWorths_48 rfl ⟨by decide, by decide⟩ ?_
        refine wa_callV 53 0 1 8 (av := [(0, 58)]) (rest := []) (k1 := (0, 0)) (k2 := (0, 0)) cvX8_skips dX8_readWorths_50 rfl wM_X8_44 ⟨rfl, by decide, rfl, Nat.le_of_ble_eq_true rfl, by decide, Nat.le_of_ble_eq_true rfl, rfl, rfl⟩ rfl k0 (TR.mono h (fun r31 L32 μ33 h => ?_))
        obtain ⟨w34, rfl, rfl, h⟩ := h
        show WA mX8_readWorths 1 (0, 0) 53 [(2, v0), (2, v1), (0, w4), (0, w25), (9, 0), (9, 0)] [(0, w34)] L μ33 Q
        refine wa_if_ne 56 58 dX8_readWorths_53 rfl (by decide) (fun q => ?_) (fun q => ?_)
        · replace h := h.1 q
          refine wa_iconst 59 dX8_readWorths_58 rfl (by decide) ?_
          refine wa_istore 61 [(2, v0), (2, v1), (0, w4), (0, w25), (0, 0), (9, 0)] dX8_readWorths_59 rfl rfl rfl ?_
          exact h
        · replace h := h.2 q
          refine wa_iconst 57 dX8_readWorths_56 rfl (by decide) ?_
          exact wa_zret dX8_readWorths_57 rfl (Or.inl rfl) h
      · replace h := h.2 q
        refine wa_iconst 36 dX8_readWorths_35 rfl (by decide) ?_
        exact wa_zret dX8_readWorths_36 rfl (Or.inl rfl) h
    · replace h := h.2 q
      refine wa_iconst 21 dX8_readWorths_20 rfl (by decide) ?_
      exact wa_zret dX8_readWorths_21 rfl (Or.inl rfl) h
set_option maxRecDepth 20000 in
theorem s_X8_readWorths_61 (hL : LayOK L) {v0 v1 v2 v3 v4 : Int} (k0 : isK L v0 (8, 0)) (k1 : isK L v1 (0, 0)) (h : ((μ v1 0) ≤ v4 → Q (some (0, 0)) L μ) ∧ (¬ (μ v1 0) ≤ v4 → TR mX8_figure 0 (0, 0) [(2, v0)] L μ (fun r1 L2 μ3 => ∃ w4, r1 = some (0, w4) ∧ L = L2 ∧ (0 ≤ w4 → (inI ((μ3 v0 1) + 1)) ∧ (0 ≤ v3 ∧ v3 < 5) ∧ (0 ≤ v4 ∧ v4 < 16) ∧ (v2 = 0 → TR mX8_skips 0 (0, 0) [(2, v0), (0, 44)] L (up (up μ3 v0 1 (((μ3 v0 1) + 1))) ((rf L ((rf L v1 3)) v3)) v4 w4) (fun r10 L11 μ12 => ∃ w13, r10 = some (0, w13) ∧ L = L11 ∧ (¬ w13 = 0 → (inI (v4 + 1)) ∧ WA mX8_readWorths 1 (0, 0) 61 [(2, v0), (2, v1), (0, v2), (0, v3), (0, (v4 + 1)), (9, 0)] [] L μ12 Q) ∧ (w13 = 0 → Q (some (0, 1)) L μ12))) ∧ (¬ v2 = 0 → TR mX8_skips 0 (0, 0) [(2, v0), (0, 44)] L (up (up (up μ3 v0 1 (((μ3 v0 1) + 1))) ((rf L ((rf L v1 3)) v3)) v4 w4) ((rf L ((rf L v1 2)) v3)) v4 w4) (fun r17 L18 μ19 => ∃ w20, r17 = some (0, w20) ∧ L = L18 ∧ (¬ w20 = 0 → (inI (v4 + 1)) ∧ WA mX8_readWorths 1 (0, 0) 61 [(2, v0), (2, v1), (0, v2), (0, v3), (0, (v4 + 1)), (9, 0)] [] L μ19 Q) ∧ (w20 = 0 → Q (some (0, 1)) L μ19)))) ∧ (¬ 0 ≤ w4 → Q (some (0, 0)) L μ3)))) : WA mX8_readWorths 1 (0, 0) 61 [(2, v0), (2, v1), (0, v2), (0, v3), (0, v4), (9, 0)] [] L μ Q := by
  refine wa_iload 63 dX8_readWorths_61 rfl rfl ?_
  refine wa_aload_n 64 dX8_readWorths_63 rfl rfl ?_
  refine wa_getI 67 0 dX8_readWorths_64 rfl wF_X8_57 rfl rfl k1 ?_
  refine wa_icmp_ge 70 136 dX8_readWorths_67 rfl (by decide) (fun q => ?_) (fun q => ?_)
  · replace h := h.1 q
    refine wa_iconst 137 dX8_readWorths_136 rfl (by decide) ?_
    exact wa_zret dX8_readWorths_137 rfl (Or.inl rfl) h
  · replace h := h.2 q
    refine wa_aload_n 71 dX8_readWorths_70 rfl rfl ?_
    refine wa_callV 74 0 0 8 (av := []) (rest := []) (k1 := (0, 0)) (k2 := (0, 0)) cvX8_figure dX8_readWorths_71 rfl wM_X8_48 ⟨rfl, by decide, rfl, Nat.le_of_ble_eq_true rfl, by decide, Nat.le_of_ble_eq_true rfl, rfl, rfl⟩ rfl k0 (TR.mono h (fun r1 L2 μ3 h => ?_))
    obtain ⟨w4, rfl, rfl, h⟩ := h
    show WA mX8_readWorths 1 (0, 0) 74 [(2, v0), (2, v1), (0, v2), (0, v3), (0, v4), (9, 0)] [(0, w4)] L μ3 Q
    refine wa_istore 76 [(2, v0), (2, v1), (0, v2), (0, v3), (0, v4), (0, w4)] dX8_readWorths_74 rfl rfl rfl ?_
    refine wa_iload 78 dX8_readWorths_76 rfl rfl ?_
    refine wa_if_ge 81 83 dX8_readWorths_78 rfl (by decide) (fun q => ?_) (fun q => ?_)
    · replace h := h.1 q
      refine wa_aload_n 84 dX8_readWorths_83 rfl rfl ?_
      refine wa_dup 85 dX8_readWorths_84 rfl (Or.inr rfl) ?_
      refine wa_getI 88 1 dX8_readWorths_85 rfl wF_X8_33 rfl rfl k0 ?_
      refine wa_iconst 89 dX8_readWorths_88 rfl (by decide) ?_
      obtain ⟨c5, h⟩ := h
      refine wa_iadd 90 dX8_readWorths_89 rfl c5 ?_
      refine wa_putN 93 1 dX8_readWorths_90 rfl wF_X8_33 rfl rfl k0 ?_
      refine wa_aload_n 94 dX8_readWorths_93 rfl rfl ?_
      have e6 : isK L (rf L v1 3) (23, 5) := lay_f hL k1 3 rfl
      refine wa_getR 97 3 dX8_readWorths_94 rfl wF_X8_60 rfl rfl ⟨k1, isK_pos e6⟩ ?_
      refine wa_iload_n 98 dX8_readWorths_97 rfl rfl ?_
      obtain ⟨c7, h⟩ := h
      have e8 : isK L (rf L ((rf L v1 3)) v3) (20, 16) := lay_e hL k1 3 rfl c7
      refine wa_aaload 99 23 dX8_readWorths_98 rfl ⟨by decide, by decide⟩ ⟨okA_of e6 c7, isK_pos e8⟩ ?_
      refine wa_iload 101 dX8_readWorths_99 rfl rfl ?_
      refine wa_iload 103 dX8_readWorths_101 rfl rfl ?_
      obtain ⟨c9, h⟩ := h
      refine wa_iastore 104 dX8_readWorths_103 rfl (okA_of e8 c9) ?_
      refine wa_iload_n 105 dX8_readWorths_104 rfl rfl ?_
      refine wa_if_eq 108 119 dX8_readWorths_105 rfl (by decide) (fun q => ?_) (fun q => ?_)
      · replace h := h.1 q
        refine wa_aload_n 120 dX8_readWorths_119 rfl rfl ?_
        refine wa_bipush 122 dX8_readWorths_120 rfl ⟨by decide, by decide⟩ ?_
        refine wa_callV 125 0 1 8 (av := [(0, 44)]) (rest := []) (k1 := (0, 0)) (k2 := (0, 0)) cvX8_skips dX8_readWorths_122 rfl wM_X8_44 ⟨rfl, by decide, rfl, Nat.le_of_ble_eq_true rfl, by decide, Nat.le_of_ble_eq_true rfl, rfl, rfl⟩ rfl k0 (TR.mono h (fun r10 L11 μ12 h => ?_))
        obtain ⟨w13, rfl, rfl, h⟩ := h
        show WA mX8_readWorths 1 (0, 0) 125 [(2, v0), (2, v1), (0, v2), (0, v3), (0, v4), (0, w4)] [(0, w13)] L μ12 Q
        refine wa_if_ne 128 130 dX8_readWorths_125 rfl (by decide) (fun q => ?_) (fun q => ?_)
        · replace h := h.1 q
          obtain ⟨c14, h⟩ := h
          refine wa_iinc 133 [(2, v0), (2, v1), (0, v2), (0, v3), (0, (v4 + 1)), (0, w4)] dX8_readWorths_130 rfl rfl rfl c14 rfl ?_
          refine wa_goto 61 dX8_readWorths_133 (by decide) ?_
          exact wa_weak [(2, v0), (2, v1), (0, v2), (0, v3), (0, (v4 + 1)), (9, 0)] ⟨Or.inl rfl, Or.inl rfl, Or.inl rfl, Or.inl rfl, Or.inl rfl, Or.inr rfl, trivial⟩ h
        · replace h := h.2 q
          refine wa_iconst 129 dX8_readWorths_128 rfl (by decide) ?_
          exact wa_zret dX8_readWorths_129 rfl (Or.inr rfl) h
      · replace h := h.2 q
        refine wa_aload_n 109 dX8_readWorths_108 rfl rfl ?_
        have e15 : isK L (rf L v1 2) (23, 5) := lay_f hL k1 2 rfl
        refine wa_getR 112 2 dX8_readWorths_109 rfl wF_X8_64 rfl rfl ⟨k1, isK_pos e15⟩ ?_
        refine wa_iload_n 113 dX8_readWorths_112 rfl rfl ?_
        have e16 : isK L (rf L ((rf L v1 2)) v3) (20, 16) := lay_e hL k1 2 rfl c7
        refine wa_aaload 114 23 dX8_readWorths_113 rfl ⟨by decide, by decide⟩ ⟨okA_of e15 c7, isK_pos e16⟩ ?_
        refine wa_iload 116 dX8_readWorths_114 rfl rfl ?_
        refine wa_iload 118 dX8_readWorths_116 rfl rfl ?_
        refine wa_iastore 119 dX8_readWorths_118 rfl (okA_of e16 c9) ?_
        refine wa_aload_n 120 dX8_readWorths_119 rfl rfl ?_
        refine wa_bipush 122 dX8_readWorths_120 rfl ⟨by decide, by decide⟩ ?_
        refine wa_callV 125 0 1 8 (av := [(0, 44)]) (rest := []) (k1 := (0, 0)) (k2 := (0, 0)) cvX8_skips dX8_readWorths_122 rfl wM_X8_44 ⟨rfl, by decide, rfl, Nat.le_of_ble_eq_true rfl, by decide, Nat.le_of_ble_eq_true rfl, rfl, rfl⟩ rfl k0 (TR.mono h (fun r17 L18 μ19 h => ?_))
        obtain ⟨w20, rfl, rfl, h⟩ := h
        show WA mX8_readWorths 1 (0, 0) 125 [(2, v0), (2, v1), (0, v2), (0, v3), (0, v4), (0, w4)] [(0, w20)] L μ19 Q
        refine wa_if_ne 128 130 dX8_readWorths_125 rfl (by decide) (fun q => ?_) (fun q => ?_)
        · replace h := h.1 q
          obtain ⟨c21, h⟩ := h
          refine wa_iinc 133 [(2, v0), (2, v1), (0, v2), (0, v3), (0, (v4 + 1)), (0, w4)] dX8_readWorths_130 rfl rfl rfl c21 rfl ?_
          refine wa_goto 61 dX8_readWorths_133 (by decide) ?_
          exact wa_weak [(2, v0), (2, v1), (0, v2), (0, v3), (0, (v4 + 1)), (9, 0)] ⟨Or.inl rfl, Or.inl rfl, Or.inl rfl, Or.inl rfl, Or.inl rfl, Or.inr rfl, trivial⟩ h
        · replace h := h.2 q
          refine wa_iconst 129 dX8_readWorths_128 rfl (by decide) ?_
          exact wa_zret dX8_readWorths_129 rfl (Or.inr rfl) h
    · replace h := h.2 q
      refine wa_iconst 82 dX8_readWorths_81 rfl (by decide) ?_
      exact wa_zret dX8_readWorths_82 rfl (Or.inl rfl) h
set_option maxRecDepth 20000 in
theorem t_X8_skips (hL : LayOK L) {v0 v1 : Int} (k0 : isK L v0 (8, 0)) (h : ((μ v0 0) ≤ (μ v0 1) → Q (some (0, 0)) L μ) ∧ (¬ (μ v0 0) ≤ (μ v0 1) → (0 ≤ (μ v0 1) ∧ (μ v0 1) < 160) ∧ ((μ ((rf L v0 2)) ((μ v0 1))) = v1 → (inI ((μ v0 1) + 1)) ∧ Q (some (0, 1)) L (up μ v0 1 (((μ v0 1) + 1)))) ∧ (¬ (μ ((rf L v0 2)) ((μ v0 1))) = v1 → Q (some (0, 0)) L μ))) : TR mX8_skips 0 (0, 0) [(2, v0), (0, v1)] L μ Q := by
  refine TR.of (ls := [(2, v0), (0, v1)]) (by decide) (by simp) rfl (Nat.le_of_ble_eq_true rfl) ?_
  refine wa_aload_n 1 dX8_skips_0 rfl rfl ?_
  refine wa_getI 4 1 dX8_skips_1 rfl wF_X8_33 rfl rfl k0 ?_
  refine wa_aload_n 5 dX8_skips_4 rfl rfl ?_
  refine wa_getI 8 0 dX8_skips_5 rfl wF_X8_29 rfl rfl k0 ?_
  refine wa_icmp_ge 11 24 dX8_skips_8 rfl (by decide) (fun q => ?_) (fun q => ?_)
  · replace h := h.1 q
    refine wa_iconst 25 dX8_skips_24 rfl (by decide) ?_
    exact wa_zret dX8_skips_25 rfl (Or.inl rfl) h
  · replace h := h.2 q
    refine wa_aload_n 12 dX8_skips_11 rfl rfl ?_
    have e1 : isK L (rf L v0 2) (22, 160) := lay_f hL k0 2 rfl
    refine wa_getR 15 2 dX8_skips_12 rfl wF_X8_11 rfl rfl ⟨k0, isK_pos e1⟩ ?_
    refine wa_aload_n 16 dX8_skips_15 rfl rfl ?_
    refine wa_getI 19 1 dX8_skips_16 rfl wF_X8_33 rfl rfl k0 ?_
    obtain ⟨c2, h⟩ := h
    refine wa_baload 20 dX8_skips_19 rfl (okA_of e1 c2) ?_
    refine wa_iload_n 21 dX8_skips_20 rfl rfl ?_
    refine wa_icmp_eq 24 26 dX8_skips_21 rfl (by decide) (fun q => ?_) (fun q => ?_)
    · replace h := h.1 q
      refine wa_aload_n 27 dX8_skips_26 rfl rfl ?_
      refine wa_dup 28 dX8_skips_27 rfl (Or.inr rfl) ?_
      refine wa_getI 31 1 dX8_skips_28 rfl wF_X8_33 rfl rfl k0 ?_
      refine wa_iconst 32 dX8_skips_31 rfl (by decide) ?_
      obtain ⟨c3, h⟩ := h
      refine wa_iadd 33 dX8_skips_32 rfl c3 ?_
      refine wa_putN 36 1 dX8_skips_33 rfl wF_X8_33 rfl rfl k0 ?_
      refine wa_iconst 37 dX8_skips_36 rfl (by decide) ?_
      exact wa_zret dX8_skips_37 rfl (Or.inr rfl) h
    · replace h := h.2 q
      refine wa_iconst 25 dX8_skips_24 rfl (by decide) ?_
      exact wa_zret dX8_skips_25 rfl (Or.inl rfl) h
set_option maxRecDepth 20000 in
theorem t_X6_add (hL : LayOK L) {v0 v1 : Int} (k0 : isK L v0 (6, 0)) (h : (640 ≤ (μ v0 0) → Q none L μ) ∧ (¬ 640 ≤ (μ v0 0) → (-128 ≤ v1 ∧ v1 < 128) ∧ (0 ≤ (μ v0 0) ∧ (μ v0 0) < 640) ∧ (inI (((up μ ((rf L v0 1)) ((μ v0 0)) v1) v0 0) + 1)) ∧ Q none L (up (up μ ((rf L v0 1)) ((μ v0 0)) v1) v0 0 ((((up μ ((rf L v0 1)) ((μ v0 0)) v1) v0 0) + 1))))) : TR mX6_add 0 (0, 0) [(2, v0), (0, v1)] L μ Q := by
  refine TR.of (ls := [(2, v0), (0, v1)]) (by decide) (by simp) rfl (Nat.le_of_ble_eq_true rfl) ?_
  refine wa_aload_n 1 dX6_add_0 rfl rfl ?_
  refine wa_getI 4 0 dX6_add_1 rfl wF_X6_15 rfl rfl k0 ?_
  refine wa_sipush 7 dX6_add_4 rfl ⟨by decide, by decide⟩ ?_
  refine wa_icmp_ge 10 31 dX6_add_7 rfl (by decide) (fun q => ?_) (fun q => ?_)
  · replace h := h.1 q
    exact wa_vret dX6_add_31 rfl h
  · replace h := h.2 q
    refine wa_aload_n 11 dX6_add_10 rfl rfl ?_
    have e1 : isK L (rf L v0 1) (22, 640) := lay_f hL k0 1 rfl
    refine wa_getR 14 1 dX6_add_11 rfl wF_X6_11 rfl rfl ⟨k0, isK_pos e1⟩ ?_
    refine wa_aload_n 15 dX6_add_14 rfl rfl ?_
    refine wa_getI 18 0 dX6_add_15 rfl wF_X6_15 rfl rfl k0 ?_
    refine wa_iload_n 19 dX6_add_18 rfl rfl ?_
    obtain ⟨c2, h⟩ := h
    refine wa_i2b 20 dX6_add_19 rfl c2 ?_
    obtain ⟨c3, h⟩ := h
    refine wa_bastore 21 dX6_add_20 rfl (okA_of e1 c3) c2 ?_
    refine wa_aload_n 22 dX6_add_21 rfl rfl ?_
    refine wa_dup 23 dX6_add_22 rfl (Or.inr rfl) ?_
    refine wa_getI 26 0 dX6_add_23 rfl wF_X6_15 rfl rfl k0 ?_
    refine wa_iconst 27 dX6_add_26 rfl (by decide) ?_
    obtain ⟨c4, h⟩ := h
    refine wa_iadd 28 dX6_add_27 rfl c4 ?_
    refine wa_putN 31 0 dX6_add_28 rfl wF_X6_15 rfl rfl k0 ?_
    exact wa_vret dX6_add_31 rfl h
set_option maxRecDepth 20000 in
theorem t_X6_addEvent (hL : LayOK L) {v0 v1 : Int} (k0 : isK L v0 (6, 0)) (k1 : isK L v1 (2, 0)) (h : TR mX6_letterOf 0 (0, 0) [(0, (μ v1 0))] L μ (fun r1 L2 μ3 => ∃ w4, r1 = some (0, w4) ∧ L = L2 ∧ TR mX6_add 0 (0, 0) [(2, v0), (0, w4)] L μ3 (fun r5 L6 μ7 => r5 = none ∧ L = L6 ∧ TR mX6_addNumber 1 (0, 0) [(2, v0), (1, (μ7 v1 1))] L μ7 (fun r8 L9 μ10 => r8 = none ∧ L = L9 ∧ ((μ10 v1 0) = 2 → (¬ (μ10 v1 0) = 3 → TR mX6_add 0 (0, 0) [(2, v0), (0, 59)] L μ10 (fun r11 L12 μ13 => r11 = none ∧ L = L12 ∧ Q none L μ13)) ∧ ((μ10 v1 0) = 3 → TR mX6_add 0 (0, 0) [(2, v0), (0, 45)] L μ10 (fun r14 L15 μ16 => r14 = none ∧ L = L15 ∧ TR mX6_addPoint 2 (0, 0) [(2, v0), (2, (rf L ((rf L v1 2)) 1))] L μ16 (fun r19 L20 μ21 => r19 = none ∧ L = L20 ∧ TR mX6_add 0 (0, 0) [(2, v0), (0, 59)] L μ21 (fun r22 L23 μ24 => r22 = none ∧ L = L23 ∧ Q none L μ24))))) ∧ (¬ (μ10 v1 0) = 2 → TR mX6_add 0 (0, 0) [(2, v0), (0, 32)] L μ10 (fun r25 L26 μ27 => r25 = none ∧ L = L26 ∧ TR mX6_addPoint 2 (0, 0) [(2, v0), (2, (rf L ((rf L v1 2)) 0))] L μ27 (fun r30 L31 μ32 => r30 = none ∧ L = L31 ∧ (¬ (μ32 v1 0) = 3 → TR mX6_add 0 (0, 0) [(2, v0), (0, 59)] L μ32 (fun r33 L34 μ35 => r33 = none ∧ L = L34 ∧ Q none L μ35)) ∧ ((μ32 v1 0) = 3 → TR mX6_add 0 (0, 0) [(2, v0), (0, 45)] L μ32 (fun r36 L37 μ38 => r36 = none ∧ L = L37 ∧ TR mX6_addPoint 2 (0, 0) [(2, v0), (2, (rf L ((rf L v1 2)) 1))] L μ38 (fun r40 L41 μ42 => r40 = none ∧ L = L41 ∧ TR mX6_add 0 (0, 0) [(2, v0), (0, 59)] L μ42 (fun r43 L44 μ45 => r43 = none ∧ L = L44 ∧ Q none L μ45))))))))))) : TR mX6_addEvent 3 (0, 0) [(2, v0), (2, v1)] L μ Q := by
  refine TR.of (ls := [(2, v0), (2, v1)]) (by decide) (by simp) rfl (Nat.le_of_ble_eq_true rfl) ?_
  refine wa_aload_n 1 dX6_addEvent_0 rfl rfl ?_
  refine wa_aload_n 2 dX6_addEvent_1 rfl rfl ?_
  refine wa_getI 5 0 dX6_addEvent_2 rfl wF_X6_40 rfl rfl k1 ?_
  refine wa_callS 8 0 1 (av := [(0, (μ v1 0))]) (rest := [(2, v0)]) (k1 := (0, 0)) (k2 := (0, 0)) cvX6_letterOf dX6_addEvent_5 rfl wM_X6_45 ⟨rfl, Nat.le_of_ble_eq_true rfl, by decide, Nat.le_of_ble_eq_true rfl, rfl, rfl⟩ rfl (TR.mono h (fun r1 L2 μ3 h => ?_))
  obtain ⟨w4, rfl, rfl, h⟩ := h
  show WA mX6_addEvent 3 (0, 0) 8 [(2, v0), (2, v1)] [(0, w4), (2, v0)] L μ3 Q
  refine wa_callV 11 0 1 6 (av := [(0, w4)]) (rest := []) (k1 := (0, 0)) (k2 := (0, 0)) cvX6_add dX6_addEvent_8 rfl wM_X6_23 ⟨rfl, by decide, rfl, Nat.le_of_ble_eq_true rfl, by decide, Nat.le_of_ble_eq_true rfl, rfl, rfl⟩ rfl k0 (TR.mono h (fun r5 L6 μ7 h => ?_))
  obtain ⟨rfl, rfl, h⟩ := h
  show WA mX6_addEvent 3 (0, 0) 11 [(2, v0), (2, v1)] [] L μ7 Q
  refine wa_aload_n 12 dX6_addEvent_11 rfl rfl ?_
  refine wa_aload_n 13 dX6_addEvent_12 rfl rfl ?_
  refine wa_getI 16 1 dX6_addEvent_13 rfl wF_X6_49 rfl rfl k1 ?_
  refine wa_i2l 17 dX6_addEvent_16 rfl ?_
  refine wa_callV 20 1 1 6 (av := [(1, (μ7 v1 1))]) (rest := []) (k1 := (0, 0)) (k2 := (0, 0)) cvX6_addNumber dX6_addEvent_17 rfl wM_X6_33 ⟨rfl, by decide, rfl, Nat.le_of_ble_eq_true rfl, by decide, Nat.le_of_ble_eq_true rfl, rfl, rfl⟩ rfl k0 (TR.mono h (fun r8 L9 μ10 h => ?_))
  obtain ⟨rfl, rfl, h⟩ := h
  show WA mX6_addEvent 3 (0, 0) 20 [(2, v0), (2, v1)] [] L μ10 Q
  refine wa_aload_n 21 dX6_addEvent_20 rfl rfl ?_
  refine wa_getI 24 0 dX6_addEvent_21 rfl wF_X6_40 rfl rfl k1 ?_
  refine wa_iconst 25 dX6_addEvent_24 rfl (by decide) ?_
  refine wa_icmp_eq 28 45 dX6_addEvent_25 rfl (by decide) (fun q => ?_) (fun q => ?_)
  · replace h := h.1 q
    refine wa_aload_n 46 dX6_addEvent_45 rfl rfl ?_
    refine wa_getI 49 0 dX6_addEvent_46 rfl wF_X6_40 rfl rfl k1 ?_
    refine wa_iconst 50 dX6_addEvent_49 rfl (by decide) ?_
    refine wa_icmp_ne 53 70 dX6_addEvent_50 rfl (by decide) (fun q => ?_) (fun q => ?_)
    · replace h := h.1 q
      refine wa_aload_n 71 dX6_addEvent_70 rfl rfl ?_
      refine wa_bipush 73 dX6_addEvent_71 rfl ⟨by decide, by decide⟩ ?_
      refine wa_callV 76 0 1 6 (av := [(0, 59)]) (rest := []) (k1 := (0, 0)) (k2 := (0, 0)) cvX6_add dX6_addEvent_73 rfl wM_X6_23 ⟨rfl, by decide, rfl, Nat.le_of_ble_eq_true rfl, by decide, Nat.le_of_ble_eq_true rfl, rfl, rfl⟩ rfl k0 (TR.mono h (fun r11 L12 μ13 h => ?_))
      obtain ⟨rfl, rfl, h⟩ := h
      show WA mX6_addEvent 3 (0, 0) 76 [(2, v0), (2, v1)] [] L μ13 Q
      exact wa_vret dX6_addEvent_76 rfl h
    · replace h := h.2 q
      refine wa_aload_n 54 dX6_addEvent_53 rfl rfl ?_
      refine wa_bipush 56 dX6_addEvent_54 rfl ⟨by decide, by decide⟩ ?_
      refine wa_callV 59 0 1 6 (av := [(0, 45)]) (rest := []) (k1 := (0, 0)) (k2 := (0, 0)) cvX6_add dX6_addEvent_56 rfl wM_X6_23 ⟨rfl, by decide, rfl, Nat.le_of_ble_eq_true rfl, by decide, Nat.le_of_ble_eq_true rfl, rfl, rfl⟩ rfl k0 (TR.mono h (fun r14 L15 μ16 h => ?_))
      obtain ⟨rfl, rfl, h⟩ := h
      show WA mX6_addEvent 3 (0, 0) 59 [(2, v0), (2, v1)] [] L μ16 Q
      refine wa_aload_n 60 dX6_addEvent_59 rfl rfl ?_
      refine wa_aload_n 61 dX6_addEvent_60 rfl rfl ?_
      have e17 : isK L (rf L v1 2) (7, 0) := lay_f hL k1 2 rfl
      refine wa_getR 64 2 dX6_addEvent_61 rfl wF_X6_52 rfl rfl ⟨k1, isK_pos e17⟩ ?_
      have e18 : isK L (rf L ((rf L v1 2)) 1) (3, 0) := lay_f hL e17 1 rfl
      refine wa_getR 67 1 dX6_addEvent_64 rfl wF_X6_66 rfl rfl ⟨e17, isK_pos e18⟩ ?_
      refine wa_callV 70 2 1 6 (av := [(2, (rf L ((rf L v1 2)) 1))]) (rest := []) (k1 := (0, 0)) (k2 := (0, 0)) cvX6_addPoint dX6_addEvent_67 rfl wM_X6_62 ⟨rfl, by decide, rfl, Nat.le_of_ble_eq_true rfl, by decide, Nat.le_of_ble_eq_true rfl, rfl, rfl⟩ rfl k0 (TR.mono h (fun r19 L20 μ21 h => ?_))
      obtain ⟨rfl, rfl, h⟩ := h
      show WA mX6_addEvent 3 (0, 0) 70 [(2, v0), (2, v1)] [] L μ21 Q
      refine wa_aload_n 71 dX6_addEvent_70 rfl rfl ?_
      refine wa_bipush 73 dX6_addEvent_71 rfl ⟨by decide, by decide⟩ ?_
      refine wa_callV 76 0 1 6 (av := [(0, 59)]) (rest := []) (k1 := (0, 0)) (k2 := (0, 0)) cvX6_add dX6_addEvent_73 rfl wM_X6_23 ⟨rfl, by decide, rfl, Nat.le_of_ble_eq_true rfl, by decide, Nat.le_of_ble_eq_true rfl, rfl, rfl⟩ rfl k0 (TR.mono h (fun r22 L23 μ24 h => ?_))
      obtain ⟨rfl, rfl, h⟩ := h
      show WA mX6_addEvent 3 (0, 0) 76 [(2, v0), (2, v1)] [] L μ24 Q
      exact wa_vret dX6_addEvent_76 rfl h
  · replace h := h.2 q
    refine wa_aload_n 29 dX6_addEvent_28 rfl rfl ?_
    refine wa_bipush 31 dX6_addEvent_29 rfl ⟨by decide, by decide⟩ ?_
    refine wa_callV 34 0 1 6 (av := [(0, 32)]) (rest := []) (k1 := (0, 0)) (k2 := (0, 0)) cvX6_add dX6_addEvent_31 rfl wM_X6_23 ⟨rfl, by decide, rfl, Nat.le_of_ble_eq_true rfl, by decide, Nat.le_of_ble_eq_true rfl, rfl, rfl⟩ rfl k0 (TR.mono h (fun r25 L26 μ27 h => ?_))
    obtain ⟨rfl, rfl, h⟩ := h
    show WA mX6_addEvent 3 (0, 0) 34 [(2, v0), (2, v1)] [] L μ27 Q
    refine wa_aload_n 35 dX6_addEvent_34 rfl rfl ?_
    refine wa_aload_n 36 dX6_addEvent_35 rfl rfl ?_
    have e28 : isK L (rf L v1 2) (7, 0) := lay_f hL k1 2 rfl
    refine wa_getR 39 2 dX6_addEvent_36 rfl wF_X6_52 rfl rfl ⟨k1, isK_pos e28⟩ ?_
    have e29 : isK L (rf L ((rf L v1 2)) 0) (3, 0) := lay_f hL e28 0 rfl
    refine wa_getR 42 0 dX6_addEvent_39 rfl wF_X6_56 rfl rfl ⟨e28, isK_pos e29⟩ ?_
    refine wa_callV 45 2 1 6 (av := [(2, (rf L ((rf L v1 2)) 0))]) (rest := []) (k1 := (0, 0)) (k2 := (0, 0)) cvX6_addPoint dX6_addEvent_42 rfl wM_X6_62 ⟨rfl, by decide, rfl, Nat.le_of_ble_eq_true rfl, by decide, Nat.le_of_ble_eq_true rfl, rfl, rfl⟩ rfl k0 (TR.mono h (fun r30 L31 μ32 h => ?_))
    obtain ⟨rfl, rfl, h⟩ := h
    show WA mX6_addEvent 3 (0, 0) 45 [(2, v0), (2, v1)] [] L μ32 Q
    refine wa_aload_n 46 dX6_addEvent_45 rfl rfl ?_
    refine wa_getI 49 0 dX6_addEvent_46 rfl wF_X6_40 rfl rfl k1 ?_
    refine wa_iconst 50 dX6_addEvent_49 rfl (by decide) ?_
    refine wa_icmp_ne 53 70 dX6_addEvent_50 rfl (by decide) (fun q => ?_) (fun q => ?_)
    · replace h := h.1 q
      refine wa_aload_n 71 dX6_addEvent_70 rfl rfl ?_
      refine wa_bipush 73 dX6_addEvent_71 rfl ⟨by decide, by decide⟩ ?_
      refine wa_callV 76 0 1 6 (av := [(0, 59)]) (rest := []) (k1 := (0, 0)) (k2 := (0, 0)) cvX6_add dX6_addEvent_73 rfl wM_X6_23 ⟨rfl, by decide, rfl, Nat.le_of_ble_eq_true rfl, by decide, Nat.le_of_ble_eq_true rfl, rfl, rfl⟩ rfl k0 (TR.mono h (fun r33 L34 μ35 h => ?_))
      obtain ⟨rfl, rfl, h⟩ := h
      show WA mX6_addEvent 3 (0, 0) 76 [(2, v0), (2, v1)] [] L μ35 Q
      exact wa_vret dX6_addEvent_76 rfl h
    · replace h := h.2 q
      refine wa_aload_n 54 dX6_addEvent_53 rfl rfl ?_
      refine wa_bipush 56 dX6_addEvent_54 rfl ⟨by decide, by decide⟩ ?_
      refine wa_callV 59 0 1 6 (av := [(0, 45)]) (rest := []) (k1 := (0, 0)) (k2 := (0, 0)) cvX6_add dX6_addEvent_56 rfl wM_X6_23 ⟨rfl, by decide, rfl, Nat.le_of_ble_eq_true rfl, by decide, Nat.le_of_ble_eq_true rfl, rfl, rfl⟩ rfl k0 (TR.mono h (fun r36 L37 μ38 h => ?_))
      obtain ⟨rfl, rfl, h⟩ := h
      show WA mX6_addEvent 3 (0, 0) 59 [(2, v0), (2, v1)] [] L μ38 Q
      refine wa_aload_n 60 dX6_addEvent_59 rfl rfl ?_
      refine wa_aload_n 61 dX6_addEvent_60 rfl rfl ?_
      refine wa_getR 64 2 dX6_addEvent_61 rfl wF_X6_52 rfl rfl ⟨k1, isK_pos e28⟩ ?_
      have e39 : isK L (rf L ((rf L v1 2)) 1) (3, 0) := lay_f hL e28 1 rfl
      refine wa_getR 67 1 dX6_addEvent_64 rfl wF_X6_66 rfl rfl ⟨e28, isK_pos e39⟩ ?_
      refine wa_callV 70 2 1 6 (av := [(2, (rf L ((rf L v1 2)) 1))]) (rest := []) (k1 := (0, 0)) (k2 := (0, 0)) cvX6_addPoint dX6_addEvent_67 rfl wM_X6_62 ⟨rfl, by decide, rfl, Nat.le_of_ble_eq_true rfl, by decide, Nat.le_of_ble_eq_true rfl, rfl, rfl⟩ rfl k0 (TR.mono h (fun r40 L41 μ42 h => ?_))
      obtain ⟨rfl, rfl, h⟩ := h
      show WA mX6_addEvent 3 (0, 0) 70 [(2, v0), (2, v1)] [] L μ42 Q
      refine wa_aload_n 71 dX6_addEvent_70 rfl rfl ?_
      refine wa_bipush 73 dX6_addEvent_71 rfl ⟨by decide, by decide⟩ ?_
      refine wa_callV 76 0 1 6 (av := [(0, 59)]) (rest := []) (k1 := (0, 0)) (k2 := (0, 0)) cvX6_add dX6_addEvent_73 rfl wM_X6_23 ⟨rfl, by decide, rfl, Nat.le_of_ble_eq_true rfl, by decide, Nat.le_of_ble_eq_true rfl, rfl, rfl⟩ rfl k0 (TR.mono h (fun r43 L44 μ45 h => ?_))
      obtain ⟨rfl, rfl, h⟩ := h
      show WA mX6_addEvent 3 (0, 0) 76 [(2, v0), (2, v1)] [] L μ45 Q
      exact wa_vret dX6_addEvent_76 rfl h
set_option maxRecDepth 20000 in
theorem t_X6_addNumber (hL : LayOK L) {v0 v1 : Int} (k0 : isK L v0 (6, 0)) (h : WA mX6_addNumber 1 (0, 0) 5 [(2, v0), (1, v1), (9, 0), (1, 1), (9, 0), (0, 1)] [] L μ Q) : TR mX6_addNumber 1 (0, 0) [(2, v0), (1, v1)] L μ Q := by
  refine TR.of (ls := [(2, v0), (1, v1), (9, 0), (9, 0), (9, 0), (9, 0)]) (by decide) (by simp) rfl (Nat.le_of_ble_eq_true rfl) ?_
  refine wa_lconst 1 1 dX6_addNumber_0 rfl ⟨rfl, by decide⟩ ?_
  refine wa_lstore_n 2 [(2, v0), (1, v1), (9, 0), (1, 1), (9, 0), (9, 0)] dX6_addNumber_1 rfl rfl rfl ?_
  refine wa_iconst 3 dX6_addNumber_2 rfl (by decide) ?_
  refine wa_istore 5 [(2, v0), (1, v1), (9, 0), (1, 1), (9, 0), (0, 1)] dX6_addNumber_3 rfl rfl rfl ?_
  exact h
set_option maxRecDepth 20000 in
theorem s_X6_addNumber_5 (hL : LayOK L) {v0 v1 v3 v5 : Int} (k0 : isK L v0 (6, 0)) (h : (18 ≤ v5 → WA mX6_addNumber 1 (0, 0) 37 [(2, v0), (1, v1), (9, 0), (1, v3), (9, 0), (0, 0)] [] L μ Q) ∧ (¬ 18 ≤ v5 → (0 ≤ v1 ∧ 0 < v3) ∧ ((v1 / v3) < 10 → WA mX6_addNumber 1 (0, 0) 37 [(2, v0), (1, v1), (9, 0), (1, v3), (9, 0), (0, 0)] [] L μ Q) ∧ (¬ (v1 / v3) < 10 → (inL (v3 * 10)) ∧ (inI (v5 + 1)) ∧ WA mX6_addNumber 1 (0, 0) 5 [(2, v0), (1, v1), (9, 0), (1, (v3 * 10)), (9, 0), (0, (v5 + 1))] [] L μ Q))) : WA mX6_addNumber 1 (0, 0) 5 [(2, v0), (1, v1), (9, 0), (1, v3), (9, 0), (0, v5)] [] L μ Q := by
  refine wa_iload 7 dX6_addNumber_5 rfl rfl ?_
  refine wa_bipush 9 dX6_addNumber_7 rfl ⟨by decide, by decide⟩ ?_
  refine wa_icmp_ge 12 34 dX6_addNumber_9 rfl (by decide) (fun q => ?_) (fun q => ?_)
  · replace h := h.1 q
    refine wa_iconst 35 dX6_addNumber_34 rfl (by decide) ?_
    refine wa_istore 37 [(2, v0), (1, v1), (9, 0), (1, v3), (9, 0), (0, 0)] dX6_addNumber_35 rfl rfl rfl ?_
    exact h
  · replace h := h.2 q
    refine wa_lload_n 13 dX6_addNumber_12 rfl rfl ?_
    refine wa_lload_n 14 dX6_addNumber_13 rfl rfl ?_
    obtain ⟨c1, h⟩ := h
    refine wa_ldivE 15 dX6_addNumber_14 rfl c1 ?_
    refine wa_ldc2 18 10 dX6_addNumber_15 rfl wJ_X6_19 ⟨rfl, by decide⟩ ?_
    refine wa_lc_lt 22 34 dX6_addNumber_18 dX6_addNumber_19 rfl (by decide) (fun q => ?_) (fun q => ?_)
    · replace h := h.1 q
      refine wa_iconst 35 dX6_addNumber_34 rfl (by decide) ?_
      refine wa_istore 37 [(2, v0), (1, v1), (9, 0), (1, v3), (9, 0), (0, 0)] dX6_addNumber_35 rfl rfl rfl ?_
      exact h
    · replace h := h.2 q
      refine wa_lload_n 23 dX6_addNumber_22 rfl rfl ?_
      refine wa_ldc2 26 10 dX6_addNumber_23 rfl wJ_X6_19 ⟨rfl, by decide⟩ ?_
      obtain ⟨c2, h⟩ := h
      refine wa_lmul 27 dX6_addNumber_26 rfl c2 ?_
      refine wa_lstore_n 28 [(2, v0), (1, v1), (9, 0), (1, (v3 * 10)), (9, 0), (0, v5)] dX6_addNumber_27 rfl rfl rfl ?_
      obtain ⟨c3, h⟩ := h
      refine wa_iinc 31 [(2, v0), (1, v1), (9, 0), (1, (v3 * 10)), (9, 0), (0, (v5 + 1))] dX6_addNumber_28 rfl rfl rfl c3 rfl ?_
      refine wa_goto 5 dX6_addNumber_31 (by decide) ?_
      exact h
set_option maxRecDepth 20000 in
theorem s_X6_addNumber_37 (hL : LayOK L) {v0 v1 v3 v5 : Int} (k0 : isK L v0 (6, 0)) (h : (18 ≤ v5 → Q none L μ) ∧ (¬ 18 ≤ v5 → (v3 ≤ 0 → Q none L μ) ∧ (¬ v3 ≤ 0 → (0 ≤ v1 ∧ 0 < v3) ∧ (0 ≤ (v1 / v3)) ∧ (inL (48 + ((v1 / v3) % 10))) ∧ (inI ((48 + ((v1 / v3) % 10)))) ∧ TR mX6_add 0 (0, 0) [(2, v0), (0, (48 + ((v1 / v3) % 10)))] L μ (fun r5 L6 μ7 => r5 = none ∧ L = L6 ∧ (0 ≤ v3) ∧ (inI (v5 + 1)) ∧ WA mX6_addNumber 1 (0, 0) 37 [(2, v0), (1, v1), (9, 0), (1, (v3 / 10)), (9, 0), (0, (v5 + 1))] [] L μ7 Q)))) : WA mX6_addNumber 1 (0, 0) 37 [(2, v0), (1, v1), (9, 0), (1, v3), (9, 0), (0, v5)] [] L μ Q := by
  refine wa_iload 39 dX6_addNumber_37 rfl rfl ?_
  refine wa_bipush 41 dX6_addNumber_39 rfl ⟨by decide, by decide⟩ ?_
  refine wa_icmp_ge 44 78 dX6_addNumber_41 rfl (by decide) (fun q => ?_) (fun q => ?_)
  · replace h := h.1 q
    exact wa_vret dX6_addNumber_78 rfl h
  · replace h := h.2 q
    refine wa_lload_n 45 dX6_addNumber_44 rfl rfl ?_
    refine wa_lconst 46 0 dX6_addNumber_45 rfl ⟨rfl, by decide⟩ ?_
    refine wa_lc_le 50 78 dX6_addNumber_46 dX6_addNumber_47 rfl (by decide) (fun q => ?_) (fun q => ?_)
    · replace h := h.1 q
      exact wa_vret dX6_addNumber_78 rfl h
    · replace h := h.2 q
      refine wa_aload_n 51 dX6_addNumber_50 rfl rfl ?_
      refine wa_ldc2 54 48 dX6_addNumber_51 rfl wJ_X6_21 ⟨rfl, by decide⟩ ?_
      refine wa_lload_n 55 dX6_addNumber_54 rfl rfl ?_
      refine wa_lload_n 56 dX6_addNumber_55 rfl rfl ?_
      obtain ⟨c1, h⟩ := h
      refine wa_ldivE 57 dX6_addNumber_56 rfl c1 ?_
      refine wa_ldc2 60 10 dX6_addNumber_57 rfl wJ_X6_19 ⟨rfl, by decide⟩ ?_
      obtain ⟨c2, h⟩ := h
      refine wa_lremE 61 dX6_addNumber_60 rfl ⟨c2, by decide⟩ ?_
      obtain ⟨c3, h⟩ := h
      refine wa_ladd 62 dX6_addNumber_61 rfl c3 ?_
      obtain ⟨c4, h⟩ := h
      refine wa_l2i 63 dX6_addNumber_62 rfl c4 ?_
      refine wa_callV 66 0 1 6 (av := [(0, (48 + ((v1 / v3) % 10)))]) (rest := []) (k1 := (0, 0)) (k2 := (0, 0)) cvX6_add dX6_addNumber_63 rfl wM_X6_23 ⟨rfl, by decide, rfl, Nat.le_of_ble_eq_true rfl, by decide, Nat.le_of_ble_eq_true rfl, rfl, rfl⟩ rfl k0 (TR.mono h (fun r5 L6 μ7 h => ?_))
      obtain ⟨rfl, rfl, h⟩ := h
      show WA mX6_addNumber 1 (0, 0) 66 [(2, v0), (1, v1), (9, 0), (1, v3), (9, 0), (0, v5)] [] L μ7 Q
      refine wa_lload_n 67 dX6_addNumber_66 rfl rfl ?_
      refine wa_ldc2 70 10 dX6_addNumber_67 rfl wJ_X6_19 ⟨rfl, by decide⟩ ?_
      obtain ⟨c8, h⟩ := h
      refine wa_ldivE 71 dX6_addNumber_70 rfl ⟨c8, by decide⟩ ?_
      refine wa_lstore_n 72 [(2, v0), (1, v1), (9, 0), (1, (v3 / 10)), (9, 0), (0, v5)] dX6_addNumber_71 rfl rfl rfl ?_
      obtain ⟨c9, h⟩ := h
      refine wa_iinc 75 [(2, v0), (1, v1), (9, 0), (1, (v3 / 10)), (9, 0), (0, (v5 + 1))] dX6_addNumber_72 rfl rfl rfl c9 rfl ?_
      refine wa_goto 37 dX6_addNumber_75 (by decide) ?_
      exact h
set_option maxRecDepth 20000 in
theorem t_X6_addPoint (hL : LayOK L) {v0 v1 : Int} (k0 : isK L v0 (6, 0)) (k1 : isK L v1 (3, 0)) (h : TR mX6_addNumber 1 (0, 0) [(2, v0), (1, (μ v1 0))] L μ (fun r1 L2 μ3 => r1 = none ∧ L = L2 ∧ ((μ3 v1 1) = 1 → Q none L μ3) ∧ (¬ (μ3 v1 1) = 1 → TR mX6_add 0 (0, 0) [(2, v0), (0, 47)] L μ3 (fun r4 L5 μ6 => r4 = none ∧ L = L5 ∧ TR mX6_addNumber 1 (0, 0) [(2, v0), (1, (μ6 v1 1))] L μ6 (fun r7 L8 μ9 => r7 = none ∧ L = L8 ∧ Q none L μ9))))) : TR mX6_addPoint 2 (0, 0) [(2, v0), (2, v1)] L μ Q := by
  refine TR.of (ls := [(2, v0), (2, v1)]) (by decide) (by simp) rfl (Nat.le_of_ble_eq_true rfl) ?_
  refine wa_aload_n 1 dX6_addPoint_0 rfl rfl ?_
  refine wa_aload_n 2 dX6_addPoint_1 rfl rfl ?_
  refine wa_getL 5 0 dX6_addPoint_2 rfl wF_X6_27 rfl rfl k1 ?_
  refine wa_callV 8 1 1 6 (av := [(1, (μ v1 0))]) (rest := []) (k1 := (0, 0)) (k2 := (0, 0)) cvX6_addNumber dX6_addPoint_5 rfl wM_X6_33 ⟨rfl, by decide, rfl, Nat.le_of_ble_eq_true rfl, by decide, Nat.le_of_ble_eq_true rfl, rfl, rfl⟩ rfl k0 (TR.mono h (fun r1 L2 μ3 h => ?_))
  obtain ⟨rfl, rfl, h⟩ := h
  show WA mX6_addPoint 2 (0, 0) 8 [(2, v0), (2, v1)] [] L μ3 Q
  refine wa_aload_n 9 dX6_addPoint_8 rfl rfl ?_
  refine wa_getL 12 1 dX6_addPoint_9 rfl wF_X6_37 rfl rfl k1 ?_
  refine wa_lconst 13 1 dX6_addPoint_12 rfl ⟨rfl, by decide⟩ ?_
  refine wa_lc_eq 17 31 dX6_addPoint_13 dX6_addPoint_14 rfl (by decide) (fun q => ?_) (fun q => ?_)
  · replace h := h.1 q
    exact wa_vret dX6_addPoint_31 rfl h
  · replace h := h.2 q
    refine wa_aload_n 18 dX6_addPoint_17 rfl rfl ?_
    refine wa_bipush 20 dX6_addPoint_18 rfl ⟨by decide, by decide⟩ ?_
    refine wa_callV 23 0 1 6 (av := [(0, 47)]) (rest := []) (k1 := (0, 0)) (k2 := (0, 0)) cvX6_add dX6_addPoint_20 rfl wM_X6_23 ⟨rfl, by decide, rfl, Nat.le_of_ble_eq_true rfl, by decide, Nat.le_of_ble_eq_true rfl, rfl, rfl⟩ rfl k0 (TR.mono h (fun r4 L5 μ6 h => ?_))
    obtain ⟨rfl, rfl, h⟩ := h
    show WA mX6_addPoint 2 (0, 0) 23 [(2, v0), (2, v1)] [] L μ6 Q
    refine wa_aload_n 24 dX6_addPoint_23 rfl rfl ?_
    refine wa_aload_n 25 dX6_addPoint_24 rfl rfl ?_
    refine wa_getL 28 1 dX6_addPoint_25 rfl wF_X6_37 rfl rfl k1 ?_
    refine wa_callV 31 1 1 6 (av := [(1, (μ6 v1 1))]) (rest := []) (k1 := (0, 0)) (k2 := (0, 0)) cvX6_addNumber dX6_addPoint_28 rfl wM_X6_33 ⟨rfl, by decide, rfl, Nat.le_of_ble_eq_true rfl, by decide, Nat.le_of_ble_eq_true rfl, rfl, rfl⟩ rfl k0 (TR.mono h (fun r7 L8 μ9 h => ?_))
    obtain ⟨rfl, rfl, h⟩ := h
    show WA mX6_addPoint 2 (0, 0) 31 [(2, v0), (2, v1)] [] L μ9 Q
    exact wa_vret dX6_addPoint_31 rfl h
set_option maxRecDepth 20000 in
theorem t_X6_letterOf (hL : LayOK L) {v0 : Int}  (h : ((v0 = 0 → Q (some (0, 109)) L μ) ∧ (v0 = 1 → Q (some (0, 116)) L μ) ∧ (v0 = 2 → Q (some (0, 112)) L μ)) ∧ (v0 < 0 ∨ 2 < v0 → Q (some (0, 103)) L μ)) : TR mX6_letterOf 0 (0, 0) [(0, v0)] L μ Q := by
  refine TR.of (ls := [(0, v0)]) (by decide) (by simp) rfl (Nat.le_of_ble_eq_true rfl) ?_
  refine wa_iload_n 1 dX6_letterOf_0 rfl rfl ?_
  refine wa_switch (fun j => match j with | 0 => 28 | 1 => 31 | _ => 34) 37 (n := 3) dX6_letterOf_1 rfl (by decide) (by decide) (fun j hj hx => ?_) (fun hx => ?_)
  · have h := h.1
    rcases (show j = 0 ∨ j = 1 ∨ j = 2 by omega) with rfl | rfl | rfl
    · replace h := h.1 (by simpa using hx)
      refine wa_bipush 30 dX6_letterOf_28 rfl ⟨by decide, by decide⟩ ?_
      exact wa_iret dX6_letterOf_30 rfl h
    · replace h := h.2.1 (by simpa using hx)
      refine wa_bipush 33 dX6_letterOf_31 rfl ⟨by decide, by decide⟩ ?_
      exact wa_iret dX6_letterOf_33 rfl h
    · replace h := h.2.2 (by simpa using hx)
      refine wa_bipush 36 dX6_letterOf_34 rfl ⟨by decide, by decide⟩ ?_
      exact wa_iret dX6_letterOf_36 rfl h
  · replace h := h.2 hx
    refine wa_bipush 39 dX6_letterOf_37 rfl ⟨by decide, by decide⟩ ?_
    exact wa_iret dX6_letterOf_39 rfl h
set_option maxRecDepth 20000 in
theorem t_X4_hasPlace (hL : LayOK L) {v0 v1 v2 : Int} (k0 : isK L v0 (4, 0)) (h : (v2 < 0 → Q (some (0, 0)) L μ) ∧ (¬ v2 < 0 → (0 ≤ v1 ∧ v1 < 4) ∧ ((μ ((rf L v0 1)) v1) ≤ v2 → Q (some (0, 0)) L μ) ∧ (¬ (μ ((rf L v0 1)) v1) ≤ v2 → Q (some (0, 1)) L μ))) : TR mX4_hasPlace 0 (0, 0) [(2, v0), (0, v1), (0, v2)] L μ Q := by
  refine TR.of (ls := [(2, v0), (0, v1), (0, v2)]) (by decide) (by simp) rfl (Nat.le_of_ble_eq_true rfl) ?_
  refine wa_iload_n 1 dX4_hasPlace_0 rfl rfl ?_
  refine wa_if_lt 4 18 dX4_hasPlace_1 rfl (by decide) (fun q => ?_) (fun q => ?_)
  · replace h := h.1 q
    refine wa_iconst 19 dX4_hasPlace_18 rfl (by decide) ?_
    exact wa_zret dX4_hasPlace_19 rfl (Or.inl rfl) h
  · replace h := h.2 q
    refine wa_iload_n 5 dX4_hasPlace_4 rfl rfl ?_
    refine wa_aload_n 6 dX4_hasPlace_5 rfl rfl ?_
    have e1 : isK L (rf L v0 1) (20, 4) := lay_f hL k0 1 rfl
    refine wa_getR 9 1 dX4_hasPlace_6 rfl wF_X4_14 rfl rfl ⟨k0, isK_pos e1⟩ ?_
    refine wa_iload_n 10 dX4_hasPlace_9 rfl rfl ?_
    obtain ⟨c2, h⟩ := h
    refine wa_iaload 11 dX4_hasPlace_10 rfl (okA_of e1 c2) ?_
    refine wa_icmp_ge 14 18 dX4_hasPlace_11 rfl (by decide) (fun q => ?_) (fun q => ?_)
    · replace h := h.1 q
      refine wa_iconst 19 dX4_hasPlace_18 rfl (by decide) ?_
      exact wa_zret dX4_hasPlace_19 rfl (Or.inl rfl) h
    · replace h := h.2 q
      refine wa_iconst 15 dX4_hasPlace_14 rfl (by decide) ?_
      refine wa_goto 19 dX4_hasPlace_15 (by decide) ?_
      exact wa_zret dX4_hasPlace_19 rfl (Or.inr rfl) h
set_option maxRecDepth 20000 in
theorem t_X4_isLaid (hL : LayOK L) {v0 v1 : Int} (k0 : isK L v0 (4, 0)) (h : (0 ≤ v1 ∧ v1 < 4) ∧ ((μ ((rf L v0 1)) v1) < 0 → Q (some (0, 0)) L μ) ∧ (¬ (μ ((rf L v0 1)) v1) < 0 → Q (some (0, 1)) L μ)) : TR mX4_isLaid 0 (0, 0) [(2, v0), (0, v1)] L μ Q := by
  refine TR.of (ls := [(2, v0), (0, v1)]) (by decide) (by simp) rfl (Nat.le_of_ble_eq_true rfl) ?_
  refine wa_aload_n 1 dX4_isLaid_0 rfl rfl ?_
  have e1 : isK L (rf L v0 1) (20, 4) := lay_f hL k0 1 rfl
  refine wa_getR 4 1 dX4_isLaid_1 rfl wF_X4_14 rfl rfl ⟨k0, isK_pos e1⟩ ?_
  refine wa_iload_n 5 dX4_isLaid_4 rfl rfl ?_
  obtain ⟨c2, h⟩ := h
  refine wa_iaload 6 dX4_isLaid_5 rfl (okA_of e1 c2) ?_
  refine wa_if_lt 9 13 dX4_isLaid_6 rfl (by decide) (fun q => ?_) (fun q => ?_)
  · replace h := h.1 q
    refine wa_iconst 14 dX4_isLaid_13 rfl (by decide) ?_
    exact wa_zret dX4_isLaid_14 rfl (Or.inl rfl) h
  · replace h := h.2 q
    refine wa_iconst 10 dX4_isLaid_9 rfl (by decide) ?_
    refine wa_goto 14 dX4_isLaid_10 (by decide) ?_
    exact wa_zret dX4_isLaid_14 rfl (Or.inr rfl) h
set_option maxRecDepth 20000 in
theorem t_X4_isRow (hL : LayOK L) {v0 v1 : Int} (k0 : isK L v0 (4, 0)) (h : (v1 < 0 → Q (some (0, 0)) L μ) ∧ (¬ v1 < 0 → (4 ≤ v1 → Q (some (0, 0)) L μ) ∧ (¬ 4 ≤ v1 → Q (some (0, 1)) L μ))) : TR mX4_isRow 0 (0, 0) [(2, v0), (0, v1)] L μ Q := by
  refine TR.of (ls := [(2, v0), (0, v1)]) (by decide) (by simp) rfl (Nat.le_of_ble_eq_true rfl) ?_
  refine wa_iload_n 1 dX4_isRow_0 rfl rfl ?_
  refine wa_if_lt 4 13 dX4_isRow_1 rfl (by decide) (fun q => ?_) (fun q => ?_)
  · replace h := h.1 q
    refine wa_iconst 14 dX4_isRow_13 rfl (by decide) ?_
    exact wa_zret dX4_isRow_14 rfl (Or.inl rfl) h
  · replace h := h.2 q
    refine wa_iload_n 5 dX4_isRow_4 rfl rfl ?_
    refine wa_iconst 6 dX4_isRow_5 rfl (by decide) ?_
    refine wa_icmp_ge 9 13 dX4_isRow_6 rfl (by decide) (fun q => ?_) (fun q => ?_)
    · replace h := h.1 q
      refine wa_iconst 14 dX4_isRow_13 rfl (by decide) ?_
      exact wa_zret dX4_isRow_14 rfl (Or.inl rfl) h
    · replace h := h.2 q
      refine wa_iconst 10 dX4_isRow_9 rfl (by decide) ?_
      refine wa_goto 14 dX4_isRow_10 (by decide) ?_
      exact wa_zret dX4_isRow_14 rfl (Or.inr rfl) h
set_option maxRecDepth 20000 in
theorem t_X4_lay (hL : LayOK L) {v0 v1 v2 : Int} (k0 : isK L v0 (4, 0)) (h : (0 ≤ v1 ∧ v1 < 4) ∧ WA mX4_lay 0 (0, 0) 9 [(2, v0), (0, v1), (9, 0), (0, 0)] [] L (up μ ((rf L v0 1)) v1 v2) Q) : TR mX4_lay 0 (0, 0) [(2, v0), (0, v1), (0, v2)] L μ Q := by
  refine TR.of (ls := [(2, v0), (0, v1), (0, v2), (9, 0)]) (by decide) (by simp) rfl (Nat.le_of_ble_eq_true rfl) ?_
  refine wa_aload_n 1 dX4_lay_0 rfl rfl ?_
  have e1 : isK L (rf L v0 1) (20, 4) := lay_f hL k0 1 rfl
  refine wa_getR 4 1 dX4_lay_1 rfl wF_X4_14 rfl rfl ⟨k0, isK_pos e1⟩ ?_
  refine wa_iload_n 5 dX4_lay_4 rfl rfl ?_
  refine wa_iload_n 6 dX4_lay_5 rfl rfl ?_
  obtain ⟨c2, h⟩ := h
  refine wa_iastore 7 dX4_lay_6 rfl (okA_of e1 c2) ?_
  refine wa_iconst 8 dX4_lay_7 rfl (by decide) ?_
  refine wa_istore_n 9 [(2, v0), (0, v1), (0, v2), (0, 0)] dX4_lay_8 rfl rfl rfl ?_
  exact wa_weak [(2, v0), (0, v1), (9, 0), (0, 0)] ⟨Or.inl rfl, Or.inl rfl, Or.inr rfl, Or.inl rfl, trivial⟩ h
set_option maxRecDepth 20000 in
theorem s_X4_lay_9 (hL : LayOK L) {v0 v1 v3 : Int} (k0 : isK L v0 (4, 0)) (h : (20 ≤ v3 → Q none L μ) ∧ (¬ 20 ≤ v3 → (0 ≤ v1 ∧ v1 < 4) ∧ (0 ≤ v3 ∧ v3 < 20) ∧ (inI (v3 + 1)) ∧ WA mX4_lay 0 (0, 0) 9 [(2, v0), (0, v1), (9, 0), (0, (v3 + 1))] [] L (up μ ((rf L ((rf L v0 0)) v1)) v3 0) Q)) : WA mX4_lay 0 (0, 0) 9 [(2, v0), (0, v1), (9, 0), (0, v3)] [] L μ Q := by
  refine wa_iload_n 10 dX4_lay_9 rfl rfl ?_
  refine wa_bipush 12 dX4_lay_10 rfl ⟨by decide, by decide⟩ ?_
  refine wa_icmp_ge 15 30 dX4_lay_12 rfl (by decide) (fun q => ?_) (fun q => ?_)
  · replace h := h.1 q
    exact wa_vret dX4_lay_30 rfl h
  · replace h := h.2 q
    refine wa_aload_n 16 dX4_lay_15 rfl rfl ?_
    have e1 : isK L (rf L v0 0) (23, 4) := lay_f hL k0 0 rfl
    refine wa_getR 19 0 dX4_lay_16 rfl wF_X4_11 rfl rfl ⟨k0, isK_pos e1⟩ ?_
    refine wa_iload_n 20 dX4_lay_19 rfl rfl ?_
    obtain ⟨c2, h⟩ := h
    have e3 : isK L (rf L ((rf L v0 0)) v1) (20, 20) := lay_e hL k0 0 rfl c2
    refine wa_aaload 21 23 dX4_lay_20 rfl ⟨by decide, by decide⟩ ⟨okA_of e1 c2, isK_pos e3⟩ ?_
    refine wa_iload_n 22 dX4_lay_21 rfl rfl ?_
    refine wa_iconst 23 dX4_lay_22 rfl (by decide) ?_
    obtain ⟨c4, h⟩ := h
    refine wa_iastore 24 dX4_lay_23 rfl (okA_of e3 c4) ?_
    obtain ⟨c5, h⟩ := h
    refine wa_iinc 27 [(2, v0), (0, v1), (9, 0), (0, (v3 + 1))] dX4_lay_24 rfl rfl rfl c5 rfl ?_
    refine wa_goto 9 dX4_lay_27 (by decide) ?_
    exact h
set_option maxRecDepth 20000 in
theorem t_J6_bitCount_0f7a4 (hL : LayOK L) {v0 : Int}  (h : (inI (v0 - (bAnd ((bUshr v0 1)) 1431655765))) ∧ (inI ((bAnd ((v0 - (bAnd ((bUshr v0 1)) 1431655765))) 858993459) + (bAnd ((bUshr ((v0 - (bAnd ((bUshr v0 1)) 1431655765))) 2)) 858993459))) ∧ (inI (((bAnd ((v0 - (bAnd ((bUshr v0 1)) 1431655765))) 858993459) + (bAnd ((bUshr ((v0 - (bAnd ((bUshr v0 1)) 1431655765))) 2)) 858993459)) + (bUshr (((bAnd ((v0 - (bAnd ((bUshr v0 1)) 1431655765))) 858993459) + (bAnd ((bUshr ((v0 - (bAnd ((bUshr v0 1)) 1431655765))) 2)) 858993459))) 4))) ∧ (inI ((bAnd ((((bAnd ((v0 - (bAnd ((bUshr v0 1)) 1431655765))) 858993459) + (bAnd ((bUshr ((v0 - (bAnd ((bUshr v0 1)) 1431655765))) 2)) 858993459)) + (bUshr (((bAnd ((v0 - (bAnd ((bUshr v0 1)) 1431655765))) 858993459) + (bAnd ((bUshr ((v0 - (bAnd ((bUshr v0 1)) 1431655765))) 2)) 858993459))) 4))) 252645135) + (bUshr ((bAnd ((((bAnd ((v0 - (bAnd ((bUshr v0 1)) 1431655765))) 858993459) + (bAnd ((bUshr ((v0 - (bAnd ((bUshr v0 1)) 1431655765))) 2)) 858993459)) + (bUshr (((bAnd ((v0 - (bAnd ((bUshr v0 1)) 1431655765))) 858993459) + (bAnd ((bUshr ((v0 - (bAnd ((bUshr v0 1)) 1431655765))) 2)) 858993459))) 4))) 252645135)) 8))) ∧ (inI (((bAnd ((((bAnd ((v0 - (bAnd ((bUshr v0 1)) 1431655765))) 858993459) + (bAnd ((bUshr ((v0 - (bAnd ((bUshr v0 1)) 1431655765))) 2)) 858993459)) + (bUshr (((bAnd ((v0 - (bAnd ((bUshr v0 1)) 1431655765))) 858993459) + (bAnd ((bUshr ((v0 - (bAnd ((bUshr v0 1)) 1431655765))) 2)) 858993459))) 4))) 252645135) + (bUshr ((bAnd ((((bAnd ((v0 - (bAnd ((bUshr v0 1)) 1431655765))) 858993459) + (bAnd ((bUshr ((v0 - (bAnd ((bUshr v0 1)) 1431655765))) 2)) 858993459)) + (bUshr (((bAnd ((v0 - (bAnd ((bUshr v0 1)) 1431655765))) 858993459) + (bAnd ((bUshr ((v0 - (bAnd ((bUshr v0 1)) 1431655765))) 2)) 858993459))) 4))) 252645135)) 8)) + (bUshr (((bAnd ((((bAnd ((v0 - (bAnd ((bUshr v0 1)) 1431655765))) 858993459) + (bAnd ((bUshr ((v0 - (bAnd ((bUshr v0 1)) 1431655765))) 2)) 858993459)) + (bUshr (((bAnd ((v0 - (bAnd ((bUshr v0 1)) 1431655765))) 858993459) + (bAnd ((bUshr ((v0 - (bAnd ((bUshr v0 1)) 1431655765))) 2)) 858993459))) 4))) 252645135) + (bUshr ((bAnd ((((bAnd ((v0 - (bAnd ((bUshr v0 1)) 1431655765))) 858993459) + (bAnd ((bUshr ((v0 - (bAnd ((bUshr v0 1)) 1431655765))) 2)) 858993459)) + (bUshr (((bAnd ((v0 - (bAnd ((bUshr v0 1)) 1431655765))) 858993459) + (bAnd ((bUshr ((v0 - (bAnd ((bUshr v0 1)) 1431655765))) 2)) 858993459))) 4))) 252645135)) 8))) 16))) ∧ Q (some (0, (bAnd ((((bAnd ((((bAnd ((v0 - (bAnd ((bUshr v0 1)) 1431655765))) 858993459) + (bAnd ((bUshr ((v0 - (bAnd ((bUshr v0 1)) 1431655765))) 2)) 858993459)) + (bUshr (((bAnd ((v0 - (bAnd ((bUshr v0 1)) 1431655765))) 858993459) + (bAnd ((bUshr ((v0 - (bAnd ((bUshr v0 1)) 1431655765))) 2)) 858993459))) 4))) 252645135) + (bUshr ((bAnd ((((bAnd ((v0 - (bAnd ((bUshr v0 1)) 1431655765))) 858993459) + (bAnd ((bUshr ((v0 - (bAnd ((bUshr v0 1)) 1431655765))) 2)) 858993459)) + (bUshr (((bAnd ((v0 - (bAnd ((bUshr v0 1)) 1431655765))) 858993459) + (bAnd ((bUshr ((v0 - (bAnd ((bUshr v0 1)) 1431655765))) 2)) 858993459))) 4))) 252645135)) 8)) + (bUshr (((bAnd ((((bAnd ((v0 - (bAnd ((bUshr v0 1)) 1431655765))) 858993459) + (bAnd ((bUshr ((v0 - (bAnd ((bUshr v0 1)) 1431655765))) 2)) 858993459)) + (bUshr (((bAnd ((v0 - (bAnd ((bUshr v0 1)) 1431655765))) 858993459) + (bAnd ((bUshr ((v0 - (bAnd ((bUshr v0 1)) 1431655765))) 2)) 858993459))) 4))) 252645135) + (bUshr ((bAnd ((((bAnd ((v0 - (bAnd ((bUshr v0 1)) 1431655765))) 858993459) + (bAnd ((bUshr ((v0 - (bAnd ((bUshr v0 1)) 1431655765))) 2)) 858993459)) + (bUshr (((bAnd ((v0 - (bAnd ((bUshr v0 1)) 1431655765))) 858993459) + (bAnd ((bUshr ((v0 - (bAnd ((bUshr v0 1)) 1431655765))) 2)) 858993459))) 4))) 252645135)) 8))) 16))) 63))) L μ) : TR mJ6_bitCount_0f7a4 0 (0, 0) [(0, v0)] L μ Q := by
  refine TR.of (ls := [(0, v0)]) (by decide) (by simp) rfl (Nat.le_of_ble_eq_true rfl) ?_
  refine wa_iload_n 1 dJ6_bitCount_0f7a4_0 rfl rfl ?_
  refine wa_iload_n 2 dJ6_bitCount_0f7a4_1 rfl rfl ?_
  refine wa_iconst 3 dJ6_bitCount_0f7a4_2 rfl (by decide) ?_
  refine wa_iushr 4 dJ6_bitCount_0f7a4_3 rfl ?_
  refine wa_ldcw 7 1431655765 dJ6_bitCount_0f7a4_4 rfl wK_J6_265 ⟨rfl, by decide⟩ ?_
  refine wa_iand 8 dJ6_bitCount_0f7a4_7 rfl ?_
  obtain ⟨c1, h⟩ := h
  refine wa_isub 9 dJ6_bitCount_0f7a4_8 rfl c1 ?_
  refine wa_istore_n 10 [(0, (v0 - (bAnd ((bUshr v0 1)) 1431655765)))] dJ6_bitCount_0f7a4_9 rfl rfl rfl ?_
  refine wa_iload_n 11 dJ6_bitCount_0f7a4_10 rfl rfl ?_
  refine wa_ldcw 14 858993459 dJ6_bitCount_0f7a4_11 rfl wK_J6_266 ⟨rfl, by decide⟩ ?_
  refine wa_iand 15 dJ6_bitCount_0f7a4_14 rfl ?_
  refine wa_iload_n 16 dJ6_bitCount_0f7a4_15 rfl rfl ?_
  refine wa_iconst 17 dJ6_bitCount_0f7a4_16 rfl (by decide) ?_
  refine wa_iushr 18 dJ6_bitCount_0f7a4_17 rfl ?_
  refine wa_ldcw 21 858993459 dJ6_bitCount_0f7a4_18 rfl wK_J6_266 ⟨rfl, by decide⟩ ?_
  refine wa_iand 22 dJ6_bitCount_0f7a4_21 rfl ?_
  obtain ⟨c2, h⟩ := h
  refine wa_iadd 23 dJ6_bitCount_0f7a4_22 rfl c2 ?_
  refine wa_istore_n 24 [(0, ((bAnd ((v0 - (bAnd ((bUshr v0 1)) 1431655765))) 858993459) + (bAnd ((bUshr ((v0 - (bAnd ((bUshr v0 1)) 1431655765))) 2)) 858993459)))] dJ6_bitCount_0f7a4_23 rfl rfl rfl ?_
  refine wa_iload_n 25 dJ6_bitCount_0f7a4_24 rfl rfl ?_
  refine wa_iload_n 26 dJ6_bitCount_0f7a4_25 rfl rfl ?_
  refine wa_iconst 27 dJ6_bitCount_0f7a4_26 rfl (by decide) ?_
  refine wa_iushr 28 dJ6_bitCount_0f7a4_27 rfl ?_
  obtain ⟨c3, h⟩ := h
  refine wa_iadd 29 dJ6_bitCount_0f7a4_28 rfl c3 ?_
  refine wa_ldcw 32 252645135 dJ6_bitCount_0f7a4_29 rfl wK_J6_267 ⟨rfl, by decide⟩ ?_
  refine wa_iand 33 dJ6_bitCount_0f7a4_32 rfl ?_
  refine wa_istore_n 34 [(0, (bAnd ((((bAnd ((v0 - (bAnd ((bUshr v0 1)) 1431655765))) 858993459) + (bAnd ((bUshr ((v0 - (bAnd ((bUshr v0 1)) 1431655765))) 2)) 858993459)) + (bUshr (((bAnd ((v0 - (bAnd ((bUshr v0 1)) 1431655765))) 858993459) + (bAnd ((bUshr ((v0 - (bAnd ((bUshr v0 1)) 1431655765))) 2)) 858993459))) 4))) 252645135))] dJ6_bitCount_0f7a4_33 rfl rfl rfl ?_
  refine wa_iload_n 35 dJ6_bitCount_0f7a4_34 rfl rfl ?_
  refine wa_iload_n 36 dJ6_bitCount_0f7a4_35 rfl rfl ?_
  refine wa_bipush 38 dJ6_bitCount_0f7a4_36 rfl ⟨by decide, by decide⟩ ?_
  refine wa_iushr 39 dJ6_bitCount_0f7a4_38 rfl ?_
  obtain ⟨c4, h⟩ := h
  refine wa_iadd 40 dJ6_bitCount_0f7a4_39 rfl c4 ?_
  refine wa_istore_n 41 [(0, ((bAnd ((((bAnd ((v0 - (bAnd ((bUshr v0 1)) 1431655765))) 858993459) + (bAnd ((bUshr ((v0 - (bAnd ((bUshr v0 1)) 1431655765))) 2)) 858993459)) + (bUshr (((bAnd ((v0 - (bAnd ((bUshr v0 1)) 1431655765))) 858993459) + (bAnd ((bUshr ((v0 - (bAnd ((bUshr v0 1)) 1431655765))) 2)) 858993459))) 4))) 252645135) + (bUshr ((bAnd ((((bAnd ((v0 - (bAnd ((bUshr v0 1)) 1431655765))) 858993459) + (bAnd ((bUshr ((v0 - (bAnd ((bUshr v0 1)) 1431655765))) 2)) 858993459)) + (bUshr (((bAnd ((v0 - (bAnd ((bUshr v0 1)) 1431655765))) 858993459) + (bAnd ((bUshr ((v0 - (bAnd ((bUshr v0 1)) 1431655765))) 2)) 858993459))) 4))) 252645135)) 8)))] dJ6_bitCount_0f7a4_40 rfl rfl rfl ?_
  refine wa_iload_n 42 dJ6_bitCount_0f7a4_41 rfl rfl ?_
  refine wa_iload_n 43 dJ6_bitCount_0f7a4_42 rfl rfl ?_
  refine wa_bipush 45 dJ6_bitCount_0f7a4_43 rfl ⟨by decide, by decide⟩ ?_
  refine wa_iushr 46 dJ6_bitCount_0f7a4_45 rfl ?_
  obtain ⟨c5, h⟩ := h
  refine wa_iadd 47 dJ6_bitCount_0f7a4_46 rfl c5 ?_
  refine wa_istore_n 48 [(0, (((bAnd ((((bAnd ((v0 - (bAnd ((bUshr v0 1)) 1431655765))) 858993459) + (bAnd ((bUshr ((v0 - (bAnd ((bUshr v0 1)) 1431655765))) 2)) 858993459)) + (bUshr (((bAnd ((v0 - (bAnd ((bUshr v0 1)) 1431655765))) 858993459) + (bAnd ((bUshr ((v0 - (bAnd ((bUshr v0 1)) 1431655765))) 2)) 858993459))) 4))) 252645135) + (bUshr ((bAnd ((((bAnd ((v0 - (bAnd ((bUshr v0 1)) 1431655765))) 858993459) + (bAnd ((bUshr ((v0 - (bAnd ((bUshr v0 1)) 1431655765))) 2)) 858993459)) + (bUshr (((bAnd ((v0 - (bAnd ((bUshr v0 1)) 1431655765))) 858993459) + (bAnd ((bUshr ((v0 - (bAnd ((bUshr v0 1)) 1431655765))) 2)) 858993459))) 4))) 252645135)) 8)) + (bUshr (((bAnd ((((bAnd ((v0 - (bAnd ((bUshr v0 1)) 1431655765))) 858993459) + (bAnd ((bUshr ((v0 - (bAnd ((bUshr v0 1)) 1431655765))) 2)) 858993459)) + (bUshr (((bAnd ((v0 - (bAnd ((bUshr v0 1)) 1431655765))) 858993459) + (bAnd ((bUshr ((v0 - (bAnd ((bUshr v0 1)) 1431655765))) 2)) 858993459))) 4))) 252645135) + (bUshr ((bAnd ((((bAnd ((v0 - (bAnd ((bUshr v0 1)) 1431655765))) 858993459) + (bAnd ((bUshr ((v0 - (bAnd ((bUshr v0 1)) 1431655765))) 2)) 858993459)) + (bUshr (((bAnd ((v0 - (bAnd ((bUshr v0 1)) 1431655765))) 858993459) + (bAnd ((bUshr ((v0 - (bAnd ((bUshr v0 1)) 1431655765))) 2)) 858993459))) 4))) 252645135)) 8))) 16)))] dJ6_bitCount_0f7a4_47 rfl rfl rfl ?_
  refine wa_iload_n 49 dJ6_bitCount_0f7a4_48 rfl rfl ?_
  refine wa_bipush 51 dJ6_bitCount_0f7a4_49 rfl ⟨by decide, by decide⟩ ?_
  refine wa_iand 52 dJ6_bitCount_0f7a4_51 rfl ?_
  exact wa_iret dJ6_bitCount_0f7a4_52 rfl h
end
