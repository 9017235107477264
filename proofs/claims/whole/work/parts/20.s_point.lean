/-! Point, Span, Event: each method from its entry and from its loops' heads: what must hold, and the run (laid by wip/whole/gen/vc.py) -/
section
variable {L : Lay} {μ : Mem} {Q : Option AV → Lay → Mem → Prop}
set_option maxRecDepth 20000 in
theorem t_X3_copy (hL : LayOK L) {v0 v1 : Int} (k0 : isK L v0 (3, 0)) (k1 : isK L v1 (3, 0)) (h : Q none L (up (up μ v0 0 ((μ v1 0))) v0 1 (((up μ v0 0 ((μ v1 0))) v1 1)))) : TR mX3_copy 0 (0, 0) [(2, v0), (2, v1)] L μ Q := by
  refine TR.of (ls := [(2, v0), (2, v1)]) (by decide) (by simp) rfl (Nat.le_of_ble_eq_true rfl) ?_
  refine wa_aload_n 1 dX3_copy_0 rfl rfl ?_
  refine wa_aload_n 2 dX3_copy_1 rfl rfl ?_
  refine wa_getL 5 0 dX3_copy_2 rfl wF_X3_19 rfl rfl k1 ?_
  refine wa_putL 8 0 dX3_copy_5 rfl wF_X3_19 rfl rfl k0 ?_
  refine wa_aload_n 9 dX3_copy_8 rfl rfl ?_
  refine wa_aload_n 10 dX3_copy_9 rfl rfl ?_
  refine wa_getL 13 1 dX3_copy_10 rfl wF_X3_7 rfl rfl k1 ?_
  refine wa_putL 16 1 dX3_copy_13 rfl wF_X3_7 rfl rfl k0 ?_
  exact wa_vret dX3_copy_16 rfl h
set_option maxRecDepth 20000 in
theorem t_X3_isAt (hL : LayOK L) {v0 v1 v3 : Int} (k0 : isK L v0 (3, 0)) (h : (¬ (μ v0 0) = v1 → Q (some (0, 0)) L μ) ∧ ((μ v0 0) = v1 → (¬ (μ v0 1) = v3 → Q (some (0, 0)) L μ) ∧ ((μ v0 1) = v3 → Q (some (0, 1)) L μ))) : TR mX3_isAt 0 (0, 0) [(2, v0), (1, v1), (1, v3)] L μ Q := by
  refine TR.of (ls := [(2, v0), (1, v1), (9, 0), (1, v3), (9, 0)]) (by decide) (by simp) rfl (Nat.le_of_ble_eq_true rfl) ?_
  refine wa_aload_n 1 dX3_isAt_0 rfl rfl ?_
  refine wa_getL 4 0 dX3_isAt_1 rfl wF_X3_19 rfl rfl k0 ?_
  refine wa_lload_n 5 dX3_isAt_4 rfl rfl ?_
  refine wa_lc_ne 9 22 dX3_isAt_5 dX3_isAt_6 rfl (by decide) (fun q => ?_) (fun q => ?_)
  · replace h := h.1 q
    refine wa_iconst 23 dX3_isAt_22 rfl (by decide) ?_
    exact wa_zret dX3_isAt_23 rfl (Or.inl rfl) h
  · replace h := h.2 q
    refine wa_aload_n 10 dX3_isAt_9 rfl rfl ?_
    refine wa_getL 13 1 dX3_isAt_10 rfl wF_X3_7 rfl rfl k0 ?_
    refine wa_lload_n 14 dX3_isAt_13 rfl rfl ?_
    refine wa_lc_ne 18 22 dX3_isAt_14 dX3_isAt_15 rfl (by decide) (fun q => ?_) (fun q => ?_)
    · replace h := h.1 q
      refine wa_iconst 23 dX3_isAt_22 rfl (by decide) ?_
      exact wa_zret dX3_isAt_23 rfl (Or.inl rfl) h
    · replace h := h.2 q
      refine wa_iconst 19 dX3_isAt_18 rfl (by decide) ?_
      refine wa_goto 23 dX3_isAt_19 (by decide) ?_
      exact wa_zret dX3_isAt_23 rfl (Or.inr rfl) h
set_option maxRecDepth 20000 in
theorem t_X3_isBelow (hL : LayOK L) {v0 v1 : Int} (k0 : isK L v0 (3, 0)) (k1 : isK L v1 (3, 0)) (h : (0 ≤ (μ v0 0) ∧ 0 < (max 1 ((μ v0 1)))) ∧ (0 ≤ (μ v1 0) ∧ 0 < (max 1 ((μ v1 1)))) ∧ (((μ v0 0) / (max 1 ((μ v0 1)))) = ((μ v1 0) / (max 1 ((μ v1 1)))) → (inL (((μ v0 0) % (max 1 ((μ v0 1)))) * (max 1 ((μ v1 1))))) ∧ (inL (((μ v1 0) % (max 1 ((μ v1 1)))) * (max 1 ((μ v0 1))))) ∧ ((((μ v1 0) % (max 1 ((μ v1 1)))) * (max 1 ((μ v0 1)))) ≤ (((μ v0 0) % (max 1 ((μ v0 1)))) * (max 1 ((μ v1 1)))) → Q (some (0, 0)) L μ) ∧ (¬ (((μ v1 0) % (max 1 ((μ v1 1)))) * (max 1 ((μ v0 1)))) ≤ (((μ v0 0) % (max 1 ((μ v0 1)))) * (max 1 ((μ v1 1)))) → Q (some (0, 1)) L μ)) ∧ (¬ ((μ v0 0) / (max 1 ((μ v0 1)))) = ((μ v1 0) / (max 1 ((μ v1 1)))) → (((μ v1 0) / (max 1 ((μ v1 1)))) ≤ ((μ v0 0) / (max 1 ((μ v0 1)))) → Q (some (0, 0)) L μ) ∧ (¬ ((μ v1 0) / (max 1 ((μ v1 1)))) ≤ ((μ v0 0) / (max 1 ((μ v0 1)))) → Q (some (0, 1)) L μ))) : TR mX3_isBelow 1 (0, 0) [(2, v0), (2, v1)] L μ Q := by
  refine TR.of (ls := [(2, v0), (2, v1), (9, 0), (9, 0), (9, 0), (9, 0)]) (by decide) (by simp) rfl (Nat.le_of_ble_eq_true rfl) ?_
  refine wa_lconst 1 1 dX3_isBelow_0 rfl ⟨rfl, by decide⟩ ?_
  refine wa_aload_n 2 dX3_isBelow_1 rfl rfl ?_
  refine wa_getL 5 1 dX3_isBelow_2 rfl wF_X3_7 rfl rfl k0 ?_
  refine wa_lmax 8 dX3_isBelow_5 rfl wM_X3_13 (Nat.le_of_ble_eq_true rfl) (by decide) ?_
  refine wa_lstore_n 9 [(2, v0), (2, v1), (1, (max 1 ((μ v0 1)))), (9, 0), (9, 0), (9, 0)] dX3_isBelow_8 rfl rfl rfl ?_
  refine wa_lconst 10 1 dX3_isBelow_9 rfl ⟨rfl, by decide⟩ ?_
  refine wa_aload_n 11 dX3_isBelow_10 rfl rfl ?_
  refine wa_getL 14 1 dX3_isBelow_11 rfl wF_X3_7 rfl rfl k1 ?_
  refine wa_lmax 17 dX3_isBelow_14 rfl wM_X3_13 (Nat.le_of_ble_eq_true rfl) (by decide) ?_
  refine wa_lstore 19 [(2, v0), (2, v1), (1, (max 1 ((μ v0 1)))), (9, 0), (1, (max 1 ((μ v1 1)))), (9, 0)] dX3_isBelow_17 rfl rfl rfl ?_
  refine wa_aload_n 20 dX3_isBelow_19 rfl rfl ?_
  refine wa_getL 23 0 dX3_isBelow_20 rfl wF_X3_19 rfl rfl k0 ?_
  refine wa_lload_n 24 dX3_isBelow_23 rfl rfl ?_
  obtain ⟨c1, h⟩ := h
  refine wa_ldivE 25 dX3_isBelow_24 rfl c1 ?_
  refine wa_aload_n 26 dX3_isBelow_25 rfl rfl ?_
  refine wa_getL 29 0 dX3_isBelow_26 rfl wF_X3_19 rfl rfl k1 ?_
  refine wa_lload 31 dX3_isBelow_29 rfl rfl ?_
  obtain ⟨c2, h⟩ := h
  refine wa_ldivE 32 dX3_isBelow_31 rfl c2 ?_
  refine wa_lc_eq 36 59 dX3_isBelow_32 dX3_isBelow_33 rfl (by decide) (fun q => ?_) (fun q => ?_)
  · replace h := h.1 q
    refine wa_aload_n 60 dX3_isBelow_59 rfl rfl ?_
    refine wa_getL 63 0 dX3_isBelow_60 rfl wF_X3_19 rfl rfl k0 ?_
    refine wa_lload_n 64 dX3_isBelow_63 rfl rfl ?_
    refine wa_lremE 65 dX3_isBelow_64 rfl c1 ?_
    refine wa_lload 67 dX3_isBelow_65 rfl rfl ?_
    obtain ⟨c3, h⟩ := h
    refine wa_lmul 68 dX3_isBelow_67 rfl c3 ?_
    refine wa_aload_n 69 dX3_isBelow_68 rfl rfl ?_
    refine wa_getL 72 0 dX3_isBelow_69 rfl wF_X3_19 rfl rfl k1 ?_
    refine wa_lload 74 dX3_isBelow_72 rfl rfl ?_
    refine wa_lremE 75 dX3_isBelow_74 rfl c2 ?_
    refine wa_lload_n 76 dX3_isBelow_75 rfl rfl ?_
    obtain ⟨c4, h⟩ := h
    refine wa_lmul 77 dX3_isBelow_76 rfl c4 ?_
    refine wa_lc_ge 81 85 dX3_isBelow_77 dX3_isBelow_78 rfl (by decide) (fun q => ?_) (fun q => ?_)
    · replace h := h.1 q
      refine wa_iconst 86 dX3_isBelow_85 rfl (by decide) ?_
      exact wa_zret dX3_isBelow_86 rfl (Or.inl rfl) h
    · replace h := h.2 q
      refine wa_iconst 82 dX3_isBelow_81 rfl (by decide) ?_
      refine wa_goto 86 dX3_isBelow_82 (by decide) ?_
      exact wa_zret dX3_isBelow_86 rfl (Or.inr rfl) h
  · replace h := h.2 q
    refine wa_aload_n 37 dX3_isBelow_36 rfl rfl ?_
    refine wa_getL 40 0 dX3_isBelow_37 rfl wF_X3_19 rfl rfl k0 ?_
    refine wa_lload_n 41 dX3_isBelow_40 rfl rfl ?_
    refine wa_ldivE 42 dX3_isBelow_41 rfl c1 ?_
    refine wa_aload_n 43 dX3_isBelow_42 rfl rfl ?_
    refine wa_getL 46 0 dX3_isBelow_43 rfl wF_X3_19 rfl rfl k1 ?_
    refine wa_lload 48 dX3_isBelow_46 rfl rfl ?_
    refine wa_ldivE 49 dX3_isBelow_48 rfl c2 ?_
    refine wa_lc_ge 53 57 dX3_isBelow_49 dX3_isBelow_50 rfl (by decide) (fun q => ?_) (fun q => ?_)
    · replace h := h.1 q
      refine wa_iconst 58 dX3_isBelow_57 rfl (by decide) ?_
      exact wa_zret dX3_isBelow_58 rfl (Or.inl rfl) h
    · replace h := h.2 q
      refine wa_iconst 54 dX3_isBelow_53 rfl (by decide) ?_
      refine wa_goto 58 dX3_isBelow_54 (by decide) ?_
      exact wa_zret dX3_isBelow_58 rfl (Or.inr rfl) h
set_option maxRecDepth 20000 in
theorem t_X3_part (hL : LayOK L) {v0 v1 : Int} (k0 : isK L v0 (3, 0)) (h : (¬ v1 = 0 → Q (some (1, (μ v0 1))) L μ) ∧ (v1 = 0 → Q (some (1, (μ v0 0))) L μ)) : TR mX3_part 0 (0, 0) [(2, v0), (0, v1)] L μ Q := by
  refine TR.of (ls := [(2, v0), (0, v1)]) (by decide) (by simp) rfl (Nat.le_of_ble_eq_true rfl) ?_
  refine wa_iload_n 1 dX3_part_0 rfl rfl ?_
  refine wa_if_ne 4 11 dX3_part_1 rfl (by decide) (fun q => ?_) (fun q => ?_)
  · replace h := h.1 q
    refine wa_aload_n 12 dX3_part_11 rfl rfl ?_
    refine wa_getL 15 1 dX3_part_12 rfl wF_X3_7 rfl rfl k0 ?_
    exact wa_lret dX3_part_15 rfl h
  · replace h := h.2 q
    refine wa_aload_n 5 dX3_part_4 rfl rfl ?_
    refine wa_getL 8 0 dX3_part_5 rfl wF_X3_19 rfl rfl k0 ?_
    refine wa_goto 15 dX3_part_8 (by decide) ?_
    exact wa_lret dX3_part_15 rfl h
set_option maxRecDepth 20000 in
theorem t_X3_parts (hL : LayOK L) {v0 v1 : Int} (k0 : isK L v0 (3, 0)) (h : (1 ≤ (μ v0 1) → (0 ≤ v1 ∧ 0 < (μ v0 1)) ∧ (inL ((μ v0 0) * (v1 / (μ v0 1)))) ∧ Q (some (1, ((μ v0 0) * (v1 / (μ v0 1))))) L μ) ∧ (¬ 1 ≤ (μ v0 1) → Q (some (1, 0)) L μ)) : TR mX3_parts 0 (0, 0) [(2, v0), (1, v1)] L μ Q := by
  refine TR.of (ls := [(2, v0), (1, v1), (9, 0)]) (by decide) (by simp) rfl (Nat.le_of_ble_eq_true rfl) ?_
  refine wa_aload_n 1 dX3_parts_0 rfl rfl ?_
  refine wa_getL 4 1 dX3_parts_1 rfl wF_X3_7 rfl rfl k0 ?_
  refine wa_lconst 5 1 dX3_parts_4 rfl ⟨rfl, by decide⟩ ?_
  refine wa_lc_ge 9 13 dX3_parts_5 dX3_parts_6 rfl (by decide) (fun q => ?_) (fun q => ?_)
  · replace h := h.1 q
    refine wa_aload_n 14 dX3_parts_13 rfl rfl ?_
    refine wa_getL 17 0 dX3_parts_14 rfl wF_X3_19 rfl rfl k0 ?_
    refine wa_lload_n 18 dX3_parts_17 rfl rfl ?_
    refine wa_aload_n 19 dX3_parts_18 rfl rfl ?_
    refine wa_getL 22 1 dX3_parts_19 rfl wF_X3_7 rfl rfl k0 ?_
    obtain ⟨c1, h⟩ := h
    refine wa_ldivE 23 dX3_parts_22 rfl c1 ?_
    obtain ⟨c2, h⟩ := h
    refine wa_lmul 24 dX3_parts_23 rfl c2 ?_
    exact wa_lret dX3_parts_24 rfl h
  · replace h := h.2 q
    refine wa_lconst 10 0 dX3_parts_9 rfl ⟨rfl, by decide⟩ ?_
    refine wa_goto 24 dX3_parts_10 (by decide) ?_
    exact wa_lret dX3_parts_24 rfl h
set_option maxRecDepth 20000 in
theorem t_X3_put (hL : LayOK L) {v0 v1 v3 : Int} (k0 : isK L v0 (3, 0)) (h : WA mX3_put 1 (0, 0) 9 [(2, v0), (1, v1), (9, 0), (1, v3), (9, 0), (1, v1), (9, 0), (1, v3), (9, 0), (0, 0), (9, 0), (9, 0)] [] L μ Q) : TR mX3_put 1 (0, 0) [(2, v0), (1, v1), (1, v3)] L μ Q := by
  refine TR.of (ls := [(2, v0), (1, v1), (9, 0), (1, v3), (9, 0), (9, 0), (9, 0), (9, 0), (9, 0), (9, 0), (9, 0), (9, 0)]) (by decide) (by simp) rfl (Nat.le_of_ble_eq_true rfl) ?_
  refine wa_lload_n 1 dX3_put_0 rfl rfl ?_
  refine wa_lstore 3 [(2, v0), (1, v1), (9, 0), (1, v3), (9, 0), (1, v1), (9, 0), (9, 0), (9, 0), (9, 0), (9, 0), (9, 0)] dX3_put_1 rfl rfl rfl ?_
  refine wa_lload_n 4 dX3_put_3 rfl rfl ?_
  refine wa_lstore 6 [(2, v0), (1, v1), (9, 0), (1, v3), (9, 0), (1, v1), (9, 0), (1, v3), (9, 0), (9, 0), (9, 0), (9, 0)] dX3_put_4 rfl rfl rfl ?_
  refine wa_iconst 7 dX3_put_6 rfl (by decide) ?_
  refine wa_istore 9 [(2, v0), (1, v1), (9, 0), (1, v3), (9, 0), (1, v1), (9, 0), (1, v3), (9, 0), (0, 0), (9, 0), (9, 0)] dX3_put_7 rfl rfl rfl ?_
  exact h
set_option maxRecDepth 20000 in
theorem s_X3_put_9 (hL : LayOK L) {v0 v1 v3 v5 v7 v9 : Int} (k0 : isK L v0 (3, 0)) (h : (100 ≤ v9 → (0 ≤ v1 ∧ 0 < (max 1 v5)) ∧ (0 ≤ v3 ∧ 0 < (max 1 v5)) ∧ Q none L (up (up μ v0 0 ((v1 / (max 1 v5)))) v0 1 ((v3 / (max 1 v5))))) ∧ (¬ 100 ≤ v9 → (v7 ≤ 0 → (0 ≤ v1 ∧ 0 < (max 1 v5)) ∧ (0 ≤ v3 ∧ 0 < (max 1 v5)) ∧ Q none L (up (up μ v0 0 ((v1 / (max 1 v5)))) v0 1 ((v3 / (max 1 v5))))) ∧ (¬ v7 ≤ 0 → (0 ≤ v5 ∧ 0 < v7) ∧ (inI (v9 + 1)) ∧ WA mX3_put 1 (0, 0) 9 [(2, v0), (1, v1), (9, 0), (1, v3), (9, 0), (1, v7), (9, 0), (1, (v5 % v7)), (9, 0), (0, (v9 + 1)), (9, 0), (9, 0)] [] L μ Q))) : WA mX3_put 1 (0, 0) 9 [(2, v0), (1, v1), (9, 0), (1, v3), (9, 0), (1, v5), (9, 0), (1, v7), (9, 0), (0, v9), (9, 0), (9, 0)] [] L μ Q := by
  refine wa_iload 11 dX3_put_9 rfl rfl ?_
  refine wa_bipush 13 dX3_put_11 rfl ⟨by decide, by decide⟩ ?_
  refine wa_icmp_ge 16 44 dX3_put_13 rfl (by decide) (fun q => ?_) (fun q => ?_)
  · replace h := h.1 q
    refine wa_lconst 45 1 dX3_put_44 rfl ⟨rfl, by decide⟩ ?_
    refine wa_lload 47 dX3_put_45 rfl rfl ?_
    refine wa_lmax 50 dX3_put_47 rfl wM_X3_13 (Nat.le_of_ble_eq_true rfl) (by decide) ?_
    refine wa_lstore 52 [(2, v0), (1, v1), (9, 0), (1, v3), (9, 0), (1, (max 1 v5)), (9, 0), (1, v7), (9, 0), (0, v9), (9, 0), (9, 0)] dX3_put_50 rfl rfl rfl ?_
    refine wa_aload_n 53 dX3_put_52 rfl rfl ?_
    refine wa_lload_n 54 dX3_put_53 rfl rfl ?_
    refine wa_lload 56 dX3_put_54 rfl rfl ?_
    obtain ⟨c1, h⟩ := h
    refine wa_ldivE 57 dX3_put_56 rfl c1 ?_
    refine wa_putL 60 0 dX3_put_57 rfl wF_X3_19 rfl rfl k0 ?_
    refine wa_aload_n 61 dX3_put_60 rfl rfl ?_
    refine wa_lload_n 62 dX3_put_61 rfl rfl ?_
    refine wa_lload 64 dX3_put_62 rfl rfl ?_
    obtain ⟨c2, h⟩ := h
    refine wa_ldivE 65 dX3_put_64 rfl c2 ?_
    refine wa_putL 68 1 dX3_put_65 rfl wF_X3_7 rfl rfl k0 ?_
    exact wa_vret dX3_put_68 rfl h
  · replace h := h.2 q
    refine wa_lload 18 dX3_put_16 rfl rfl ?_
    refine wa_lconst 19 0 dX3_put_18 rfl ⟨rfl, by decide⟩ ?_
    refine wa_lc_le 23 44 dX3_put_19 dX3_put_20 rfl (by decide) (fun q => ?_) (fun q => ?_)
    · replace h := h.1 q
      refine wa_lconst 45 1 dX3_put_44 rfl ⟨rfl, by decide⟩ ?_
      refine wa_lload 47 dX3_put_45 rfl rfl ?_
      refine wa_lmax 50 dX3_put_47 rfl wM_X3_13 (Nat.le_of_ble_eq_true rfl) (by decide) ?_
      refine wa_lstore 52 [(2, v0), (1, v1), (9, 0), (1, v3), (9, 0), (1, (max 1 v5)), (9, 0), (1, v7), (9, 0), (0, v9), (9, 0), (9, 0)] dX3_put_50 rfl rfl rfl ?_
      refine wa_aload_n 53 dX3_put_52 rfl rfl ?_
      refine wa_lload_n 54 dX3_put_53 rfl rfl ?_
      refine wa_lload 56 dX3_put_54 rfl rfl ?_
      obtain ⟨c3, h⟩ := h
      refine wa_ldivE 57 dX3_put_56 rfl c3 ?_
      refine wa_putL 60 0 dX3_put_57 rfl wF_X3_19 rfl rfl k0 ?_
      refine wa_aload_n 61 dX3_put_60 rfl rfl ?_
      refine wa_lload_n 62 dX3_put_61 rfl rfl ?_
      refine wa_lload 64 dX3_put_62 rfl rfl ?_
      obtain ⟨c4, h⟩ := h
      refine wa_ldivE 65 dX3_put_64 rfl c4 ?_
      refine wa_putL 68 1 dX3_put_65 rfl wF_X3_7 rfl rfl k0 ?_
      exact wa_vret dX3_put_68 rfl h
    · replace h := h.2 q
      refine wa_lload 25 dX3_put_23 rfl rfl ?_
      refine wa_lload 27 dX3_put_25 rfl rfl ?_
      obtain ⟨c5, h⟩ := h
      refine wa_lremE 28 dX3_put_27 rfl c5 ?_
      refine wa_lstore 30 [(2, v0), (1, v1), (9, 0), (1, v3), (9, 0), (1, v5), (9, 0), (1, v7), (9, 0), (0, v9), (1, (v5 % v7)), (9, 0)] dX3_put_28 rfl rfl rfl ?_
      refine wa_lload 32 dX3_put_30 rfl rfl ?_
      refine wa_lstore 34 [(2, v0), (1, v1), (9, 0), (1, v3), (9, 0), (1, v7), (9, 0), (1, v7), (9, 0), (0, v9), (1, (v5 % v7)), (9, 0)] dX3_put_32 rfl rfl rfl ?_
      refine wa_lload 36 dX3_put_34 rfl rfl ?_
      refine wa_lstore 38 [(2, v0), (1, v1), (9, 0), (1, v3), (9, 0), (1, v7), (9, 0), (1, (v5 % v7)), (9, 0), (0, v9), (1, (v5 % v7)), (9, 0)] dX3_put_36 rfl rfl rfl ?_
      obtain ⟨c6, h⟩ := h
      refine wa_iinc 41 [(2, v0), (1, v1), (9, 0), (1, v3), (9, 0), (1, v7), (9, 0), (1, (v5 % v7)), (9, 0), (0, (v9 + 1)), (1, (v5 % v7)), (9, 0)] dX3_put_38 rfl rfl rfl c6 rfl ?_
      refine wa_goto 9 dX3_put_41 (by decide) ?_
      exact wa_weak [(2, v0), (1, v1), (9, 0), (1, v3), (9, 0), (1, v7), (9, 0), (1, (v5 % v7)), (9, 0), (0, (v9 + 1)), (9, 0), (9, 0)] ⟨Or.inl rfl, Or.inl rfl, Or.inl rfl, Or.inl rfl, Or.inl rfl, Or.inl rfl, Or.inl rfl, Or.inl rfl, Or.inl rfl, Or.inl rfl, Or.inr rfl, Or.inl rfl, trivial⟩ h
set_option maxRecDepth 20000 in
theorem t_X7_copy (hL : LayOK L) {v0 v1 : Int} (k0 : isK L v0 (7, 0)) (k1 : isK L v1 (7, 0)) (h : TR mX7_put 1 (0, 0) [(2, v0), (2, (rf L v1 0)), (2, (rf L v1 1))] L μ (fun r3 L4 μ5 => r3 = none ∧ L = L4 ∧ Q none L μ5)) : TR mX7_copy 2 (0, 0) [(2, v0), (2, v1)] L μ Q := by
  refine TR.of (ls := [(2, v0), (2, v1)]) (by decide) (by simp) rfl (Nat.le_of_ble_eq_true rfl) ?_
  refine wa_aload_n 1 dX7_copy_0 rfl rfl ?_
  refine wa_aload_n 2 dX7_copy_1 rfl rfl ?_
  have e1 : isK L (rf L v1 0) (3, 0) := lay_f hL k1 0 rfl
  refine wa_getR 5 0 dX7_copy_2 rfl wF_X7_10 rfl rfl ⟨k1, isK_pos e1⟩ ?_
  refine wa_aload_n 6 dX7_copy_5 rfl rfl ?_
  have e2 : isK L (rf L v1 1) (3, 0) := lay_f hL k1 1 rfl
  refine wa_getR 9 1 dX7_copy_6 rfl wF_X7_16 rfl rfl ⟨k1, isK_pos e2⟩ ?_
  refine wa_callV 12 1 2 7 (av := [(2, (rf L v1 0)), (2, (rf L v1 1))]) (rest := []) (k1 := (0, 0)) (k2 := (0, 0)) cvX7_put dX7_copy_9 rfl wM_X7_23 ⟨rfl, by decide, rfl, Nat.le_of_ble_eq_true rfl, by decide, Nat.le_of_ble_eq_true rfl, rfl, rfl⟩ rfl k0 (TR.mono h (fun r3 L4 μ5 h => ?_))
  obtain ⟨rfl, rfl, h⟩ := h
  show WA mX7_copy 2 (0, 0) 12 [(2, v0), (2, v1)] [] L μ5 Q
  exact wa_vret dX7_copy_12 rfl h
set_option maxRecDepth 20000 in
theorem t_X7_isEmpty (hL : LayOK L) {v0 : Int} (k0 : isK L v0 (7, 0)) (h : TR mX3_isBelow 1 (0, 0) [(2, (rf L v0 0)), (2, (rf L v0 1))] L μ (fun r3 L4 μ5 => ∃ w6, r3 = some (0, w6) ∧ L = L4 ∧ (¬ w6 = 0 → Q (some (0, 0)) L μ5) ∧ (w6 = 0 → Q (some (0, 1)) L μ5))) : TR mX7_isEmpty 2 (0, 0) [(2, v0)] L μ Q := by
  refine TR.of (ls := [(2, v0)]) (by decide) (by simp) rfl (Nat.le_of_ble_eq_true rfl) ?_
  refine wa_aload_n 1 dX7_isEmpty_0 rfl rfl ?_
  have e1 : isK L (rf L v0 0) (3, 0) := lay_f hL k0 0 rfl
  refine wa_getR 4 0 dX7_isEmpty_1 rfl wF_X7_10 rfl rfl ⟨k0, isK_pos e1⟩ ?_
  refine wa_aload_n 5 dX7_isEmpty_4 rfl rfl ?_
  have e2 : isK L (rf L v0 1) (3, 0) := lay_f hL k0 1 rfl
  refine wa_getR 8 1 dX7_isEmpty_5 rfl wF_X7_16 rfl rfl ⟨k0, isK_pos e2⟩ ?_
  refine wa_callV 11 1 1 3 (av := [(2, (rf L v0 1))]) (rest := []) (k1 := (0, 0)) (k2 := (0, 0)) cvX3_isBelow dX7_isEmpty_8 rfl wM_X7_27 ⟨rfl, by decide, rfl, Nat.le_of_ble_eq_true rfl, by decide, Nat.le_of_ble_eq_true rfl, rfl, rfl⟩ rfl e1 (TR.mono h (fun r3 L4 μ5 h => ?_))
  obtain ⟨w6, rfl, rfl, h⟩ := h
  show WA mX7_isEmpty 2 (0, 0) 11 [(2, v0)] [(0, w6)] L μ5 Q
  refine wa_if_ne 14 18 dX7_isEmpty_11 rfl (by decide) (fun q => ?_) (fun q => ?_)
  · replace h := h.1 q
    refine wa_iconst 19 dX7_isEmpty_18 rfl (by decide) ?_
    exact wa_zret dX7_isEmpty_19 rfl (Or.inl rfl) h
  · replace h := h.2 q
    refine wa_iconst 15 dX7_isEmpty_14 rfl (by decide) ?_
    refine wa_goto 19 dX7_isEmpty_15 (by decide) ?_
    exact wa_zret dX7_isEmpty_19 rfl (Or.inr rfl) h
set_option maxRecDepth 20000 in
theorem t_X7_part (hL : LayOK L) {v0 v1 : Int} (k0 : isK L v0 (7, 0)) (h : (2 ≤ v1 → (inI (v1 - 2)) ∧ TR mX3_part 0 (0, 0) [(2, (rf L v0 1)), (0, (v1 - 2))] L μ (fun r3 L4 μ5 => ∃ w6, r3 = some (1, w6) ∧ L = L4 ∧ Q (some (1, w6)) L μ5)) ∧ (¬ 2 ≤ v1 → TR mX3_part 0 (0, 0) [(2, (rf L v0 0)), (0, v1)] L μ (fun r8 L9 μ10 => ∃ w11, r8 = some (1, w11) ∧ L = L9 ∧ Q (some (1, w11)) L μ10))) : TR mX7_part 1 (0, 0) [(2, v0), (0, v1)] L μ Q := by
  refine TR.of (ls := [(2, v0), (0, v1)]) (by decide) (by simp) rfl (Nat.le_of_ble_eq_true rfl) ?_
  refine wa_iload_n 1 dX7_part_0 rfl rfl ?_
  refine wa_iconst 2 dX7_part_1 rfl (by decide) ?_
  refine wa_icmp_ge 5 16 dX7_part_2 rfl (by decide) (fun q => ?_) (fun q => ?_)
  · replace h := h.1 q
    refine wa_aload_n 17 dX7_part_16 rfl rfl ?_
    have e1 : isK L (rf L v0 1) (3, 0) := lay_f hL k0 1 rfl
    refine wa_getR 20 1 dX7_part_17 rfl wF_X7_16 rfl rfl ⟨k0, isK_pos e1⟩ ?_
    refine wa_iload_n 21 dX7_part_20 rfl rfl ?_
    refine wa_iconst 22 dX7_part_21 rfl (by decide) ?_
    obtain ⟨c2, h⟩ := h
    refine wa_isub 23 dX7_part_22 rfl c2 ?_
    refine wa_callV 26 0 1 3 (av := [(0, (v1 - 2))]) (rest := []) (k1 := (0, 0)) (k2 := (0, 0)) cvX3_part dX7_part_23 rfl wM_X7_31 ⟨rfl, by decide, rfl, Nat.le_of_ble_eq_true rfl, by decide, Nat.le_of_ble_eq_true rfl, rfl, rfl⟩ rfl e1 (TR.mono h (fun r3 L4 μ5 h => ?_))
    obtain ⟨w6, rfl, rfl, h⟩ := h
    show WA mX7_part 1 (0, 0) 26 [(2, v0), (0, v1)] [(1, w6)] L μ5 Q
    exact wa_lret dX7_part_26 rfl h
  · replace h := h.2 q
    refine wa_aload_n 6 dX7_part_5 rfl rfl ?_
    have e7 : isK L (rf L v0 0) (3, 0) := lay_f hL k0 0 rfl
    refine wa_getR 9 0 dX7_part_6 rfl wF_X7_10 rfl rfl ⟨k0, isK_pos e7⟩ ?_
    refine wa_iload_n 10 dX7_part_9 rfl rfl ?_
    refine wa_callV 13 0 1 3 (av := [(0, v1)]) (rest := []) (k1 := (0, 0)) (k2 := (0, 0)) cvX3_part dX7_part_10 rfl wM_X7_31 ⟨rfl, by decide, rfl, Nat.le_of_ble_eq_true rfl, by decide, Nat.le_of_ble_eq_true rfl, rfl, rfl⟩ rfl e7 (TR.mono h (fun r8 L9 μ10 h => ?_))
    obtain ⟨w11, rfl, rfl, h⟩ := h
    show WA mX7_part 1 (0, 0) 13 [(2, v0), (0, v1)] [(1, w11)] L μ10 Q
    refine wa_goto 26 dX7_part_13 (by decide) ?_
    exact wa_lret dX7_part_26 rfl h
set_option maxRecDepth 20000 in
theorem t_X7_put (hL : LayOK L) {v0 v1 v2 : Int} (k0 : isK L v0 (7, 0)) (k1 : isK L v1 (3, 0)) (k2 : isK L v2 (3, 0)) (h : TR mX3_copy 0 (0, 0) [(2, (rf L v0 0)), (2, v1)] L μ (fun r2 L3 μ4 => r2 = none ∧ L = L3 ∧ TR mX3_copy 0 (0, 0) [(2, (rf L v0 1)), (2, v2)] L μ4 (fun r6 L7 μ8 => r6 = none ∧ L = L7 ∧ Q none L μ8))) : TR mX7_put 1 (0, 0) [(2, v0), (2, v1), (2, v2)] L μ Q := by
  refine TR.of (ls := [(2, v0), (2, v1), (2, v2)]) (by decide) (by simp) rfl (Nat.le_of_ble_eq_true rfl) ?_
  refine wa_aload_n 1 dX7_put_0 rfl rfl ?_
  have e1 : isK L (rf L v0 0) (3, 0) := lay_f hL k0 0 rfl
  refine wa_getR 4 0 dX7_put_1 rfl wF_X7_10 rfl rfl ⟨k0, isK_pos e1⟩ ?_
  refine wa_aload_n 5 dX7_put_4 rfl rfl ?_
  refine wa_callV 8 0 1 3 (av := [(2, v1)]) (rest := []) (k1 := (0, 0)) (k2 := (0, 0)) cvX3_copy dX7_put_5 rfl wM_X7_19 ⟨rfl, by decide, rfl, Nat.le_of_ble_eq_true rfl, by decide, Nat.le_of_ble_eq_true rfl, rfl, rfl⟩ rfl e1 (TR.mono h (fun r2 L3 μ4 h => ?_))
  obtain ⟨rfl, rfl, h⟩ := h
  show WA mX7_put 1 (0, 0) 8 [(2, v0), (2, v1), (2, v2)] [] L μ4 Q
  refine wa_aload_n 9 dX7_put_8 rfl rfl ?_
  have e5 : isK L (rf L v0 1) (3, 0) := lay_f hL k0 1 rfl
  refine wa_getR 12 1 dX7_put_9 rfl wF_X7_16 rfl rfl ⟨k0, isK_pos e5⟩ ?_
  refine wa_aload_n 13 dX7_put_12 rfl rfl ?_
  refine wa_callV 16 0 1 3 (av := [(2, v2)]) (rest := []) (k1 := (0, 0)) (k2 := (0, 0)) cvX3_copy dX7_put_13 rfl wM_X7_19 ⟨rfl, by decide, rfl, Nat.le_of_ble_eq_true rfl, by decide, Nat.le_of_ble_eq_true rfl, rfl, rfl⟩ rfl e5 (TR.mono h (fun r6 L7 μ8 h => ?_))
  obtain ⟨rfl, rfl, h⟩ := h
  show WA mX7_put 1 (0, 0) 16 [(2, v0), (2, v1), (2, v2)] [] L μ8 Q
  exact wa_vret dX7_put_16 rfl h
set_option maxRecDepth 20000 in
theorem t_X2_copy (hL : LayOK L) {v0 v1 : Int} (k0 : isK L v0 (2, 0)) (k1 : isK L v1 (2, 0)) (h : TR mX7_copy 2 (0, 0) [(2, (rf L v0 2)), (2, (rf L v1 2))] L (up (up μ v0 0 ((μ v1 0))) v0 1 (((up μ v0 0 ((μ v1 0))) v1 1))) (fun r3 L4 μ5 => r3 = none ∧ L = L4 ∧ Q none L μ5)) : TR mX2_copy 3 (0, 0) [(2, v0), (2, v1)] L μ Q := by
  refine TR.of (ls := [(2, v0), (2, v1)]) (by decide) (by simp) rfl (Nat.le_of_ble_eq_true rfl) ?_
  refine wa_aload_n 1 dX2_copy_0 rfl rfl ?_
  refine wa_aload_n 2 dX2_copy_1 rfl rfl ?_
  refine wa_getI 5 0 dX2_copy_2 rfl wF_X2_16 rfl rfl k1 ?_
  refine wa_putN 8 0 dX2_copy_5 rfl wF_X2_16 rfl rfl k0 ?_
  refine wa_aload_n 9 dX2_copy_8 rfl rfl ?_
  refine wa_aload_n 10 dX2_copy_9 rfl rfl ?_
  refine wa_getI 13 1 dX2_copy_10 rfl wF_X2_20 rfl rfl k1 ?_
  refine wa_putN 16 1 dX2_copy_13 rfl wF_X2_20 rfl rfl k0 ?_
  refine wa_aload_n 17 dX2_copy_16 rfl rfl ?_
  have e1 : isK L (rf L v0 2) (7, 0) := lay_f hL k0 2 rfl
  refine wa_getR 20 2 dX2_copy_17 rfl wF_X2_10 rfl rfl ⟨k0, isK_pos e1⟩ ?_
  refine wa_aload_n 21 dX2_copy_20 rfl rfl ?_
  have e2 : isK L (rf L v1 2) (7, 0) := lay_f hL k1 2 rfl
  refine wa_getR 24 2 dX2_copy_21 rfl wF_X2_10 rfl rfl ⟨k1, isK_pos e2⟩ ?_
  refine wa_callV 27 2 1 7 (av := [(2, (rf L v1 2))]) (rest := []) (k1 := (0, 0)) (k2 := (0, 0)) cvX7_copy dX2_copy_24 rfl wM_X2_23 ⟨rfl, by decide, rfl, Nat.le_of_ble_eq_true rfl, by decide, Nat.le_of_ble_eq_true rfl, rfl, rfl⟩ rfl e1 (TR.mono h (fun r3 L4 μ5 h => ?_))
  obtain ⟨rfl, rfl, h⟩ := h
  show WA mX2_copy 3 (0, 0) 27 [(2, v0), (2, v1)] [] L μ5 Q
  exact wa_vret dX2_copy_27 rfl h
set_option maxRecDepth 20000 in
theorem t_X2_part (hL : LayOK L) {v0 v1 : Int} (k0 : isK L v0 (2, 0)) (h : (¬ v1 = 0 → (¬ v1 = 1 → (inI (v1 - 2)) ∧ TR mX7_part 1 (0, 0) [(2, (rf L v0 2)), (0, (v1 - 2))] L μ (fun r3 L4 μ5 => ∃ w6, r3 = some (1, w6) ∧ L = L4 ∧ Q (some (1, w6)) L μ5)) ∧ (v1 = 1 → Q (some (1, (μ v0 1))) L μ)) ∧ (v1 = 0 → Q (some (1, (μ v0 0))) L μ)) : TR mX2_part 2 (0, 0) [(2, v0), (0, v1)] L μ Q := by
  refine TR.of (ls := [(2, v0), (0, v1)]) (by decide) (by simp) rfl (Nat.le_of_ble_eq_true rfl) ?_
  refine wa_iload_n 1 dX2_part_0 rfl rfl ?_
  refine wa_if_ne 4 10 dX2_part_1 rfl (by decide) (fun q => ?_) (fun q => ?_)
  · replace h := h.1 q
    refine wa_iload_n 11 dX2_part_10 rfl rfl ?_
    refine wa_iconst 12 dX2_part_11 rfl (by decide) ?_
    refine wa_icmp_ne 15 23 dX2_part_12 rfl (by decide) (fun q => ?_) (fun q => ?_)
    · replace h := h.1 q
      refine wa_aload_n 24 dX2_part_23 rfl rfl ?_
      have e1 : isK L (rf L v0 2) (7, 0) := lay_f hL k0 2 rfl
      refine wa_getR 27 2 dX2_part_24 rfl wF_X2_10 rfl rfl ⟨k0, isK_pos e1⟩ ?_
      refine wa_iload_n 28 dX2_part_27 rfl rfl ?_
      refine wa_iconst 29 dX2_part_28 rfl (by decide) ?_
      obtain ⟨c2, h⟩ := h
      refine wa_isub 30 dX2_part_29 rfl c2 ?_
      refine wa_callV 33 1 1 7 (av := [(0, (v1 - 2))]) (rest := []) (k1 := (0, 0)) (k2 := (0, 0)) cvX7_part dX2_part_30 rfl wM_X2_27 ⟨rfl, by decide, rfl, Nat.le_of_ble_eq_true rfl, by decide, Nat.le_of_ble_eq_true rfl, rfl, rfl⟩ rfl e1 (TR.mono h (fun r3 L4 μ5 h => ?_))
      obtain ⟨w6, rfl, rfl, h⟩ := h
      show WA mX2_part 2 (0, 0) 33 [(2, v0), (0, v1)] [(1, w6)] L μ5 Q
      exact wa_lret dX2_part_33 rfl h
    · replace h := h.2 q
      refine wa_aload_n 16 dX2_part_15 rfl rfl ?_
      refine wa_getI 19 1 dX2_part_16 rfl wF_X2_20 rfl rfl k0 ?_
      refine wa_i2l 20 dX2_part_19 rfl ?_
      refine wa_goto 33 dX2_part_20 (by decide) ?_
      exact wa_lret dX2_part_33 rfl h
  · replace h := h.2 q
    refine wa_aload_n 5 dX2_part_4 rfl rfl ?_
    refine wa_getI 8 0 dX2_part_5 rfl wF_X2_16 rfl rfl k0 ?_
    refine wa_i2l 9 dX2_part_8 rfl ?_
    exact wa_lret dX2_part_9 rfl h
end
