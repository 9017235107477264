/-! Sharer: each method from its entry and from its loops' heads: what must hold, and the run (laid by wip/whole/gen/vc.py) -/
section
variable {L : Lay} {μ : Mem} {Q : Option AV → Lay → Mem → Prop}
set_option maxRecDepth 20000 in
theorem t_X5_agentAt (hL : LayOK L) {v0 v1 : Int} (k0 : isK L v0 (5, 0)) (h : (inI ((μ v0 2) + v1)) ∧ ((μ ((rf L v0 0)) 1) ≤ ((μ v0 2) + v1) → (inI (((μ v0 2) + v1) - (μ ((rf L v0 0)) 1))) ∧ Q (some (0, (((μ v0 2) + v1) - (μ ((rf L v0 0)) 1)))) L μ) ∧ (¬ (μ ((rf L v0 0)) 1) ≤ ((μ v0 2) + v1) → Q (some (0, ((μ v0 2) + v1))) L μ)) : TR mX5_agentAt 0 (0, 0) [(2, v0), (0, v1)] L μ Q := by
  refine TR.of (ls := [(2, v0), (0, v1), (9, 0)]) (by decide) (by simp) rfl (Nat.le_of_ble_eq_true rfl) ?_
  refine wa_aload_n 1 dX5_agentAt_0 rfl rfl ?_
  refine wa_getI 4 2 dX5_agentAt_1 rfl wF_X5_50 rfl rfl k0 ?_
  refine wa_iload_n 5 dX5_agentAt_4 rfl rfl ?_
  obtain ⟨c1, h⟩ := h
  refine wa_iadd 6 dX5_agentAt_5 rfl c1 ?_
  refine wa_istore_n 7 [(2, v0), (0, v1), (0, ((μ v0 2) + v1))] dX5_agentAt_6 rfl rfl rfl ?_
  refine wa_iload_n 8 dX5_agentAt_7 rfl rfl ?_
  refine wa_aload_n 9 dX5_agentAt_8 rfl rfl ?_
  have e2 : isK L (rf L v0 0) (0, 0) := lay_f hL k0 0 rfl
  refine wa_getR 12 0 dX5_agentAt_9 rfl wF_X5_41 rfl rfl ⟨k0, isK_pos e2⟩ ?_
  refine wa_getI 15 1 dX5_agentAt_12 rfl wF_X5_102 rfl rfl e2 ?_
  refine wa_icmp_ge 18 22 dX5_agentAt_15 rfl (by decide) (fun q => ?_) (fun q => ?_)
  · replace h := h.1 q
    refine wa_iload_n 23 dX5_agentAt_22 rfl rfl ?_
    refine wa_aload_n 24 dX5_agentAt_23 rfl rfl ?_
    refine wa_getR 27 0 dX5_agentAt_24 rfl wF_X5_41 rfl rfl ⟨k0, isK_pos e2⟩ ?_
    refine wa_getI 30 1 dX5_agentAt_27 rfl wF_X5_102 rfl rfl e2 ?_
    obtain ⟨c3, h⟩ := h
    refine wa_isub 31 dX5_agentAt_30 rfl c3 ?_
    exact wa_iret dX5_agentAt_31 rfl h
  · replace h := h.2 q
    refine wa_iload_n 19 dX5_agentAt_18 rfl rfl ?_
    refine wa_goto 31 dX5_agentAt_19 (by decide) ?_
    exact wa_iret dX5_agentAt_31 rfl h
set_option maxRecDepth 20000 in
theorem t_X5_cutAndChoose (hL : LayOK L) {v0 : Int} (k0 : isK L v0 (5, 0)) (h : TR mX5_agentAt 0 (0, 0) [(2, v0), (0, 0)] L μ (fun r1 L2 μ3 => ∃ w4, r1 = some (0, w4) ∧ L = L2 ∧ TR mX5_agentAt 0 (0, 0) [(2, v0), (0, 1)] L μ3 (fun r5 L6 μ7 => ∃ w8, r5 = some (0, w8) ∧ L = L6 ∧ TR mX5_putMark 3 (0, 0) [(2, v0), (2, (rf L ((rf L v0 5)) 0)), (0, w4), (2, (rf L ((rf L v0 3)) 0)), (2, (rf L v0 3)), (0, 1), (0, 2)] L μ7 (fun r13 L14 μ15 => ∃ w16, r13 = some (0, w16) ∧ L = L14 ∧ (¬ w16 = 0 → TR mX1_note 2 (0, 0) [(2, (rf L v0 1)), (0, 0), (0, w4), (2, (rf L ((rf L v0 5)) 0)), (2, (rf L ((rf L v0 3)) 0))] L μ15 (fun r18 L19 μ20 => r18 = none ∧ L = L19 ∧ TR mX7_put 1 (0, 0) [(2, (rf L ((rf L v0 8)) 0)), (2, (rf L ((rf L v0 3)) 0)), (2, (rf L ((rf L v0 5)) 0))] L μ20 (fun r23 L24 μ25 => r23 = none ∧ L = L24 ∧ TR mX7_put 1 (0, 0) [(2, (rf L ((rf L v0 8)) 1)), (2, (rf L ((rf L v0 5)) 0)), (2, (rf L ((rf L v0 3)) 1))] L μ25 (fun r28 L29 μ30 => r28 = none ∧ L = L29 ∧ TR mX5_has 3 (0, 0) [(2, v0), (0, w8), (2, (rf L ((rf L v0 8)) 0))] L μ30 (fun r31 L32 μ33 => ∃ w34, r31 = some (1, w34) ∧ L = L32 ∧ TR mX5_has 3 (0, 0) [(2, v0), (0, w8), (2, (rf L ((rf L v0 8)) 1))] L μ33 (fun r35 L36 μ37 => ∃ w38, r35 = some (1, w38) ∧ L = L36 ∧ (w34 < w38 → TR mX5_takePiece 3 (0, 0) [(2, v0), (0, 1), (0, 1)] L μ37 (fun r39 L40 μ41 => r39 = none ∧ L = L40 ∧ TR mX5_takePiece 3 (0, 0) [(2, v0), (0, 0), (0, (1 - 1))] L μ41 (fun r42 L43 μ44 => r42 = none ∧ L = L43 ∧ Q (some (0, 1)) L μ44))) ∧ (¬ w34 < w38 → TR mX5_takePiece 3 (0, 0) [(2, v0), (0, 1), (0, 0)] L μ37 (fun r45 L46 μ47 => r45 = none ∧ L = L46 ∧ TR mX5_takePiece 3 (0, 0) [(2, v0), (0, 0), (0, (1 - 0))] L μ47 (fun r48 L49 μ50 => r48 = none ∧ L = L49 ∧ Q (some (0, 1)) L μ50))))))))) ∧ (w16 = 0 → Q (some (0, 0)) L μ15))))) : TR mX5_cutAndChoose 4 (0, 0) [(2, v0)] L μ Q := by
  refine TR.of (ls := [(2, v0), (9, 0), (9, 0), (9, 0), (9, 0)]) (by decide) (by simp) rfl (Nat.le_of_ble_eq_true rfl) ?_
  refine wa_aload_n 1 dX5_cutAndChoose_0 rfl rfl ?_
  refine wa_iconst 2 dX5_cutAndChoose_1 rfl (by decide) ?_
  refine wa_callV 5 0 1 5 (av := [(0, 0)]) (rest := []) (k1 := (0, 0)) (k2 := (0, 0)) cvX5_agentAt dX5_cutAndChoose_2 rfl wM_X5_136 ⟨rfl, by decide, rfl, Nat.le_of_ble_eq_true rfl, by decide, Nat.le_of_ble_eq_true rfl, rfl, rfl⟩ rfl k0 (TR.mono h (fun r1 L2 μ3 h => ?_))
  obtain ⟨w4, rfl, rfl, h⟩ := h
  show WA mX5_cutAndChoose 4 (0, 0) 5 [(2, v0), (9, 0), (9, 0), (9, 0), (9, 0)] [(0, w4)] L μ3 Q
  refine wa_istore_n 6 [(2, v0), (0, w4), (9, 0), (9, 0), (9, 0)] dX5_cutAndChoose_5 rfl rfl rfl ?_
  refine wa_aload_n 7 dX5_cutAndChoose_6 rfl rfl ?_
  refine wa_iconst 8 dX5_cutAndChoose_7 rfl (by decide) ?_
  refine wa_callV 11 0 1 5 (av := [(0, 1)]) (rest := []) (k1 := (0, 0)) (k2 := (0, 0)) cvX5_agentAt dX5_cutAndChoose_8 rfl wM_X5_136 ⟨rfl, by decide, rfl, Nat.le_of_ble_eq_true rfl, by decide, Nat.le_of_ble_eq_true rfl, rfl, rfl⟩ rfl k0 (TR.mono h (fun r5 L6 μ7 h => ?_))
  obtain ⟨w8, rfl, rfl, h⟩ := h
  show WA mX5_cutAndChoose 4 (0, 0) 11 [(2, v0), (0, w4), (9, 0), (9, 0), (9, 0)] [(0, w8)] L μ7 Q
  refine wa_istore_n 12 [(2, v0), (0, w4), (0, w8), (9, 0), (9, 0)] dX5_cutAndChoose_11 rfl rfl rfl ?_
  refine wa_aload_n 13 dX5_cutAndChoose_12 rfl rfl ?_
  have e9 : isK L (rf L v0 5) (26, 5) := lay_f hL k0 5 rfl
  refine wa_getR 16 5 dX5_cutAndChoose_13 rfl wF_X5_23 rfl rfl ⟨k0, isK_pos e9⟩ ?_
  refine wa_iconst 17 dX5_cutAndChoose_16 rfl (by decide) ?_
  have e10 : isK L (rf L ((rf L v0 5)) 0) (3, 0) := lay_e hL k0 5 rfl ⟨by decide, by decide⟩
  refine wa_aaload 18 26 dX5_cutAndChoose_17 rfl ⟨by decide, by decide⟩ ⟨okA_of e9 ⟨by decide, by decide⟩, isK_pos e10⟩ ?_
  refine wa_astore_n 19 [(2, v0), (0, w4), (0, w8), (2, (rf L ((rf L v0 5)) 0)), (9, 0)] dX5_cutAndChoose_18 rfl rfl rfl ?_
  refine wa_aload_n 20 dX5_cutAndChoose_19 rfl rfl ?_
  refine wa_aload_n 21 dX5_cutAndChoose_20 rfl rfl ?_
  refine wa_iload_n 22 dX5_cutAndChoose_21 rfl rfl ?_
  refine wa_aload_n 23 dX5_cutAndChoose_22 rfl rfl ?_
  have e11 : isK L (rf L v0 3) (7, 0) := lay_f hL k0 3 rfl
  refine wa_getR 26 3 dX5_cutAndChoose_23 rfl wF_X5_12 rfl rfl ⟨k0, isK_pos e11⟩ ?_
  have e12 : isK L (rf L ((rf L v0 3)) 0) (3, 0) := lay_f hL e11 0 rfl
  refine wa_getR 29 0 dX5_cutAndChoose_26 rfl wF_X5_113 rfl rfl ⟨e11, isK_pos e12⟩ ?_
  refine wa_aload_n 30 dX5_cutAndChoose_29 rfl rfl ?_
  refine wa_getR 33 3 dX5_cutAndChoose_30 rfl wF_X5_12 rfl rfl ⟨k0, isK_pos e11⟩ ?_
  refine wa_iconst 34 dX5_cutAndChoose_33 rfl (by decide) ?_
  refine wa_iconst 35 dX5_cutAndChoose_34 rfl (by decide) ?_
  refine wa_callV 38 3 6 5 (av := [(2, (rf L ((rf L v0 5)) 0)), (0, w4), (2, (rf L ((rf L v0 3)) 0)), (2, (rf L v0 3)), (0, 1), (0, 2)]) (rest := []) (k1 := (0, 0)) (k2 := (0, 0)) cvX5_putMark dX5_cutAndChoose_35 rfl wM_X5_151 ⟨rfl, by decide, rfl, Nat.le_of_ble_eq_true rfl, by decide, Nat.le_of_ble_eq_true rfl, rfl, rfl⟩ rfl k0 (TR.mono h (fun r13 L14 μ15 h => ?_))
  obtain ⟨w16, rfl, rfl, h⟩ := h
  show WA mX5_cutAndChoose 4 (0, 0) 38 [(2, v0), (0, w4), (0, w8), (2, (rf L ((rf L v0 5)) 0)), (9, 0)] [(0, w16)] L μ15 Q
  refine wa_if_ne 41 43 dX5_cutAndChoose_38 rfl (by decide) (fun q => ?_) (fun q => ?_)
  · replace h := h.1 q
    refine wa_aload_n 44 dX5_cutAndChoose_43 rfl rfl ?_
    have e17 : isK L (rf L v0 1) (1, 0) := lay_f hL k0 1 rfl
    refine wa_getR 47 1 dX5_cutAndChoose_44 rfl wF_X5_45 rfl rfl ⟨k0, isK_pos e17⟩ ?_
    refine wa_iconst 48 dX5_cutAndChoose_47 rfl (by decide) ?_
    refine wa_iload_n 49 dX5_cutAndChoose_48 rfl rfl ?_
    refine wa_aload_n 50 dX5_cutAndChoose_49 rfl rfl ?_
    refine wa_aload_n 51 dX5_cutAndChoose_50 rfl rfl ?_
    refine wa_getR 54 3 dX5_cutAndChoose_51 rfl wF_X5_12 rfl rfl ⟨k0, isK_pos e11⟩ ?_
    refine wa_getR 57 0 dX5_cutAndChoose_54 rfl wF_X5_113 rfl rfl ⟨e11, isK_pos e12⟩ ?_
    refine wa_callV 60 2 4 1 (av := [(0, 0), (0, w4), (2, (rf L ((rf L v0 5)) 0)), (2, (rf L ((rf L v0 3)) 0))]) (rest := []) (k1 := (0, 0)) (k2 := (0, 0)) cvX1_note dX5_cutAndChoose_57 rfl wM_X5_140 ⟨rfl, by decide, rfl, Nat.le_of_ble_eq_true rfl, by decide, Nat.le_of_ble_eq_true rfl, rfl, rfl⟩ rfl e17 (TR.mono h (fun r18 L19 μ20 h => ?_))
    obtain ⟨rfl, rfl, h⟩ := h
    show WA mX5_cutAndChoose 4 (0, 0) 60 [(2, v0), (0, w4), (0, w8), (2, (rf L ((rf L v0 5)) 0)), (9, 0)] [] L μ20 Q
    refine wa_aload_n 61 dX5_cutAndChoose_60 rfl rfl ?_
    have e21 : isK L (rf L v0 8) (25, 3) := lay_f hL k0 8 rfl
    refine wa_getR 64 8 dX5_cutAndChoose_61 rfl wF_X5_34 rfl rfl ⟨k0, isK_pos e21⟩ ?_
    refine wa_iconst 65 dX5_cutAndChoose_64 rfl (by decide) ?_
    have e22 : isK L (rf L ((rf L v0 8)) 0) (7, 0) := lay_e hL k0 8 rfl ⟨by decide, by decide⟩
    refine wa_aaload 66 25 dX5_cutAndChoose_65 rfl ⟨by decide, by decide⟩ ⟨okA_of e21 ⟨by decide, by decide⟩, isK_pos e22⟩ ?_
    refine wa_aload_n 67 dX5_cutAndChoose_66 rfl rfl ?_
    refine wa_getR 70 3 dX5_cutAndChoose_67 rfl wF_X5_12 rfl rfl ⟨k0, isK_pos e11⟩ ?_
    refine wa_getR 73 0 dX5_cutAndChoose_70 rfl wF_X5_113 rfl rfl ⟨e11, isK_pos e12⟩ ?_
    refine wa_aload_n 74 dX5_cutAndChoose_73 rfl rfl ?_
    refine wa_callV 77 1 2 7 (av := [(2, (rf L ((rf L v0 3)) 0)), (2, (rf L ((rf L v0 5)) 0))]) (rest := []) (k1 := (0, 0)) (k2 := (0, 0)) cvX7_put dX5_cutAndChoose_74 rfl wM_X5_155 ⟨rfl, by decide, rfl, Nat.le_of_ble_eq_true rfl, by decide, Nat.le_of_ble_eq_true rfl, rfl, rfl⟩ rfl e22 (TR.mono h (fun r23 L24 μ25 h => ?_))
    obtain ⟨rfl, rfl, h⟩ := h
    show WA mX5_cutAndChoose 4 (0, 0) 77 [(2, v0), (0, w4), (0, w8), (2, (rf L ((rf L v0 5)) 0)), (9, 0)] [] L μ25 Q
    refine wa_aload_n 78 dX5_cutAndChoose_77 rfl rfl ?_
    refine wa_getR 81 8 dX5_cutAndChoose_78 rfl wF_X5_34 rfl rfl ⟨k0, isK_pos e21⟩ ?_
    refine wa_iconst 82 dX5_cutAndChoose_81 rfl (by decide) ?_
    have e26 : isK L (rf L ((rf L v0 8)) 1) (7, 0) := lay_e hL k0 8 rfl ⟨by decide, by decide⟩
    refine wa_aaload 83 25 dX5_cutAndChoose_82 rfl ⟨by decide, by decide⟩ ⟨okA_of e21 ⟨by decide, by decide⟩, isK_pos e26⟩ ?_
    refine wa_aload_n 84 dX5_cutAndChoose_83 rfl rfl ?_
    refine wa_aload_n 85 dX5_cutAndChoose_84 rfl rfl ?_
    refine wa_getR 88 3 dX5_cutAndChoose_85 rfl wF_X5_12 rfl rfl ⟨k0, isK_pos e11⟩ ?_
    have e27 : isK L (rf L ((rf L v0 3)) 1) (3, 0) := lay_f hL e11 1 rfl
    refine wa_getR 91 1 dX5_cutAndChoose_88 rfl wF_X5_59 rfl rfl ⟨e11, isK_pos e27⟩ ?_
    refine wa_callV 94 1 2 7 (av := [(2, (rf L ((rf L v0 5)) 0)), (2, (rf L ((rf L v0 3)) 1))]) (rest := []) (k1 := (0, 0)) (k2 := (0, 0)) cvX7_put dX5_cutAndChoose_91 rfl wM_X5_155 ⟨rfl, by decide, rfl, Nat.le_of_ble_eq_true rfl, by decide, Nat.le_of_ble_eq_true rfl, rfl, rfl⟩ rfl e26 (TR.mono h (fun r28 L29 μ30 h => ?_))
    obtain ⟨rfl, rfl, h⟩ := h
    show WA mX5_cutAndChoose 4 (0, 0) 94 [(2, v0), (0, w4), (0, w8), (2, (rf L ((rf L v0 5)) 0)), (9, 0)] [] L μ30 Q
    refine wa_aload_n 95 dX5_cutAndChoose_94 rfl rfl ?_
    refine wa_iload_n 96 dX5_cutAndChoose_95 rfl rfl ?_
    refine wa_aload_n 97 dX5_cutAndChoose_96 rfl rfl ?_
    refine wa_getR 100 8 dX5_cutAndChoose_97 rfl wF_X5_34 rfl rfl ⟨k0, isK_pos e21⟩ ?_
    refine wa_iconst 101 dX5_cutAndChoose_100 rfl (by decide) ?_
    refine wa_aaload 102 25 dX5_cutAndChoose_101 rfl ⟨by decide, by decide⟩ ⟨okA_of e21 ⟨by decide, by decide⟩, isK_pos e22⟩ ?_
    refine wa_callV 105 3 2 5 (av := [(0, w8), (2, (rf L ((rf L v0 8)) 0))]) (rest := []) (k1 := (0, 0)) (k2 := (0, 0)) cvX5_has dX5_cutAndChoose_102 rfl wM_X5_158 ⟨rfl, by decide, rfl, Nat.le_of_ble_eq_true rfl, by decide, Nat.le_of_ble_eq_true rfl, rfl, rfl⟩ rfl k0 (TR.mono h (fun r31 L32 μ33 h => ?_))
    obtain ⟨w34, rfl, rfl, h⟩ := h
    show WA mX5_cutAndChoose 4 (0, 0) 105 [(2, v0), (0, w4), (0, w8), (2, (rf L ((rf L v0 5)) 0)), (9, 0)] [(1, w34)] L μ33 Q
    refine wa_aload_n 106 dX5_cutAndChoose_105 rfl rfl ?_
    refine wa_iload_n 107 dX5_cutAndChoose_106 rfl rfl ?_
    refine wa_aload_n 108 dX5_cutAndChoose_107 rfl rfl ?_
    refine wa_getR 111 8 dX5_cutAndChoose_108 rfl wF_X5_34 rfl rfl ⟨k0, isK_pos e21⟩ ?_
    refine wa_iconst 112 dX5_cutAndChoose_111 rfl (by decide) ?_
    refine wa_aaload 113 25 dX5_cutAndChoose_112 rfl ⟨by decide, by decide⟩ ⟨okA_of e21 ⟨by decide, by decide⟩, isK_pos e26⟩ ?_
    refine wa_callV 116 3 2 5 (av := [(0, w8), (2, (rf L ((rf L v0 8)) 1))]) (rest := [(1, w34)]) (k1 := (0, 0)) (k2 := (0, 0)) cvX5_has dX5_cutAndChoose_113 rfl wM_X5_158 ⟨rfl, by decide, rfl, Nat.le_of_ble_eq_true rfl, by decide, Nat.le_of_ble_eq_true rfl, rfl, rfl⟩ rfl k0 (TR.mono h (fun r35 L36 μ37 h => ?_))
    obtain ⟨w38, rfl, rfl, h⟩ := h
    show WA mX5_cutAndChoose 4 (0, 0) 116 [(2, v0), (0, w4), (0, w8), (2, (rf L ((rf L v0 5)) 0)), (9, 0)] [(1, w38), (1, w34)] L μ37 Q
    refine wa_lc_lt 120 124 dX5_cutAndChoose_116 dX5_cutAndChoose_117 rfl (by decide) (fun q => ?_) (fun q => ?_)
    · replace h := h.1 q
      refine wa_iconst 125 dX5_cutAndChoose_124 rfl (by decide) ?_
      refine wa_istore 127 [(2, v0), (0, w4), (0, w8), (2, (rf L ((rf L v0 5)) 0)), (0, 1)] dX5_cutAndChoose_125 rfl rfl rfl ?_
      refine wa_aload_n 128 dX5_cutAndChoose_127 rfl rfl ?_
      refine wa_iconst 129 dX5_cutAndChoose_128 rfl (by decide) ?_
      refine wa_iload 131 dX5_cutAndChoose_129 rfl rfl ?_
      refine wa_callV 134 3 2 5 (av := [(0, 1), (0, 1)]) (rest := []) (k1 := (0, 0)) (k2 := (0, 0)) cvX5_takePiece dX5_cutAndChoose_131 rfl wM_X5_162 ⟨rfl, by decide, rfl, Nat.le_of_ble_eq_true rfl, by decide, Nat.le_of_ble_eq_true rfl, rfl, rfl⟩ rfl k0 (TR.mono h (fun r39 L40 μ41 h => ?_))
      obtain ⟨rfl, rfl, h⟩ := h
      show WA mX5_cutAndChoose 4 (0, 0) 134 [(2, v0), (0, w4), (0, w8), (2, (rf L ((rf L v0 5)) 0)), (0, 1)] [] L μ41 Q
      refine wa_aload_n 135 dX5_cutAndChoose_134 rfl rfl ?_
      refine wa_iconst 136 dX5_cutAndChoose_135 rfl (by decide) ?_
      refine wa_iconst 137 dX5_cutAndChoose_136 rfl (by decide) ?_
      refine wa_iload 139 dX5_cutAndChoose_137 rfl rfl ?_
      refine wa_isub 140 dX5_cutAndChoose_139 rfl (by decide) ?_
      refine wa_callV 143 3 2 5 (av := [(0, 0), (0, (1 - 1))]) (rest := []) (k1 := (0, 0)) (k2 := (0, 0)) cvX5_takePiece dX5_cutAndChoose_140 rfl wM_X5_162 ⟨rfl, by decide, rfl, Nat.le_of_ble_eq_true rfl, by decide, Nat.le_of_ble_eq_true rfl, rfl, rfl⟩ rfl k0 (TR.mono h (fun r42 L43 μ44 h => ?_))
      obtain ⟨rfl, rfl, h⟩ := h
      show WA mX5_cutAndChoose 4 (0, 0) 143 [(2, v0), (0, w4), (0, w8), (2, (rf L ((rf L v0 5)) 0)), (0, 1)] [] L μ44 Q
      refine wa_iconst 144 dX5_cutAndChoose_143 rfl (by decide) ?_
      exact wa_zret dX5_cutAndChoose_144 rfl (Or.inr rfl) h
    · replace h := h.2 q
      refine wa_iconst 121 dX5_cutAndChoose_120 rfl (by decide) ?_
      refine wa_goto 125 dX5_cutAndChoose_121 (by decide) ?_
      refine wa_istore 127 [(2, v0), (0, w4), (0, w8), (2, (rf L ((rf L v0 5)) 0)), (0, 0)] dX5_cutAndChoose_125 rfl rfl rfl ?_
      refine wa_aload_n 128 dX5_cutAndChoose_127 rfl rfl ?_
      refine wa_iconst 129 dX5_cutAndChoose_128 rfl (by decide) ?_
      refine wa_iload 131 dX5_cutAndChoose_129 rfl rfl ?_
      refine wa_callV 134 3 2 5 (av := [(0, 1), (0, 0)]) (rest := []) (k1 := (0, 0)) (k2 := (0, 0)) cvX5_takePiece dX5_cutAndChoose_131 rfl wM_X5_162 ⟨rfl, by decide, rfl, Nat.le_of_ble_eq_true rfl, by decide, Nat.le_of_ble_eq_true rfl, rfl, rfl⟩ rfl k0 (TR.mono h (fun r45 L46 μ47 h => ?_))
      obtain ⟨rfl, rfl, h⟩ := h
      show WA mX5_cutAndChoose 4 (0, 0) 134 [(2, v0), (0, w4), (0, w8), (2, (rf L ((rf L v0 5)) 0)), (0, 0)] [] L μ47 Q
      refine wa_aload_n 135 dX5_cutAndChoose_134 rfl rfl ?_
      refine wa_iconst 136 dX5_cutAndChoose_135 rfl (by decide) ?_
      refine wa_iconst 137 dX5_cutAndChoose_136 rfl (by decide) ?_
      refine wa_iload 139 dX5_cutAndChoose_137 rfl rfl ?_
      refine wa_isub 140 dX5_cutAndChoose_139 rfl (by decide) ?_
      refine wa_callV 143 3 2 5 (av := [(0, 0), (0, (1 - 0))]) (rest := []) (k1 := (0, 0)) (k2 := (0, 0)) cvX5_takePiece dX5_cutAndChoose_140 rfl wM_X5_162 ⟨rfl, by decide, rfl, Nat.le_of_ble_eq_true rfl, by decide, Nat.le_of_ble_eq_true rfl, rfl, rfl⟩ rfl k0 (TR.mono h (fun r48 L49 μ50 h => ?_))
      obtain ⟨rfl, rfl, h⟩ := h
      show WA mX5_cutAndChoose 4 (0, 0) 143 [(2, v0), (0, w4), (0, w8), (2, (rf L ((rf L v0 5)) 0)), (0, 0)] [] L μ50 Q
      refine wa_iconst 144 dX5_cutAndChoose_143 rfl (by decide) ?_
      exact wa_zret dX5_cutAndChoose_144 rfl (Or.inr rfl) h
  · replace h := h.2 q
    refine wa_iconst 42 dX5_cutAndChoose_41 rfl (by decide) ?_
    exact wa_zret dX5_cutAndChoose_42 rfl (Or.inl rfl) h
set_option maxRecDepth 20000 in
theorem t_X5_cutAndTrim (hL : LayOK L) {v0 : Int} (k0 : isK L v0 (5, 0)) (h : TR mX5_agentAt 0 (0, 0) [(2, v0), (0, 0)] L μ (fun r1 L2 μ3 => ∃ w4, r1 = some (0, w4) ∧ L = L2 ∧ TR mX5_cutInThree 4 (0, 0) [(2, v0), (0, w4), (2, (rf L v0 3))] L μ3 (fun r6 L7 μ8 => ∃ w9, r6 = some (0, w9) ∧ L = L7 ∧ (¬ w9 = 0 → TR mX5_agentAt 0 (0, 0) [(2, v0), (0, 1)] L μ8 (fun r10 L11 μ12 => ∃ w13, r10 = some (0, w13) ∧ L = L11 ∧ TR mX5_mostOf 4 (0, 0) [(2, v0), (0, w13), (0, 0)] L μ12 (fun r14 L15 μ16 => ∃ w17, r14 = some (0, w17) ∧ L = L15 ∧ (0 ≤ ((up μ16 v0 10 w17) v0 10) ∧ ((up μ16 v0 10 w17) v0 10) < 3) ∧ TR mX5_mostOf 4 (0, 0) [(2, v0), (0, w13), (0, (bShl 1 (((up μ16 v0 10 w17) v0 10))))] L (up μ16 v0 10 w17) (fun r21 L22 μ23 => ∃ w24, r21 = some (0, w24) ∧ L = L22 ∧ (0 ≤ w24 ∧ w24 < 3) ∧ TR mX5_has 3 (0, 0) [(2, v0), (0, w13), (2, (rf L ((rf L v0 8)) (((up μ16 v0 10 w17) v0 10))))] L μ23 (fun r27 L28 μ29 => ∃ w30, r27 = some (1, w30) ∧ L = L28 ∧ TR mX5_has 3 (0, 0) [(2, v0), (0, w13), (2, (rf L ((rf L v0 8)) w24))] L μ29 (fun r31 L32 μ33 => ∃ w34, r31 = some (1, w34) ∧ L = L32 ∧ (w30 ≤ w34 → WA mX5_cutAndTrim 5 (0, 0) 83 [(2, v0), (0, w13), (2, (rf L ((rf L v0 8)) (((up μ16 v0 10 w17) v0 10)))), (2, (rf L ((rf L v0 8)) w24))] [(0, 0), (2, v0)] L μ33 Q) ∧ (¬ w30 ≤ w34 → WA mX5_cutAndTrim 5 (0, 0) 83 [(2, v0), (0, w13), (2, (rf L ((rf L v0 8)) (((up μ16 v0 10 w17) v0 10)))), (2, (rf L ((rf L v0 8)) w24))] [(0, 1), (2, v0)] L μ33 Q))))))) ∧ (w9 = 0 → Q (some (0, 0)) L μ8)))) : TR mX5_cutAndTrim 5 (0, 0) [(2, v0)] L μ Q := by
  refine TR.of (ls := [(2, v0), (9, 0), (9, 0), (9, 0)]) (by decide) (by simp) rfl (Nat.le_of_ble_eq_true rfl) ?_
  refine wa_aload_n 1 dX5_cutAndTrim_0 rfl rfl ?_
  refine wa_aload_n 2 dX5_cutAndTrim_1 rfl rfl ?_
  refine wa_iconst 3 dX5_cutAndTrim_2 rfl (by decide) ?_
  refine wa_callV 6 0 1 5 (av := [(0, 0)]) (rest := [(2, v0)]) (k1 := (0, 0)) (k2 := (0, 0)) cvX5_agentAt dX5_cutAndTrim_3 rfl wM_X5_136 ⟨rfl, by decide, rfl, Nat.le_of_ble_eq_true rfl, by decide, Nat.le_of_ble_eq_true rfl, rfl, rfl⟩ rfl k0 (TR.mono h (fun r1 L2 μ3 h => ?_))
  obtain ⟨w4, rfl, rfl, h⟩ := h
  show WA mX5_cutAndTrim 5 (0, 0) 6 [(2, v0), (9, 0), (9, 0), (9, 0)] [(0, w4), (2, v0)] L μ3 Q
  refine wa_aload_n 7 dX5_cutAndTrim_6 rfl rfl ?_
  have e5 : isK L (rf L v0 3) (7, 0) := lay_f hL k0 3 rfl
  refine wa_getR 10 3 dX5_cutAndTrim_7 rfl wF_X5_12 rfl rfl ⟨k0, isK_pos e5⟩ ?_
  refine wa_callV 13 4 2 5 (av := [(0, w4), (2, (rf L v0 3))]) (rest := []) (k1 := (0, 0)) (k2 := (0, 0)) cvX5_cutInThree dX5_cutAndTrim_10 rfl wM_X5_206 ⟨rfl, by decide, rfl, Nat.le_of_ble_eq_true rfl, by decide, Nat.le_of_ble_eq_true rfl, rfl, rfl⟩ rfl k0 (TR.mono h (fun r6 L7 μ8 h => ?_))
  obtain ⟨w9, rfl, rfl, h⟩ := h
  show WA mX5_cutAndTrim 5 (0, 0) 13 [(2, v0), (9, 0), (9, 0), (9, 0)] [(0, w9)] L μ8 Q
  refine wa_if_ne 16 18 dX5_cutAndTrim_13 rfl (by decide) (fun q => ?_) (fun q => ?_)
  · replace h := h.1 q
    refine wa_aload_n 19 dX5_cutAndTrim_18 rfl rfl ?_
    refine wa_iconst 20 dX5_cutAndTrim_19 rfl (by decide) ?_
    refine wa_callV 23 0 1 5 (av := [(0, 1)]) (rest := []) (k1 := (0, 0)) (k2 := (0, 0)) cvX5_agentAt dX5_cutAndTrim_20 rfl wM_X5_136 ⟨rfl, by decide, rfl, Nat.le_of_ble_eq_true rfl, by decide, Nat.le_of_ble_eq_true rfl, rfl, rfl⟩ rfl k0 (TR.mono h (fun r10 L11 μ12 h => ?_))
    obtain ⟨w13, rfl, rfl, h⟩ := h
    show WA mX5_cutAndTrim 5 (0, 0) 23 [(2, v0), (9, 0), (9, 0), (9, 0)] [(0, w13)] L μ12 Q
    refine wa_istore_n 24 [(2, v0), (0, w13), (9, 0), (9, 0)] dX5_cutAndTrim_23 rfl rfl rfl ?_
    refine wa_aload_n 25 dX5_cutAndTrim_24 rfl rfl ?_
    refine wa_aload_n 26 dX5_cutAndTrim_25 rfl rfl ?_
    refine wa_iload_n 27 dX5_cutAndTrim_26 rfl rfl ?_
    refine wa_iconst 28 dX5_cutAndTrim_27 rfl (by decide) ?_
    refine wa_callV 31 4 2 5 (av := [(0, w13), (0, 0)]) (rest := [(2, v0)]) (k1 := (0, 0)) (k2 := (0, 0)) cvX5_mostOf dX5_cutAndTrim_28 rfl wM_X5_210 ⟨rfl, by decide, rfl, Nat.le_of_ble_eq_true rfl, by decide, Nat.le_of_ble_eq_true rfl, rfl, rfl⟩ rfl k0 (TR.mono h (fun r14 L15 μ16 h => ?_))
    obtain ⟨w17, rfl, rfl, h⟩ := h
    show WA mX5_cutAndTrim 5 (0, 0) 31 [(2, v0), (0, w13), (9, 0), (9, 0)] [(0, w17), (2, v0)] L μ16 Q
    refine wa_putN 34 10 dX5_cutAndTrim_31 rfl wF_X5_213 rfl rfl k0 ?_
    refine wa_aload_n 35 dX5_cutAndTrim_34 rfl rfl ?_
    have e18 : isK L (rf L v0 8) (25, 3) := lay_f hL k0 8 rfl
    refine wa_getR 38 8 dX5_cutAndTrim_35 rfl wF_X5_34 rfl rfl ⟨k0, isK_pos e18⟩ ?_
    refine wa_aload_n 39 dX5_cutAndTrim_38 rfl rfl ?_
    refine wa_getI 42 10 dX5_cutAndTrim_39 rfl wF_X5_213 rfl rfl k0 ?_
    obtain ⟨c19, h⟩ := h
    have e20 : isK L (rf L ((rf L v0 8)) (((up μ16 v0 10 w17) v0 10))) (7, 0) := lay_e hL k0 8 rfl c19
    refine wa_aaload 43 25 dX5_cutAndTrim_42 rfl ⟨by decide, by decide⟩ ⟨okA_of e18 c19, isK_pos e20⟩ ?_
    refine wa_astore_n 44 [(2, v0), (0, w13), (2, (rf L ((rf L v0 8)) (((up μ16 v0 10 w17) v0 10)))), (9, 0)] dX5_cutAndTrim_43 rfl rfl rfl ?_
    refine wa_aload_n 45 dX5_cutAndTrim_44 rfl rfl ?_
    refine wa_getR 48 8 dX5_cutAndTrim_45 rfl wF_X5_34 rfl rfl ⟨k0, isK_pos e18⟩ ?_
    refine wa_aload_n 49 dX5_cutAndTrim_48 rfl rfl ?_
    refine wa_iload_n 50 dX5_cutAndTrim_49 rfl rfl ?_
    refine wa_iconst 51 dX5_cutAndTrim_50 rfl (by decide) ?_
    refine wa_aload_n 52 dX5_cutAndTrim_51 rfl rfl ?_
    refine wa_getI 55 10 dX5_cutAndTrim_52 rfl wF_X5_213 rfl rfl k0 ?_
    refine wa_ishl 56 dX5_cutAndTrim_55 rfl ?_
    refine wa_callV 59 4 2 5 (av := [(0, w13), (0, (bShl 1 (((up μ16 v0 10 w17) v0 10))))]) (rest := [(2, (rf L v0 8))]) (k1 := (0, 0)) (k2 := (0, 0)) cvX5_mostOf dX5_cutAndTrim_56 rfl wM_X5_210 ⟨rfl, by decide, rfl, Nat.le_of_ble_eq_true rfl, by decide, Nat.le_of_ble_eq_true rfl, rfl, rfl⟩ rfl k0 (TR.mono h (fun r21 L22 μ23 h => ?_))
    obtain ⟨w24, rfl, rfl, h⟩ := h
    show WA mX5_cutAndTrim 5 (0, 0) 59 [(2, v0), (0, w13), (2, (rf L ((rf L v0 8)) (((up μ16 v0 10 w17) v0 10)))), (9, 0)] [(0, w24), (2, (rf L v0 8))] L μ23 Q
    obtain ⟨c25, h⟩ := h
    have e26 : isK L (rf L ((rf L v0 8)) w24) (7, 0) := lay_e hL k0 8 rfl c25
    refine wa_aaload 60 25 dX5_cutAndTrim_59 rfl ⟨by decide, by decide⟩ ⟨okA_of e18 c25, isK_pos e26⟩ ?_
    refine wa_astore_n 61 [(2, v0), (0, w13), (2, (rf L ((rf L v0 8)) (((up μ16 v0 10 w17) v0 10)))), (2, (rf L ((rf L v0 8)) w24))] dX5_cutAndTrim_60 rfl rfl rfl ?_
    refine wa_aload_n 62 dX5_cutAndTrim_61 rfl rfl ?_
    refine wa_aload_n 63 dX5_cutAndTrim_62 rfl rfl ?_
    refine wa_iload_n 64 dX5_cutAndTrim_63 rfl rfl ?_
    refine wa_aload_n 65 dX5_cutAndTrim_64 rfl rfl ?_
    refine wa_callV 68 3 2 5 (av := [(0, w13), (2, (rf L ((rf L v0 8)) (((up μ16 v0 10 w17) v0 10))))]) (rest := [(2, v0)]) (k1 := (0, 0)) (k2 := (0, 0)) cvX5_has dX5_cutAndTrim_65 rfl wM_X5_158 ⟨rfl, by decide, rfl, Nat.le_of_ble_eq_true rfl, by decide, Nat.le_of_ble_eq_true rfl, rfl, rfl⟩ rfl k0 (TR.mono h (fun r27 L28 μ29 h => ?_))
    obtain ⟨w30, rfl, rfl, h⟩ := h
    show WA mX5_cutAndTrim 5 (0, 0) 68 [(2, v0), (0, w13), (2, (rf L ((rf L v0 8)) (((up μ16 v0 10 w17) v0 10)))), (2, (rf L ((rf L v0 8)) w24))] [(1, w30), (2, v0)] L μ29 Q
    refine wa_aload_n 69 dX5_cutAndTrim_68 rfl rfl ?_
    refine wa_iload_n 70 dX5_cutAndTrim_69 rfl rfl ?_
    refine wa_aload_n 71 dX5_cutAndTrim_70 rfl rfl ?_
    refine wa_callV 74 3 2 5 (av := [(0, w13), (2, (rf L ((rf L v0 8)) w24))]) (rest := [(1, w30), (2, v0)]) (k1 := (0, 0)) (k2 := (0, 0)) cvX5_has dX5_cutAndTrim_71 rfl wM_X5_158 ⟨rfl, by decide, rfl, Nat.le_of_ble_eq_true rfl, by decide, Nat.le_of_ble_eq_true rfl, rfl, rfl⟩ rfl k0 (TR.mono h (fun r31 L32 μ33 h => ?_))
    obtain ⟨w34, rfl, rfl, h⟩ := h
    show WA mX5_cutAndTrim 5 (0, 0) 74 [(2, v0), (0, w13), (2, (rf L ((rf L v0 8)) (((up μ16 v0 10 w17) v0 10)))), (2, (rf L ((rf L v0 8)) w24))] [(1, w34), (1, w30), (2, v0)] L μ33 Q
    refine wa_lc_le 78 82 dX5_cutAndTrim_74 dX5_cutAndTrim_75 rfl (by decide) (fun q => ?_) (fun q => ?_)
    · replace h := h.1 q
      refine wa_iconst 83 dX5_cutAndTrim_82 rfl (by decide) ?_
      exact h
    · replace h := h.2 q
      refine wa_iconst 79 dX5_cutAndTrim_78 rfl (by decide) ?_
      refine wa_goto 83 dX5_cutAndTrim_79 (by decide) ?_
      exact h
  · replace h := h.2 q
    refine wa_iconst 17 dX5_cutAndTrim_16 rfl (by decide) ?_
    exact wa_zret dX5_cutAndTrim_17 rfl (Or.inl rfl) h
set_option maxRecDepth 20000 in
theorem s_X5_cutAndTrim_83 (hL : LayOK L) {v0 v1 v2 v3 s0 s1 : Int} (k0 : isK L v0 (5, 0)) (k2 : isK L v2 (7, 0)) (k3 : isK L v3 (7, 0)) (ks0 : isK L s0 (5, 0)) (h : (s1 = 0 ∨ s1 = 1) ∧ (¬ ((up μ s0 11 s1) v0 11) = 0 → TR mX5_putMark 3 (0, 0) [(2, v0), (2, (rf L ((rf L v0 5)) 2)), (0, v1), (2, (rf L v2 0)), (2, v3), (0, 1), (0, 1)] L (up μ s0 11 s1) (fun r5 L6 μ7 => ∃ w8, r5 = some (0, w8) ∧ L = L6 ∧ (¬ w8 = 0 → TR mX7_put 1 (0, 0) [(2, (rf L v0 9)), (2, (rf L ((rf L v0 5)) 2)), (2, (rf L v2 1))] L μ7 (fun r11 L12 μ13 => r11 = none ∧ L = L12 ∧ TR mX3_copy 0 (0, 0) [(2, (rf L v2 1)), (2, (rf L ((rf L v0 5)) 2))] L μ13 (fun r14 L15 μ16 => r14 = none ∧ L = L15 ∧ TR mX1_note 2 (0, 0) [(2, (rf L v0 1)), (0, 1), (0, v1), (2, (rf L ((rf L v0 9)) 0)), (2, (rf L ((rf L v0 9)) 1))] L μ16 (fun r20 L21 μ22 => r20 = none ∧ L = L21 ∧ Q (some (0, 1)) L μ22)))) ∧ (w8 = 0 → Q (some (0, 0)) L μ7))) ∧ (((up μ s0 11 s1) v0 11) = 0 → TR mX1_note 2 (0, 0) [(2, (rf L v0 1)), (0, 2), (0, v1), (2, (rf L v2 1)), (2, (rf L ((rf L v0 3)) 0))] L (up μ s0 11 s1) (fun r27 L28 μ29 => r27 = none ∧ L = L28 ∧ Q (some (0, 1)) L μ29))) : WA mX5_cutAndTrim 5 (0, 0) 83 [(2, v0), (0, v1), (2, v2), (2, v3)] [(0, s1), (2, s0)] L μ Q := by
  obtain ⟨c1, h⟩ := h
  refine wa_putI 86 11 dX5_cutAndTrim_83 rfl wF_X5_216 rfl rfl ks0 c1 ?_
  refine wa_aload_n 87 dX5_cutAndTrim_86 rfl rfl ?_
  refine wa_getI 90 11 dX5_cutAndTrim_87 rfl wF_X5_216 rfl rfl k0 ?_
  refine wa_if_ne 93 115 dX5_cutAndTrim_90 rfl (by decide) (fun q => ?_) (fun q => ?_)
  · replace h := h.1 q
    refine wa_aload_n 116 dX5_cutAndTrim_115 rfl rfl ?_
    refine wa_aload_n 117 dX5_cutAndTrim_116 rfl rfl ?_
    have e2 : isK L (rf L v0 5) (26, 5) := lay_f hL k0 5 rfl
    refine wa_getR 120 5 dX5_cutAndTrim_117 rfl wF_X5_23 rfl rfl ⟨k0, isK_pos e2⟩ ?_
    refine wa_iconst 121 dX5_cutAndTrim_120 rfl (by decide) ?_
    have e3 : isK L (rf L ((rf L v0 5)) 2) (3, 0) := lay_e hL k0 5 rfl ⟨by decide, by decide⟩
    refine wa_aaload 122 26 dX5_cutAndTrim_121 rfl ⟨by decide, by decide⟩ ⟨okA_of e2 ⟨by decide, by decide⟩, isK_pos e3⟩ ?_
    refine wa_iload_n 123 dX5_cutAndTrim_122 rfl rfl ?_
    refine wa_aload_n 124 dX5_cutAndTrim_123 rfl rfl ?_
    have e4 : isK L (rf L v2 0) (3, 0) := lay_f hL k2 0 rfl
    refine wa_getR 127 0 dX5_cutAndTrim_124 rfl wF_X5_113 rfl rfl ⟨k2, isK_pos e4⟩ ?_
    refine wa_aload_n 128 dX5_cutAndTrim_127 rfl rfl ?_
    refine wa_iconst 129 dX5_cutAndTrim_128 rfl (by decide) ?_
    refine wa_iconst 130 dX5_cutAndTrim_129 rfl (by decide) ?_
    refine wa_callV 133 3 6 5 (av := [(2, (rf L ((rf L v0 5)) 2)), (0, v1), (2, (rf L v2 0)), (2, v3), (0, 1), (0, 1)]) (rest := []) (k1 := (0, 0)) (k2 := (0, 0)) cvX5_putMark dX5_cutAndTrim_130 rfl wM_X5_151 ⟨rfl, by decide, rfl, Nat.le_of_ble_eq_true rfl, by decide, Nat.le_of_ble_eq_true rfl, rfl, rfl⟩ rfl k0 (TR.mono h (fun r5 L6 μ7 h => ?_))
    obtain ⟨w8, rfl, rfl, h⟩ := h
    show WA mX5_cutAndTrim 5 (0, 0) 133 [(2, v0), (0, v1), (2, v2), (2, v3)] [(0, w8)] L μ7 Q
    refine wa_if_ne 136 138 dX5_cutAndTrim_133 rfl (by decide) (fun q => ?_) (fun q => ?_)
    · replace h := h.1 q
      refine wa_aload_n 139 dX5_cutAndTrim_138 rfl rfl ?_
      have e9 : isK L (rf L v0 9) (7, 0) := lay_f hL k0 9 rfl
      refine wa_getR 142 9 dX5_cutAndTrim_139 rfl wF_X5_38 rfl rfl ⟨k0, isK_pos e9⟩ ?_
      refine wa_aload_n 143 dX5_cutAndTrim_142 rfl rfl ?_
      refine wa_getR 146 5 dX5_cutAndTrim_143 rfl wF_X5_23 rfl rfl ⟨k0, isK_pos e2⟩ ?_
      refine wa_iconst 147 dX5_cutAndTrim_146 rfl (by decide) ?_
      refine wa_aaload 148 26 dX5_cutAndTrim_147 rfl ⟨by decide, by decide⟩ ⟨okA_of e2 ⟨by decide, by decide⟩, isK_pos e3⟩ ?_
      refine wa_aload_n 149 dX5_cutAndTrim_148 rfl rfl ?_
      have e10 : isK L (rf L v2 1) (3, 0) := lay_f hL k2 1 rfl
      refine wa_getR 152 1 dX5_cutAndTrim_149 rfl wF_X5_59 rfl rfl ⟨k2, isK_pos e10⟩ ?_
      refine wa_callV 155 1 2 7 (av := [(2, (rf L ((rf L v0 5)) 2)), (2, (rf L v2 1))]) (rest := []) (k1 := (0, 0)) (k2 := (0, 0)) cvX7_put dX5_cutAndTrim_152 rfl wM_X5_155 ⟨rfl, by decide, rfl, Nat.le_of_ble_eq_true rfl, by decide, Nat.le_of_ble_eq_true rfl, rfl, rfl⟩ rfl e9 (TR.mono h (fun r11 L12 μ13 h => ?_))
      obtain ⟨rfl, rfl, h⟩ := h
      show WA mX5_cutAndTrim 5 (0, 0) 155 [(2, v0), (0, v1), (2, v2), (2, v3)] [] L μ13 Q
      refine wa_aload_n 156 dX5_cutAndTrim_155 rfl rfl ?_
      refine wa_getR 159 1 dX5_cutAndTrim_156 rfl wF_X5_59 rfl rfl ⟨k2, isK_pos e10⟩ ?_
      refine wa_aload_n 160 dX5_cutAndTrim_159 rfl rfl ?_
      refine wa_getR 163 5 dX5_cutAndTrim_160 rfl wF_X5_23 rfl rfl ⟨k0, isK_pos e2⟩ ?_
      refine wa_iconst 164 dX5_cutAndTrim_163 rfl (by decide) ?_
      refine wa_aaload 165 26 dX5_cutAndTrim_164 rfl ⟨by decide, by decide⟩ ⟨okA_of e2 ⟨by decide, by decide⟩, isK_pos e3⟩ ?_
      refine wa_callV 168 0 1 3 (av := [(2, (rf L ((rf L v0 5)) 2))]) (rest := []) (k1 := (0, 0)) (k2 := (0, 0)) cvX3_copy dX5_cutAndTrim_165 rfl wM_X5_148 ⟨rfl, by decide, rfl, Nat.le_of_ble_eq_true rfl, by decide, Nat.le_of_ble_eq_true rfl, rfl, rfl⟩ rfl e10 (TR.mono h (fun r14 L15 μ16 h => ?_))
      obtain ⟨rfl, rfl, h⟩ := h
      show WA mX5_cutAndTrim 5 (0, 0) 168 [(2, v0), (0, v1), (2, v2), (2, v3)] [] L μ16 Q
      refine wa_aload_n 169 dX5_cutAndTrim_168 rfl rfl ?_
      have e17 : isK L (rf L v0 1) (1, 0) := lay_f hL k0 1 rfl
      refine wa_getR 172 1 dX5_cutAndTrim_169 rfl wF_X5_45 rfl rfl ⟨k0, isK_pos e17⟩ ?_
      refine wa_iconst 173 dX5_cutAndTrim_172 rfl (by decide) ?_
      refine wa_iload_n 174 dX5_cutAndTrim_173 rfl rfl ?_
      refine wa_aload_n 175 dX5_cutAndTrim_174 rfl rfl ?_
      refine wa_getR 178 9 dX5_cutAndTrim_175 rfl wF_X5_38 rfl rfl ⟨k0, isK_pos e9⟩ ?_
      have e18 : isK L (rf L ((rf L v0 9)) 0) (3, 0) := lay_f hL e9 0 rfl
      refine wa_getR 181 0 dX5_cutAndTrim_178 rfl wF_X5_113 rfl rfl ⟨e9, isK_pos e18⟩ ?_
      refine wa_aload_n 182 dX5_cutAndTrim_181 rfl rfl ?_
      refine wa_getR 185 9 dX5_cutAndTrim_182 rfl wF_X5_38 rfl rfl ⟨k0, isK_pos e9⟩ ?_
      have e19 : isK L (rf L ((rf L v0 9)) 1) (3, 0) := lay_f hL e9 1 rfl
      refine wa_getR 188 1 dX5_cutAndTrim_185 rfl wF_X5_59 rfl rfl ⟨e9, isK_pos e19⟩ ?_
      refine wa_callV 191 2 4 1 (av := [(0, 1), (0, v1), (2, (rf L ((rf L v0 9)) 0)), (2, (rf L ((rf L v0 9)) 1))]) (rest := []) (k1 := (0, 0)) (k2 := (0, 0)) cvX1_note dX5_cutAndTrim_188 rfl wM_X5_140 ⟨rfl, by decide, rfl, Nat.le_of_ble_eq_true rfl, by decide, Nat.le_of_ble_eq_true rfl, rfl, rfl⟩ rfl e17 (TR.mono h (fun r20 L21 μ22 h => ?_))
      obtain ⟨rfl, rfl, h⟩ := h
      show WA mX5_cutAndTrim 5 (0, 0) 191 [(2, v0), (0, v1), (2, v2), (2, v3)] [] L μ22 Q
      refine wa_iconst 192 dX5_cutAndTrim_191 rfl (by decide) ?_
      exact wa_zret dX5_cutAndTrim_192 rfl (Or.inr rfl) h
    · replace h := h.2 q
      refine wa_iconst 137 dX5_cutAndTrim_136 rfl (by decide) ?_
      exact wa_zret dX5_cutAndTrim_137 rfl (Or.inl rfl) h
  · replace h := h.2 q
    refine wa_aload_n 94 dX5_cutAndTrim_93 rfl rfl ?_
    have e23 : isK L (rf L v0 1) (1, 0) := lay_f hL k0 1 rfl
    refine wa_getR 97 1 dX5_cutAndTrim_94 rfl wF_X5_45 rfl rfl ⟨k0, isK_pos e23⟩ ?_
    refine wa_iconst 98 dX5_cutAndTrim_97 rfl (by decide) ?_
    refine wa_iload_n 99 dX5_cutAndTrim_98 rfl rfl ?_
    refine wa_aload_n 100 dX5_cutAndTrim_99 rfl rfl ?_
    have e24 : isK L (rf L v2 1) (3, 0) := lay_f hL k2 1 rfl
    refine wa_getR 103 1 dX5_cutAndTrim_100 rfl wF_X5_59 rfl rfl ⟨k2, isK_pos e24⟩ ?_
    refine wa_aload_n 104 dX5_cutAndTrim_103 rfl rfl ?_
    have e25 : isK L (rf L v0 3) (7, 0) := lay_f hL k0 3 rfl
    refine wa_getR 107 3 dX5_cutAndTrim_104 rfl wF_X5_12 rfl rfl ⟨k0, isK_pos e25⟩ ?_
    have e26 : isK L (rf L ((rf L v0 3)) 0) (3, 0) := lay_f hL e25 0 rfl
    refine wa_getR 110 0 dX5_cutAndTrim_107 rfl wF_X5_113 rfl rfl ⟨e25, isK_pos e26⟩ ?_
    refine wa_callV 113 2 4 1 (av := [(0, 2), (0, v1), (2, (rf L v2 1)), (2, (rf L ((rf L v0 3)) 0))]) (rest := []) (k1 := (0, 0)) (k2 := (0, 0)) cvX1_note dX5_cutAndTrim_110 rfl wM_X5_140 ⟨rfl, by decide, rfl, Nat.le_of_ble_eq_true rfl, by decide, Nat.le_of_ble_eq_true rfl, rfl, rfl⟩ rfl e23 (TR.mono h (fun r27 L28 μ29 h => ?_))
    obtain ⟨rfl, rfl, h⟩ := h
    show WA mX5_cutAndTrim 5 (0, 0) 113 [(2, v0), (0, v1), (2, v2), (2, v3)] [] L μ29 Q
    refine wa_iconst 114 dX5_cutAndTrim_113 rfl (by decide) ?_
    exact wa_zret dX5_cutAndTrim_114 rfl (Or.inr rfl) h
set_option maxRecDepth 20000 in
theorem t_X5_cutInThree (hL : LayOK L) {v0 v1 v2 : Int} (k0 : isK L v0 (5, 0)) (k2 : isK L v2 (7, 0)) (h : TR mX5_putMark 3 (0, 0) [(2, v0), (2, (rf L ((rf L v0 5)) 0)), (0, v1), (2, (rf L v2 0)), (2, v2), (0, 1), (0, 3)] L μ (fun r4 L5 μ6 => ∃ w7, r4 = some (0, w7) ∧ L = L5 ∧ (w7 = 0 → Q (some (0, 0)) L μ6) ∧ (¬ w7 = 0 → TR mX5_putMark 3 (0, 0) [(2, v0), (2, (rf L ((rf L v0 5)) 1)), (0, v1), (2, (rf L v2 0)), (2, v2), (0, 2), (0, 3)] L μ6 (fun r9 L10 μ11 => ∃ w12, r9 = some (0, w12) ∧ L = L10 ∧ (¬ w12 = 0 → TR mX1_note 2 (0, 0) [(2, (rf L v0 1)), (0, 0), (0, v1), (2, (rf L ((rf L v0 5)) 0)), (2, (rf L ((rf L v0 3)) 0))] L μ11 (fun r16 L17 μ18 => r16 = none ∧ L = L17 ∧ TR mX1_note 2 (0, 0) [(2, (rf L v0 1)), (0, 0), (0, v1), (2, (rf L ((rf L v0 5)) 1)), (2, (rf L ((rf L v0 3)) 0))] L μ18 (fun r19 L20 μ21 => r19 = none ∧ L = L20 ∧ TR mX7_put 1 (0, 0) [(2, (rf L ((rf L v0 8)) 0)), (2, (rf L v2 0)), (2, (rf L ((rf L v0 5)) 0))] L μ21 (fun r24 L25 μ26 => r24 = none ∧ L = L25 ∧ TR mX7_put 1 (0, 0) [(2, (rf L ((rf L v0 8)) 1)), (2, (rf L ((rf L v0 5)) 0)), (2, (rf L ((rf L v0 5)) 1))] L μ26 (fun r28 L29 μ30 => r28 = none ∧ L = L29 ∧ TR mX7_put 1 (0, 0) [(2, (rf L ((rf L v0 8)) 2)), (2, (rf L ((rf L v0 5)) 1)), (2, (rf L v2 1))] L μ30 (fun r33 L34 μ35 => r33 = none ∧ L = L34 ∧ Q (some (0, 1)) L μ35)))))) ∧ (w12 = 0 → Q (some (0, 0)) L μ11))))) : TR mX5_cutInThree 4 (0, 0) [(2, v0), (0, v1), (2, v2)] L μ Q := by
  refine TR.of (ls := [(2, v0), (0, v1), (2, v2)]) (by decide) (by simp) rfl (Nat.le_of_ble_eq_true rfl) ?_
  refine wa_aload_n 1 dX5_cutInThree_0 rfl rfl ?_
  refine wa_aload_n 2 dX5_cutInThree_1 rfl rfl ?_
  have e1 : isK L (rf L v0 5) (26, 5) := lay_f hL k0 5 rfl
  refine wa_getR 5 5 dX5_cutInThree_2 rfl wF_X5_23 rfl rfl ⟨k0, isK_pos e1⟩ ?_
  refine wa_iconst 6 dX5_cutInThree_5 rfl (by decide) ?_
  have e2 : isK L (rf L ((rf L v0 5)) 0) (3, 0) := lay_e hL k0 5 rfl ⟨by decide, by decide⟩
  refine wa_aaload 7 26 dX5_cutInThree_6 rfl ⟨by decide, by decide⟩ ⟨okA_of e1 ⟨by decide, by decide⟩, isK_pos e2⟩ ?_
  refine wa_iload_n 8 dX5_cutInThree_7 rfl rfl ?_
  refine wa_aload_n 9 dX5_cutInThree_8 rfl rfl ?_
  have e3 : isK L (rf L v2 0) (3, 0) := lay_f hL k2 0 rfl
  refine wa_getR 12 0 dX5_cutInThree_9 rfl wF_X5_113 rfl rfl ⟨k2, isK_pos e3⟩ ?_
  refine wa_aload_n 13 dX5_cutInThree_12 rfl rfl ?_
  refine wa_iconst 14 dX5_cutInThree_13 rfl (by decide) ?_
  refine wa_iconst 15 dX5_cutInThree_14 rfl (by decide) ?_
  refine wa_callV 18 3 6 5 (av := [(2, (rf L ((rf L v0 5)) 0)), (0, v1), (2, (rf L v2 0)), (2, v2), (0, 1), (0, 3)]) (rest := []) (k1 := (0, 0)) (k2 := (0, 0)) cvX5_putMark dX5_cutInThree_15 rfl wM_X5_151 ⟨rfl, by decide, rfl, Nat.le_of_ble_eq_true rfl, by decide, Nat.le_of_ble_eq_true rfl, rfl, rfl⟩ rfl k0 (TR.mono h (fun r4 L5 μ6 h => ?_))
  obtain ⟨w7, rfl, rfl, h⟩ := h
  show WA mX5_cutInThree 4 (0, 0) 18 [(2, v0), (0, v1), (2, v2)] [(0, w7)] L μ6 Q
  refine wa_if_eq 21 42 dX5_cutInThree_18 rfl (by decide) (fun q => ?_) (fun q => ?_)
  · replace h := h.1 q
    refine wa_iconst 43 dX5_cutInThree_42 rfl (by decide) ?_
    exact wa_zret dX5_cutInThree_43 rfl (Or.inl rfl) h
  · replace h := h.2 q
    refine wa_aload_n 22 dX5_cutInThree_21 rfl rfl ?_
    refine wa_aload_n 23 dX5_cutInThree_22 rfl rfl ?_
    refine wa_getR 26 5 dX5_cutInThree_23 rfl wF_X5_23 rfl rfl ⟨k0, isK_pos e1⟩ ?_
    refine wa_iconst 27 dX5_cutInThree_26 rfl (by decide) ?_
    have e8 : isK L (rf L ((rf L v0 5)) 1) (3, 0) := lay_e hL k0 5 rfl ⟨by decide, by decide⟩
    refine wa_aaload 28 26 dX5_cutInThree_27 rfl ⟨by decide, by decide⟩ ⟨okA_of e1 ⟨by decide, by decide⟩, isK_pos e8⟩ ?_
    refine wa_iload_n 29 dX5_cutInThree_28 rfl rfl ?_
    refine wa_aload_n 30 dX5_cutInThree_29 rfl rfl ?_
    refine wa_getR 33 0 dX5_cutInThree_30 rfl wF_X5_113 rfl rfl ⟨k2, isK_pos e3⟩ ?_
    refine wa_aload_n 34 dX5_cutInThree_33 rfl rfl ?_
    refine wa_iconst 35 dX5_cutInThree_34 rfl (by decide) ?_
    refine wa_iconst 36 dX5_cutInThree_35 rfl (by decide) ?_
    refine wa_callV 39 3 6 5 (av := [(2, (rf L ((rf L v0 5)) 1)), (0, v1), (2, (rf L v2 0)), (2, v2), (0, 2), (0, 3)]) (rest := []) (k1 := (0, 0)) (k2 := (0, 0)) cvX5_putMark dX5_cutInThree_36 rfl wM_X5_151 ⟨rfl, by decide, rfl, Nat.le_of_ble_eq_true rfl, by decide, Nat.le_of_ble_eq_true rfl, rfl, rfl⟩ rfl k0 (TR.mono h (fun r9 L10 μ11 h => ?_))
    obtain ⟨w12, rfl, rfl, h⟩ := h
    show WA mX5_cutInThree 4 (0, 0) 39 [(2, v0), (0, v1), (2, v2)] [(0, w12)] L μ11 Q
    refine wa_if_ne 42 44 dX5_cutInThree_39 rfl (by decide) (fun q => ?_) (fun q => ?_)
    · replace h := h.1 q
      refine wa_aload_n 45 dX5_cutInThree_44 rfl rfl ?_
      have e13 : isK L (rf L v0 1) (1, 0) := lay_f hL k0 1 rfl
      refine wa_getR 48 1 dX5_cutInThree_45 rfl wF_X5_45 rfl rfl ⟨k0, isK_pos e13⟩ ?_
      refine wa_iconst 49 dX5_cutInThree_48 rfl (by decide) ?_
      refine wa_iload_n 50 dX5_cutInThree_49 rfl rfl ?_
      refine wa_aload_n 51 dX5_cutInThree_50 rfl rfl ?_
      refine wa_getR 54 5 dX5_cutInThree_51 rfl wF_X5_23 rfl rfl ⟨k0, isK_pos e1⟩ ?_
      refine wa_iconst 55 dX5_cutInThree_54 rfl (by decide) ?_
      refine wa_aaload 56 26 dX5_cutInThree_55 rfl ⟨by decide, by decide⟩ ⟨okA_of e1 ⟨by decide, by decide⟩, isK_pos e2⟩ ?_
      refine wa_aload_n 57 dX5_cutInThree_56 rfl rfl ?_
      have e14 : isK L (rf L v0 3) (7, 0) := lay_f hL k0 3 rfl
      refine wa_getR 60 3 dX5_cutInThree_57 rfl wF_X5_12 rfl rfl ⟨k0, isK_pos e14⟩ ?_
      have e15 : isK L (rf L ((rf L v0 3)) 0) (3, 0) := lay_f hL e14 0 rfl
      refine wa_getR 63 0 dX5_cutInThree_60 rfl wF_X5_113 rfl rfl ⟨e14, isK_pos e15⟩ ?_
      refine wa_callV 66 2 4 1 (av := [(0, 0), (0, v1), (2, (rf L ((rf L v0 5)) 0)), (2, (rf L ((rf L v0 3)) 0))]) (rest := []) (k1 := (0, 0)) (k2 := (0, 0)) cvX1_note dX5_cutInThree_63 rfl wM_X5_140 ⟨rfl, by decide, rfl, Nat.le_of_ble_eq_true rfl, by decide, Nat.le_of_ble_eq_true rfl, rfl, rfl⟩ rfl e13 (TR.mono h (fun r16 L17 μ18 h => ?_))
      obtain ⟨rfl, rfl, h⟩ := h
      show WA mX5_cutInThree 4 (0, 0) 66 [(2, v0), (0, v1), (2, v2)] [] L μ18 Q
      refine wa_aload_n 67 dX5_cutInThree_66 rfl rfl ?_
      refine wa_getR 70 1 dX5_cutInThree_67 rfl wF_X5_45 rfl rfl ⟨k0, isK_pos e13⟩ ?_
      refine wa_iconst 71 dX5_cutInThree_70 rfl (by decide) ?_
      refine wa_iload_n 72 dX5_cutInThree_71 rfl rfl ?_
      refine wa_aload_n 73 dX5_cutInThree_72 rfl rfl ?_
      refine wa_getR 76 5 dX5_cutInThree_73 rfl wF_X5_23 rfl rfl ⟨k0, isK_pos e1⟩ ?_
      refine wa_iconst 77 dX5_cutInThree_76 rfl (by decide) ?_
      refine wa_aaload 78 26 dX5_cutInThree_77 rfl ⟨by decide, by decide⟩ ⟨okA_of e1 ⟨by decide, by decide⟩, isK_pos e8⟩ ?_
      refine wa_aload_n 79 dX5_cutInThree_78 rfl rfl ?_
      refine wa_getR 82 3 dX5_cutInThree_79 rfl wF_X5_12 rfl rfl ⟨k0, isK_pos e14⟩ ?_
      refine wa_getR 85 0 dX5_cutInThree_82 rfl wF_X5_113 rfl rfl ⟨e14, isK_pos e15⟩ ?_
      refine wa_callV 88 2 4 1 (av := [(0, 0), (0, v1), (2, (rf L ((rf L v0 5)) 1)), (2, (rf L ((rf L v0 3)) 0))]) (rest := []) (k1 := (0, 0)) (k2 := (0, 0)) cvX1_note dX5_cutInThree_85 rfl wM_X5_140 ⟨rfl, by decide, rfl, Nat.le_of_ble_eq_true rfl, by decide, Nat.le_of_ble_eq_true rfl, rfl, rfl⟩ rfl e13 (TR.mono h (fun r19 L20 μ21 h => ?_))
      obtain ⟨rfl, rfl, h⟩ := h
      show WA mX5_cutInThree 4 (0, 0) 88 [(2, v0), (0, v1), (2, v2)] [] L μ21 Q
      refine wa_aload_n 89 dX5_cutInThree_88 rfl rfl ?_
      have e22 : isK L (rf L v0 8) (25, 3) := lay_f hL k0 8 rfl
      refine wa_getR 92 8 dX5_cutInThree_89 rfl wF_X5_34 rfl rfl ⟨k0, isK_pos e22⟩ ?_
      refine wa_iconst 93 dX5_cutInThree_92 rfl (by decide) ?_
      have e23 : isK L (rf L ((rf L v0 8)) 0) (7, 0) := lay_e hL k0 8 rfl ⟨by decide, by decide⟩
      refine wa_aaload 94 25 dX5_cutInThree_93 rfl ⟨by decide, by decide⟩ ⟨okA_of e22 ⟨by decide, by decide⟩, isK_pos e23⟩ ?_
      refine wa_aload_n 95 dX5_cutInThree_94 rfl rfl ?_
      refine wa_getR 98 0 dX5_cutInThree_95 rfl wF_X5_113 rfl rfl ⟨k2, isK_pos e3⟩ ?_
      refine wa_aload_n 99 dX5_cutInThree_98 rfl rfl ?_
      refine wa_getR 102 5 dX5_cutInThree_99 rfl wF_X5_23 rfl rfl ⟨k0, isK_pos e1⟩ ?_
      refine wa_iconst 103 dX5_cutInThree_102 rfl (by decide) ?_
      refine wa_aaload 104 26 dX5_cutInThree_103 rfl ⟨by decide, by decide⟩ ⟨okA_of e1 ⟨by decide, by decide⟩, isK_pos e2⟩ ?_
      refine wa_callV 107 1 2 7 (av := [(2, (rf L v2 0)), (2, (rf L ((rf L v0 5)) 0))]) (rest := []) (k1 := (0, 0)) (k2 := (0, 0)) cvX7_put dX5_cutInThree_104 rfl wM_X5_155 ⟨rfl, by decide, rfl, Nat.le_of_ble_eq_true rfl, by decide, Nat.le_of_ble_eq_true rfl, rfl, rfl⟩ rfl e23 (TR.mono h (fun r24 L25 μ26 h => ?_))
      obtain ⟨rfl, rfl, h⟩ := h
      show WA mX5_cutInThree 4 (0, 0) 107 [(2, v0), (0, v1), (2, v2)] [] L μ26 Q
      refine wa_aload_n 108 dX5_cutInThree_107 rfl rfl ?_
      refine wa_getR 111 8 dX5_cutInThree_108 rfl wF_X5_34 rfl rfl ⟨k0, isK_pos e22⟩ ?_
      refine wa_iconst 112 dX5_cutInThree_111 rfl (by decide) ?_
      have e27 : isK L (rf L ((rf L v0 8)) 1) (7, 0) := lay_e hL k0 8 rfl ⟨by decide, by decide⟩
      refine wa_aaload 113 25 dX5_cutInThree_112 rfl ⟨by decide, by decide⟩ ⟨okA_of e22 ⟨by decide, by decide⟩, isK_pos e27⟩ ?_
      refine wa_aload_n 114 dX5_cutInThree_113 rfl rfl ?_
      refine wa_getR 117 5 dX5_cutInThree_114 rfl wF_X5_23 rfl rfl ⟨k0, isK_pos e1⟩ ?_
      refine wa_iconst 118 dX5_cutInThree_117 rfl (by decide) ?_
      refine wa_aaload 119 26 dX5_cutInThree_118 rfl ⟨by decide, by decide⟩ ⟨okA_of e1 ⟨by decide, by decide⟩, isK_pos e2⟩ ?_
      refine wa_aload_n 120 dX5_cutInThree_119 rfl rfl ?_
      refine wa_getR 123 5 dX5_cutInThree_120 rfl wF_X5_23 rfl rfl ⟨k0, isK_pos e1⟩ ?_
      refine wa_iconst 124 dX5_cutInThree_123 rfl (by decide) ?_
      refine wa_aaload 125 26 dX5_cutInThree_124 rfl ⟨by decide, by decide⟩ ⟨okA_of e1 ⟨by decide, by decide⟩, isK_pos e8⟩ ?_
      refine wa_callV 128 1 2 7 (av := [(2, (rf L ((rf L v0 5)) 0)), (2, (rf L ((rf L v0 5)) 1))]) (rest := []) (k1 := (0, 0)) (k2 := (0, 0)) cvX7_put dX5_cutInThree_125 rfl wM_X5_155 ⟨rfl, by decide, rfl, Nat.le_of_ble_eq_true rfl, by decide, Nat.le_of_ble_eq_true rfl, rfl, rfl⟩ rfl e27 (TR.mono h (fun r28 L29 μ30 h => ?_))
      obtain ⟨rfl, rfl, h⟩ := h
      show WA mX5_cutInThree 4 (0, 0) 128 [(2, v0), (0, v1), (2, v2)] [] L μ30 Q
      refine wa_aload_n 129 dX5_cutInThree_128 rfl rfl ?_
      refine wa_getR 132 8 dX5_cutInThree_129 rfl wF_X5_34 rfl rfl ⟨k0, isK_pos e22⟩ ?_
      refine wa_iconst 133 dX5_cutInThree_132 rfl (by decide) ?_
      have e31 : isK L (rf L ((rf L v0 8)) 2) (7, 0) := lay_e hL k0 8 rfl ⟨by decide, by decide⟩
      refine wa_aaload 134 25 dX5_cutInThree_133 rfl ⟨by decide, by decide⟩ ⟨okA_of e22 ⟨by decide, by decide⟩, isK_pos e31⟩ ?_
      refine wa_aload_n 135 dX5_cutInThree_134 rfl rfl ?_
      refine wa_getR 138 5 dX5_cutInThree_135 rfl wF_X5_23 rfl rfl ⟨k0, isK_pos e1⟩ ?_
      refine wa_iconst 139 dX5_cutInThree_138 rfl (by decide) ?_
      refine wa_aaload 140 26 dX5_cutInThree_139 rfl ⟨by decide, by decide⟩ ⟨okA_of e1 ⟨by decide, by decide⟩, isK_pos e8⟩ ?_
      refine wa_aload_n 141 dX5_cutInThree_140 rfl rfl ?_
      have e32 : isK L (rf L v2 1) (3, 0) := lay_f hL k2 1 rfl
      refine wa_getR 144 1 dX5_cutInThree_141 rfl wF_X5_59 rfl rfl ⟨k2, isK_pos e32⟩ ?_
      refine wa_callV 147 1 2 7 (av := [(2, (rf L ((rf L v0 5)) 1)), (2, (rf L v2 1))]) (rest := []) (k1 := (0, 0)) (k2 := (0, 0)) cvX7_put dX5_cutInThree_144 rfl wM_X5_155 ⟨rfl, by decide, rfl, Nat.le_of_ble_eq_true rfl, by decide, Nat.le_of_ble_eq_true rfl, rfl, rfl⟩ rfl e31 (TR.mono h (fun r33 L34 μ35 h => ?_))
      obtain ⟨rfl, rfl, h⟩ := h
      show WA mX5_cutInThree 4 (0, 0) 147 [(2, v0), (0, v1), (2, v2)] [] L μ35 Q
      refine wa_iconst 148 dX5_cutInThree_147 rfl (by decide) ?_
      exact wa_zret dX5_cutInThree_148 rfl (Or.inr rfl) h
    · replace h := h.2 q
      refine wa_iconst 43 dX5_cutInThree_42 rfl (by decide) ?_
      exact wa_zret dX5_cutInThree_43 rfl (Or.inl rfl) h
set_option maxRecDepth 20000 in
theorem t_X5_diminish (hL : LayOK L) {v0 : Int} (k0 : isK L v0 (5, 0)) (h : TR mX5_everyone 0 (0, 0) [(2, v0)] L μ (fun r1 L2 μ3 => ∃ w4, r1 = some (0, w4) ∧ L = L2 ∧ WA mX5_diminish 5 (0, 0) 13 [(2, v0), (0, w4), (0, (μ3 ((rf L v0 0)) 1)), (9, 0), (9, 0), (9, 0)] [] L μ3 Q)) : TR mX5_diminish 5 (0, 0) [(2, v0)] L μ Q := by
  refine TR.of (ls := [(2, v0), (9, 0), (9, 0), (9, 0), (9, 0), (9, 0)]) (by decide) (by simp) rfl (Nat.le_of_ble_eq_true rfl) ?_
  refine wa_aload_n 1 dX5_diminish_0 rfl rfl ?_
  refine wa_callV 4 0 0 5 (av := []) (rest := []) (k1 := (0, 0)) (k2 := (0, 0)) cvX5_everyone dX5_diminish_1 rfl wM_X5_166 ⟨rfl, by decide, rfl, Nat.le_of_ble_eq_true rfl, by decide, Nat.le_of_ble_eq_true rfl, rfl, rfl⟩ rfl k0 (TR.mono h (fun r1 L2 μ3 h => ?_))
  obtain ⟨w4, rfl, rfl, h⟩ := h
  show WA mX5_diminish 5 (0, 0) 4 [(2, v0), (9, 0), (9, 0), (9, 0), (9, 0), (9, 0)] [(0, w4)] L μ3 Q
  refine wa_istore_n 5 [(2, v0), (0, w4), (9, 0), (9, 0), (9, 0), (9, 0)] dX5_diminish_4 rfl rfl rfl ?_
  refine wa_aload_n 6 dX5_diminish_5 rfl rfl ?_
  have e5 : isK L (rf L v0 0) (0, 0) := lay_f hL k0 0 rfl
  refine wa_getR 9 0 dX5_diminish_6 rfl wF_X5_41 rfl rfl ⟨k0, isK_pos e5⟩ ?_
  refine wa_getI 12 1 dX5_diminish_9 rfl wF_X5_102 rfl rfl e5 ?_
  refine wa_istore_n 13 [(2, v0), (0, w4), (0, (μ3 ((rf L v0 0)) 1)), (9, 0), (9, 0), (9, 0)] dX5_diminish_12 rfl rfl rfl ?_
  exact h
set_option maxRecDepth 20000 in
theorem s_X5_diminish_13 (hL : LayOK L) {v0 v1 v2 : Int} (k0 : isK L v0 (5, 0)) (h : (v2 ≤ 1 → TR mX5_firstOf 1 (0, 0) [(2, v0), (0, v1)] L μ (fun r1 L2 μ3 => ∃ w4, r1 = some (0, w4) ∧ L = L2 ∧ TR mX5_takeRestTo 3 (0, 0) [(2, v0), (0, w4), (2, (rf L ((rf L v0 3)) 1))] L μ3 (fun r7 L8 μ9 => r7 = none ∧ L = L8 ∧ Q (some (0, 1)) L μ9))) ∧ (¬ v2 ≤ 1 → TR mX5_firstOf 1 (0, 0) [(2, v0), (0, v1)] L μ (fun r10 L11 μ12 => ∃ w13, r10 = some (0, w13) ∧ L = L11 ∧ (0 ≤ w13 ∧ w13 < 5) ∧ TR mX5_agentAt 0 (0, 0) [(2, v0), (0, w13)] L μ12 (fun r17 L18 μ19 => ∃ w20, r17 = some (0, w20) ∧ L = L18 ∧ TR mX5_putMark 3 (0, 0) [(2, v0), (2, (rf L ((rf L v0 5)) w13)), (0, w20), (2, (rf L ((rf L v0 4)) 0)), (2, (rf L v0 4)), (0, 1), (0, v2)] L μ19 (fun r23 L24 μ25 => ∃ w26, r23 = some (0, w26) ∧ L = L24 ∧ (¬ w26 = 0 → TR mX5_agentAt 0 (0, 0) [(2, v0), (0, w13)] L μ25 (fun r28 L29 μ30 => ∃ w31, r28 = some (0, w31) ∧ L = L29 ∧ TR mX1_note 2 (0, 0) [(2, (rf L v0 1)), (0, 0), (0, w31), (2, (rf L ((rf L v0 5)) w13)), (2, (rf L ((rf L v0 3)) 0))] L μ30 (fun r34 L35 μ36 => r34 = none ∧ L = L35 ∧ (inI (w13 + 1)) ∧ WA mX5_diminish 5 (0, 0) 88 [(2, v0), (0, v1), (0, v2), (0, w13), (0, (w13 + 1)), (9, 0)] [] L μ36 Q))) ∧ (w26 = 0 → Q (some (0, 0)) L μ25)))))) : WA mX5_diminish 5 (0, 0) 13 [(2, v0), (0, v1), (0, v2), (9, 0), (9, 0), (9, 0)] [] L μ Q := by
  refine wa_iload_n 14 dX5_diminish_13 rfl rfl ?_
  refine wa_iconst 15 dX5_diminish_14 rfl (by decide) ?_
  refine wa_icmp_le 18 160 dX5_diminish_15 rfl (by decide) (fun q => ?_) (fun q => ?_)
  · replace h := h.1 q
    refine wa_aload_n 161 dX5_diminish_160 rfl rfl ?_
    refine wa_aload_n 162 dX5_diminish_161 rfl rfl ?_
    refine wa_iload_n 163 dX5_diminish_162 rfl rfl ?_
    refine wa_callV 166 1 1 5 (av := [(0, v1)]) (rest := [(2, v0)]) (k1 := (0, 0)) (k2 := (0, 0)) cvX5_firstOf dX5_diminish_163 rfl wM_X5_181 ⟨rfl, by decide, rfl, Nat.le_of_ble_eq_true rfl, by decide, Nat.le_of_ble_eq_true rfl, rfl, rfl⟩ rfl k0 (TR.mono h (fun r1 L2 μ3 h => ?_))
    obtain ⟨w4, rfl, rfl, h⟩ := h
    show WA mX5_diminish 5 (0, 0) 166 [(2, v0), (0, v1), (0, v2), (9, 0), (9, 0), (9, 0)] [(0, w4), (2, v0)] L μ3 Q
    refine wa_aload_n 167 dX5_diminish_166 rfl rfl ?_
    have e5 : isK L (rf L v0 3) (7, 0) := lay_f hL k0 3 rfl
    refine wa_getR 170 3 dX5_diminish_167 rfl wF_X5_12 rfl rfl ⟨k0, isK_pos e5⟩ ?_
    have e6 : isK L (rf L ((rf L v0 3)) 1) (3, 0) := lay_f hL e5 1 rfl
    refine wa_getR 173 1 dX5_diminish_170 rfl wF_X5_59 rfl rfl ⟨e5, isK_pos e6⟩ ?_
    refine wa_callV 176 3 2 5 (av := [(0, w4), (2, (rf L ((rf L v0 3)) 1))]) (rest := []) (k1 := (0, 0)) (k2 := (0, 0)) cvX5_takeRestTo dX5_diminish_173 rfl wM_X5_177 ⟨rfl, by decide, rfl, Nat.le_of_ble_eq_true rfl, by decide, Nat.le_of_ble_eq_true rfl, rfl, rfl⟩ rfl k0 (TR.mono h (fun r7 L8 μ9 h => ?_))
    obtain ⟨rfl, rfl, h⟩ := h
    show WA mX5_diminish 5 (0, 0) 176 [(2, v0), (0, v1), (0, v2), (9, 0), (9, 0), (9, 0)] [] L μ9 Q
    refine wa_iconst 177 dX5_diminish_176 rfl (by decide) ?_
    exact wa_zret dX5_diminish_177 rfl (Or.inr rfl) h
  · replace h := h.2 q
    refine wa_aload_n 19 dX5_diminish_18 rfl rfl ?_
    refine wa_iload_n 20 dX5_diminish_19 rfl rfl ?_
    refine wa_callV 23 1 1 5 (av := [(0, v1)]) (rest := []) (k1 := (0, 0)) (k2 := (0, 0)) cvX5_firstOf dX5_diminish_20 rfl wM_X5_181 ⟨rfl, by decide, rfl, Nat.le_of_ble_eq_true rfl, by decide, Nat.le_of_ble_eq_true rfl, rfl, rfl⟩ rfl k0 (TR.mono h (fun r10 L11 μ12 h => ?_))
    obtain ⟨w13, rfl, rfl, h⟩ := h
    show WA mX5_diminish 5 (0, 0) 23 [(2, v0), (0, v1), (0, v2), (9, 0), (9, 0), (9, 0)] [(0, w13)] L μ12 Q
    refine wa_istore_n 24 [(2, v0), (0, v1), (0, v2), (0, w13), (9, 0), (9, 0)] dX5_diminish_23 rfl rfl rfl ?_
    refine wa_aload_n 25 dX5_diminish_24 rfl rfl ?_
    refine wa_aload_n 26 dX5_diminish_25 rfl rfl ?_
    have e14 : isK L (rf L v0 5) (26, 5) := lay_f hL k0 5 rfl
    refine wa_getR 29 5 dX5_diminish_26 rfl wF_X5_23 rfl rfl ⟨k0, isK_pos e14⟩ ?_
    refine wa_iload_n 30 dX5_diminish_29 rfl rfl ?_
    obtain ⟨c15, h⟩ := h
    have e16 : isK L (rf L ((rf L v0 5)) w13) (3, 0) := lay_e hL k0 5 rfl c15
    refine wa_aaload 31 26 dX5_diminish_30 rfl ⟨by decide, by decide⟩ ⟨okA_of e14 c15, isK_pos e16⟩ ?_
    refine wa_aload_n 32 dX5_diminish_31 rfl rfl ?_
    refine wa_iload_n 33 dX5_diminish_32 rfl rfl ?_
    refine wa_callV 36 0 1 5 (av := [(0, w13)]) (rest := [(2, (rf L ((rf L v0 5)) w13)), (2, v0)]) (k1 := (0, 0)) (k2 := (0, 0)) cvX5_agentAt dX5_diminish_33 rfl wM_X5_136 ⟨rfl, by decide, rfl, Nat.le_of_ble_eq_true rfl, by decide, Nat.le_of_ble_eq_true rfl, rfl, rfl⟩ rfl k0 (TR.mono h (fun r17 L18 μ19 h => ?_))
    obtain ⟨w20, rfl, rfl, h⟩ := h
    show WA mX5_diminish 5 (0, 0) 36 [(2, v0), (0, v1), (0, v2), (0, w13), (9, 0), (9, 0)] [(0, w20), (2, (rf L ((rf L v0 5)) w13)), (2, v0)] L μ19 Q
    refine wa_aload_n 37 dX5_diminish_36 rfl rfl ?_
    have e21 : isK L (rf L v0 4) (7, 0) := lay_f hL k0 4 rfl
    refine wa_getR 40 4 dX5_diminish_37 rfl wF_X5_18 rfl rfl ⟨k0, isK_pos e21⟩ ?_
    have e22 : isK L (rf L ((rf L v0 4)) 0) (3, 0) := lay_f hL e21 0 rfl
    refine wa_getR 43 0 dX5_diminish_40 rfl wF_X5_113 rfl rfl ⟨e21, isK_pos e22⟩ ?_
    refine wa_aload_n 44 dX5_diminish_43 rfl rfl ?_
    refine wa_getR 47 4 dX5_diminish_44 rfl wF_X5_18 rfl rfl ⟨k0, isK_pos e21⟩ ?_
    refine wa_iconst 48 dX5_diminish_47 rfl (by decide) ?_
    refine wa_iload_n 49 dX5_diminish_48 rfl rfl ?_
    refine wa_callV 52 3 6 5 (av := [(2, (rf L ((rf L v0 5)) w13)), (0, w20), (2, (rf L ((rf L v0 4)) 0)), (2, (rf L v0 4)), (0, 1), (0, v2)]) (rest := []) (k1 := (0, 0)) (k2 := (0, 0)) cvX5_putMark dX5_diminish_49 rfl wM_X5_151 ⟨rfl, by decide, rfl, Nat.le_of_ble_eq_true rfl, by decide, Nat.le_of_ble_eq_true rfl, rfl, rfl⟩ rfl k0 (TR.mono h (fun r23 L24 μ25 h => ?_))
    obtain ⟨w26, rfl, rfl, h⟩ := h
    show WA mX5_diminish 5 (0, 0) 52 [(2, v0), (0, v1), (0, v2), (0, w13), (9, 0), (9, 0)] [(0, w26)] L μ25 Q
    refine wa_if_ne 55 57 dX5_diminish_52 rfl (by decide) (fun q => ?_) (fun q => ?_)
    · replace h := h.1 q
      refine wa_aload_n 58 dX5_diminish_57 rfl rfl ?_
      have e27 : isK L (rf L v0 1) (1, 0) := lay_f hL k0 1 rfl
      refine wa_getR 61 1 dX5_diminish_58 rfl wF_X5_45 rfl rfl ⟨k0, isK_pos e27⟩ ?_
      refine wa_iconst 62 dX5_diminish_61 rfl (by decide) ?_
      refine wa_aload_n 63 dX5_diminish_62 rfl rfl ?_
      refine wa_iload_n 64 dX5_diminish_63 rfl rfl ?_
      refine wa_callV 67 0 1 5 (av := [(0, w13)]) (rest := [(0, 0), (2, (rf L v0 1))]) (k1 := (0, 0)) (k2 := (0, 0)) cvX5_agentAt dX5_diminish_64 rfl wM_X5_136 ⟨rfl, by decide, rfl, Nat.le_of_ble_eq_true rfl, by decide, Nat.le_of_ble_eq_true rfl, rfl, rfl⟩ rfl k0 (TR.mono h (fun r28 L29 μ30 h => ?_))
      obtain ⟨w31, rfl, rfl, h⟩ := h
      show WA mX5_diminish 5 (0, 0) 67 [(2, v0), (0, v1), (0, v2), (0, w13), (9, 0), (9, 0)] [(0, w31), (0, 0), (2, (rf L v0 1))] L μ30 Q
      refine wa_aload_n 68 dX5_diminish_67 rfl rfl ?_
      refine wa_getR 71 5 dX5_diminish_68 rfl wF_X5_23 rfl rfl ⟨k0, isK_pos e14⟩ ?_
      refine wa_iload_n 72 dX5_diminish_71 rfl rfl ?_
      refine wa_aaload 73 26 dX5_diminish_72 rfl ⟨by decide, by decide⟩ ⟨okA_of e14 c15, isK_pos e16⟩ ?_
      refine wa_aload_n 74 dX5_diminish_73 rfl rfl ?_
      have e32 : isK L (rf L v0 3) (7, 0) := lay_f hL k0 3 rfl
      refine wa_getR 77 3 dX5_diminish_74 rfl wF_X5_12 rfl rfl ⟨k0, isK_pos e32⟩ ?_
      have e33 : isK L (rf L ((rf L v0 3)) 0) (3, 0) := lay_f hL e32 0 rfl
      refine wa_getR 80 0 dX5_diminish_77 rfl wF_X5_113 rfl rfl ⟨e32, isK_pos e33⟩ ?_
      refine wa_callV 83 2 4 1 (av := [(0, 0), (0, w31), (2, (rf L ((rf L v0 5)) w13)), (2, (rf L ((rf L v0 3)) 0))]) (rest := []) (k1 := (0, 0)) (k2 := (0, 0)) cvX1_note dX5_diminish_80 rfl wM_X5_140 ⟨rfl, by decide, rfl, Nat.le_of_ble_eq_true rfl, by decide, Nat.le_of_ble_eq_true rfl, rfl, rfl⟩ rfl e27 (TR.mono h (fun r34 L35 μ36 h => ?_))
      obtain ⟨rfl, rfl, h⟩ := h
      show WA mX5_diminish 5 (0, 0) 83 [(2, v0), (0, v1), (0, v2), (0, w13), (9, 0), (9, 0)] [] L μ36 Q
      refine wa_iload_n 84 dX5_diminish_83 rfl rfl ?_
      refine wa_iconst 85 dX5_diminish_84 rfl (by decide) ?_
      obtain ⟨c37, h⟩ := h
      refine wa_iadd 86 dX5_diminish_85 rfl c37 ?_
      refine wa_istore 88 [(2, v0), (0, v1), (0, v2), (0, w13), (0, (w13 + 1)), (9, 0)] dX5_diminish_86 rfl rfl rfl ?_
      exact h
    · replace h := h.2 q
      refine wa_iconst 56 dX5_diminish_55 rfl (by decide) ?_
      exact wa_zret dX5_diminish_56 rfl (Or.inl rfl) h
set_option maxRecDepth 20000 in
theorem s_X5_diminish_88 (hL : LayOK L) {v0 v1 v2 v3 v4 : Int} (k0 : isK L v0 (5, 0)) (h : ((μ ((rf L v0 0)) 1) ≤ v4 → (0 ≤ v3 ∧ v3 < 5) ∧ TR mX5_takeRestTo 3 (0, 0) [(2, v0), (0, v3), (2, (rf L ((rf L v0 5)) v3))] L μ (fun r5 L6 μ7 => r5 = none ∧ L = L6 ∧ (inI (v2 + (-1))) ∧ WA mX5_diminish 5 (0, 0) 13 [(2, v0), (0, (bAnd v1 ((bXor ((bShl 1 v3)) ((-1)))))), (0, (v2 + (-1))), (9, 0), (9, 0), (9, 0)] [] L μ7 Q)) ∧ (¬ (μ ((rf L v0 0)) 1) ≤ v4 → TR mX5_isIn 0 (0, 0) [(0, v1), (0, v4)] L μ (fun r9 L10 μ11 => ∃ w12, r9 = some (0, w12) ∧ L = L10 ∧ (w12 = 0 → (inI (v4 + 1)) ∧ WA mX5_diminish 5 (0, 0) 88 [(2, v0), (0, v1), (0, v2), (0, v3), (0, (v4 + 1)), (9, 0)] [] L μ11 Q) ∧ (¬ w12 = 0 → TR mX5_trimOrPass 4 (0, 0) [(2, v0), (0, v4), (0, v3), (0, v2)] L μ11 (fun r14 L15 μ16 => ∃ w17, r14 = some (0, w17) ∧ L = L15 ∧ (0 ≤ w17 → (inI (v4 + 1)) ∧ WA mX5_diminish 5 (0, 0) 88 [(2, v0), (0, v1), (0, v2), (0, w17), (0, (v4 + 1)), (9, 0)] [] L μ16 Q) ∧ (¬ 0 ≤ w17 → Q (some (0, 0)) L μ16)))))) : WA mX5_diminish 5 (0, 0) 88 [(2, v0), (0, v1), (0, v2), (0, v3), (0, v4), (9, 0)] [] L μ Q := by
  refine wa_iload 90 dX5_diminish_88 rfl rfl ?_
  refine wa_aload_n 91 dX5_diminish_90 rfl rfl ?_
  have e1 : isK L (rf L v0 0) (0, 0) := lay_f hL k0 0 rfl
  refine wa_getR 94 0 dX5_diminish_91 rfl wF_X5_41 rfl rfl ⟨k0, isK_pos e1⟩ ?_
  refine wa_getI 97 1 dX5_diminish_94 rfl wF_X5_102 rfl rfl e1 ?_
  refine wa_icmp_ge 100 135 dX5_diminish_97 rfl (by decide) (fun q => ?_) (fun q => ?_)
  · replace h := h.1 q
    refine wa_aload_n 136 dX5_diminish_135 rfl rfl ?_
    refine wa_iload_n 137 dX5_diminish_136 rfl rfl ?_
    refine wa_aload_n 138 dX5_diminish_137 rfl rfl ?_
    have e2 : isK L (rf L v0 5) (26, 5) := lay_f hL k0 5 rfl
    refine wa_getR 141 5 dX5_diminish_138 rfl wF_X5_23 rfl rfl ⟨k0, isK_pos e2⟩ ?_
    refine wa_iload_n 142 dX5_diminish_141 rfl rfl ?_
    obtain ⟨c3, h⟩ := h
    have e4 : isK L (rf L ((rf L v0 5)) v3) (3, 0) := lay_e hL k0 5 rfl c3
    refine wa_aaload 143 26 dX5_diminish_142 rfl ⟨by decide, by decide⟩ ⟨okA_of e2 c3, isK_pos e4⟩ ?_
    refine wa_callV 146 3 2 5 (av := [(0, v3), (2, (rf L ((rf L v0 5)) v3))]) (rest := []) (k1 := (0, 0)) (k2 := (0, 0)) cvX5_takeRestTo dX5_diminish_143 rfl wM_X5_177 ⟨rfl, by decide, rfl, Nat.le_of_ble_eq_true rfl, by decide, Nat.le_of_ble_eq_true rfl, rfl, rfl⟩ rfl k0 (TR.mono h (fun r5 L6 μ7 h => ?_))
    obtain ⟨rfl, rfl, h⟩ := h
    show WA mX5_diminish 5 (0, 0) 146 [(2, v0), (0, v1), (0, v2), (0, v3), (0, v4), (9, 0)] [] L μ7 Q
    refine wa_iload_n 147 dX5_diminish_146 rfl rfl ?_
    refine wa_iconst 148 dX5_diminish_147 rfl (by decide) ?_
    refine wa_iload_n 149 dX5_diminish_148 rfl rfl ?_
    refine wa_ishl 150 dX5_diminish_149 rfl ?_
    refine wa_iconst 151 dX5_diminish_150 rfl (by decide) ?_
    refine wa_ixor 152 dX5_diminish_151 rfl ?_
    refine wa_iand 153 dX5_diminish_152 rfl ?_
    refine wa_istore_n 154 [(2, v0), (0, (bAnd v1 ((bXor ((bShl 1 v3)) ((-1)))))), (0, v2), (0, v3), (0, v4), (9, 0)] dX5_diminish_153 rfl rfl rfl ?_
    obtain ⟨c8, h⟩ := h
    refine wa_iinc 157 [(2, v0), (0, (bAnd v1 ((bXor ((bShl 1 v3)) ((-1)))))), (0, (v2 + (-1))), (0, v3), (0, v4), (9, 0)] dX5_diminish_154 rfl rfl rfl c8 rfl ?_
    refine wa_goto 13 dX5_diminish_157 (by decide) ?_
    exact wa_weak [(2, v0), (0, (bAnd v1 ((bXor ((bShl 1 v3)) ((-1)))))), (0, (v2 + (-1))), (9, 0), (9, 0), (9, 0)] ⟨Or.inl rfl, Or.inl rfl, Or.inl rfl, Or.inr rfl, Or.inr rfl, Or.inl rfl, trivial⟩ h
  · replace h := h.2 q
    refine wa_iload_n 101 dX5_diminish_100 rfl rfl ?_
    refine wa_iload 103 dX5_diminish_101 rfl rfl ?_
    refine wa_callS 106 0 2 (av := [(0, v1), (0, v4)]) (rest := []) (k1 := (0, 0)) (k2 := (0, 0)) cvX5_isIn dX5_diminish_103 rfl wM_X5_105 ⟨rfl, Nat.le_of_ble_eq_true rfl, by decide, Nat.le_of_ble_eq_true rfl, rfl, rfl⟩ rfl (TR.mono h (fun r9 L10 μ11 h => ?_))
    obtain ⟨w12, rfl, rfl, h⟩ := h
    show WA mX5_diminish 5 (0, 0) 106 [(2, v0), (0, v1), (0, v2), (0, v3), (0, v4), (9, 0)] [(0, w12)] L μ11 Q
    refine wa_if_eq 109 129 dX5_diminish_106 rfl (by decide) (fun q => ?_) (fun q => ?_)
    · replace h := h.1 q
      obtain ⟨c13, h⟩ := h
      refine wa_iinc 132 [(2, v0), (0, v1), (0, v2), (0, v3), (0, (v4 + 1)), (9, 0)] dX5_diminish_129 rfl rfl rfl c13 rfl ?_
      refine wa_goto 88 dX5_diminish_132 (by decide) ?_
      exact h
    · replace h := h.2 q
      refine wa_aload_n 110 dX5_diminish_109 rfl rfl ?_
      refine wa_iload 112 dX5_diminish_110 rfl rfl ?_
      refine wa_iload_n 113 dX5_diminish_112 rfl rfl ?_
      refine wa_iload_n 114 dX5_diminish_113 rfl rfl ?_
      refine wa_callV 117 4 3 5 (av := [(0, v4), (0, v3), (0, v2)]) (rest := []) (k1 := (0, 0)) (k2 := (0, 0)) cvX5_trimOrPass dX5_diminish_114 rfl wM_X5_187 ⟨rfl, by decide, rfl, Nat.le_of_ble_eq_true rfl, by decide, Nat.le_of_ble_eq_true rfl, rfl, rfl⟩ rfl k0 (TR.mono h (fun r14 L15 μ16 h => ?_))
      obtain ⟨w17, rfl, rfl, h⟩ := h
      show WA mX5_diminish 5 (0, 0) 117 [(2, v0), (0, v1), (0, v2), (0, v3), (0, v4), (9, 0)] [(0, w17)] L μ16 Q
      refine wa_istore 119 [(2, v0), (0, v1), (0, v2), (0, v3), (0, v4), (0, w17)] dX5_diminish_117 rfl rfl rfl ?_
      refine wa_iload 121 dX5_diminish_119 rfl rfl ?_
      refine wa_if_ge 124 126 dX5_diminish_121 rfl (by decide) (fun q => ?_) (fun q => ?_)
      · replace h := h.1 q
        refine wa_iload 128 dX5_diminish_126 rfl rfl ?_
        refine wa_istore_n 129 [(2, v0), (0, v1), (0, v2), (0, w17), (0, v4), (0, w17)] dX5_diminish_128 rfl rfl rfl ?_
        obtain ⟨c18, h⟩ := h
        refine wa_iinc 132 [(2, v0), (0, v1), (0, v2), (0, w17), (0, (v4 + 1)), (0, w17)] dX5_diminish_129 rfl rfl rfl c18 rfl ?_
        refine wa_goto 88 dX5_diminish_132 (by decide) ?_
        exact wa_weak [(2, v0), (0, v1), (0, v2), (0, w17), (0, (v4 + 1)), (9, 0)] ⟨Or.inl rfl, Or.inl rfl, Or.inl rfl, Or.inl rfl, Or.inl rfl, Or.inr rfl, trivial⟩ h
      · replace h := h.2 q
        refine wa_iconst 125 dX5_diminish_124 rfl (by decide) ?_
        exact wa_zret dX5_diminish_125 rfl (Or.inl rfl) h
set_option maxRecDepth 20000 in
theorem t_X5_everyone (hL : LayOK L) {v0 : Int} (k0 : isK L v0 (5, 0)) (h : (inI ((bShl 1 ((μ ((rf L v0 0)) 1))) - 1)) ∧ Q (some (0, ((bShl 1 ((μ ((rf L v0 0)) 1))) - 1))) L μ) : TR mX5_everyone 0 (0, 0) [(2, v0)] L μ Q := by
  refine TR.of (ls := [(2, v0)]) (by decide) (by simp) rfl (Nat.le_of_ble_eq_true rfl) ?_
  refine wa_iconst 1 dX5_everyone_0 rfl (by decide) ?_
  refine wa_aload_n 2 dX5_everyone_1 rfl rfl ?_
  have e1 : isK L (rf L v0 0) (0, 0) := lay_f hL k0 0 rfl
  refine wa_getR 5 0 dX5_everyone_2 rfl wF_X5_41 rfl rfl ⟨k0, isK_pos e1⟩ ?_
  refine wa_getI 8 1 dX5_everyone_5 rfl wF_X5_102 rfl rfl e1 ?_
  refine wa_ishl 9 dX5_everyone_8 rfl ?_
  refine wa_iconst 10 dX5_everyone_9 rfl (by decide) ?_
  obtain ⟨c2, h⟩ := h
  refine wa_isub 11 dX5_everyone_10 rfl c2 ?_
  exact wa_iret dX5_everyone_11 rfl h
set_option maxRecDepth 20000 in
theorem t_X5_firstOf (hL : LayOK L) {v0 v1 : Int} (k0 : isK L v0 (5, 0)) (h : WA mX5_firstOf 1 (0, 0) 2 [(2, v0), (0, v1), (0, 0)] [] L μ Q) : TR mX5_firstOf 1 (0, 0) [(2, v0), (0, v1)] L μ Q := by
  refine TR.of (ls := [(2, v0), (0, v1), (9, 0)]) (by decide) (by simp) rfl (Nat.le_of_ble_eq_true rfl) ?_
  refine wa_iconst 1 dX5_firstOf_0 rfl (by decide) ?_
  refine wa_istore_n 2 [(2, v0), (0, v1), (0, 0)] dX5_firstOf_1 rfl rfl rfl ?_
  exact h
set_option maxRecDepth 20000 in
theorem s_X5_firstOf_2 (hL : LayOK L) {v0 v1 v2 : Int} (k0 : isK L v0 (5, 0)) (h : ((μ ((rf L v0 0)) 1) ≤ v2 → Q (some (0, 0)) L μ) ∧ (¬ (μ ((rf L v0 0)) 1) ≤ v2 → TR mX5_isIn 0 (0, 0) [(0, v1), (0, v2)] L μ (fun r2 L3 μ4 => ∃ w5, r2 = some (0, w5) ∧ L = L3 ∧ (w5 = 0 → (inI (v2 + 1)) ∧ WA mX5_firstOf 1 (0, 0) 2 [(2, v0), (0, v1), (0, (v2 + 1))] [] L μ4 Q) ∧ (¬ w5 = 0 → Q (some (0, v2)) L μ4)))) : WA mX5_firstOf 1 (0, 0) 2 [(2, v0), (0, v1), (0, v2)] [] L μ Q := by
  refine wa_iload_n 3 dX5_firstOf_2 rfl rfl ?_
  refine wa_aload_n 4 dX5_firstOf_3 rfl rfl ?_
  have e1 : isK L (rf L v0 0) (0, 0) := lay_f hL k0 0 rfl
  refine wa_getR 7 0 dX5_firstOf_4 rfl wF_X5_41 rfl rfl ⟨k0, isK_pos e1⟩ ?_
  refine wa_getI 10 1 dX5_firstOf_7 rfl wF_X5_102 rfl rfl e1 ?_
  refine wa_icmp_ge 13 29 dX5_firstOf_10 rfl (by decide) (fun q => ?_) (fun q => ?_)
  · replace h := h.1 q
    refine wa_iconst 30 dX5_firstOf_29 rfl (by decide) ?_
    exact wa_iret dX5_firstOf_30 rfl h
  · replace h := h.2 q
    refine wa_iload_n 14 dX5_firstOf_13 rfl rfl ?_
    refine wa_iload_n 15 dX5_firstOf_14 rfl rfl ?_
    refine wa_callS 18 0 2 (av := [(0, v1), (0, v2)]) (rest := []) (k1 := (0, 0)) (k2 := (0, 0)) cvX5_isIn dX5_firstOf_15 rfl wM_X5_105 ⟨rfl, Nat.le_of_ble_eq_true rfl, by decide, Nat.le_of_ble_eq_true rfl, rfl, rfl⟩ rfl (TR.mono h (fun r2 L3 μ4 h => ?_))
    obtain ⟨w5, rfl, rfl, h⟩ := h
    show WA mX5_firstOf 1 (0, 0) 18 [(2, v0), (0, v1), (0, v2)] [(0, w5)] L μ4 Q
    refine wa_if_eq 21 23 dX5_firstOf_18 rfl (by decide) (fun q => ?_) (fun q => ?_)
    · replace h := h.1 q
      obtain ⟨c6, h⟩ := h
      refine wa_iinc 26 [(2, v0), (0, v1), (0, (v2 + 1))] dX5_firstOf_23 rfl rfl rfl c6 rfl ?_
      refine wa_goto 2 dX5_firstOf_26 (by decide) ?_
      exact h
    · replace h := h.2 q
      refine wa_iload_n 22 dX5_firstOf_21 rfl rfl ?_
      exact wa_iret dX5_firstOf_22 rfl h
set_option maxRecDepth 20000 in
theorem t_X5_halve (hL : LayOK L) {v0 : Int} (k0 : isK L v0 (5, 0)) (h : TR mX5_everyone 0 (0, 0) [(2, v0)] L μ (fun r2 L3 μ4 => ∃ w5, r2 = some (0, w5) ∧ L = L3 ∧ TR mX3_copy 0 (0, 0) [(2, (rf L ((rf L v0 6)) 0)), (2, (rf L ((rf L v0 3)) 1))] L (up μ4 ((rf L v0 7)) 0 w5) (fun r10 L11 μ12 => r10 = none ∧ L = L11 ∧ WA mX5_halve 5 (0, 0) 30 [(2, v0), (0, 1), (0, 0), (9, 0), (9, 0)] [] L μ12 Q))) : TR mX5_halve 5 (0, 0) [(2, v0)] L μ Q := by
  refine TR.of (ls := [(2, v0), (9, 0), (9, 0), (9, 0), (9, 0)]) (by decide) (by simp) rfl (Nat.le_of_ble_eq_true rfl) ?_
  refine wa_iconst 1 dX5_halve_0 rfl (by decide) ?_
  refine wa_istore_n 2 [(2, v0), (0, 1), (9, 0), (9, 0), (9, 0)] dX5_halve_1 rfl rfl rfl ?_
  refine wa_aload_n 3 dX5_halve_2 rfl rfl ?_
  have e1 : isK L (rf L v0 7) (20, 5) := lay_f hL k0 7 rfl
  refine wa_getR 6 7 dX5_halve_3 rfl wF_X5_30 rfl rfl ⟨k0, isK_pos e1⟩ ?_
  refine wa_iconst 7 dX5_halve_6 rfl (by decide) ?_
  refine wa_aload_n 8 dX5_halve_7 rfl rfl ?_
  refine wa_callV 11 0 0 5 (av := []) (rest := [(0, 0), (2, (rf L v0 7))]) (k1 := (0, 0)) (k2 := (0, 0)) cvX5_everyone dX5_halve_8 rfl wM_X5_166 ⟨rfl, by decide, rfl, Nat.le_of_ble_eq_true rfl, by decide, Nat.le_of_ble_eq_true rfl, rfl, rfl⟩ rfl k0 (TR.mono h (fun r2 L3 μ4 h => ?_))
  obtain ⟨w5, rfl, rfl, h⟩ := h
  show WA mX5_halve 5 (0, 0) 11 [(2, v0), (0, 1), (9, 0), (9, 0), (9, 0)] [(0, w5), (0, 0), (2, (rf L v0 7))] L μ4 Q
  refine wa_iastore 12 dX5_halve_11 rfl (okA_of e1 ⟨by decide, by decide⟩) ?_
  refine wa_aload_n 13 dX5_halve_12 rfl rfl ?_
  have e6 : isK L (rf L v0 6) (26, 5) := lay_f hL k0 6 rfl
  refine wa_getR 16 6 dX5_halve_13 rfl wF_X5_27 rfl rfl ⟨k0, isK_pos e6⟩ ?_
  refine wa_iconst 17 dX5_halve_16 rfl (by decide) ?_
  have e7 : isK L (rf L ((rf L v0 6)) 0) (3, 0) := lay_e hL k0 6 rfl ⟨by decide, by decide⟩
  refine wa_aaload 18 26 dX5_halve_17 rfl ⟨by decide, by decide⟩ ⟨okA_of e6 ⟨by decide, by decide⟩, isK_pos e7⟩ ?_
  refine wa_aload_n 19 dX5_halve_18 rfl rfl ?_
  have e8 : isK L (rf L v0 3) (7, 0) := lay_f hL k0 3 rfl
  refine wa_getR 22 3 dX5_halve_19 rfl wF_X5_12 rfl rfl ⟨k0, isK_pos e8⟩ ?_
  have e9 : isK L (rf L ((rf L v0 3)) 1) (3, 0) := lay_f hL e8 1 rfl
  refine wa_getR 25 1 dX5_halve_22 rfl wF_X5_59 rfl rfl ⟨e8, isK_pos e9⟩ ?_
  refine wa_callV 28 0 1 3 (av := [(2, (rf L ((rf L v0 3)) 1))]) (rest := []) (k1 := (0, 0)) (k2 := (0, 0)) cvX3_copy dX5_halve_25 rfl wM_X5_148 ⟨rfl, by decide, rfl, Nat.le_of_ble_eq_true rfl, by decide, Nat.le_of_ble_eq_true rfl, rfl, rfl⟩ rfl e7 (TR.mono h (fun r10 L11 μ12 h => ?_))
  obtain ⟨rfl, rfl, h⟩ := h
  show WA mX5_halve 5 (0, 0) 28 [(2, v0), (0, 1), (9, 0), (9, 0), (9, 0)] [] L μ12 Q
  refine wa_iconst 29 dX5_halve_28 rfl (by decide) ?_
  refine wa_istore_n 30 [(2, v0), (0, 1), (0, 0), (9, 0), (9, 0)] dX5_halve_29 rfl rfl rfl ?_
  exact h
set_option maxRecDepth 20000 in
theorem s_X5_halve_30 (hL : LayOK L) {v0 v1 v2 : Int} (k0 : isK L v0 (5, 0)) (h : (10 ≤ v2 → Q (some (0, 1)) L μ) ∧ (¬ 10 ≤ v2 → (v1 ≤ 0 → Q (some (0, 1)) L μ) ∧ (¬ v1 ≤ 0 → (inI (v1 - 1)) ∧ (0 ≤ (v1 - 1) ∧ (v1 - 1) < 5) ∧ TR mX3_copy 0 (0, 0) [(2, (rf L ((rf L v0 4)) 1)), (2, (rf L ((rf L v0 6)) ((v1 - 1))))] L μ (fun r8 L9 μ10 => r8 = none ∧ L = L9 ∧ TR mJ6_bitCount_0f7a4 0 (0, 0) [(0, (μ ((rf L v0 7)) ((v1 - 1))))] L μ10 (fun r11 L12 μ13 => ∃ w14, r11 = some (0, w14) ∧ L = L12 ∧ (w14 < 2 → TR mX5_firstOf 1 (0, 0) [(2, v0), (0, (μ ((rf L v0 7)) ((v1 - 1))))] L μ13 (fun r15 L16 μ17 => ∃ w18, r15 = some (0, w18) ∧ L = L16 ∧ TR mX5_takeRestTo 3 (0, 0) [(2, v0), (0, w18), (2, (rf L ((rf L v0 4)) 1))] L μ17 (fun r19 L20 μ21 => r19 = none ∧ L = L20 ∧ (inI (v1 + (-1))) ∧ (inI (v2 + 1)) ∧ WA mX5_halve 5 (0, 0) 30 [(2, v0), (0, (v1 + (-1))), (0, (v2 + 1)), (9, 0), (9, 0)] [] L μ21 Q))) ∧ (¬ w14 < 2 → (v1 < 5 → (0 ≤ w14) ∧ TR mX5_markAll 4 (0, 0) [(2, v0), (0, (μ ((rf L v0 7)) ((v1 - 1)))), (2, (rf L v0 4)), (0, (w14 / 2)), (0, w14)] L μ13 (fun r25 L26 μ27 => ∃ w28, r25 = some (0, w28) ∧ L = L26 ∧ (¬ w28 = 0 → (0 ≤ v1 ∧ v1 < 5) ∧ TR mX5_othersBehind 3 (0, 0) [(2, v0), (0, (μ ((rf L v0 7)) ((v1 - 1)))), (0, (w14 / 2)), (2, (rf L ((rf L v0 6)) v1))] L μ27 (fun r31 L32 μ33 => ∃ w34, r31 = some (0, w34) ∧ L = L32 ∧ (inI (v1 + 1)) ∧ (inI (v2 + 1)) ∧ WA mX5_halve 5 (0, 0) 30 [(2, v0), (0, (v1 + 1)), (0, (v2 + 1)), (9, 0), (9, 0)] [] L (up (up μ33 ((rf L v0 7)) ((v1 - 1)) w34) ((rf L v0 7)) v1 ((bAnd ((μ ((rf L v0 7)) ((v1 - 1)))) ((bXor (((up μ33 ((rf L v0 7)) ((v1 - 1)) w34) ((rf L v0 7)) ((v1 - 1)))) ((-1))))))) Q)) ∧ (w28 = 0 → Q (some (0, 0)) L μ27))) ∧ (¬ v1 < 5 → TR mX5_firstOf 1 (0, 0) [(2, v0), (0, (μ ((rf L v0 7)) ((v1 - 1))))] L μ13 (fun r37 L38 μ39 => ∃ w40, r37 = some (0, w40) ∧ L = L38 ∧ TR mX5_takeRestTo 3 (0, 0) [(2, v0), (0, w40), (2, (rf L ((rf L v0 4)) 1))] L μ39 (fun r41 L42 μ43 => r41 = none ∧ L = L42 ∧ (inI (v1 + (-1))) ∧ (inI (v2 + 1)) ∧ WA mX5_halve 5 (0, 0) 30 [(2, v0), (0, (v1 + (-1))), (0, (v2 + 1)), (9, 0), (9, 0)] [] L μ43 Q))))))))) : WA mX5_halve 5 (0, 0) 30 [(2, v0), (0, v1), (0, v2), (9, 0), (9, 0)] [] L μ Q := by
  refine wa_iload_n 31 dX5_halve_30 rfl rfl ?_
  refine wa_bipush 33 dX5_halve_31 rfl ⟨by decide, by decide⟩ ?_
  refine wa_icmp_ge 36 176 dX5_halve_33 rfl (by decide) (fun q => ?_) (fun q => ?_)
  · replace h := h.1 q
    refine wa_iconst 177 dX5_halve_176 rfl (by decide) ?_
    exact wa_zret dX5_halve_177 rfl (Or.inr rfl) h
  · replace h := h.2 q
    refine wa_iload_n 37 dX5_halve_36 rfl rfl ?_
    refine wa_if_le 40 176 dX5_halve_37 rfl (by decide) (fun q => ?_) (fun q => ?_)
    · replace h := h.1 q
      refine wa_iconst 177 dX5_halve_176 rfl (by decide) ?_
      exact wa_zret dX5_halve_177 rfl (Or.inr rfl) h
    · replace h := h.2 q
      refine wa_aload_n 41 dX5_halve_40 rfl rfl ?_
      have e1 : isK L (rf L v0 7) (20, 5) := lay_f hL k0 7 rfl
      refine wa_getR 44 7 dX5_halve_41 rfl wF_X5_30 rfl rfl ⟨k0, isK_pos e1⟩ ?_
      refine wa_iload_n 45 dX5_halve_44 rfl rfl ?_
      refine wa_iconst 46 dX5_halve_45 rfl (by decide) ?_
      obtain ⟨c2, h⟩ := h
      refine wa_isub 47 dX5_halve_46 rfl c2 ?_
      obtain ⟨c3, h⟩ := h
      refine wa_iaload 48 dX5_halve_47 rfl (okA_of e1 c3) ?_
      refine wa_istore_n 49 [(2, v0), (0, v1), (0, v2), (0, (μ ((rf L v0 7)) ((v1 - 1)))), (9, 0)] dX5_halve_48 rfl rfl rfl ?_
      refine wa_aload_n 50 dX5_halve_49 rfl rfl ?_
      have e4 : isK L (rf L v0 4) (7, 0) := lay_f hL k0 4 rfl
      refine wa_getR 53 4 dX5_halve_50 rfl wF_X5_18 rfl rfl ⟨k0, isK_pos e4⟩ ?_
      have e5 : isK L (rf L ((rf L v0 4)) 1) (3, 0) := lay_f hL e4 1 rfl
      refine wa_getR 56 1 dX5_halve_53 rfl wF_X5_59 rfl rfl ⟨e4, isK_pos e5⟩ ?_
      refine wa_aload_n 57 dX5_halve_56 rfl rfl ?_
      have e6 : isK L (rf L v0 6) (26, 5) := lay_f hL k0 6 rfl
      refine wa_getR 60 6 dX5_halve_57 rfl wF_X5_27 rfl rfl ⟨k0, isK_pos e6⟩ ?_
      refine wa_iload_n 61 dX5_halve_60 rfl rfl ?_
      refine wa_iconst 62 dX5_halve_61 rfl (by decide) ?_
      refine wa_isub 63 dX5_halve_62 rfl c2 ?_
      have e7 : isK L (rf L ((rf L v0 6)) ((v1 - 1))) (3, 0) := lay_e hL k0 6 rfl c3
      refine wa_aaload 64 26 dX5_halve_63 rfl ⟨by decide, by decide⟩ ⟨okA_of e6 c3, isK_pos e7⟩ ?_
      refine wa_callV 67 0 1 3 (av := [(2, (rf L ((rf L v0 6)) ((v1 - 1))))]) (rest := []) (k1 := (0, 0)) (k2 := (0, 0)) cvX3_copy dX5_halve_64 rfl wM_X5_148 ⟨rfl, by decide, rfl, Nat.le_of_ble_eq_true rfl, by decide, Nat.le_of_ble_eq_true rfl, rfl, rfl⟩ rfl e5 (TR.mono h (fun r8 L9 μ10 h => ?_))
      obtain ⟨rfl, rfl, h⟩ := h
      show WA mX5_halve 5 (0, 0) 67 [(2, v0), (0, v1), (0, v2), (0, (μ ((rf L v0 7)) ((v1 - 1)))), (9, 0)] [] L μ10 Q
      refine wa_iload_n 68 dX5_halve_67 rfl rfl ?_
      refine wa_callS 71 0 1 (av := [(0, (μ ((rf L v0 7)) ((v1 - 1))))]) (rest := []) (k1 := (0, 0)) (k2 := (0, 0)) cvJ6_bitCount_0f7a4 dX5_halve_68 rfl wM_X5_191 ⟨rfl, Nat.le_of_ble_eq_true rfl, by decide, Nat.le_of_ble_eq_true rfl, rfl, rfl⟩ rfl (TR.mono h (fun r11 L12 μ13 h => ?_))
      obtain ⟨w14, rfl, rfl, h⟩ := h
      show WA mX5_halve 5 (0, 0) 71 [(2, v0), (0, v1), (0, v2), (0, (μ ((rf L v0 7)) ((v1 - 1)))), (9, 0)] [(0, w14)] L μ13 Q
      refine wa_istore 73 [(2, v0), (0, v1), (0, v2), (0, (μ ((rf L v0 7)) ((v1 - 1)))), (0, w14)] dX5_halve_71 rfl rfl rfl ?_
      refine wa_iload 75 dX5_halve_73 rfl rfl ?_
      refine wa_iconst 76 dX5_halve_75 rfl (by decide) ?_
      refine wa_icmp_lt 79 84 dX5_halve_76 rfl (by decide) (fun q => ?_) (fun q => ?_)
      · replace h := h.1 q
        refine wa_aload_n 85 dX5_halve_84 rfl rfl ?_
        refine wa_aload_n 86 dX5_halve_85 rfl rfl ?_
        refine wa_iload_n 87 dX5_halve_86 rfl rfl ?_
        refine wa_callV 90 1 1 5 (av := [(0, (μ ((rf L v0 7)) ((v1 - 1))))]) (rest := [(2, v0)]) (k1 := (0, 0)) (k2 := (0, 0)) cvX5_firstOf dX5_halve_87 rfl wM_X5_181 ⟨rfl, by decide, rfl, Nat.le_of_ble_eq_true rfl, by decide, Nat.le_of_ble_eq_true rfl, rfl, rfl⟩ rfl k0 (TR.mono h (fun r15 L16 μ17 h => ?_))
        obtain ⟨w18, rfl, rfl, h⟩ := h
        show WA mX5_halve 5 (0, 0) 90 [(2, v0), (0, v1), (0, v2), (0, (μ ((rf L v0 7)) ((v1 - 1)))), (0, w14)] [(0, w18), (2, v0)] L μ17 Q
        refine wa_aload_n 91 dX5_halve_90 rfl rfl ?_
        refine wa_getR 94 4 dX5_halve_91 rfl wF_X5_18 rfl rfl ⟨k0, isK_pos e4⟩ ?_
        refine wa_getR 97 1 dX5_halve_94 rfl wF_X5_59 rfl rfl ⟨e4, isK_pos e5⟩ ?_
        refine wa_callV 100 3 2 5 (av := [(0, w18), (2, (rf L ((rf L v0 4)) 1))]) (rest := []) (k1 := (0, 0)) (k2 := (0, 0)) cvX5_takeRestTo dX5_halve_97 rfl wM_X5_177 ⟨rfl, by decide, rfl, Nat.le_of_ble_eq_true rfl, by decide, Nat.le_of_ble_eq_true rfl, rfl, rfl⟩ rfl k0 (TR.mono h (fun r19 L20 μ21 h => ?_))
        obtain ⟨rfl, rfl, h⟩ := h
        show WA mX5_halve 5 (0, 0) 100 [(2, v0), (0, v1), (0, v2), (0, (μ ((rf L v0 7)) ((v1 - 1)))), (0, w14)] [] L μ21 Q
        obtain ⟨c22, h⟩ := h
        refine wa_iinc 103 [(2, v0), (0, (v1 + (-1))), (0, v2), (0, (μ ((rf L v0 7)) ((v1 - 1)))), (0, w14)] dX5_halve_100 rfl rfl rfl c22 rfl ?_
        refine wa_goto 170 dX5_halve_103 (by decide) ?_
        obtain ⟨c23, h⟩ := h
        refine wa_iinc 173 [(2, v0), (0, (v1 + (-1))), (0, (v2 + 1)), (0, (μ ((rf L v0 7)) ((v1 - 1)))), (0, w14)] dX5_halve_170 rfl rfl rfl c23 rfl ?_
        refine wa_goto 30 dX5_halve_173 (by decide) ?_
        exact wa_weak [(2, v0), (0, (v1 + (-1))), (0, (v2 + 1)), (9, 0), (9, 0)] ⟨Or.inl rfl, Or.inl rfl, Or.inl rfl, Or.inr rfl, Or.inr rfl, trivial⟩ h
      · replace h := h.2 q
        refine wa_iload_n 80 dX5_halve_79 rfl rfl ?_
        refine wa_iconst 81 dX5_halve_80 rfl (by decide) ?_
        refine wa_icmp_lt 84 106 dX5_halve_81 rfl (by decide) (fun q => ?_) (fun q => ?_)
        · replace h := h.1 q
          refine wa_aload_n 107 dX5_halve_106 rfl rfl ?_
          refine wa_iload_n 108 dX5_halve_107 rfl rfl ?_
          refine wa_aload_n 109 dX5_halve_108 rfl rfl ?_
          refine wa_getR 112 4 dX5_halve_109 rfl wF_X5_18 rfl rfl ⟨k0, isK_pos e4⟩ ?_
          refine wa_iload 114 dX5_halve_112 rfl rfl ?_
          refine wa_iconst 115 dX5_halve_114 rfl (by decide) ?_
          obtain ⟨c24, h⟩ := h
          refine wa_idivE 116 dX5_halve_115 rfl ⟨c24, by decide⟩ ?_
          refine wa_iload 118 dX5_halve_116 rfl rfl ?_
          refine wa_callV 121 4 4 5 (av := [(0, (μ ((rf L v0 7)) ((v1 - 1)))), (2, (rf L v0 4)), (0, (w14 / 2)), (0, w14)]) (rest := []) (k1 := (0, 0)) (k2 := (0, 0)) cvX5_markAll dX5_halve_118 rfl wM_X5_170 ⟨rfl, by decide, rfl, Nat.le_of_ble_eq_true rfl, by decide, Nat.le_of_ble_eq_true rfl, rfl, rfl⟩ rfl k0 (TR.mono h (fun r25 L26 μ27 h => ?_))
          obtain ⟨w28, rfl, rfl, h⟩ := h
          show WA mX5_halve 5 (0, 0) 121 [(2, v0), (0, v1), (0, v2), (0, (μ ((rf L v0 7)) ((v1 - 1)))), (0, w14)] [(0, w28)] L μ27 Q
          refine wa_if_ne 124 126 dX5_halve_121 rfl (by decide) (fun q => ?_) (fun q => ?_)
          · replace h := h.1 q
            refine wa_aload_n 127 dX5_halve_126 rfl rfl ?_
            refine wa_getR 130 7 dX5_halve_127 rfl wF_X5_30 rfl rfl ⟨k0, isK_pos e1⟩ ?_
            refine wa_iload_n 131 dX5_halve_130 rfl rfl ?_
            refine wa_iconst 132 dX5_halve_131 rfl (by decide) ?_
            refine wa_isub 133 dX5_halve_132 rfl c2 ?_
            refine wa_aload_n 134 dX5_halve_133 rfl rfl ?_
            refine wa_iload_n 135 dX5_halve_134 rfl rfl ?_
            refine wa_iload 137 dX5_halve_135 rfl rfl ?_
            refine wa_iconst 138 dX5_halve_137 rfl (by decide) ?_
            refine wa_idivE 139 dX5_halve_138 rfl ⟨c24, by decide⟩ ?_
            refine wa_aload_n 140 dX5_halve_139 rfl rfl ?_
            refine wa_getR 143 6 dX5_halve_140 rfl wF_X5_27 rfl rfl ⟨k0, isK_pos e6⟩ ?_
            refine wa_iload_n 144 dX5_halve_143 rfl rfl ?_
            obtain ⟨c29, h⟩ := h
            have e30 : isK L (rf L ((rf L v0 6)) v1) (3, 0) := lay_e hL k0 6 rfl c29
            refine wa_aaload 145 26 dX5_halve_144 rfl ⟨by decide, by decide⟩ ⟨okA_of e6 c29, isK_pos e30⟩ ?_
            refine wa_callV 148 3 3 5 (av := [(0, (μ ((rf L v0 7)) ((v1 - 1)))), (0, (w14 / 2)), (2, (rf L ((rf L v0 6)) v1))]) (rest := [(0, (v1 - 1)), (2, (rf L v0 7))]) (k1 := (0, 0)) (k2 := (0, 0)) cvX5_othersBehind dX5_halve_145 rfl wM_X5_196 ⟨rfl, by decide, rfl, Nat.le_of_ble_eq_true rfl, by decide, Nat.le_of_ble_eq_true rfl, rfl, rfl⟩ rfl k0 (TR.mono h (fun r31 L32 μ33 h => ?_))
            obtain ⟨w34, rfl, rfl, h⟩ := h
            show WA mX5_halve 5 (0, 0) 148 [(2, v0), (0, v1), (0, v2), (0, (μ ((rf L v0 7)) ((v1 - 1)))), (0, w14)] [(0, w34), (0, (v1 - 1)), (2, (rf L v0 7))] L μ33 Q
            refine wa_iastore 149 dX5_halve_148 rfl (okA_of e1 c3) ?_
            refine wa_aload_n 150 dX5_halve_149 rfl rfl ?_
            refine wa_getR 153 7 dX5_halve_150 rfl wF_X5_30 rfl rfl ⟨k0, isK_pos e1⟩ ?_
            refine wa_iload_n 154 dX5_halve_153 rfl rfl ?_
            refine wa_iload_n 155 dX5_halve_154 rfl rfl ?_
            refine wa_aload_n 156 dX5_halve_155 rfl rfl ?_
            refine wa_getR 159 7 dX5_halve_156 rfl wF_X5_30 rfl rfl ⟨k0, isK_pos e1⟩ ?_
            refine wa_iload_n 160 dX5_halve_159 rfl rfl ?_
            refine wa_iconst 161 dX5_halve_160 rfl (by decide) ?_
            refine wa_isub 162 dX5_halve_161 rfl c2 ?_
            refine wa_iaload 163 dX5_halve_162 rfl (okA_of e1 c3) ?_
            refine wa_iconst 164 dX5_halve_163 rfl (by decide) ?_
            refine wa_ixor 165 dX5_halve_164 rfl ?_
            refine wa_iand 166 dX5_halve_165 rfl ?_
            refine wa_iastore 167 dX5_halve_166 rfl (okA_of e1 c29) ?_
            obtain ⟨c35, h⟩ := h
            refine wa_iinc 170 [(2, v0), (0, (v1 + 1)), (0, v2), (0, (μ ((rf L v0 7)) ((v1 - 1)))), (0, w14)] dX5_halve_167 rfl rfl rfl c35 rfl ?_
            obtain ⟨c36, h⟩ := h
            refine wa_iinc 173 [(2, v0), (0, (v1 + 1)), (0, (v2 + 1)), (0, (μ ((rf L v0 7)) ((v1 - 1)))), (0, w14)] dX5_halve_170 rfl rfl rfl c36 rfl ?_
            refine wa_goto 30 dX5_halve_173 (by decide) ?_
            exact wa_weak [(2, v0), (0, (v1 + 1)), (0, (v2 + 1)), (9, 0), (9, 0)] ⟨Or.inl rfl, Or.inl rfl, Or.inl rfl, Or.inr rfl, Or.inr rfl, trivial⟩ h
          · replace h := h.2 q
            refine wa_iconst 125 dX5_halve_124 rfl (by decide) ?_
            exact wa_zret dX5_halve_125 rfl (Or.inl rfl) h
        · replace h := h.2 q
          refine wa_aload_n 85 dX5_halve_84 rfl rfl ?_
          refine wa_aload_n 86 dX5_halve_85 rfl rfl ?_
          refine wa_iload_n 87 dX5_halve_86 rfl rfl ?_
          refine wa_callV 90 1 1 5 (av := [(0, (μ ((rf L v0 7)) ((v1 - 1))))]) (rest := [(2, v0)]) (k1 := (0, 0)) (k2 := (0, 0)) cvX5_firstOf dX5_halve_87 rfl wM_X5_181 ⟨rfl, by decide, rfl, Nat.le_of_ble_eq_true rfl, by decide, Nat.le_of_ble_eq_true rfl, rfl, rfl⟩ rfl k0 (TR.mono h (fun r37 L38 μ39 h => ?_))
          obtain ⟨w40, rfl, rfl, h⟩ := h
          show WA mX5_halve 5 (0, 0) 90 [(2, v0), (0, v1), (0, v2), (0, (μ ((rf L v0 7)) ((v1 - 1)))), (0, w14)] [(0, w40), (2, v0)] L μ39 Q
          refine wa_aload_n 91 dX5_halve_90 rfl rfl ?_
          refine wa_getR 94 4 dX5_halve_91 rfl wF_X5_18 rfl rfl ⟨k0, isK_pos e4⟩ ?_
          refine wa_getR 97 1 dX5_halve_94 rfl wF_X5_59 rfl rfl ⟨e4, isK_pos e5⟩ ?_
          refine wa_callV 100 3 2 5 (av := [(0, w40), (2, (rf L ((rf L v0 4)) 1))]) (rest := []) (k1 := (0, 0)) (k2 := (0, 0)) cvX5_takeRestTo dX5_halve_97 rfl wM_X5_177 ⟨rfl, by decide, rfl, Nat.le_of_ble_eq_true rfl, by decide, Nat.le_of_ble_eq_true rfl, rfl, rfl⟩ rfl k0 (TR.mono h (fun r41 L42 μ43 h => ?_))
          obtain ⟨rfl, rfl, h⟩ := h
          show WA mX5_halve 5 (0, 0) 100 [(2, v0), (0, v1), (0, v2), (0, (μ ((rf L v0 7)) ((v1 - 1)))), (0, w14)] [] L μ43 Q
          obtain ⟨c44, h⟩ := h
          refine wa_iinc 103 [(2, v0), (0, (v1 + (-1))), (0, v2), (0, (μ ((rf L v0 7)) ((v1 - 1)))), (0, w14)] dX5_halve_100 rfl rfl rfl c44 rfl ?_
          refine wa_goto 170 dX5_halve_103 (by decide) ?_
          obtain ⟨c45, h⟩ := h
          refine wa_iinc 173 [(2, v0), (0, (v1 + (-1))), (0, (v2 + 1)), (0, (μ ((rf L v0 7)) ((v1 - 1)))), (0, w14)] dX5_halve_170 rfl rfl rfl c45 rfl ?_
          refine wa_goto 30 dX5_halve_173 (by decide) ?_
          exact wa_weak [(2, v0), (0, (v1 + (-1))), (0, (v2 + 1)), (9, 0), (9, 0)] ⟨Or.inl rfl, Or.inl rfl, Or.inl rfl, Or.inr rfl, Or.inr rfl, trivial⟩ h
set_option maxRecDepth 20000 in
theorem t_X5_has (hL : LayOK L) {v0 v1 v2 : Int} (k0 : isK L v0 (5, 0)) (k2 : isK L v2 (7, 0)) (h : (0 ≤ v1 ∧ v1 < 5) ∧ TR mX0_between 2 (0, 0) [(2, (rf L v0 0)), (2, (rf L ((rf L ((rf L v0 0)) 3)) v1)), (2, (rf L v2 0)), (2, (rf L v2 1)), (1, (μ ((rf L v0 1)) 2))] L μ (fun r8 L9 μ10 => ∃ w11, r8 = some (1, w11) ∧ L = L9 ∧ Q (some (1, w11)) L μ10)) : TR mX5_has 3 (0, 0) [(2, v0), (0, v1), (2, v2)] L μ Q := by
  refine TR.of (ls := [(2, v0), (0, v1), (2, v2)]) (by decide) (by simp) rfl (Nat.le_of_ble_eq_true rfl) ?_
  refine wa_aload_n 1 dX5_has_0 rfl rfl ?_
  have e1 : isK L (rf L v0 0) (0, 0) := lay_f hL k0 0 rfl
  refine wa_getR 4 0 dX5_has_1 rfl wF_X5_41 rfl rfl ⟨k0, isK_pos e1⟩ ?_
  refine wa_aload_n 5 dX5_has_4 rfl rfl ?_
  refine wa_getR 8 0 dX5_has_5 rfl wF_X5_41 rfl rfl ⟨k0, isK_pos e1⟩ ?_
  have e2 : isK L (rf L ((rf L v0 0)) 3) (23, 5) := lay_f hL e1 3 rfl
  refine wa_getR 11 3 dX5_has_8 rfl wF_X5_109 rfl rfl ⟨e1, isK_pos e2⟩ ?_
  refine wa_iload_n 12 dX5_has_11 rfl rfl ?_
  obtain ⟨c3, h⟩ := h
  have e4 : isK L (rf L ((rf L ((rf L v0 0)) 3)) v1) (20, 16) := lay_e hL e1 3 rfl c3
  refine wa_aaload 13 23 dX5_has_12 rfl ⟨by decide, by decide⟩ ⟨okA_of e2 c3, isK_pos e4⟩ ?_
  refine wa_aload_n 14 dX5_has_13 rfl rfl ?_
  have e5 : isK L (rf L v2 0) (3, 0) := lay_f hL k2 0 rfl
  refine wa_getR 17 0 dX5_has_14 rfl wF_X5_113 rfl rfl ⟨k2, isK_pos e5⟩ ?_
  refine wa_aload_n 18 dX5_has_17 rfl rfl ?_
  have e6 : isK L (rf L v2 1) (3, 0) := lay_f hL k2 1 rfl
  refine wa_getR 21 1 dX5_has_18 rfl wF_X5_59 rfl rfl ⟨k2, isK_pos e6⟩ ?_
  refine wa_aload_n 22 dX5_has_21 rfl rfl ?_
  have e7 : isK L (rf L v0 1) (1, 0) := lay_f hL k0 1 rfl
  refine wa_getR 25 1 dX5_has_22 rfl wF_X5_45 rfl rfl ⟨k0, isK_pos e7⟩ ?_
  refine wa_getL 28 2 dX5_has_25 rfl wF_X5_116 rfl rfl e7 ?_
  refine wa_callV 31 2 4 0 (av := [(2, (rf L ((rf L ((rf L v0 0)) 3)) v1)), (2, (rf L v2 0)), (2, (rf L v2 1)), (1, (μ ((rf L v0 1)) 2))]) (rest := []) (k1 := (0, 0)) (k2 := (0, 0)) cvX0_between dX5_has_28 rfl wM_X5_120 ⟨rfl, by decide, rfl, Nat.le_of_ble_eq_true rfl, by decide, Nat.le_of_ble_eq_true rfl, rfl, rfl⟩ rfl e1 (TR.mono h (fun r8 L9 μ10 h => ?_))
  obtain ⟨w11, rfl, rfl, h⟩ := h
  show WA mX5_has 3 (0, 0) 31 [(2, v0), (0, v1), (2, v2)] [(1, w11)] L μ10 Q
  exact wa_lret dX5_has_31 rfl h
set_option maxRecDepth 20000 in
theorem t_X5_isIn (hL : LayOK L) {v0 v1 : Int}  (h : (¬ (bAnd ((bShr v0 v1)) 1) = 1 → Q (some (0, 0)) L μ) ∧ ((bAnd ((bShr v0 v1)) 1) = 1 → Q (some (0, 1)) L μ)) : TR mX5_isIn 0 (0, 0) [(0, v0), (0, v1)] L μ Q := by
  refine TR.of (ls := [(0, v0), (0, v1)]) (by decide) (by simp) rfl (Nat.le_of_ble_eq_true rfl) ?_
  refine wa_iload_n 1 dX5_isIn_0 rfl rfl ?_
  refine wa_iload_n 2 dX5_isIn_1 rfl rfl ?_
  refine wa_ishr 3 dX5_isIn_2 rfl ?_
  refine wa_iconst 4 dX5_isIn_3 rfl (by decide) ?_
  refine wa_iand 5 dX5_isIn_4 rfl ?_
  refine wa_iconst 6 dX5_isIn_5 rfl (by decide) ?_
  refine wa_icmp_ne 9 13 dX5_isIn_6 rfl (by decide) (fun q => ?_) (fun q => ?_)
  · replace h := h.1 q
    refine wa_iconst 14 dX5_isIn_13 rfl (by decide) ?_
    exact wa_zret dX5_isIn_14 rfl (Or.inl rfl) h
  · replace h := h.2 q
    refine wa_iconst 10 dX5_isIn_9 rfl (by decide) ?_
    refine wa_goto 14 dX5_isIn_10 (by decide) ?_
    exact wa_zret dX5_isIn_14 rfl (Or.inr rfl) h
set_option maxRecDepth 20000 in
theorem t_X5_leastMark (hL : LayOK L) {v0 v1 : Int} (k0 : isK L v0 (5, 0)) (h : TR mX5_firstOf 1 (0, 0) [(2, v0), (0, v1)] L μ (fun r1 L2 μ3 => ∃ w4, r1 = some (0, w4) ∧ L = L2 ∧ (inI (w4 + 1)) ∧ WA mX5_leastMark 2 (0, 0) 10 [(2, v0), (0, v1), (0, w4), (0, (w4 + 1))] [] L μ3 Q)) : TR mX5_leastMark 2 (0, 0) [(2, v0), (0, v1)] L μ Q := by
  refine TR.of (ls := [(2, v0), (0, v1), (9, 0), (9, 0)]) (by decide) (by simp) rfl (Nat.le_of_ble_eq_true rfl) ?_
  refine wa_aload_n 1 dX5_leastMark_0 rfl rfl ?_
  refine wa_iload_n 2 dX5_leastMark_1 rfl rfl ?_
  refine wa_callV 5 1 1 5 (av := [(0, v1)]) (rest := []) (k1 := (0, 0)) (k2 := (0, 0)) cvX5_firstOf dX5_leastMark_2 rfl wM_X5_181 ⟨rfl, by decide, rfl, Nat.le_of_ble_eq_true rfl, by decide, Nat.le_of_ble_eq_true rfl, rfl, rfl⟩ rfl k0 (TR.mono h (fun r1 L2 μ3 h => ?_))
  obtain ⟨w4, rfl, rfl, h⟩ := h
  show WA mX5_leastMark 2 (0, 0) 5 [(2, v0), (0, v1), (9, 0), (9, 0)] [(0, w4)] L μ3 Q
  refine wa_istore_n 6 [(2, v0), (0, v1), (0, w4), (9, 0)] dX5_leastMark_5 rfl rfl rfl ?_
  refine wa_iload_n 7 dX5_leastMark_6 rfl rfl ?_
  refine wa_iconst 8 dX5_leastMark_7 rfl (by decide) ?_
  obtain ⟨c5, h⟩ := h
  refine wa_iadd 9 dX5_leastMark_8 rfl c5 ?_
  refine wa_istore_n 10 [(2, v0), (0, v1), (0, w4), (0, (w4 + 1))] dX5_leastMark_9 rfl rfl rfl ?_
  exact h
set_option maxRecDepth 20000 in
theorem s_X5_leastMark_10 (hL : LayOK L) {v0 v1 v2 v3 : Int} (k0 : isK L v0 (5, 0)) (h : ((μ ((rf L v0 0)) 1) ≤ v3 → Q (some (0, v2)) L μ) ∧ (¬ (μ ((rf L v0 0)) 1) ≤ v3 → TR mX5_isIn 0 (0, 0) [(0, v1), (0, v3)] L μ (fun r2 L3 μ4 => ∃ w5, r2 = some (0, w5) ∧ L = L3 ∧ (w5 = 0 → (inI (v3 + 1)) ∧ WA mX5_leastMark 2 (0, 0) 10 [(2, v0), (0, v1), (0, v2), (0, (v3 + 1))] [] L μ4 Q) ∧ (¬ w5 = 0 → (0 ≤ v3 ∧ v3 < 5) ∧ (0 ≤ v2 ∧ v2 < 5) ∧ TR mX3_isBelow 1 (0, 0) [(2, (rf L ((rf L v0 5)) v3)), (2, (rf L ((rf L v0 5)) v2))] L μ4 (fun r12 L13 μ14 => ∃ w15, r12 = some (0, w15) ∧ L = L13 ∧ (w15 = 0 → (inI (v3 + 1)) ∧ WA mX5_leastMark 2 (0, 0) 10 [(2, v0), (0, v1), (0, v2), (0, (v3 + 1))] [] L μ14 Q) ∧ (¬ w15 = 0 → (inI (v3 + 1)) ∧ WA mX5_leastMark 2 (0, 0) 10 [(2, v0), (0, v1), (0, v3), (0, (v3 + 1))] [] L μ14 Q)))))) : WA mX5_leastMark 2 (0, 0) 10 [(2, v0), (0, v1), (0, v2), (0, v3)] [] L μ Q := by
  refine wa_iload_n 11 dX5_leastMark_10 rfl rfl ?_
  refine wa_aload_n 12 dX5_leastMark_11 rfl rfl ?_
  have e1 : isK L (rf L v0 0) (0, 0) := lay_f hL k0 0 rfl
  refine wa_getR 15 0 dX5_leastMark_12 rfl wF_X5_41 rfl rfl ⟨k0, isK_pos e1⟩ ?_
  refine wa_getI 18 1 dX5_leastMark_15 rfl wF_X5_102 rfl rfl e1 ?_
  refine wa_icmp_ge 21 55 dX5_leastMark_18 rfl (by decide) (fun q => ?_) (fun q => ?_)
  · replace h := h.1 q
    refine wa_iload_n 56 dX5_leastMark_55 rfl rfl ?_
    exact wa_iret dX5_leastMark_56 rfl h
  · replace h := h.2 q
    refine wa_iload_n 22 dX5_leastMark_21 rfl rfl ?_
    refine wa_iload_n 23 dX5_leastMark_22 rfl rfl ?_
    refine wa_callS 26 0 2 (av := [(0, v1), (0, v3)]) (rest := []) (k1 := (0, 0)) (k2 := (0, 0)) cvX5_isIn dX5_leastMark_23 rfl wM_X5_105 ⟨rfl, Nat.le_of_ble_eq_true rfl, by decide, Nat.le_of_ble_eq_true rfl, rfl, rfl⟩ rfl (TR.mono h (fun r2 L3 μ4 h => ?_))
    obtain ⟨w5, rfl, rfl, h⟩ := h
    show WA mX5_leastMark 2 (0, 0) 26 [(2, v0), (0, v1), (0, v2), (0, v3)] [(0, w5)] L μ4 Q
    refine wa_if_eq 29 49 dX5_leastMark_26 rfl (by decide) (fun q => ?_) (fun q => ?_)
    · replace h := h.1 q
      obtain ⟨c6, h⟩ := h
      refine wa_iinc 52 [(2, v0), (0, v1), (0, v2), (0, (v3 + 1))] dX5_leastMark_49 rfl rfl rfl c6 rfl ?_
      refine wa_goto 10 dX5_leastMark_52 (by decide) ?_
      exact h
    · replace h := h.2 q
      refine wa_aload_n 30 dX5_leastMark_29 rfl rfl ?_
      have e7 : isK L (rf L v0 5) (26, 5) := lay_f hL k0 5 rfl
      refine wa_getR 33 5 dX5_leastMark_30 rfl wF_X5_23 rfl rfl ⟨k0, isK_pos e7⟩ ?_
      refine wa_iload_n 34 dX5_leastMark_33 rfl rfl ?_
      obtain ⟨c8, h⟩ := h
      have e9 : isK L (rf L ((rf L v0 5)) v3) (3, 0) := lay_e hL k0 5 rfl c8
      refine wa_aaload 35 26 dX5_leastMark_34 rfl ⟨by decide, by decide⟩ ⟨okA_of e7 c8, isK_pos e9⟩ ?_
      refine wa_aload_n 36 dX5_leastMark_35 rfl rfl ?_
      refine wa_getR 39 5 dX5_leastMark_36 rfl wF_X5_23 rfl rfl ⟨k0, isK_pos e7⟩ ?_
      refine wa_iload_n 40 dX5_leastMark_39 rfl rfl ?_
      obtain ⟨c10, h⟩ := h
      have e11 : isK L (rf L ((rf L v0 5)) v2) (3, 0) := lay_e hL k0 5 rfl c10
      refine wa_aaload 41 26 dX5_leastMark_40 rfl ⟨by decide, by decide⟩ ⟨okA_of e7 c10, isK_pos e11⟩ ?_
      refine wa_callV 44 1 1 3 (av := [(2, (rf L ((rf L v0 5)) v2))]) (rest := []) (k1 := (0, 0)) (k2 := (0, 0)) cvX3_isBelow dX5_leastMark_41 rfl wM_X5_184 ⟨rfl, by decide, rfl, Nat.le_of_ble_eq_true rfl, by decide, Nat.le_of_ble_eq_true rfl, rfl, rfl⟩ rfl e9 (TR.mono h (fun r12 L13 μ14 h => ?_))
      obtain ⟨w15, rfl, rfl, h⟩ := h
      show WA mX5_leastMark 2 (0, 0) 44 [(2, v0), (0, v1), (0, v2), (0, v3)] [(0, w15)] L μ14 Q
      refine wa_if_eq 47 49 dX5_leastMark_44 rfl (by decide) (fun q => ?_) (fun q => ?_)
      · replace h := h.1 q
        obtain ⟨c16, h⟩ := h
        refine wa_iinc 52 [(2, v0), (0, v1), (0, v2), (0, (v3 + 1))] dX5_leastMark_49 rfl rfl rfl c16 rfl ?_
        refine wa_goto 10 dX5_leastMark_52 (by decide) ?_
        exact h
      · replace h := h.2 q
        refine wa_iload_n 48 dX5_leastMark_47 rfl rfl ?_
        refine wa_istore_n 49 [(2, v0), (0, v1), (0, v3), (0, v3)] dX5_leastMark_48 rfl rfl rfl ?_
        obtain ⟨c17, h⟩ := h
        refine wa_iinc 52 [(2, v0), (0, v1), (0, v3), (0, (v3 + 1))] dX5_leastMark_49 rfl rfl rfl c17 rfl ?_
        refine wa_goto 10 dX5_leastMark_52 (by decide) ?_
        exact h
set_option maxRecDepth 20000 in
theorem t_X5_markAll (hL : LayOK L) {v0 v1 v2 v3 v4 : Int} (k0 : isK L v0 (5, 0)) (k2 : isK L v2 (7, 0)) (h : WA mX5_markAll 4 (0, 0) 3 [(2, v0), (0, v1), (2, v2), (0, v3), (0, v4), (0, 0), (9, 0)] [] L μ Q) : TR mX5_markAll 4 (0, 0) [(2, v0), (0, v1), (2, v2), (0, v3), (0, v4)] L μ Q := by
  refine TR.of (ls := [(2, v0), (0, v1), (2, v2), (0, v3), (0, v4), (9, 0), (9, 0)]) (by decide) (by simp) rfl (Nat.le_of_ble_eq_true rfl) ?_
  refine wa_iconst 1 dX5_markAll_0 rfl (by decide) ?_
  refine wa_istore 3 [(2, v0), (0, v1), (2, v2), (0, v3), (0, v4), (0, 0), (9, 0)] dX5_markAll_1 rfl rfl rfl ?_
  exact h
set_option maxRecDepth 20000 in
theorem s_X5_markAll_3 (hL : LayOK L) {v0 v1 v2 v3 v4 v5 : Int} (k0 : isK L v0 (5, 0)) (k2 : isK L v2 (7, 0)) (h : ((μ ((rf L v0 0)) 1) ≤ v5 → Q (some (0, 1)) L μ) ∧ (¬ (μ ((rf L v0 0)) 1) ≤ v5 → TR mX5_isIn 0 (0, 0) [(0, v1), (0, v5)] L μ (fun r2 L3 μ4 => ∃ w5, r2 = some (0, w5) ∧ L = L3 ∧ (w5 = 0 → (inI (v5 + 1)) ∧ WA mX5_markAll 4 (0, 0) 3 [(2, v0), (0, v1), (2, v2), (0, v3), (0, v4), (0, (v5 + 1)), (9, 0)] [] L μ4 Q) ∧ (¬ w5 = 0 → TR mX5_agentAt 0 (0, 0) [(2, v0), (0, v5)] L μ4 (fun r7 L8 μ9 => ∃ w10, r7 = some (0, w10) ∧ L = L8 ∧ (0 ≤ v5 ∧ v5 < 5) ∧ TR mX5_putMark 3 (0, 0) [(2, v0), (2, (rf L ((rf L v0 5)) v5)), (0, w10), (2, (rf L ((rf L v0 4)) 0)), (2, v2), (0, v3), (0, v4)] L μ9 (fun r16 L17 μ18 => ∃ w19, r16 = some (0, w19) ∧ L = L17 ∧ (¬ w19 = 0 → TR mX1_note 2 (0, 0) [(2, (rf L v0 1)), (0, 0), (0, w10), (2, (rf L ((rf L v0 5)) v5)), (2, (rf L ((rf L v0 3)) 0))] L μ18 (fun r23 L24 μ25 => r23 = none ∧ L = L24 ∧ (inI (v5 + 1)) ∧ WA mX5_markAll 4 (0, 0) 3 [(2, v0), (0, v1), (2, v2), (0, v3), (0, v4), (0, (v5 + 1)), (9, 0)] [] L μ25 Q)) ∧ (w19 = 0 → Q (some (0, 0)) L μ18))))))) : WA mX5_markAll 4 (0, 0) 3 [(2, v0), (0, v1), (2, v2), (0, v3), (0, v4), (0, v5), (9, 0)] [] L μ Q := by
  refine wa_iload 5 dX5_markAll_3 rfl rfl ?_
  refine wa_aload_n 6 dX5_markAll_5 rfl rfl ?_
  have e1 : isK L (rf L v0 0) (0, 0) := lay_f hL k0 0 rfl
  refine wa_getR 9 0 dX5_markAll_6 rfl wF_X5_41 rfl rfl ⟨k0, isK_pos e1⟩ ?_
  refine wa_getI 12 1 dX5_markAll_9 rfl wF_X5_102 rfl rfl e1 ?_
  refine wa_icmp_ge 15 91 dX5_markAll_12 rfl (by decide) (fun q => ?_) (fun q => ?_)
  · replace h := h.1 q
    refine wa_iconst 92 dX5_markAll_91 rfl (by decide) ?_
    exact wa_zret dX5_markAll_92 rfl (Or.inr rfl) h
  · replace h := h.2 q
    refine wa_iload_n 16 dX5_markAll_15 rfl rfl ?_
    refine wa_iload 18 dX5_markAll_16 rfl rfl ?_
    refine wa_callS 21 0 2 (av := [(0, v1), (0, v5)]) (rest := []) (k1 := (0, 0)) (k2 := (0, 0)) cvX5_isIn dX5_markAll_18 rfl wM_X5_105 ⟨rfl, Nat.le_of_ble_eq_true rfl, by decide, Nat.le_of_ble_eq_true rfl, rfl, rfl⟩ rfl (TR.mono h (fun r2 L3 μ4 h => ?_))
    obtain ⟨w5, rfl, rfl, h⟩ := h
    show WA mX5_markAll 4 (0, 0) 21 [(2, v0), (0, v1), (2, v2), (0, v3), (0, v4), (0, v5), (9, 0)] [(0, w5)] L μ4 Q
    refine wa_if_eq 24 85 dX5_markAll_21 rfl (by decide) (fun q => ?_) (fun q => ?_)
    · replace h := h.1 q
      obtain ⟨c6, h⟩ := h
      refine wa_iinc 88 [(2, v0), (0, v1), (2, v2), (0, v3), (0, v4), (0, (v5 + 1)), (9, 0)] dX5_markAll_85 rfl rfl rfl c6 rfl ?_
      refine wa_goto 3 dX5_markAll_88 (by decide) ?_
      exact h
    · replace h := h.2 q
      refine wa_aload_n 25 dX5_markAll_24 rfl rfl ?_
      refine wa_iload 27 dX5_markAll_25 rfl rfl ?_
      refine wa_callV 30 0 1 5 (av := [(0, v5)]) (rest := []) (k1 := (0, 0)) (k2 := (0, 0)) cvX5_agentAt dX5_markAll_27 rfl wM_X5_136 ⟨rfl, by decide, rfl, Nat.le_of_ble_eq_true rfl, by decide, Nat.le_of_ble_eq_true rfl, rfl, rfl⟩ rfl k0 (TR.mono h (fun r7 L8 μ9 h => ?_))
      obtain ⟨w10, rfl, rfl, h⟩ := h
      show WA mX5_markAll 4 (0, 0) 30 [(2, v0), (0, v1), (2, v2), (0, v3), (0, v4), (0, v5), (9, 0)] [(0, w10)] L μ9 Q
      refine wa_istore 32 [(2, v0), (0, v1), (2, v2), (0, v3), (0, v4), (0, v5), (0, w10)] dX5_markAll_30 rfl rfl rfl ?_
      refine wa_aload_n 33 dX5_markAll_32 rfl rfl ?_
      refine wa_aload_n 34 dX5_markAll_33 rfl rfl ?_
      have e11 : isK L (rf L v0 5) (26, 5) := lay_f hL k0 5 rfl
      refine wa_getR 37 5 dX5_markAll_34 rfl wF_X5_23 rfl rfl ⟨k0, isK_pos e11⟩ ?_
      refine wa_iload 39 dX5_markAll_37 rfl rfl ?_
      obtain ⟨c12, h⟩ := h
      have e13 : isK L (rf L ((rf L v0 5)) v5) (3, 0) := lay_e hL k0 5 rfl c12
      refine wa_aaload 40 26 dX5_markAll_39 rfl ⟨by decide, by decide⟩ ⟨okA_of e11 c12, isK_pos e13⟩ ?_
      refine wa_iload 42 dX5_markAll_40 rfl rfl ?_
      refine wa_aload_n 43 dX5_markAll_42 rfl rfl ?_
      have e14 : isK L (rf L v0 4) (7, 0) := lay_f hL k0 4 rfl
      refine wa_getR 46 4 dX5_markAll_43 rfl wF_X5_18 rfl rfl ⟨k0, isK_pos e14⟩ ?_
      have e15 : isK L (rf L ((rf L v0 4)) 0) (3, 0) := lay_f hL e14 0 rfl
      refine wa_getR 49 0 dX5_markAll_46 rfl wF_X5_113 rfl rfl ⟨e14, isK_pos e15⟩ ?_
      refine wa_aload_n 50 dX5_markAll_49 rfl rfl ?_
      refine wa_iload_n 51 dX5_markAll_50 rfl rfl ?_
      refine wa_iload 53 dX5_markAll_51 rfl rfl ?_
      refine wa_callV 56 3 6 5 (av := [(2, (rf L ((rf L v0 5)) v5)), (0, w10), (2, (rf L ((rf L v0 4)) 0)), (2, v2), (0, v3), (0, v4)]) (rest := []) (k1 := (0, 0)) (k2 := (0, 0)) cvX5_putMark dX5_markAll_53 rfl wM_X5_151 ⟨rfl, by decide, rfl, Nat.le_of_ble_eq_true rfl, by decide, Nat.le_of_ble_eq_true rfl, rfl, rfl⟩ rfl k0 (TR.mono h (fun r16 L17 μ18 h => ?_))
      obtain ⟨w19, rfl, rfl, h⟩ := h
      show WA mX5_markAll 4 (0, 0) 56 [(2, v0), (0, v1), (2, v2), (0, v3), (0, v4), (0, v5), (0, w10)] [(0, w19)] L μ18 Q
      refine wa_if_ne 59 61 dX5_markAll_56 rfl (by decide) (fun q => ?_) (fun q => ?_)
      · replace h := h.1 q
        refine wa_aload_n 62 dX5_markAll_61 rfl rfl ?_
        have e20 : isK L (rf L v0 1) (1, 0) := lay_f hL k0 1 rfl
        refine wa_getR 65 1 dX5_markAll_62 rfl wF_X5_45 rfl rfl ⟨k0, isK_pos e20⟩ ?_
        refine wa_iconst 66 dX5_markAll_65 rfl (by decide) ?_
        refine wa_iload 68 dX5_markAll_66 rfl rfl ?_
        refine wa_aload_n 69 dX5_markAll_68 rfl rfl ?_
        refine wa_getR 72 5 dX5_markAll_69 rfl wF_X5_23 rfl rfl ⟨k0, isK_pos e11⟩ ?_
        refine wa_iload 74 dX5_markAll_72 rfl rfl ?_
        refine wa_aaload 75 26 dX5_markAll_74 rfl ⟨by decide, by decide⟩ ⟨okA_of e11 c12, isK_pos e13⟩ ?_
        refine wa_aload_n 76 dX5_markAll_75 rfl rfl ?_
        have e21 : isK L (rf L v0 3) (7, 0) := lay_f hL k0 3 rfl
        refine wa_getR 79 3 dX5_markAll_76 rfl wF_X5_12 rfl rfl ⟨k0, isK_pos e21⟩ ?_
        have e22 : isK L (rf L ((rf L v0 3)) 0) (3, 0) := lay_f hL e21 0 rfl
        refine wa_getR 82 0 dX5_markAll_79 rfl wF_X5_113 rfl rfl ⟨e21, isK_pos e22⟩ ?_
        refine wa_callV 85 2 4 1 (av := [(0, 0), (0, w10), (2, (rf L ((rf L v0 5)) v5)), (2, (rf L ((rf L v0 3)) 0))]) (rest := []) (k1 := (0, 0)) (k2 := (0, 0)) cvX1_note dX5_markAll_82 rfl wM_X5_140 ⟨rfl, by decide, rfl, Nat.le_of_ble_eq_true rfl, by decide, Nat.le_of_ble_eq_true rfl, rfl, rfl⟩ rfl e20 (TR.mono h (fun r23 L24 μ25 h => ?_))
        obtain ⟨rfl, rfl, h⟩ := h
        show WA mX5_markAll 4 (0, 0) 85 [(2, v0), (0, v1), (2, v2), (0, v3), (0, v4), (0, v5), (0, w10)] [] L μ25 Q
        obtain ⟨c26, h⟩ := h
        refine wa_iinc 88 [(2, v0), (0, v1), (2, v2), (0, v3), (0, v4), (0, (v5 + 1)), (0, w10)] dX5_markAll_85 rfl rfl rfl c26 rfl ?_
        refine wa_goto 3 dX5_markAll_88 (by decide) ?_
        exact wa_weak [(2, v0), (0, v1), (2, v2), (0, v3), (0, v4), (0, (v5 + 1)), (9, 0)] ⟨Or.inl rfl, Or.inl rfl, Or.inl rfl, Or.inl rfl, Or.inl rfl, Or.inl rfl, Or.inr rfl, trivial⟩ h
      · replace h := h.2 q
        refine wa_iconst 60 dX5_markAll_59 rfl (by decide) ?_
        exact wa_zret dX5_markAll_60 rfl (Or.inl rfl) h
set_option maxRecDepth 20000 in
theorem t_X5_mostOf (hL : LayOK L) {v0 v1 v2 : Int} (k0 : isK L v0 (5, 0)) (h : WA mX5_mostOf 4 (0, 0) 5 [(2, v0), (0, v1), (0, v2), (0, (-1)), (0, 0)] [] L μ Q) : TR mX5_mostOf 4 (0, 0) [(2, v0), (0, v1), (0, v2)] L μ Q := by
  refine TR.of (ls := [(2, v0), (0, v1), (0, v2), (9, 0), (9, 0)]) (by decide) (by simp) rfl (Nat.le_of_ble_eq_true rfl) ?_
  refine wa_iconst 1 dX5_mostOf_0 rfl (by decide) ?_
  refine wa_istore_n 2 [(2, v0), (0, v1), (0, v2), (0, (-1)), (9, 0)] dX5_mostOf_1 rfl rfl rfl ?_
  refine wa_iconst 3 dX5_mostOf_2 rfl (by decide) ?_
  refine wa_istore 5 [(2, v0), (0, v1), (0, v2), (0, (-1)), (0, 0)] dX5_mostOf_3 rfl rfl rfl ?_
  exact h
set_option maxRecDepth 20000 in
theorem s_X5_mostOf_5 (hL : LayOK L) {v0 v1 v2 v3 v4 : Int} (k0 : isK L v0 (5, 0)) (h : (3 ≤ v4 → Q (some (0, (max 0 v3))) L μ) ∧ (¬ 3 ≤ v4 → TR mX5_isIn 0 (0, 0) [(0, v2), (0, v4)] L μ (fun r2 L3 μ4 => ∃ w5, r2 = some (0, w5) ∧ L = L3 ∧ (¬ w5 = 0 → (inI (v4 + 1)) ∧ WA mX5_mostOf 4 (0, 0) 5 [(2, v0), (0, v1), (0, v2), (0, v3), (0, (v4 + 1))] [] L μ4 Q) ∧ (w5 = 0 → (v3 < 0 → (inI (v4 + 1)) ∧ WA mX5_mostOf 4 (0, 0) 5 [(2, v0), (0, v1), (0, v2), (0, v4), (0, (v4 + 1))] [] L μ4 Q) ∧ (¬ v3 < 0 → (0 ≤ v4 ∧ v4 < 3) ∧ TR mX5_has 3 (0, 0) [(2, v0), (0, v1), (2, (rf L ((rf L v0 8)) v4))] L μ4 (fun r10 L11 μ12 => ∃ w13, r10 = some (1, w13) ∧ L = L11 ∧ (0 ≤ v3 ∧ v3 < 3) ∧ TR mX5_has 3 (0, 0) [(2, v0), (0, v1), (2, (rf L ((rf L v0 8)) v3))] L μ12 (fun r16 L17 μ18 => ∃ w19, r16 = some (1, w19) ∧ L = L17 ∧ (w13 ≤ w19 → (inI (v4 + 1)) ∧ WA mX5_mostOf 4 (0, 0) 5 [(2, v0), (0, v1), (0, v2), (0, v3), (0, (v4 + 1))] [] L μ18 Q) ∧ (¬ w13 ≤ w19 → (inI (v4 + 1)) ∧ WA mX5_mostOf 4 (0, 0) 5 [(2, v0), (0, v1), (0, v2), (0, v4), (0, (v4 + 1))] [] L μ18 Q)))))))) : WA mX5_mostOf 4 (0, 0) 5 [(2, v0), (0, v1), (0, v2), (0, v3), (0, v4)] [] L μ Q := by
  refine wa_iload 7 dX5_mostOf_5 rfl rfl ?_
  refine wa_aload_n 8 dX5_mostOf_7 rfl rfl ?_
  have e1 : isK L (rf L v0 8) (25, 3) := lay_f hL k0 8 rfl
  refine wa_getR 11 8 dX5_mostOf_8 rfl wF_X5_34 rfl rfl ⟨k0, isK_pos e1⟩ ?_
  refine wa_alen 12 dX5_mostOf_11 rfl ⟨e1.1, e1.2.1, by rw [e1.2.2], by rw [e1.2.2]; decide, by decide, by decide⟩ ?_
  refine wa_icmp_ge 15 64 dX5_mostOf_12 rfl (by decide) (fun q => ?_) (fun q => ?_)
  · replace h := h.1 q
    refine wa_iconst 65 dX5_mostOf_64 rfl (by decide) ?_
    refine wa_iload_n 66 dX5_mostOf_65 rfl rfl ?_
    refine wa_imax 69 dX5_mostOf_66 rfl wM_X5_200 (Nat.le_of_ble_eq_true rfl) (by decide) ?_
    exact wa_iret dX5_mostOf_69 rfl h
  · replace h := h.2 q
    refine wa_iload_n 16 dX5_mostOf_15 rfl rfl ?_
    refine wa_iload 18 dX5_mostOf_16 rfl rfl ?_
    refine wa_callS 21 0 2 (av := [(0, v2), (0, v4)]) (rest := []) (k1 := (0, 0)) (k2 := (0, 0)) cvX5_isIn dX5_mostOf_18 rfl wM_X5_105 ⟨rfl, Nat.le_of_ble_eq_true rfl, by decide, Nat.le_of_ble_eq_true rfl, rfl, rfl⟩ rfl (TR.mono h (fun r2 L3 μ4 h => ?_))
    obtain ⟨w5, rfl, rfl, h⟩ := h
    show WA mX5_mostOf 4 (0, 0) 21 [(2, v0), (0, v1), (0, v2), (0, v3), (0, v4)] [(0, w5)] L μ4 Q
    refine wa_if_ne 24 58 dX5_mostOf_21 rfl (by decide) (fun q => ?_) (fun q => ?_)
    · replace h := h.1 q
      obtain ⟨c6, h⟩ := h
      refine wa_iinc 61 [(2, v0), (0, v1), (0, v2), (0, v3), (0, (v4 + 1))] dX5_mostOf_58 rfl rfl rfl c6 rfl ?_
      refine wa_goto 5 dX5_mostOf_61 (by decide) ?_
      exact h
    · replace h := h.2 q
      refine wa_iload_n 25 dX5_mostOf_24 rfl rfl ?_
      refine wa_if_lt 28 55 dX5_mostOf_25 rfl (by decide) (fun q => ?_) (fun q => ?_)
      · replace h := h.1 q
        refine wa_iload 57 dX5_mostOf_55 rfl rfl ?_
        refine wa_istore_n 58 [(2, v0), (0, v1), (0, v2), (0, v4), (0, v4)] dX5_mostOf_57 rfl rfl rfl ?_
        obtain ⟨c7, h⟩ := h
        refine wa_iinc 61 [(2, v0), (0, v1), (0, v2), (0, v4), (0, (v4 + 1))] dX5_mostOf_58 rfl rfl rfl c7 rfl ?_
        refine wa_goto 5 dX5_mostOf_61 (by decide) ?_
        exact h
      · replace h := h.2 q
        refine wa_aload_n 29 dX5_mostOf_28 rfl rfl ?_
        refine wa_iload_n 30 dX5_mostOf_29 rfl rfl ?_
        refine wa_aload_n 31 dX5_mostOf_30 rfl rfl ?_
        refine wa_getR 34 8 dX5_mostOf_31 rfl wF_X5_34 rfl rfl ⟨k0, isK_pos e1⟩ ?_
        refine wa_iload 36 dX5_mostOf_34 rfl rfl ?_
        obtain ⟨c8, h⟩ := h
        have e9 : isK L (rf L ((rf L v0 8)) v4) (7, 0) := lay_e hL k0 8 rfl c8
        refine wa_aaload 37 25 dX5_mostOf_36 rfl ⟨by decide, by decide⟩ ⟨okA_of e1 c8, isK_pos e9⟩ ?_
        refine wa_callV 40 3 2 5 (av := [(0, v1), (2, (rf L ((rf L v0 8)) v4))]) (rest := []) (k1 := (0, 0)) (k2 := (0, 0)) cvX5_has dX5_mostOf_37 rfl wM_X5_158 ⟨rfl, by decide, rfl, Nat.le_of_ble_eq_true rfl, by decide, Nat.le_of_ble_eq_true rfl, rfl, rfl⟩ rfl k0 (TR.mono h (fun r10 L11 μ12 h => ?_))
        obtain ⟨w13, rfl, rfl, h⟩ := h
        show WA mX5_mostOf 4 (0, 0) 40 [(2, v0), (0, v1), (0, v2), (0, v3), (0, v4)] [(1, w13)] L μ12 Q
        refine wa_aload_n 41 dX5_mostOf_40 rfl rfl ?_
        refine wa_iload_n 42 dX5_mostOf_41 rfl rfl ?_
        refine wa_aload_n 43 dX5_mostOf_42 rfl rfl ?_
        refine wa_getR 46 8 dX5_mostOf_43 rfl wF_X5_34 rfl rfl ⟨k0, isK_pos e1⟩ ?_
        refine wa_iload_n 47 dX5_mostOf_46 rfl rfl ?_
        obtain ⟨c14, h⟩ := h
        have e15 : isK L (rf L ((rf L v0 8)) v3) (7, 0) := lay_e hL k0 8 rfl c14
        refine wa_aaload 48 25 dX5_mostOf_47 rfl ⟨by decide, by decide⟩ ⟨okA_of e1 c14, isK_pos e15⟩ ?_
        refine wa_callV 51 3 2 5 (av := [(0, v1), (2, (rf L ((rf L v0 8)) v3))]) (rest := [(1, w13)]) (k1 := (0, 0)) (k2 := (0, 0)) cvX5_has dX5_mostOf_48 rfl wM_X5_158 ⟨rfl, by decide, rfl, Nat.le_of_ble_eq_true rfl, by decide, Nat.le_of_ble_eq_true rfl, rfl, rfl⟩ rfl k0 (TR.mono h (fun r16 L17 μ18 h => ?_))
        obtain ⟨w19, rfl, rfl, h⟩ := h
        show WA mX5_mostOf 4 (0, 0) 51 [(2, v0), (0, v1), (0, v2), (0, v3), (0, v4)] [(1, w19), (1, w13)] L μ18 Q
        refine wa_lc_le 55 58 dX5_mostOf_51 dX5_mostOf_52 rfl (by decide) (fun q => ?_) (fun q => ?_)
        · replace h := h.1 q
          obtain ⟨c20, h⟩ := h
          refine wa_iinc 61 [(2, v0), (0, v1), (0, v2), (0, v3), (0, (v4 + 1))] dX5_mostOf_58 rfl rfl rfl c20 rfl ?_
          refine wa_goto 5 dX5_mostOf_61 (by decide) ?_
          exact h
        · replace h := h.2 q
          refine wa_iload 57 dX5_mostOf_55 rfl rfl ?_
          refine wa_istore_n 58 [(2, v0), (0, v1), (0, v2), (0, v4), (0, v4)] dX5_mostOf_57 rfl rfl rfl ?_
          obtain ⟨c21, h⟩ := h
          refine wa_iinc 61 [(2, v0), (0, v1), (0, v2), (0, v4), (0, (v4 + 1))] dX5_mostOf_58 rfl rfl rfl c21 rfl ?_
          refine wa_goto 5 dX5_mostOf_61 (by decide) ?_
          exact h
set_option maxRecDepth 20000 in
theorem t_X5_moveKnife (hL : LayOK L) {v0 : Int} (k0 : isK L v0 (5, 0)) (h : TR mX5_everyone 0 (0, 0) [(2, v0)] L μ (fun r1 L2 μ3 => ∃ w4, r1 = some (0, w4) ∧ L = L2 ∧ WA mX5_moveKnife 5 (0, 0) 13 [(2, v0), (0, w4), (0, (μ3 ((rf L v0 0)) 1)), (9, 0)] [] L μ3 Q)) : TR mX5_moveKnife 5 (0, 0) [(2, v0)] L μ Q := by
  refine TR.of (ls := [(2, v0), (9, 0), (9, 0), (9, 0)]) (by decide) (by simp) rfl (Nat.le_of_ble_eq_true rfl) ?_
  refine wa_aload_n 1 dX5_moveKnife_0 rfl rfl ?_
  refine wa_callV 4 0 0 5 (av := []) (rest := []) (k1 := (0, 0)) (k2 := (0, 0)) cvX5_everyone dX5_moveKnife_1 rfl wM_X5_166 ⟨rfl, by decide, rfl, Nat.le_of_ble_eq_true rfl, by decide, Nat.le_of_ble_eq_true rfl, rfl, rfl⟩ rfl k0 (TR.mono h (fun r1 L2 μ3 h => ?_))
  obtain ⟨w4, rfl, rfl, h⟩ := h
  show WA mX5_moveKnife 5 (0, 0) 4 [(2, v0), (9, 0), (9, 0), (9, 0)] [(0, w4)] L μ3 Q
  refine wa_istore_n 5 [(2, v0), (0, w4), (9, 0), (9, 0)] dX5_moveKnife_4 rfl rfl rfl ?_
  refine wa_aload_n 6 dX5_moveKnife_5 rfl rfl ?_
  have e5 : isK L (rf L v0 0) (0, 0) := lay_f hL k0 0 rfl
  refine wa_getR 9 0 dX5_moveKnife_6 rfl wF_X5_41 rfl rfl ⟨k0, isK_pos e5⟩ ?_
  refine wa_getI 12 1 dX5_moveKnife_9 rfl wF_X5_102 rfl rfl e5 ?_
  refine wa_istore_n 13 [(2, v0), (0, w4), (0, (μ3 ((rf L v0 0)) 1)), (9, 0)] dX5_moveKnife_12 rfl rfl rfl ?_
  exact h
set_option maxRecDepth 20000 in
theorem s_X5_moveKnife_13 (hL : LayOK L) {v0 v1 v2 : Int} (k0 : isK L v0 (5, 0)) (h : (v2 ≤ 1 → TR mX5_firstOf 1 (0, 0) [(2, v0), (0, v1)] L μ (fun r1 L2 μ3 => ∃ w4, r1 = some (0, w4) ∧ L = L2 ∧ TR mX5_takeRestTo 3 (0, 0) [(2, v0), (0, w4), (2, (rf L ((rf L v0 3)) 1))] L μ3 (fun r7 L8 μ9 => r7 = none ∧ L = L8 ∧ Q (some (0, 1)) L μ9))) ∧ (¬ v2 ≤ 1 → TR mX5_markAll 4 (0, 0) [(2, v0), (0, v1), (2, (rf L v0 3)), (0, 1), (0, (μ ((rf L v0 0)) 1))] L μ (fun r12 L13 μ14 => ∃ w15, r12 = some (0, w15) ∧ L = L13 ∧ (¬ w15 = 0 → TR mX5_leastMark 2 (0, 0) [(2, v0), (0, v1)] L μ14 (fun r16 L17 μ18 => ∃ w19, r16 = some (0, w19) ∧ L = L17 ∧ (0 ≤ w19 ∧ w19 < 5) ∧ TR mX5_takeRestTo 3 (0, 0) [(2, v0), (0, w19), (2, (rf L ((rf L v0 5)) w19))] L μ18 (fun r23 L24 μ25 => r23 = none ∧ L = L24 ∧ (inI (v2 + (-1))) ∧ WA mX5_moveKnife 5 (0, 0) 13 [(2, v0), (0, (bAnd v1 ((bXor ((bShl 1 w19)) ((-1)))))), (0, (v2 + (-1))), (9, 0)] [] L μ25 Q))) ∧ (w15 = 0 → Q (some (0, 0)) L μ14)))) : WA mX5_moveKnife 5 (0, 0) 13 [(2, v0), (0, v1), (0, v2), (9, 0)] [] L μ Q := by
  refine wa_iload_n 14 dX5_moveKnife_13 rfl rfl ?_
  refine wa_iconst 15 dX5_moveKnife_14 rfl (by decide) ?_
  refine wa_icmp_le 18 71 dX5_moveKnife_15 rfl (by decide) (fun q => ?_) (fun q => ?_)
  · replace h := h.1 q
    refine wa_aload_n 72 dX5_moveKnife_71 rfl rfl ?_
    refine wa_aload_n 73 dX5_moveKnife_72 rfl rfl ?_
    refine wa_iload_n 74 dX5_moveKnife_73 rfl rfl ?_
    refine wa_callV 77 1 1 5 (av := [(0, v1)]) (rest := [(2, v0)]) (k1 := (0, 0)) (k2 := (0, 0)) cvX5_firstOf dX5_moveKnife_74 rfl wM_X5_181 ⟨rfl, by decide, rfl, Nat.le_of_ble_eq_true rfl, by decide, Nat.le_of_ble_eq_true rfl, rfl, rfl⟩ rfl k0 (TR.mono h (fun r1 L2 μ3 h => ?_))
    obtain ⟨w4, rfl, rfl, h⟩ := h
    show WA mX5_moveKnife 5 (0, 0) 77 [(2, v0), (0, v1), (0, v2), (9, 0)] [(0, w4), (2, v0)] L μ3 Q
    refine wa_aload_n 78 dX5_moveKnife_77 rfl rfl ?_
    have e5 : isK L (rf L v0 3) (7, 0) := lay_f hL k0 3 rfl
    refine wa_getR 81 3 dX5_moveKnife_78 rfl wF_X5_12 rfl rfl ⟨k0, isK_pos e5⟩ ?_
    have e6 : isK L (rf L ((rf L v0 3)) 1) (3, 0) := lay_f hL e5 1 rfl
    refine wa_getR 84 1 dX5_moveKnife_81 rfl wF_X5_59 rfl rfl ⟨e5, isK_pos e6⟩ ?_
    refine wa_callV 87 3 2 5 (av := [(0, w4), (2, (rf L ((rf L v0 3)) 1))]) (rest := []) (k1 := (0, 0)) (k2 := (0, 0)) cvX5_takeRestTo dX5_moveKnife_84 rfl wM_X5_177 ⟨rfl, by decide, rfl, Nat.le_of_ble_eq_true rfl, by decide, Nat.le_of_ble_eq_true rfl, rfl, rfl⟩ rfl k0 (TR.mono h (fun r7 L8 μ9 h => ?_))
    obtain ⟨rfl, rfl, h⟩ := h
    show WA mX5_moveKnife 5 (0, 0) 87 [(2, v0), (0, v1), (0, v2), (9, 0)] [] L μ9 Q
    refine wa_iconst 88 dX5_moveKnife_87 rfl (by decide) ?_
    exact wa_zret dX5_moveKnife_88 rfl (Or.inr rfl) h
  · replace h := h.2 q
    refine wa_aload_n 19 dX5_moveKnife_18 rfl rfl ?_
    refine wa_iload_n 20 dX5_moveKnife_19 rfl rfl ?_
    refine wa_aload_n 21 dX5_moveKnife_20 rfl rfl ?_
    have e10 : isK L (rf L v0 3) (7, 0) := lay_f hL k0 3 rfl
    refine wa_getR 24 3 dX5_moveKnife_21 rfl wF_X5_12 rfl rfl ⟨k0, isK_pos e10⟩ ?_
    refine wa_iconst 25 dX5_moveKnife_24 rfl (by decide) ?_
    refine wa_aload_n 26 dX5_moveKnife_25 rfl rfl ?_
    have e11 : isK L (rf L v0 0) (0, 0) := lay_f hL k0 0 rfl
    refine wa_getR 29 0 dX5_moveKnife_26 rfl wF_X5_41 rfl rfl ⟨k0, isK_pos e11⟩ ?_
    refine wa_getI 32 1 dX5_moveKnife_29 rfl wF_X5_102 rfl rfl e11 ?_
    refine wa_callV 35 4 4 5 (av := [(0, v1), (2, (rf L v0 3)), (0, 1), (0, (μ ((rf L v0 0)) 1))]) (rest := []) (k1 := (0, 0)) (k2 := (0, 0)) cvX5_markAll dX5_moveKnife_32 rfl wM_X5_170 ⟨rfl, by decide, rfl, Nat.le_of_ble_eq_true rfl, by decide, Nat.le_of_ble_eq_true rfl, rfl, rfl⟩ rfl k0 (TR.mono h (fun r12 L13 μ14 h => ?_))
    obtain ⟨w15, rfl, rfl, h⟩ := h
    show WA mX5_moveKnife 5 (0, 0) 35 [(2, v0), (0, v1), (0, v2), (9, 0)] [(0, w15)] L μ14 Q
    refine wa_if_ne 38 40 dX5_moveKnife_35 rfl (by decide) (fun q => ?_) (fun q => ?_)
    · replace h := h.1 q
      refine wa_aload_n 41 dX5_moveKnife_40 rfl rfl ?_
      refine wa_iload_n 42 dX5_moveKnife_41 rfl rfl ?_
      refine wa_callV 45 2 1 5 (av := [(0, v1)]) (rest := []) (k1 := (0, 0)) (k2 := (0, 0)) cvX5_leastMark dX5_moveKnife_42 rfl wM_X5_174 ⟨rfl, by decide, rfl, Nat.le_of_ble_eq_true rfl, by decide, Nat.le_of_ble_eq_true rfl, rfl, rfl⟩ rfl k0 (TR.mono h (fun r16 L17 μ18 h => ?_))
      obtain ⟨w19, rfl, rfl, h⟩ := h
      show WA mX5_moveKnife 5 (0, 0) 45 [(2, v0), (0, v1), (0, v2), (9, 0)] [(0, w19)] L μ18 Q
      refine wa_istore_n 46 [(2, v0), (0, v1), (0, v2), (0, w19)] dX5_moveKnife_45 rfl rfl rfl ?_
      refine wa_aload_n 47 dX5_moveKnife_46 rfl rfl ?_
      refine wa_iload_n 48 dX5_moveKnife_47 rfl rfl ?_
      refine wa_aload_n 49 dX5_moveKnife_48 rfl rfl ?_
      have e20 : isK L (rf L v0 5) (26, 5) := lay_f hL k0 5 rfl
      refine wa_getR 52 5 dX5_moveKnife_49 rfl wF_X5_23 rfl rfl ⟨k0, isK_pos e20⟩ ?_
      refine wa_iload_n 53 dX5_moveKnife_52 rfl rfl ?_
      obtain ⟨c21, h⟩ := h
      have e22 : isK L (rf L ((rf L v0 5)) w19) (3, 0) := lay_e hL k0 5 rfl c21
      refine wa_aaload 54 26 dX5_moveKnife_53 rfl ⟨by decide, by decide⟩ ⟨okA_of e20 c21, isK_pos e22⟩ ?_
      refine wa_callV 57 3 2 5 (av := [(0, w19), (2, (rf L ((rf L v0 5)) w19))]) (rest := []) (k1 := (0, 0)) (k2 := (0, 0)) cvX5_takeRestTo dX5_moveKnife_54 rfl wM_X5_177 ⟨rfl, by decide, rfl, Nat.le_of_ble_eq_true rfl, by decide, Nat.le_of_ble_eq_true rfl, rfl, rfl⟩ rfl k0 (TR.mono h (fun r23 L24 μ25 h => ?_))
      obtain ⟨rfl, rfl, h⟩ := h
      show WA mX5_moveKnife 5 (0, 0) 57 [(2, v0), (0, v1), (0, v2), (0, w19)] [] L μ25 Q
      refine wa_iload_n 58 dX5_moveKnife_57 rfl rfl ?_
      refine wa_iconst 59 dX5_moveKnife_58 rfl (by decide) ?_
      refine wa_iload_n 60 dX5_moveKnife_59 rfl rfl ?_
      refine wa_ishl 61 dX5_moveKnife_60 rfl ?_
      refine wa_iconst 62 dX5_moveKnife_61 rfl (by decide) ?_
      refine wa_ixor 63 dX5_moveKnife_62 rfl ?_
      refine wa_iand 64 dX5_moveKnife_63 rfl ?_
      refine wa_istore_n 65 [(2, v0), (0, (bAnd v1 ((bXor ((bShl 1 w19)) ((-1)))))), (0, v2), (0, w19)] dX5_moveKnife_64 rfl rfl rfl ?_
      obtain ⟨c26, h⟩ := h
      refine wa_iinc 68 [(2, v0), (0, (bAnd v1 ((bXor ((bShl 1 w19)) ((-1)))))), (0, (v2 + (-1))), (0, w19)] dX5_moveKnife_65 rfl rfl rfl c26 rfl ?_
      refine wa_goto 13 dX5_moveKnife_68 (by decide) ?_
      exact wa_weak [(2, v0), (0, (bAnd v1 ((bXor ((bShl 1 w19)) ((-1)))))), (0, (v2 + (-1))), (9, 0)] ⟨Or.inl rfl, Or.inl rfl, Or.inl rfl, Or.inr rfl, trivial⟩ h
    · replace h := h.2 q
      refine wa_iconst 39 dX5_moveKnife_38 rfl (by decide) ?_
      exact wa_zret dX5_moveKnife_39 rfl (Or.inl rfl) h
set_option maxRecDepth 20000 in
theorem t_X5_othersBehind (hL : LayOK L) {v0 v1 v2 v3 : Int} (k0 : isK L v0 (5, 0)) (k3 : isK L v3 (3, 0)) (h : WA mX5_othersBehind 3 (0, 0) 6 [(2, v0), (9, 0), (0, v2), (2, v3), (0, v1), (0, 0), (9, 0)] [] L μ Q) : TR mX5_othersBehind 3 (0, 0) [(2, v0), (0, v1), (0, v2), (2, v3)] L μ Q := by
  refine TR.of (ls := [(2, v0), (0, v1), (0, v2), (2, v3), (9, 0), (9, 0), (9, 0)]) (by decide) (by simp) rfl (Nat.le_of_ble_eq_true rfl) ?_
  refine wa_iload_n 1 dX5_othersBehind_0 rfl rfl ?_
  refine wa_istore 3 [(2, v0), (0, v1), (0, v2), (2, v3), (0, v1), (9, 0), (9, 0)] dX5_othersBehind_1 rfl rfl rfl ?_
  refine wa_iconst 4 dX5_othersBehind_3 rfl (by decide) ?_
  refine wa_istore 6 [(2, v0), (0, v1), (0, v2), (2, v3), (0, v1), (0, 0), (9, 0)] dX5_othersBehind_4 rfl rfl rfl ?_
  exact wa_weak [(2, v0), (9, 0), (0, v2), (2, v3), (0, v1), (0, 0), (9, 0)] ⟨Or.inl rfl, Or.inr rfl, Or.inl rfl, Or.inl rfl, Or.inl rfl, Or.inl rfl, Or.inl rfl, trivial⟩ h
set_option maxRecDepth 20000 in
theorem s_X5_othersBehind_6 (hL : LayOK L) {v0 v2 v3 v4 v5 : Int} (k0 : isK L v0 (5, 0)) (k3 : isK L v3 (3, 0)) (h : (v2 ≤ v5 → Q (some (0, v4)) L μ) ∧ (¬ v2 ≤ v5 → TR mX5_leastMark 2 (0, 0) [(2, v0), (0, v4)] L μ (fun r1 L2 μ3 => ∃ w4, r1 = some (0, w4) ∧ L = L2 ∧ (0 ≤ w4 ∧ w4 < 5) ∧ TR mX3_copy 0 (0, 0) [(2, v3), (2, (rf L ((rf L v0 5)) w4))] L μ3 (fun r8 L9 μ10 => r8 = none ∧ L = L9 ∧ (inI (v5 + 1)) ∧ WA mX5_othersBehind 3 (0, 0) 6 [(2, v0), (9, 0), (0, v2), (2, v3), (0, (bAnd v4 ((bXor ((bShl 1 w4)) ((-1)))))), (0, (v5 + 1)), (9, 0)] [] L μ10 Q)))) : WA mX5_othersBehind 3 (0, 0) 6 [(2, v0), (9, 0), (0, v2), (2, v3), (0, v4), (0, v5), (9, 0)] [] L μ Q := by
  refine wa_iload 8 dX5_othersBehind_6 rfl rfl ?_
  refine wa_iload_n 9 dX5_othersBehind_8 rfl rfl ?_
  refine wa_icmp_ge 12 48 dX5_othersBehind_9 rfl (by decide) (fun q => ?_) (fun q => ?_)
  · replace h := h.1 q
    refine wa_iload 50 dX5_othersBehind_48 rfl rfl ?_
    exact wa_iret dX5_othersBehind_50 rfl h
  · replace h := h.2 q
    refine wa_aload_n 13 dX5_othersBehind_12 rfl rfl ?_
    refine wa_iload 15 dX5_othersBehind_13 rfl rfl ?_
    refine wa_callV 18 2 1 5 (av := [(0, v4)]) (rest := []) (k1 := (0, 0)) (k2 := (0, 0)) cvX5_leastMark dX5_othersBehind_15 rfl wM_X5_174 ⟨rfl, by decide, rfl, Nat.le_of_ble_eq_true rfl, by decide, Nat.le_of_ble_eq_true rfl, rfl, rfl⟩ rfl k0 (TR.mono h (fun r1 L2 μ3 h => ?_))
    obtain ⟨w4, rfl, rfl, h⟩ := h
    show WA mX5_othersBehind 3 (0, 0) 18 [(2, v0), (9, 0), (0, v2), (2, v3), (0, v4), (0, v5), (9, 0)] [(0, w4)] L μ3 Q
    refine wa_istore 20 [(2, v0), (9, 0), (0, v2), (2, v3), (0, v4), (0, v5), (0, w4)] dX5_othersBehind_18 rfl rfl rfl ?_
    refine wa_aload_n 21 dX5_othersBehind_20 rfl rfl ?_
    refine wa_aload_n 22 dX5_othersBehind_21 rfl rfl ?_
    have e5 : isK L (rf L v0 5) (26, 5) := lay_f hL k0 5 rfl
    refine wa_getR 25 5 dX5_othersBehind_22 rfl wF_X5_23 rfl rfl ⟨k0, isK_pos e5⟩ ?_
    refine wa_iload 27 dX5_othersBehind_25 rfl rfl ?_
    obtain ⟨c6, h⟩ := h
    have e7 : isK L (rf L ((rf L v0 5)) w4) (3, 0) := lay_e hL k0 5 rfl c6
    refine wa_aaload 28 26 dX5_othersBehind_27 rfl ⟨by decide, by decide⟩ ⟨okA_of e5 c6, isK_pos e7⟩ ?_
    refine wa_callV 31 0 1 3 (av := [(2, (rf L ((rf L v0 5)) w4))]) (rest := []) (k1 := (0, 0)) (k2 := (0, 0)) cvX3_copy dX5_othersBehind_28 rfl wM_X5_148 ⟨rfl, by decide, rfl, Nat.le_of_ble_eq_true rfl, by decide, Nat.le_of_ble_eq_true rfl, rfl, rfl⟩ rfl k3 (TR.mono h (fun r8 L9 μ10 h => ?_))
    obtain ⟨rfl, rfl, h⟩ := h
    show WA mX5_othersBehind 3 (0, 0) 31 [(2, v0), (9, 0), (0, v2), (2, v3), (0, v4), (0, v5), (0, w4)] [] L μ10 Q
    refine wa_iload 33 dX5_othersBehind_31 rfl rfl ?_
    refine wa_iconst 34 dX5_othersBehind_33 rfl (by decide) ?_
    refine wa_iload 36 dX5_othersBehind_34 rfl rfl ?_
    refine wa_ishl 37 dX5_othersBehind_36 rfl ?_
    refine wa_iconst 38 dX5_othersBehind_37 rfl (by decide) ?_
    refine wa_ixor 39 dX5_othersBehind_38 rfl ?_
    refine wa_iand 40 dX5_othersBehind_39 rfl ?_
    refine wa_istore 42 [(2, v0), (9, 0), (0, v2), (2, v3), (0, (bAnd v4 ((bXor ((bShl 1 w4)) ((-1)))))), (0, v5), (0, w4)] dX5_othersBehind_40 rfl rfl rfl ?_
    obtain ⟨c11, h⟩ := h
    refine wa_iinc 45 [(2, v0), (9, 0), (0, v2), (2, v3), (0, (bAnd v4 ((bXor ((bShl 1 w4)) ((-1)))))), (0, (v5 + 1)), (0, w4)] dX5_othersBehind_42 rfl rfl rfl c11 rfl ?_
    refine wa_goto 6 dX5_othersBehind_45 (by decide) ?_
    exact wa_weak [(2, v0), (9, 0), (0, v2), (2, v3), (0, (bAnd v4 ((bXor ((bShl 1 w4)) ((-1)))))), (0, (v5 + 1)), (9, 0)] ⟨Or.inl rfl, Or.inl rfl, Or.inl rfl, Or.inl rfl, Or.inl rfl, Or.inl rfl, Or.inr rfl, trivial⟩ h
set_option maxRecDepth 20000 in
theorem t_X5_partTrimmings (hL : LayOK L) {v0 : Int} (k0 : isK L v0 (5, 0)) (h : (¬ (μ v0 11) = 0 → (inI (3 - (μ v0 12))) ∧ TR mX5_agentAt 0 (0, 0) [(2, v0), (0, (3 - (μ v0 12)))] L μ (fun r2 L3 μ4 => ∃ w5, r2 = some (0, w5) ∧ L = L3 ∧ TR mX5_cutInThree 4 (0, 0) [(2, v0), (0, w5), (2, (rf L v0 9))] L μ4 (fun r7 L8 μ9 => ∃ w10, r7 = some (0, w10) ∧ L = L8 ∧ (¬ w10 = 0 → TR mX5_agentAt 0 (0, 0) [(2, v0), (0, (μ9 v0 12))] L μ9 (fun r11 L12 μ13 => ∃ w14, r11 = some (0, w14) ∧ L = L12 ∧ TR mX5_mostOf 4 (0, 0) [(2, v0), (0, w14), (0, 0)] L μ13 (fun r15 L16 μ17 => ∃ w18, r15 = some (0, w18) ∧ L = L16 ∧ TR mX5_agentAt 0 (0, 0) [(2, v0), (0, 0)] L μ17 (fun r19 L20 μ21 => ∃ w22, r19 = some (0, w22) ∧ L = L20 ∧ TR mX5_mostOf 4 (0, 0) [(2, v0), (0, w22), (0, (bShl 1 w18))] L μ21 (fun r23 L24 μ25 => ∃ w26, r23 = some (0, w26) ∧ L = L24 ∧ TR mX5_takePiece 3 (0, 0) [(2, v0), (0, (μ25 v0 12)), (0, w18)] L μ25 (fun r27 L28 μ29 => r27 = none ∧ L = L28 ∧ TR mX5_takePiece 3 (0, 0) [(2, v0), (0, 0), (0, w26)] L μ29 (fun r30 L31 μ32 => r30 = none ∧ L = L31 ∧ TR mX5_agentAt 0 (0, 0) [(2, v0), (0, (3 - (μ v0 12)))] L μ32 (fun r33 L34 μ35 => ∃ w36, r33 = some (0, w36) ∧ L = L34 ∧ TR mX5_mostOf 4 (0, 0) [(2, v0), (0, w36), (0, (bOr ((bShl 1 w18)) ((bShl 1 w26))))] L μ35 (fun r37 L38 μ39 => ∃ w40, r37 = some (0, w40) ∧ L = L38 ∧ TR mX5_takePiece 3 (0, 0) [(2, v0), (0, (3 - (μ v0 12))), (0, w40)] L μ39 (fun r41 L42 μ43 => r41 = none ∧ L = L42 ∧ Q (some (0, 1)) L μ43)))))))))) ∧ (w10 = 0 → Q (some (0, 0)) L μ9)))) ∧ ((μ v0 11) = 0 → Q (some (0, 1)) L μ)) : TR mX5_partTrimmings 5 (0, 0) [(2, v0)] L μ Q := by
  refine TR.of (ls := [(2, v0), (9, 0), (9, 0), (9, 0)]) (by decide) (by simp) rfl (Nat.le_of_ble_eq_true rfl) ?_
  refine wa_aload_n 1 dX5_partTrimmings_0 rfl rfl ?_
  refine wa_getI 4 11 dX5_partTrimmings_1 rfl wF_X5_216 rfl rfl k0 ?_
  refine wa_if_ne 7 9 dX5_partTrimmings_4 rfl (by decide) (fun q => ?_) (fun q => ?_)
  · replace h := h.1 q
    refine wa_iconst 10 dX5_partTrimmings_9 rfl (by decide) ?_
    refine wa_aload_n 11 dX5_partTrimmings_10 rfl rfl ?_
    refine wa_getI 14 12 dX5_partTrimmings_11 rfl wF_X5_219 rfl rfl k0 ?_
    obtain ⟨c1, h⟩ := h
    refine wa_isub 15 dX5_partTrimmings_14 rfl c1 ?_
    refine wa_istore_n 16 [(2, v0), (0, (3 - (μ v0 12))), (9, 0), (9, 0)] dX5_partTrimmings_15 rfl rfl rfl ?_
    refine wa_aload_n 17 dX5_partTrimmings_16 rfl rfl ?_
    refine wa_aload_n 18 dX5_partTrimmings_17 rfl rfl ?_
    refine wa_iload_n 19 dX5_partTrimmings_18 rfl rfl ?_
    refine wa_callV 22 0 1 5 (av := [(0, (3 - (μ v0 12)))]) (rest := [(2, v0)]) (k1 := (0, 0)) (k2 := (0, 0)) cvX5_agentAt dX5_partTrimmings_19 rfl wM_X5_136 ⟨rfl, by decide, rfl, Nat.le_of_ble_eq_true rfl, by decide, Nat.le_of_ble_eq_true rfl, rfl, rfl⟩ rfl k0 (TR.mono h (fun r2 L3 μ4 h => ?_))
    obtain ⟨w5, rfl, rfl, h⟩ := h
    show WA mX5_partTrimmings 5 (0, 0) 22 [(2, v0), (0, (3 - (μ v0 12))), (9, 0), (9, 0)] [(0, w5), (2, v0)] L μ4 Q
    refine wa_aload_n 23 dX5_partTrimmings_22 rfl rfl ?_
    have e6 : isK L (rf L v0 9) (7, 0) := lay_f hL k0 9 rfl
    refine wa_getR 26 9 dX5_partTrimmings_23 rfl wF_X5_38 rfl rfl ⟨k0, isK_pos e6⟩ ?_
    refine wa_callV 29 4 2 5 (av := [(0, w5), (2, (rf L v0 9))]) (rest := []) (k1 := (0, 0)) (k2 := (0, 0)) cvX5_cutInThree dX5_partTrimmings_26 rfl wM_X5_206 ⟨rfl, by decide, rfl, Nat.le_of_ble_eq_true rfl, by decide, Nat.le_of_ble_eq_true rfl, rfl, rfl⟩ rfl k0 (TR.mono h (fun r7 L8 μ9 h => ?_))
    obtain ⟨w10, rfl, rfl, h⟩ := h
    show WA mX5_partTrimmings 5 (0, 0) 29 [(2, v0), (0, (3 - (μ v0 12))), (9, 0), (9, 0)] [(0, w10)] L μ9 Q
    refine wa_if_ne 32 34 dX5_partTrimmings_29 rfl (by decide) (fun q => ?_) (fun q => ?_)
    · replace h := h.1 q
      refine wa_aload_n 35 dX5_partTrimmings_34 rfl rfl ?_
      refine wa_aload_n 36 dX5_partTrimmings_35 rfl rfl ?_
      refine wa_aload_n 37 dX5_partTrimmings_36 rfl rfl ?_
      refine wa_getI 40 12 dX5_partTrimmings_37 rfl wF_X5_219 rfl rfl k0 ?_
      refine wa_callV 43 0 1 5 (av := [(0, (μ9 v0 12))]) (rest := [(2, v0)]) (k1 := (0, 0)) (k2 := (0, 0)) cvX5_agentAt dX5_partTrimmings_40 rfl wM_X5_136 ⟨rfl, by decide, rfl, Nat.le_of_ble_eq_true rfl, by decide, Nat.le_of_ble_eq_true rfl, rfl, rfl⟩ rfl k0 (TR.mono h (fun r11 L12 μ13 h => ?_))
      obtain ⟨w14, rfl, rfl, h⟩ := h
      show WA mX5_partTrimmings 5 (0, 0) 43 [(2, v0), (0, (3 - (μ v0 12))), (9, 0), (9, 0)] [(0, w14), (2, v0)] L μ13 Q
      refine wa_iconst 44 dX5_partTrimmings_43 rfl (by decide) ?_
      refine wa_callV 47 4 2 5 (av := [(0, w14), (0, 0)]) (rest := []) (k1 := (0, 0)) (k2 := (0, 0)) cvX5_mostOf dX5_partTrimmings_44 rfl wM_X5_210 ⟨rfl, by decide, rfl, Nat.le_of_ble_eq_true rfl, by decide, Nat.le_of_ble_eq_true rfl, rfl, rfl⟩ rfl k0 (TR.mono h (fun r15 L16 μ17 h => ?_))
      obtain ⟨w18, rfl, rfl, h⟩ := h
      show WA mX5_partTrimmings 5 (0, 0) 47 [(2, v0), (0, (3 - (μ v0 12))), (9, 0), (9, 0)] [(0, w18)] L μ17 Q
      refine wa_istore_n 48 [(2, v0), (0, (3 - (μ v0 12))), (0, w18), (9, 0)] dX5_partTrimmings_47 rfl rfl rfl ?_
      refine wa_aload_n 49 dX5_partTrimmings_48 rfl rfl ?_
      refine wa_aload_n 50 dX5_partTrimmings_49 rfl rfl ?_
      refine wa_iconst 51 dX5_partTrimmings_50 rfl (by decide) ?_
      refine wa_callV 54 0 1 5 (av := [(0, 0)]) (rest := [(2, v0)]) (k1 := (0, 0)) (k2 := (0, 0)) cvX5_agentAt dX5_partTrimmings_51 rfl wM_X5_136 ⟨rfl, by decide, rfl, Nat.le_of_ble_eq_true rfl, by decide, Nat.le_of_ble_eq_true rfl, rfl, rfl⟩ rfl k0 (TR.mono h (fun r19 L20 μ21 h => ?_))
      obtain ⟨w22, rfl, rfl, h⟩ := h
      show WA mX5_partTrimmings 5 (0, 0) 54 [(2, v0), (0, (3 - (μ v0 12))), (0, w18), (9, 0)] [(0, w22), (2, v0)] L μ21 Q
      refine wa_iconst 55 dX5_partTrimmings_54 rfl (by decide) ?_
      refine wa_iload_n 56 dX5_partTrimmings_55 rfl rfl ?_
      refine wa_ishl 57 dX5_partTrimmings_56 rfl ?_
      refine wa_callV 60 4 2 5 (av := [(0, w22), (0, (bShl 1 w18))]) (rest := []) (k1 := (0, 0)) (k2 := (0, 0)) cvX5_mostOf dX5_partTrimmings_57 rfl wM_X5_210 ⟨rfl, by decide, rfl, Nat.le_of_ble_eq_true rfl, by decide, Nat.le_of_ble_eq_true rfl, rfl, rfl⟩ rfl k0 (TR.mono h (fun r23 L24 μ25 h => ?_))
      obtain ⟨w26, rfl, rfl, h⟩ := h
      show WA mX5_partTrimmings 5 (0, 0) 60 [(2, v0), (0, (3 - (μ v0 12))), (0, w18), (9, 0)] [(0, w26)] L μ25 Q
      refine wa_istore_n 61 [(2, v0), (0, (3 - (μ v0 12))), (0, w18), (0, w26)] dX5_partTrimmings_60 rfl rfl rfl ?_
      refine wa_aload_n 62 dX5_partTrimmings_61 rfl rfl ?_
      refine wa_aload_n 63 dX5_partTrimmings_62 rfl rfl ?_
      refine wa_getI 66 12 dX5_partTrimmings_63 rfl wF_X5_219 rfl rfl k0 ?_
      refine wa_iload_n 67 dX5_partTrimmings_66 rfl rfl ?_
      refine wa_callV 70 3 2 5 (av := [(0, (μ25 v0 12)), (0, w18)]) (rest := []) (k1 := (0, 0)) (k2 := (0, 0)) cvX5_takePiece dX5_partTrimmings_67 rfl wM_X5_162 ⟨rfl, by decide, rfl, Nat.le_of_ble_eq_true rfl, by decide, Nat.le_of_ble_eq_true rfl, rfl, rfl⟩ rfl k0 (TR.mono h (fun r27 L28 μ29 h => ?_))
      obtain ⟨rfl, rfl, h⟩ := h
      show WA mX5_partTrimmings 5 (0, 0) 70 [(2, v0), (0, (3 - (μ v0 12))), (0, w18), (0, w26)] [] L μ29 Q
      refine wa_aload_n 71 dX5_partTrimmings_70 rfl rfl ?_
      refine wa_iconst 72 dX5_partTrimmings_71 rfl (by decide) ?_
      refine wa_iload_n 73 dX5_partTrimmings_72 rfl rfl ?_
      refine wa_callV 76 3 2 5 (av := [(0, 0), (0, w26)]) (rest := []) (k1 := (0, 0)) (k2 := (0, 0)) cvX5_takePiece dX5_partTrimmings_73 rfl wM_X5_162 ⟨rfl, by decide, rfl, Nat.le_of_ble_eq_true rfl, by decide, Nat.le_of_ble_eq_true rfl, rfl, rfl⟩ rfl k0 (TR.mono h (fun r30 L31 μ32 h => ?_))
      obtain ⟨rfl, rfl, h⟩ := h
      show WA mX5_partTrimmings 5 (0, 0) 76 [(2, v0), (0, (3 - (μ v0 12))), (0, w18), (0, w26)] [] L μ32 Q
      refine wa_aload_n 77 dX5_partTrimmings_76 rfl rfl ?_
      refine wa_iload_n 78 dX5_partTrimmings_77 rfl rfl ?_
      refine wa_aload_n 79 dX5_partTrimmings_78 rfl rfl ?_
      refine wa_aload_n 80 dX5_partTrimmings_79 rfl rfl ?_
      refine wa_iload_n 81 dX5_partTrimmings_80 rfl rfl ?_
      refine wa_callV 84 0 1 5 (av := [(0, (3 - (μ v0 12)))]) (rest := [(2, v0), (0, (3 - (μ v0 12))), (2, v0)]) (k1 := (0, 0)) (k2 := (0, 0)) cvX5_agentAt dX5_partTrimmings_81 rfl wM_X5_136 ⟨rfl, by decide, rfl, Nat.le_of_ble_eq_true rfl, by decide, Nat.le_of_ble_eq_true rfl, rfl, rfl⟩ rfl k0 (TR.mono h (fun r33 L34 μ35 h => ?_))
      obtain ⟨w36, rfl, rfl, h⟩ := h
      show WA mX5_partTrimmings 5 (0, 0) 84 [(2, v0), (0, (3 - (μ v0 12))), (0, w18), (0, w26)] [(0, w36), (2, v0), (0, (3 - (μ v0 12))), (2, v0)] L μ35 Q
      refine wa_iconst 85 dX5_partTrimmings_84 rfl (by decide) ?_
      refine wa_iload_n 86 dX5_partTrimmings_85 rfl rfl ?_
      refine wa_ishl 87 dX5_partTrimmings_86 rfl ?_
      refine wa_iconst 88 dX5_partTrimmings_87 rfl (by decide) ?_
      refine wa_iload_n 89 dX5_partTrimmings_88 rfl rfl ?_
      refine wa_ishl 90 dX5_partTrimmings_89 rfl ?_
      refine wa_ior 91 dX5_partTrimmings_90 rfl ?_
      refine wa_callV 94 4 2 5 (av := [(0, w36), (0, (bOr ((bShl 1 w18)) ((bShl 1 w26))))]) (rest := [(0, (3 - (μ v0 12))), (2, v0)]) (k1 := (0, 0)) (k2 := (0, 0)) cvX5_mostOf dX5_partTrimmings_91 rfl wM_X5_210 ⟨rfl, by decide, rfl, Nat.le_of_ble_eq_true rfl, by decide, Nat.le_of_ble_eq_true rfl, rfl, rfl⟩ rfl k0 (TR.mono h (fun r37 L38 μ39 h => ?_))
      obtain ⟨w40, rfl, rfl, h⟩ := h
      show WA mX5_partTrimmings 5 (0, 0) 94 [(2, v0), (0, (3 - (μ v0 12))), (0, w18), (0, w26)] [(0, w40), (0, (3 - (μ v0 12))), (2, v0)] L μ39 Q
      refine wa_callV 97 3 2 5 (av := [(0, (3 - (μ v0 12))), (0, w40)]) (rest := []) (k1 := (0, 0)) (k2 := (0, 0)) cvX5_takePiece dX5_partTrimmings_94 rfl wM_X5_162 ⟨rfl, by decide, rfl, Nat.le_of_ble_eq_true rfl, by decide, Nat.le_of_ble_eq_true rfl, rfl, rfl⟩ rfl k0 (TR.mono h (fun r41 L42 μ43 h => ?_))
      obtain ⟨rfl, rfl, h⟩ := h
      show WA mX5_partTrimmings 5 (0, 0) 97 [(2, v0), (0, (3 - (μ v0 12))), (0, w18), (0, w26)] [] L μ43 Q
      refine wa_iconst 98 dX5_partTrimmings_97 rfl (by decide) ?_
      exact wa_zret dX5_partTrimmings_98 rfl (Or.inr rfl) h
    · replace h := h.2 q
      refine wa_iconst 33 dX5_partTrimmings_32 rfl (by decide) ?_
      exact wa_zret dX5_partTrimmings_33 rfl (Or.inl rfl) h
  · replace h := h.2 q
    refine wa_iconst 8 dX5_partTrimmings_7 rfl (by decide) ?_
    exact wa_zret dX5_partTrimmings_8 rfl (Or.inr rfl) h
set_option maxRecDepth 20000 in
theorem t_X5_putMark (hL : LayOK L) {v0 v1 v2 v3 v4 v5 v6 : Int} (k0 : isK L v0 (5, 0)) (k1 : isK L v1 (3, 0)) (k3 : isK L v3 (3, 0)) (k4 : isK L v4 (7, 0)) (h : (0 ≤ v2 ∧ v2 < 5) ∧ TR mX0_between 2 (0, 0) [(2, (rf L v0 0)), (2, (rf L ((rf L ((rf L v0 0)) 3)) v2)), (2, (rf L v4 0)), (2, (rf L v4 1)), (1, (μ ((rf L v0 1)) 2))] L μ (fun r8 L9 μ10 => ∃ w11, r8 = some (1, w11) ∧ L = L9 ∧ (inL (w11 * v5)) ∧ TR mX3_parts 0 (0, 0) [(2, v3), (1, (μ10 ((rf L v0 1)) 2))] L μ10 (fun r13 L14 μ15 => ∃ w16, r13 = some (1, w16) ∧ L = L14 ∧ TR mX0_reach 2 (0, 0) [(2, (rf L v0 0)), (2, v1), (2, (rf L ((rf L ((rf L v0 0)) 3)) v2)), (1, w16), (1, (μ15 ((rf L v0 1)) 2)), (1, (w11 * v5)), (1, v6)] L μ15 (fun r17 L18 μ19 => ∃ w20, r17 = some (0, w20) ∧ L = L18 ∧ (w20 = 0 → Q (some (0, 0)) L μ19) ∧ (¬ w20 = 0 → TR mX1_takesIn 2 (0, 0) [(2, (rf L v0 1)), (2, v1)] L μ19 (fun r21 L22 μ23 => ∃ w24, r21 = some (0, w24) ∧ L = L22 ∧ (w24 = 0 → Q (some (0, 0)) L μ23) ∧ (¬ w24 = 0 → Q (some (0, 1)) L μ23))))))) : TR mX5_putMark 3 (0, 0) [(2, v0), (2, v1), (0, v2), (2, v3), (2, v4), (0, v5), (0, v6)] L μ Q := by
  refine TR.of (ls := [(2, v0), (2, v1), (0, v2), (2, v3), (2, v4), (0, v5), (0, v6), (9, 0), (9, 0), (9, 0)]) (by decide) (by simp) rfl (Nat.le_of_ble_eq_true rfl) ?_
  refine wa_aload_n 1 dX5_putMark_0 rfl rfl ?_
  have e1 : isK L (rf L v0 0) (0, 0) := lay_f hL k0 0 rfl
  refine wa_getR 4 0 dX5_putMark_1 rfl wF_X5_41 rfl rfl ⟨k0, isK_pos e1⟩ ?_
  have e2 : isK L (rf L ((rf L v0 0)) 3) (23, 5) := lay_f hL e1 3 rfl
  refine wa_getR 7 3 dX5_putMark_4 rfl wF_X5_109 rfl rfl ⟨e1, isK_pos e2⟩ ?_
  refine wa_iload_n 8 dX5_putMark_7 rfl rfl ?_
  obtain ⟨c3, h⟩ := h
  have e4 : isK L (rf L ((rf L ((rf L v0 0)) 3)) v2) (20, 16) := lay_e hL e1 3 rfl c3
  refine wa_aaload 9 23 dX5_putMark_8 rfl ⟨by decide, by decide⟩ ⟨okA_of e2 c3, isK_pos e4⟩ ?_
  refine wa_astore 11 [(2, v0), (2, v1), (0, v2), (2, v3), (2, v4), (0, v5), (0, v6), (2, (rf L ((rf L ((rf L v0 0)) 3)) v2)), (9, 0), (9, 0)] dX5_putMark_9 rfl rfl rfl ?_
  refine wa_aload_n 12 dX5_putMark_11 rfl rfl ?_
  refine wa_getR 15 0 dX5_putMark_12 rfl wF_X5_41 rfl rfl ⟨k0, isK_pos e1⟩ ?_
  refine wa_aload 17 dX5_putMark_15 rfl rfl ?_
  refine wa_aload 19 dX5_putMark_17 rfl rfl ?_
  have e5 : isK L (rf L v4 0) (3, 0) := lay_f hL k4 0 rfl
  refine wa_getR 22 0 dX5_putMark_19 rfl wF_X5_113 rfl rfl ⟨k4, isK_pos e5⟩ ?_
  refine wa_aload 24 dX5_putMark_22 rfl rfl ?_
  have e6 : isK L (rf L v4 1) (3, 0) := lay_f hL k4 1 rfl
  refine wa_getR 27 1 dX5_putMark_24 rfl wF_X5_59 rfl rfl ⟨k4, isK_pos e6⟩ ?_
  refine wa_aload_n 28 dX5_putMark_27 rfl rfl ?_
  have e7 : isK L (rf L v0 1) (1, 0) := lay_f hL k0 1 rfl
  refine wa_getR 31 1 dX5_putMark_28 rfl wF_X5_45 rfl rfl ⟨k0, isK_pos e7⟩ ?_
  refine wa_getL 34 2 dX5_putMark_31 rfl wF_X5_116 rfl rfl e7 ?_
  refine wa_callV 37 2 4 0 (av := [(2, (rf L ((rf L ((rf L v0 0)) 3)) v2)), (2, (rf L v4 0)), (2, (rf L v4 1)), (1, (μ ((rf L v0 1)) 2))]) (rest := []) (k1 := (0, 0)) (k2 := (0, 0)) cvX0_between dX5_putMark_34 rfl wM_X5_120 ⟨rfl, by decide, rfl, Nat.le_of_ble_eq_true rfl, by decide, Nat.le_of_ble_eq_true rfl, rfl, rfl⟩ rfl e1 (TR.mono h (fun r8 L9 μ10 h => ?_))
  obtain ⟨w11, rfl, rfl, h⟩ := h
  show WA mX5_putMark 3 (0, 0) 37 [(2, v0), (2, v1), (0, v2), (2, v3), (2, v4), (0, v5), (0, v6), (2, (rf L ((rf L ((rf L v0 0)) 3)) v2)), (9, 0), (9, 0)] [(1, w11)] L μ10 Q
  refine wa_iload 39 dX5_putMark_37 rfl rfl ?_
  refine wa_i2l 40 dX5_putMark_39 rfl ?_
  obtain ⟨c12, h⟩ := h
  refine wa_lmul 41 dX5_putMark_40 rfl c12 ?_
  refine wa_lstore 43 [(2, v0), (2, v1), (0, v2), (2, v3), (2, v4), (0, v5), (0, v6), (2, (rf L ((rf L ((rf L v0 0)) 3)) v2)), (1, (w11 * v5)), (9, 0)] dX5_putMark_41 rfl rfl rfl ?_
  refine wa_aload_n 44 dX5_putMark_43 rfl rfl ?_
  refine wa_getR 47 0 dX5_putMark_44 rfl wF_X5_41 rfl rfl ⟨k0, isK_pos e1⟩ ?_
  refine wa_aload_n 48 dX5_putMark_47 rfl rfl ?_
  refine wa_aload 50 dX5_putMark_48 rfl rfl ?_
  refine wa_aload_n 51 dX5_putMark_50 rfl rfl ?_
  refine wa_aload_n 52 dX5_putMark_51 rfl rfl ?_
  refine wa_getR 55 1 dX5_putMark_52 rfl wF_X5_45 rfl rfl ⟨k0, isK_pos e7⟩ ?_
  refine wa_getL 58 2 dX5_putMark_55 rfl wF_X5_116 rfl rfl e7 ?_
  refine wa_callV 61 0 1 3 (av := [(1, (μ10 ((rf L v0 1)) 2))]) (rest := [(2, (rf L ((rf L ((rf L v0 0)) 3)) v2)), (2, v1), (2, (rf L v0 0))]) (k1 := (0, 0)) (k2 := (0, 0)) cvX3_parts dX5_putMark_58 rfl wM_X5_124 ⟨rfl, by decide, rfl, Nat.le_of_ble_eq_true rfl, by decide, Nat.le_of_ble_eq_true rfl, rfl, rfl⟩ rfl k3 (TR.mono h (fun r13 L14 μ15 h => ?_))
  obtain ⟨w16, rfl, rfl, h⟩ := h
  show WA mX5_putMark 3 (0, 0) 61 [(2, v0), (2, v1), (0, v2), (2, v3), (2, v4), (0, v5), (0, v6), (2, (rf L ((rf L ((rf L v0 0)) 3)) v2)), (1, (w11 * v5)), (9, 0)] [(1, w16), (2, (rf L ((rf L ((rf L v0 0)) 3)) v2)), (2, v1), (2, (rf L v0 0))] L μ15 Q
  refine wa_aload_n 62 dX5_putMark_61 rfl rfl ?_
  refine wa_getR 65 1 dX5_putMark_62 rfl wF_X5_45 rfl rfl ⟨k0, isK_pos e7⟩ ?_
  refine wa_getL 68 2 dX5_putMark_65 rfl wF_X5_116 rfl rfl e7 ?_
  refine wa_lload 70 dX5_putMark_68 rfl rfl ?_
  refine wa_iload 72 dX5_putMark_70 rfl rfl ?_
  refine wa_i2l 73 dX5_putMark_72 rfl ?_
  refine wa_callV 76 2 6 0 (av := [(2, v1), (2, (rf L ((rf L ((rf L v0 0)) 3)) v2)), (1, w16), (1, (μ15 ((rf L v0 1)) 2)), (1, (w11 * v5)), (1, v6)]) (rest := []) (k1 := (0, 0)) (k2 := (0, 0)) cvX0_reach dX5_putMark_73 rfl wM_X5_128 ⟨rfl, by decide, rfl, Nat.le_of_ble_eq_true rfl, by decide, Nat.le_of_ble_eq_true rfl, rfl, rfl⟩ rfl e1 (TR.mono h (fun r17 L18 μ19 h => ?_))
  obtain ⟨w20, rfl, rfl, h⟩ := h
  show WA mX5_putMark 3 (0, 0) 76 [(2, v0), (2, v1), (0, v2), (2, v3), (2, v4), (0, v5), (0, v6), (2, (rf L ((rf L ((rf L v0 0)) 3)) v2)), (1, (w11 * v5)), (9, 0)] [(0, w20)] L μ19 Q
  refine wa_if_eq 79 94 dX5_putMark_76 rfl (by decide) (fun q => ?_) (fun q => ?_)
  · replace h := h.1 q
    refine wa_iconst 95 dX5_putMark_94 rfl (by decide) ?_
    exact wa_zret dX5_putMark_95 rfl (Or.inl rfl) h
  · replace h := h.2 q
    refine wa_aload_n 80 dX5_putMark_79 rfl rfl ?_
    refine wa_getR 83 1 dX5_putMark_80 rfl wF_X5_45 rfl rfl ⟨k0, isK_pos e7⟩ ?_
    refine wa_aload_n 84 dX5_putMark_83 rfl rfl ?_
    refine wa_callV 87 2 1 1 (av := [(2, v1)]) (rest := []) (k1 := (0, 0)) (k2 := (0, 0)) cvX1_takesIn dX5_putMark_84 rfl wM_X5_132 ⟨rfl, by decide, rfl, Nat.le_of_ble_eq_true rfl, by decide, Nat.le_of_ble_eq_true rfl, rfl, rfl⟩ rfl e7 (TR.mono h (fun r21 L22 μ23 h => ?_))
    obtain ⟨w24, rfl, rfl, h⟩ := h
    show WA mX5_putMark 3 (0, 0) 87 [(2, v0), (2, v1), (0, v2), (2, v3), (2, v4), (0, v5), (0, v6), (2, (rf L ((rf L ((rf L v0 0)) 3)) v2)), (1, (w11 * v5)), (9, 0)] [(0, w24)] L μ23 Q
    refine wa_if_eq 90 94 dX5_putMark_87 rfl (by decide) (fun q => ?_) (fun q => ?_)
    · replace h := h.1 q
      refine wa_iconst 95 dX5_putMark_94 rfl (by decide) ?_
      exact wa_zret dX5_putMark_95 rfl (Or.inl rfl) h
    · replace h := h.2 q
      refine wa_iconst 91 dX5_putMark_90 rfl (by decide) ?_
      refine wa_goto 95 dX5_putMark_91 (by decide) ?_
      exact wa_zret dX5_putMark_95 rfl (Or.inr rfl) h
set_option maxRecDepth 20000 in
theorem t_X5_run (hL : LayOK L) {v0 v1 v2 : Int} (k0 : isK L v0 (5, 0)) (h : TR mX1_clear 0 (0, 0) [(2, (rf L v0 1))] L (up μ v0 2 v2) (fun r2 L3 μ4 => r2 = none ∧ L = L3 ∧ TR mX3_put 1 (0, 0) [(2, (rf L ((rf L v0 3)) 1)), (1, (μ4 ((rf L v0 0)) 0)), (1, 1)] L μ4 (fun r8 L9 μ10 => r8 = none ∧ L = L9 ∧ TR mX7_copy 2 (0, 0) [(2, (rf L v0 4)), (2, (rf L v0 3))] L μ10 (fun r12 L13 μ14 => r12 = none ∧ L = L13 ∧ ((v1 = 0 → TR mX5_cutAndChoose 4 (0, 0) [(2, v0)] L μ14 (fun r15 L16 μ17 => ∃ w18, r15 = some (0, w18) ∧ L = L16 ∧ (w18 = 0 ∨ w18 = 1) ∧ WA mX5_run 6 (0, 0) 161 [(2, v0), (9, 0), (9, 0)] [] L (up μ17 ((rf L v0 1)) 0 w18) Q)) ∧ (v1 = 1 → TR mX5_moveKnife 5 (0, 0) [(2, v0)] L μ14 (fun r20 L21 μ22 => ∃ w23, r20 = some (0, w23) ∧ L = L21 ∧ (w23 = 0 ∨ w23 = 1) ∧ WA mX5_run 6 (0, 0) 161 [(2, v0), (9, 0), (9, 0)] [] L (up μ22 ((rf L v0 1)) 0 w23) Q)) ∧ (v1 = 2 → TR mX5_diminish 5 (0, 0) [(2, v0)] L μ14 (fun r25 L26 μ27 => ∃ w28, r25 = some (0, w28) ∧ L = L26 ∧ (w28 = 0 ∨ w28 = 1) ∧ WA mX5_run 6 (0, 0) 161 [(2, v0), (9, 0), (9, 0)] [] L (up μ27 ((rf L v0 1)) 0 w28) Q)) ∧ (v1 = 3 → TR mX5_halve 5 (0, 0) [(2, v0)] L μ14 (fun r30 L31 μ32 => ∃ w33, r30 = some (0, w33) ∧ L = L31 ∧ (w33 = 0 ∨ w33 = 1) ∧ WA mX5_run 6 (0, 0) 161 [(2, v0), (9, 0), (9, 0)] [] L (up μ32 ((rf L v0 1)) 0 w33) Q))) ∧ (v1 < 0 ∨ 3 < v1 → TR mX5_cutAndTrim 5 (0, 0) [(2, v0)] L μ14 (fun r35 L36 μ37 => ∃ w38, r35 = some (0, w38) ∧ L = L36 ∧ (w38 = 0 → WA mX5_run 6 (0, 0) 161 [(2, v0), (9, 0), (9, 0)] [] L (up μ37 ((rf L v0 1)) 0 0) Q) ∧ (¬ w38 = 0 → TR mX5_takePieces 5 (0, 0) [(2, v0)] L μ37 (fun r39 L40 μ41 => ∃ w42, r39 = some (0, w42) ∧ L = L40 ∧ (w42 = 0 → WA mX5_run 6 (0, 0) 161 [(2, v0), (9, 0), (9, 0)] [] L (up μ41 ((rf L v0 1)) 0 0) Q) ∧ (¬ w42 = 0 → TR mX5_partTrimmings 5 (0, 0) [(2, v0)] L μ41 (fun r43 L44 μ45 => ∃ w46, r43 = some (0, w46) ∧ L = L44 ∧ (w46 = 0 → WA mX5_run 6 (0, 0) 161 [(2, v0), (9, 0), (9, 0)] [] L (up μ45 ((rf L v0 1)) 0 0) Q) ∧ (¬ w46 = 0 → WA mX5_run 6 (0, 0) 161 [(2, v0), (9, 0), (9, 0)] [] L (up μ45 ((rf L v0 1)) 0 1) Q))))))))))) : TR mX5_run 6 (0, 0) [(2, v0), (0, v1), (0, v2)] L μ Q := by
  refine TR.of (ls := [(2, v0), (0, v1), (0, v2)]) (by decide) (by simp) rfl (Nat.le_of_ble_eq_true rfl) ?_
  refine wa_aload_n 1 dX5_run_0 rfl rfl ?_
  refine wa_iload_n 2 dX5_run_1 rfl rfl ?_
  refine wa_putN 5 2 dX5_run_2 rfl wF_X5_50 rfl rfl k0 ?_
  refine wa_aload_n 6 dX5_run_5 rfl rfl ?_
  have e1 : isK L (rf L v0 1) (1, 0) := lay_f hL k0 1 rfl
  refine wa_getR 9 1 dX5_run_6 rfl wF_X5_45 rfl rfl ⟨k0, isK_pos e1⟩ ?_
  refine wa_callV 12 0 0 1 (av := []) (rest := []) (k1 := (0, 0)) (k2 := (0, 0)) cvX1_clear dX5_run_9 rfl wM_X5_54 ⟨rfl, by decide, rfl, Nat.le_of_ble_eq_true rfl, by decide, Nat.le_of_ble_eq_true rfl, rfl, rfl⟩ rfl e1 (TR.mono h (fun r2 L3 μ4 h => ?_))
  obtain ⟨rfl, rfl, h⟩ := h
  show WA mX5_run 6 (0, 0) 12 [(2, v0), (0, v1), (0, v2)] [] L μ4 Q
  refine wa_aload_n 13 dX5_run_12 rfl rfl ?_
  have e5 : isK L (rf L v0 3) (7, 0) := lay_f hL k0 3 rfl
  refine wa_getR 16 3 dX5_run_13 rfl wF_X5_12 rfl rfl ⟨k0, isK_pos e5⟩ ?_
  have e6 : isK L (rf L ((rf L v0 3)) 1) (3, 0) := lay_f hL e5 1 rfl
  refine wa_getR 19 1 dX5_run_16 rfl wF_X5_59 rfl rfl ⟨e5, isK_pos e6⟩ ?_
  refine wa_aload_n 20 dX5_run_19 rfl rfl ?_
  have e7 : isK L (rf L v0 0) (0, 0) := lay_f hL k0 0 rfl
  refine wa_getR 23 0 dX5_run_20 rfl wF_X5_41 rfl rfl ⟨k0, isK_pos e7⟩ ?_
  refine wa_getI 26 0 dX5_run_23 rfl wF_X5_63 rfl rfl e7 ?_
  refine wa_i2l 27 dX5_run_26 rfl ?_
  refine wa_lconst 28 1 dX5_run_27 rfl ⟨rfl, by decide⟩ ?_
  refine wa_callV 31 1 2 3 (av := [(1, (μ4 ((rf L v0 0)) 0)), (1, 1)]) (rest := []) (k1 := (0, 0)) (k2 := (0, 0)) cvX3_put dX5_run_28 rfl wM_X5_68 ⟨rfl, by decide, rfl, Nat.le_of_ble_eq_true rfl, by decide, Nat.le_of_ble_eq_true rfl, rfl, rfl⟩ rfl e6 (TR.mono h (fun r8 L9 μ10 h => ?_))
  obtain ⟨rfl, rfl, h⟩ := h
  show WA mX5_run 6 (0, 0) 31 [(2, v0), (0, v1), (0, v2)] [] L μ10 Q
  refine wa_aload_n 32 dX5_run_31 rfl rfl ?_
  have e11 : isK L (rf L v0 4) (7, 0) := lay_f hL k0 4 rfl
  refine wa_getR 35 4 dX5_run_32 rfl wF_X5_18 rfl rfl ⟨k0, isK_pos e11⟩ ?_
  refine wa_aload_n 36 dX5_run_35 rfl rfl ?_
  refine wa_getR 39 3 dX5_run_36 rfl wF_X5_12 rfl rfl ⟨k0, isK_pos e5⟩ ?_
  refine wa_callV 42 2 1 7 (av := [(2, (rf L v0 3))]) (rest := []) (k1 := (0, 0)) (k2 := (0, 0)) cvX7_copy dX5_run_39 rfl wM_X5_72 ⟨rfl, by decide, rfl, Nat.le_of_ble_eq_true rfl, by decide, Nat.le_of_ble_eq_true rfl, rfl, rfl⟩ rfl e11 (TR.mono h (fun r12 L13 μ14 h => ?_))
  obtain ⟨rfl, rfl, h⟩ := h
  show WA mX5_run 6 (0, 0) 42 [(2, v0), (0, v1), (0, v2)] [] L μ14 Q
  refine wa_iload_n 43 dX5_run_42 rfl rfl ?_
  refine wa_switch (fun j => match j with | 0 => 72 | 1 => 86 | 2 => 100 | _ => 114) 128 (n := 4) dX5_run_43 rfl (by decide) (by decide) (fun j hj hx => ?_) (fun hx => ?_)
  · have h := h.1
    rcases (show j = 0 ∨ j = 1 ∨ j = 2 ∨ j = 3 by omega) with rfl | rfl | rfl | rfl
    · replace h := h.1 (by simpa using hx)
      refine wa_aload_n 73 dX5_run_72 rfl rfl ?_
      refine wa_getR 76 1 dX5_run_73 rfl wF_X5_45 rfl rfl ⟨k0, isK_pos e1⟩ ?_
      refine wa_aload_n 77 dX5_run_76 rfl rfl ?_
      refine wa_callV 80 4 0 5 (av := []) (rest := [(2, (rf L v0 1))]) (k1 := (0, 0)) (k2 := (0, 0)) cvX5_cutAndChoose dX5_run_77 rfl wM_X5_76 ⟨rfl, by decide, rfl, Nat.le_of_ble_eq_true rfl, by decide, Nat.le_of_ble_eq_true rfl, rfl, rfl⟩ rfl k0 (TR.mono h (fun r15 L16 μ17 h => ?_))
      obtain ⟨w18, rfl, rfl, h⟩ := h
      show WA mX5_run 6 (0, 0) 80 [(2, v0), (0, v1), (0, v2)] [(0, w18), (2, (rf L v0 1))] L μ17 Q
      obtain ⟨c19, h⟩ := h
      refine wa_putI 83 0 dX5_run_80 rfl wF_X5_80 rfl rfl e1 c19 ?_
      refine wa_goto 161 dX5_run_83 (by decide) ?_
      exact wa_weak [(2, v0), (9, 0), (9, 0)] ⟨Or.inl rfl, Or.inr rfl, Or.inr rfl, trivial⟩ h
    · replace h := h.2.1 (by simpa using hx)
      refine wa_aload_n 87 dX5_run_86 rfl rfl ?_
      refine wa_getR 90 1 dX5_run_87 rfl wF_X5_45 rfl rfl ⟨k0, isK_pos e1⟩ ?_
      refine wa_aload_n 91 dX5_run_90 rfl rfl ?_
      refine wa_callV 94 5 0 5 (av := []) (rest := [(2, (rf L v0 1))]) (k1 := (0, 0)) (k2 := (0, 0)) cvX5_moveKnife dX5_run_91 rfl wM_X5_84 ⟨rfl, by decide, rfl, Nat.le_of_ble_eq_true rfl, by decide, Nat.le_of_ble_eq_true rfl, rfl, rfl⟩ rfl k0 (TR.mono h (fun r20 L21 μ22 h => ?_))
      obtain ⟨w23, rfl, rfl, h⟩ := h
      show WA mX5_run 6 (0, 0) 94 [(2, v0), (0, v1), (0, v2)] [(0, w23), (2, (rf L v0 1))] L μ22 Q
      obtain ⟨c24, h⟩ := h
      refine wa_putI 97 0 dX5_run_94 rfl wF_X5_80 rfl rfl e1 c24 ?_
      refine wa_goto 161 dX5_run_97 (by decide) ?_
      exact wa_weak [(2, v0), (9, 0), (9, 0)] ⟨Or.inl rfl, Or.inr rfl, Or.inr rfl, trivial⟩ h
    · replace h := h.2.2.1 (by simpa using hx)
      refine wa_aload_n 101 dX5_run_100 rfl rfl ?_
      refine wa_getR 104 1 dX5_run_101 rfl wF_X5_45 rfl rfl ⟨k0, isK_pos e1⟩ ?_
      refine wa_aload_n 105 dX5_run_104 rfl rfl ?_
      refine wa_callV 108 5 0 5 (av := []) (rest := [(2, (rf L v0 1))]) (k1 := (0, 0)) (k2 := (0, 0)) cvX5_diminish dX5_run_105 rfl wM_X5_87 ⟨rfl, by decide, rfl, Nat.le_of_ble_eq_true rfl, by decide, Nat.le_of_ble_eq_true rfl, rfl, rfl⟩ rfl k0 (TR.mono h (fun r25 L26 μ27 h => ?_))
      obtain ⟨w28, rfl, rfl, h⟩ := h
      show WA mX5_run 6 (0, 0) 108 [(2, v0), (0, v1), (0, v2)] [(0, w28), (2, (rf L v0 1))] L μ27 Q
      obtain ⟨c29, h⟩ := h
      refine wa_putI 111 0 dX5_run_108 rfl wF_X5_80 rfl rfl e1 c29 ?_
      refine wa_goto 161 dX5_run_111 (by decide) ?_
      exact wa_weak [(2, v0), (9, 0), (9, 0)] ⟨Or.inl rfl, Or.inr rfl, Or.inr rfl, trivial⟩ h
    · replace h := h.2.2.2 (by simpa using hx)
      refine wa_aload_n 115 dX5_run_114 rfl rfl ?_
      refine wa_getR 118 1 dX5_run_115 rfl wF_X5_45 rfl rfl ⟨k0, isK_pos e1⟩ ?_
      refine wa_aload_n 119 dX5_run_118 rfl rfl ?_
      refine wa_callV 122 5 0 5 (av := []) (rest := [(2, (rf L v0 1))]) (k1 := (0, 0)) (k2 := (0, 0)) cvX5_halve dX5_run_119 rfl wM_X5_90 ⟨rfl, by decide, rfl, Nat.le_of_ble_eq_true rfl, by decide, Nat.le_of_ble_eq_true rfl, rfl, rfl⟩ rfl k0 (TR.mono h (fun r30 L31 μ32 h => ?_))
      obtain ⟨w33, rfl, rfl, h⟩ := h
      show WA mX5_run 6 (0, 0) 122 [(2, v0), (0, v1), (0, v2)] [(0, w33), (2, (rf L v0 1))] L μ32 Q
      obtain ⟨c34, h⟩ := h
      refine wa_putI 125 0 dX5_run_122 rfl wF_X5_80 rfl rfl e1 c34 ?_
      refine wa_goto 161 dX5_run_125 (by decide) ?_
      exact wa_weak [(2, v0), (9, 0), (9, 0)] ⟨Or.inl rfl, Or.inr rfl, Or.inr rfl, trivial⟩ h
  · replace h := h.2 hx
    refine wa_aload_n 129 dX5_run_128 rfl rfl ?_
    refine wa_getR 132 1 dX5_run_129 rfl wF_X5_45 rfl rfl ⟨k0, isK_pos e1⟩ ?_
    refine wa_aload_n 133 dX5_run_132 rfl rfl ?_
    refine wa_callV 136 5 0 5 (av := []) (rest := [(2, (rf L v0 1))]) (k1 := (0, 0)) (k2 := (0, 0)) cvX5_cutAndTrim dX5_run_133 rfl wM_X5_93 ⟨rfl, by decide, rfl, Nat.le_of_ble_eq_true rfl, by decide, Nat.le_of_ble_eq_true rfl, rfl, rfl⟩ rfl k0 (TR.mono h (fun r35 L36 μ37 h => ?_))
    obtain ⟨w38, rfl, rfl, h⟩ := h
    show WA mX5_run 6 (0, 0) 136 [(2, v0), (0, v1), (0, v2)] [(0, w38), (2, (rf L v0 1))] L μ37 Q
    refine wa_if_eq 139 157 dX5_run_136 rfl (by decide) (fun q => ?_) (fun q => ?_)
    · replace h := h.1 q
      refine wa_iconst 158 dX5_run_157 rfl (by decide) ?_
      refine wa_putI 161 0 dX5_run_158 rfl wF_X5_80 rfl rfl e1 (Or.inl rfl) ?_
      exact wa_weak [(2, v0), (9, 0), (9, 0)] ⟨Or.inl rfl, Or.inr rfl, Or.inr rfl, trivial⟩ h
    · replace h := h.2 q
      refine wa_aload_n 140 dX5_run_139 rfl rfl ?_
      refine wa_callV 143 5 0 5 (av := []) (rest := [(2, (rf L v0 1))]) (k1 := (0, 0)) (k2 := (0, 0)) cvX5_takePieces dX5_run_140 rfl wM_X5_96 ⟨rfl, by decide, rfl, Nat.le_of_ble_eq_true rfl, by decide, Nat.le_of_ble_eq_true rfl, rfl, rfl⟩ rfl k0 (TR.mono h (fun r39 L40 μ41 h => ?_))
      obtain ⟨w42, rfl, rfl, h⟩ := h
      show WA mX5_run 6 (0, 0) 143 [(2, v0), (0, v1), (0, v2)] [(0, w42), (2, (rf L v0 1))] L μ41 Q
      refine wa_if_eq 146 157 dX5_run_143 rfl (by decide) (fun q => ?_) (fun q => ?_)
      · replace h := h.1 q
        refine wa_iconst 158 dX5_run_157 rfl (by decide) ?_
        refine wa_putI 161 0 dX5_run_158 rfl wF_X5_80 rfl rfl e1 (Or.inl rfl) ?_
        exact wa_weak [(2, v0), (9, 0), (9, 0)] ⟨Or.inl rfl, Or.inr rfl, Or.inr rfl, trivial⟩ h
      · replace h := h.2 q
        refine wa_aload_n 147 dX5_run_146 rfl rfl ?_
        refine wa_callV 150 5 0 5 (av := []) (rest := [(2, (rf L v0 1))]) (k1 := (0, 0)) (k2 := (0, 0)) cvX5_partTrimmings dX5_run_147 rfl wM_X5_99 ⟨rfl, by decide, rfl, Nat.le_of_ble_eq_true rfl, by decide, Nat.le_of_ble_eq_true rfl, rfl, rfl⟩ rfl k0 (TR.mono h (fun r43 L44 μ45 h => ?_))
        obtain ⟨w46, rfl, rfl, h⟩ := h
        show WA mX5_run 6 (0, 0) 150 [(2, v0), (0, v1), (0, v2)] [(0, w46), (2, (rf L v0 1))] L μ45 Q
        refine wa_if_eq 153 157 dX5_run_150 rfl (by decide) (fun q => ?_) (fun q => ?_)
        · replace h := h.1 q
          refine wa_iconst 158 dX5_run_157 rfl (by decide) ?_
          refine wa_putI 161 0 dX5_run_158 rfl wF_X5_80 rfl rfl e1 (Or.inl rfl) ?_
          exact wa_weak [(2, v0), (9, 0), (9, 0)] ⟨Or.inl rfl, Or.inr rfl, Or.inr rfl, trivial⟩ h
        · replace h := h.2 q
          refine wa_iconst 154 dX5_run_153 rfl (by decide) ?_
          refine wa_goto 158 dX5_run_154 (by decide) ?_
          refine wa_putI 161 0 dX5_run_158 rfl wF_X5_80 rfl rfl e1 (Or.inr rfl) ?_
          exact wa_weak [(2, v0), (9, 0), (9, 0)] ⟨Or.inl rfl, Or.inr rfl, Or.inr rfl, trivial⟩ h
set_option maxRecDepth 20000 in
theorem s_X5_run_161 (hL : LayOK L) {v0 : Int} (k0 : isK L v0 (5, 0)) (h : ((μ ((rf L v0 1)) 0) = 0 ∨ (μ ((rf L v0 1)) 0) = 1) ∧ Q (some (0, (μ ((rf L v0 1)) 0))) L μ) : WA mX5_run 6 (0, 0) 161 [(2, v0), (9, 0), (9, 0)] [] L μ Q := by
  refine wa_aload_n 162 dX5_run_161 rfl rfl ?_
  have e1 : isK L (rf L v0 1) (1, 0) := lay_f hL k0 1 rfl
  refine wa_getR 165 1 dX5_run_162 rfl wF_X5_45 rfl rfl ⟨k0, isK_pos e1⟩ ?_
  refine wa_getI 168 0 dX5_run_165 rfl wF_X5_80 rfl rfl e1 ?_
  obtain ⟨c2, h⟩ := h
  exact wa_zret dX5_run_168 rfl c2 h
set_option maxRecDepth 20000 in
theorem t_X5_takePiece (hL : LayOK L) {v0 v1 v2 : Int} (k0 : isK L v0 (5, 0)) (h : TR mX5_agentAt 0 (0, 0) [(2, v0), (0, v1)] L μ (fun r1 L2 μ3 => ∃ w4, r1 = some (0, w4) ∧ L = L2 ∧ (0 ≤ v2 ∧ v2 < 3) ∧ TR mX1_note 2 (0, 0) [(2, (rf L v0 1)), (0, 3), (0, w4), (2, (rf L ((rf L ((rf L v0 8)) v2)) 0)), (2, (rf L ((rf L ((rf L v0 8)) v2)) 1))] L μ3 (fun r11 L12 μ13 => r11 = none ∧ L = L12 ∧ TR mX1_give 2 (0, 0) [(2, (rf L v0 1)), (0, w4), (2, (rf L ((rf L ((rf L v0 8)) v2)) 0)), (2, (rf L ((rf L ((rf L v0 8)) v2)) 1))] L μ13 (fun r14 L15 μ16 => r14 = none ∧ L = L15 ∧ Q none L μ16)))) : TR mX5_takePiece 3 (0, 0) [(2, v0), (0, v1), (0, v2)] L μ Q := by
  refine TR.of (ls := [(2, v0), (0, v1), (0, v2), (9, 0), (9, 0)]) (by decide) (by simp) rfl (Nat.le_of_ble_eq_true rfl) ?_
  refine wa_aload_n 1 dX5_takePiece_0 rfl rfl ?_
  refine wa_iload_n 2 dX5_takePiece_1 rfl rfl ?_
  refine wa_callV 5 0 1 5 (av := [(0, v1)]) (rest := []) (k1 := (0, 0)) (k2 := (0, 0)) cvX5_agentAt dX5_takePiece_2 rfl wM_X5_136 ⟨rfl, by decide, rfl, Nat.le_of_ble_eq_true rfl, by decide, Nat.le_of_ble_eq_true rfl, rfl, rfl⟩ rfl k0 (TR.mono h (fun r1 L2 μ3 h => ?_))
  obtain ⟨w4, rfl, rfl, h⟩ := h
  show WA mX5_takePiece 3 (0, 0) 5 [(2, v0), (0, v1), (0, v2), (9, 0), (9, 0)] [(0, w4)] L μ3 Q
  refine wa_istore_n 6 [(2, v0), (0, v1), (0, v2), (0, w4), (9, 0)] dX5_takePiece_5 rfl rfl rfl ?_
  refine wa_aload_n 7 dX5_takePiece_6 rfl rfl ?_
  have e5 : isK L (rf L v0 8) (25, 3) := lay_f hL k0 8 rfl
  refine wa_getR 10 8 dX5_takePiece_7 rfl wF_X5_34 rfl rfl ⟨k0, isK_pos e5⟩ ?_
  refine wa_iload_n 11 dX5_takePiece_10 rfl rfl ?_
  obtain ⟨c6, h⟩ := h
  have e7 : isK L (rf L ((rf L v0 8)) v2) (7, 0) := lay_e hL k0 8 rfl c6
  refine wa_aaload 12 25 dX5_takePiece_11 rfl ⟨by decide, by decide⟩ ⟨okA_of e5 c6, isK_pos e7⟩ ?_
  refine wa_astore 14 [(2, v0), (0, v1), (0, v2), (0, w4), (2, (rf L ((rf L v0 8)) v2))] dX5_takePiece_12 rfl rfl rfl ?_
  refine wa_aload_n 15 dX5_takePiece_14 rfl rfl ?_
  have e8 : isK L (rf L v0 1) (1, 0) := lay_f hL k0 1 rfl
  refine wa_getR 18 1 dX5_takePiece_15 rfl wF_X5_45 rfl rfl ⟨k0, isK_pos e8⟩ ?_
  refine wa_iconst 19 dX5_takePiece_18 rfl (by decide) ?_
  refine wa_iload_n 20 dX5_takePiece_19 rfl rfl ?_
  refine wa_aload 22 dX5_takePiece_20 rfl rfl ?_
  have e9 : isK L (rf L ((rf L ((rf L v0 8)) v2)) 0) (3, 0) := lay_f hL e7 0 rfl
  refine wa_getR 25 0 dX5_takePiece_22 rfl wF_X5_113 rfl rfl ⟨e7, isK_pos e9⟩ ?_
  refine wa_aload 27 dX5_takePiece_25 rfl rfl ?_
  have e10 : isK L (rf L ((rf L ((rf L v0 8)) v2)) 1) (3, 0) := lay_f hL e7 1 rfl
  refine wa_getR 30 1 dX5_takePiece_27 rfl wF_X5_59 rfl rfl ⟨e7, isK_pos e10⟩ ?_
  refine wa_callV 33 2 4 1 (av := [(0, 3), (0, w4), (2, (rf L ((rf L ((rf L v0 8)) v2)) 0)), (2, (rf L ((rf L ((rf L v0 8)) v2)) 1))]) (rest := []) (k1 := (0, 0)) (k2 := (0, 0)) cvX1_note dX5_takePiece_30 rfl wM_X5_140 ⟨rfl, by decide, rfl, Nat.le_of_ble_eq_true rfl, by decide, Nat.le_of_ble_eq_true rfl, rfl, rfl⟩ rfl e8 (TR.mono h (fun r11 L12 μ13 h => ?_))
  obtain ⟨rfl, rfl, h⟩ := h
  show WA mX5_takePiece 3 (0, 0) 33 [(2, v0), (0, v1), (0, v2), (0, w4), (2, (rf L ((rf L v0 8)) v2))] [] L μ13 Q
  refine wa_aload_n 34 dX5_takePiece_33 rfl rfl ?_
  refine wa_getR 37 1 dX5_takePiece_34 rfl wF_X5_45 rfl rfl ⟨k0, isK_pos e8⟩ ?_
  refine wa_iload_n 38 dX5_takePiece_37 rfl rfl ?_
  refine wa_aload 40 dX5_takePiece_38 rfl rfl ?_
  refine wa_getR 43 0 dX5_takePiece_40 rfl wF_X5_113 rfl rfl ⟨e7, isK_pos e9⟩ ?_
  refine wa_aload 45 dX5_takePiece_43 rfl rfl ?_
  refine wa_getR 48 1 dX5_takePiece_45 rfl wF_X5_59 rfl rfl ⟨e7, isK_pos e10⟩ ?_
  refine wa_callV 51 2 3 1 (av := [(0, w4), (2, (rf L ((rf L ((rf L v0 8)) v2)) 0)), (2, (rf L ((rf L ((rf L v0 8)) v2)) 1))]) (rest := []) (k1 := (0, 0)) (k2 := (0, 0)) cvX1_give dX5_takePiece_48 rfl wM_X5_144 ⟨rfl, by decide, rfl, Nat.le_of_ble_eq_true rfl, by decide, Nat.le_of_ble_eq_true rfl, rfl, rfl⟩ rfl e8 (TR.mono h (fun r14 L15 μ16 h => ?_))
  obtain ⟨rfl, rfl, h⟩ := h
  show WA mX5_takePiece 3 (0, 0) 51 [(2, v0), (0, v1), (0, v2), (0, w4), (2, (rf L ((rf L v0 8)) v2))] [] L μ16 Q
  exact wa_vret dX5_takePiece_51 rfl h
set_option maxRecDepth 20000 in
theorem t_X5_takePieces (hL : LayOK L) {v0 : Int} (k0 : isK L v0 (5, 0)) (h : TR mX5_agentAt 0 (0, 0) [(2, v0), (0, 2)] L μ (fun r1 L2 μ3 => ∃ w4, r1 = some (0, w4) ∧ L = L2 ∧ TR mX5_mostOf 4 (0, 0) [(2, v0), (0, w4), (0, 0)] L μ3 (fun r5 L6 μ7 => ∃ w8, r5 = some (0, w8) ∧ L = L6 ∧ ((μ7 v0 11) = 0 → TR mX5_agentAt 0 (0, 0) [(2, v0), (0, 1)] L μ7 (fun r9 L10 μ11 => ∃ w12, r9 = some (0, w12) ∧ L = L10 ∧ TR mX5_mostOf 4 (0, 0) [(2, v0), (0, w12), (0, (bShl 1 w8))] L μ11 (fun r13 L14 μ15 => ∃ w16, r13 = some (0, w16) ∧ L = L14 ∧ WA mX5_takePieces 5 (0, 0) 45 [(2, v0), (0, w8), (9, 0)] [(0, w16)] L μ15 Q))) ∧ (¬ (μ7 v0 11) = 0 → (w8 = (μ7 v0 10) → TR mX5_agentAt 0 (0, 0) [(2, v0), (0, 1)] L μ7 (fun r17 L18 μ19 => ∃ w20, r17 = some (0, w20) ∧ L = L18 ∧ TR mX5_mostOf 4 (0, 0) [(2, v0), (0, w20), (0, (bShl 1 w8))] L μ19 (fun r21 L22 μ23 => ∃ w24, r21 = some (0, w24) ∧ L = L22 ∧ WA mX5_takePieces 5 (0, 0) 45 [(2, v0), (0, w8), (9, 0)] [(0, w24)] L μ23 Q))) ∧ (¬ w8 = (μ7 v0 10) → WA mX5_takePieces 5 (0, 0) 45 [(2, v0), (0, w8), (9, 0)] [(0, (μ7 v0 10))] L μ7 Q))))) : TR mX5_takePieces 5 (0, 0) [(2, v0)] L μ Q := by
  refine TR.of (ls := [(2, v0), (9, 0), (9, 0)]) (by decide) (by simp) rfl (Nat.le_of_ble_eq_true rfl) ?_
  refine wa_aload_n 1 dX5_takePieces_0 rfl rfl ?_
  refine wa_aload_n 2 dX5_takePieces_1 rfl rfl ?_
  refine wa_iconst 3 dX5_takePieces_2 rfl (by decide) ?_
  refine wa_callV 6 0 1 5 (av := [(0, 2)]) (rest := [(2, v0)]) (k1 := (0, 0)) (k2 := (0, 0)) cvX5_agentAt dX5_takePieces_3 rfl wM_X5_136 ⟨rfl, by decide, rfl, Nat.le_of_ble_eq_true rfl, by decide, Nat.le_of_ble_eq_true rfl, rfl, rfl⟩ rfl k0 (TR.mono h (fun r1 L2 μ3 h => ?_))
  obtain ⟨w4, rfl, rfl, h⟩ := h
  show WA mX5_takePieces 5 (0, 0) 6 [(2, v0), (9, 0), (9, 0)] [(0, w4), (2, v0)] L μ3 Q
  refine wa_iconst 7 dX5_takePieces_6 rfl (by decide) ?_
  refine wa_callV 10 4 2 5 (av := [(0, w4), (0, 0)]) (rest := []) (k1 := (0, 0)) (k2 := (0, 0)) cvX5_mostOf dX5_takePieces_7 rfl wM_X5_210 ⟨rfl, by decide, rfl, Nat.le_of_ble_eq_true rfl, by decide, Nat.le_of_ble_eq_true rfl, rfl, rfl⟩ rfl k0 (TR.mono h (fun r5 L6 μ7 h => ?_))
  obtain ⟨w8, rfl, rfl, h⟩ := h
  show WA mX5_takePieces 5 (0, 0) 10 [(2, v0), (9, 0), (9, 0)] [(0, w8)] L μ7 Q
  refine wa_istore_n 11 [(2, v0), (0, w8), (9, 0)] dX5_takePieces_10 rfl rfl rfl ?_
  refine wa_aload_n 12 dX5_takePieces_11 rfl rfl ?_
  refine wa_getI 15 11 dX5_takePieces_12 rfl wF_X5_216 rfl rfl k0 ?_
  refine wa_if_eq 18 33 dX5_takePieces_15 rfl (by decide) (fun q => ?_) (fun q => ?_)
  · replace h := h.1 q
    refine wa_aload_n 34 dX5_takePieces_33 rfl rfl ?_
    refine wa_aload_n 35 dX5_takePieces_34 rfl rfl ?_
    refine wa_iconst 36 dX5_takePieces_35 rfl (by decide) ?_
    refine wa_callV 39 0 1 5 (av := [(0, 1)]) (rest := [(2, v0)]) (k1 := (0, 0)) (k2 := (0, 0)) cvX5_agentAt dX5_takePieces_36 rfl wM_X5_136 ⟨rfl, by decide, rfl, Nat.le_of_ble_eq_true rfl, by decide, Nat.le_of_ble_eq_true rfl, rfl, rfl⟩ rfl k0 (TR.mono h (fun r9 L10 μ11 h => ?_))
    obtain ⟨w12, rfl, rfl, h⟩ := h
    show WA mX5_takePieces 5 (0, 0) 39 [(2, v0), (0, w8), (9, 0)] [(0, w12), (2, v0)] L μ11 Q
    refine wa_iconst 40 dX5_takePieces_39 rfl (by decide) ?_
    refine wa_iload_n 41 dX5_takePieces_40 rfl rfl ?_
    refine wa_ishl 42 dX5_takePieces_41 rfl ?_
    refine wa_callV 45 4 2 5 (av := [(0, w12), (0, (bShl 1 w8))]) (rest := []) (k1 := (0, 0)) (k2 := (0, 0)) cvX5_mostOf dX5_takePieces_42 rfl wM_X5_210 ⟨rfl, by decide, rfl, Nat.le_of_ble_eq_true rfl, by decide, Nat.le_of_ble_eq_true rfl, rfl, rfl⟩ rfl k0 (TR.mono h (fun r13 L14 μ15 h => ?_))
    obtain ⟨w16, rfl, rfl, h⟩ := h
    show WA mX5_takePieces 5 (0, 0) 45 [(2, v0), (0, w8), (9, 0)] [(0, w16)] L μ15 Q
    exact h
  · replace h := h.2 q
    refine wa_iload_n 19 dX5_takePieces_18 rfl rfl ?_
    refine wa_aload_n 20 dX5_takePieces_19 rfl rfl ?_
    refine wa_getI 23 10 dX5_takePieces_20 rfl wF_X5_213 rfl rfl k0 ?_
    refine wa_icmp_eq 26 33 dX5_takePieces_23 rfl (by decide) (fun q => ?_) (fun q => ?_)
    · replace h := h.1 q
      refine wa_aload_n 34 dX5_takePieces_33 rfl rfl ?_
      refine wa_aload_n 35 dX5_takePieces_34 rfl rfl ?_
      refine wa_iconst 36 dX5_takePieces_35 rfl (by decide) ?_
      refine wa_callV 39 0 1 5 (av := [(0, 1)]) (rest := [(2, v0)]) (k1 := (0, 0)) (k2 := (0, 0)) cvX5_agentAt dX5_takePieces_36 rfl wM_X5_136 ⟨rfl, by decide, rfl, Nat.le_of_ble_eq_true rfl, by decide, Nat.le_of_ble_eq_true rfl, rfl, rfl⟩ rfl k0 (TR.mono h (fun r17 L18 μ19 h => ?_))
      obtain ⟨w20, rfl, rfl, h⟩ := h
      show WA mX5_takePieces 5 (0, 0) 39 [(2, v0), (0, w8), (9, 0)] [(0, w20), (2, v0)] L μ19 Q
      refine wa_iconst 40 dX5_takePieces_39 rfl (by decide) ?_
      refine wa_iload_n 41 dX5_takePieces_40 rfl rfl ?_
      refine wa_ishl 42 dX5_takePieces_41 rfl ?_
      refine wa_callV 45 4 2 5 (av := [(0, w20), (0, (bShl 1 w8))]) (rest := []) (k1 := (0, 0)) (k2 := (0, 0)) cvX5_mostOf dX5_takePieces_42 rfl wM_X5_210 ⟨rfl, by decide, rfl, Nat.le_of_ble_eq_true rfl, by decide, Nat.le_of_ble_eq_true rfl, rfl, rfl⟩ rfl k0 (TR.mono h (fun r21 L22 μ23 h => ?_))
      obtain ⟨w24, rfl, rfl, h⟩ := h
      show WA mX5_takePieces 5 (0, 0) 45 [(2, v0), (0, w8), (9, 0)] [(0, w24)] L μ23 Q
      exact h
    · replace h := h.2 q
      refine wa_aload_n 27 dX5_takePieces_26 rfl rfl ?_
      refine wa_getI 30 10 dX5_takePieces_27 rfl wF_X5_213 rfl rfl k0 ?_
      refine wa_goto 45 dX5_takePieces_30 (by decide) ?_
      exact h
set_option maxRecDepth 20000 in
theorem s_X5_takePieces_45 (hL : LayOK L) {v0 v1 s0 : Int} (k0 : isK L v0 (5, 0)) (h : TR mX5_takePiece 3 (0, 0) [(2, v0), (0, 2), (0, v1)] L μ (fun r1 L2 μ3 => r1 = none ∧ L = L2 ∧ TR mX5_takePiece 3 (0, 0) [(2, v0), (0, 1), (0, s0)] L μ3 (fun r4 L5 μ6 => r4 = none ∧ L = L5 ∧ TR mX5_agentAt 0 (0, 0) [(2, v0), (0, 0)] L μ6 (fun r7 L8 μ9 => ∃ w10, r7 = some (0, w10) ∧ L = L8 ∧ TR mX5_mostOf 4 (0, 0) [(2, v0), (0, w10), (0, (bOr ((bShl 1 v1)) ((bShl 1 s0))))] L μ9 (fun r11 L12 μ13 => ∃ w14, r11 = some (0, w14) ∧ L = L12 ∧ TR mX5_takePiece 3 (0, 0) [(2, v0), (0, 0), (0, w14)] L μ13 (fun r15 L16 μ17 => r15 = none ∧ L = L16 ∧ (¬ v1 = (μ17 v0 10) → Q (some (0, 1)) L (up μ17 v0 12 1)) ∧ (v1 = (μ17 v0 10) → Q (some (0, 1)) L (up μ17 v0 12 2)))))))) : WA mX5_takePieces 5 (0, 0) 45 [(2, v0), (0, v1), (9, 0)] [(0, s0)] L μ Q := by
  refine wa_istore_n 46 [(2, v0), (0, v1), (0, s0)] dX5_takePieces_45 rfl rfl rfl ?_
  refine wa_aload_n 47 dX5_takePieces_46 rfl rfl ?_
  refine wa_iconst 48 dX5_takePieces_47 rfl (by decide) ?_
  refine wa_iload_n 49 dX5_takePieces_48 rfl rfl ?_
  refine wa_callV 52 3 2 5 (av := [(0, 2), (0, v1)]) (rest := []) (k1 := (0, 0)) (k2 := (0, 0)) cvX5_takePiece dX5_takePieces_49 rfl wM_X5_162 ⟨rfl, by decide, rfl, Nat.le_of_ble_eq_true rfl, by decide, Nat.le_of_ble_eq_true rfl, rfl, rfl⟩ rfl k0 (TR.mono h (fun r1 L2 μ3 h => ?_))
  obtain ⟨rfl, rfl, h⟩ := h
  show WA mX5_takePieces 5 (0, 0) 52 [(2, v0), (0, v1), (0, s0)] [] L μ3 Q
  refine wa_aload_n 53 dX5_takePieces_52 rfl rfl ?_
  refine wa_iconst 54 dX5_takePieces_53 rfl (by decide) ?_
  refine wa_iload_n 55 dX5_takePieces_54 rfl rfl ?_
  refine wa_callV 58 3 2 5 (av := [(0, 1), (0, s0)]) (rest := []) (k1 := (0, 0)) (k2 := (0, 0)) cvX5_takePiece dX5_takePieces_55 rfl wM_X5_162 ⟨rfl, by decide, rfl, Nat.le_of_ble_eq_true rfl, by decide, Nat.le_of_ble_eq_true rfl, rfl, rfl⟩ rfl k0 (TR.mono h (fun r4 L5 μ6 h => ?_))
  obtain ⟨rfl, rfl, h⟩ := h
  show WA mX5_takePieces 5 (0, 0) 58 [(2, v0), (0, v1), (0, s0)] [] L μ6 Q
  refine wa_aload_n 59 dX5_takePieces_58 rfl rfl ?_
  refine wa_iconst 60 dX5_takePieces_59 rfl (by decide) ?_
  refine wa_aload_n 61 dX5_takePieces_60 rfl rfl ?_
  refine wa_aload_n 62 dX5_takePieces_61 rfl rfl ?_
  refine wa_iconst 63 dX5_takePieces_62 rfl (by decide) ?_
  refine wa_callV 66 0 1 5 (av := [(0, 0)]) (rest := [(2, v0), (0, 0), (2, v0)]) (k1 := (0, 0)) (k2 := (0, 0)) cvX5_agentAt dX5_takePieces_63 rfl wM_X5_136 ⟨rfl, by decide, rfl, Nat.le_of_ble_eq_true rfl, by decide, Nat.le_of_ble_eq_true rfl, rfl, rfl⟩ rfl k0 (TR.mono h (fun r7 L8 μ9 h => ?_))
  obtain ⟨w10, rfl, rfl, h⟩ := h
  show WA mX5_takePieces 5 (0, 0) 66 [(2, v0), (0, v1), (0, s0)] [(0, w10), (2, v0), (0, 0), (2, v0)] L μ9 Q
  refine wa_iconst 67 dX5_takePieces_66 rfl (by decide) ?_
  refine wa_iload_n 68 dX5_takePieces_67 rfl rfl ?_
  refine wa_ishl 69 dX5_takePieces_68 rfl ?_
  refine wa_iconst 70 dX5_takePieces_69 rfl (by decide) ?_
  refine wa_iload_n 71 dX5_takePieces_70 rfl rfl ?_
  refine wa_ishl 72 dX5_takePieces_71 rfl ?_
  refine wa_ior 73 dX5_takePieces_72 rfl ?_
  refine wa_callV 76 4 2 5 (av := [(0, w10), (0, (bOr ((bShl 1 v1)) ((bShl 1 s0))))]) (rest := [(0, 0), (2, v0)]) (k1 := (0, 0)) (k2 := (0, 0)) cvX5_mostOf dX5_takePieces_73 rfl wM_X5_210 ⟨rfl, by decide, rfl, Nat.le_of_ble_eq_true rfl, by decide, Nat.le_of_ble_eq_true rfl, rfl, rfl⟩ rfl k0 (TR.mono h (fun r11 L12 μ13 h => ?_))
  obtain ⟨w14, rfl, rfl, h⟩ := h
  show WA mX5_takePieces 5 (0, 0) 76 [(2, v0), (0, v1), (0, s0)] [(0, w14), (0, 0), (2, v0)] L μ13 Q
  refine wa_callV 79 3 2 5 (av := [(0, 0), (0, w14)]) (rest := []) (k1 := (0, 0)) (k2 := (0, 0)) cvX5_takePiece dX5_takePieces_76 rfl wM_X5_162 ⟨rfl, by decide, rfl, Nat.le_of_ble_eq_true rfl, by decide, Nat.le_of_ble_eq_true rfl, rfl, rfl⟩ rfl k0 (TR.mono h (fun r15 L16 μ17 h => ?_))
  obtain ⟨rfl, rfl, h⟩ := h
  show WA mX5_takePieces 5 (0, 0) 79 [(2, v0), (0, v1), (0, s0)] [] L μ17 Q
  refine wa_aload_n 80 dX5_takePieces_79 rfl rfl ?_
  refine wa_iload_n 81 dX5_takePieces_80 rfl rfl ?_
  refine wa_aload_n 82 dX5_takePieces_81 rfl rfl ?_
  refine wa_getI 85 10 dX5_takePieces_82 rfl wF_X5_213 rfl rfl k0 ?_
  refine wa_icmp_ne 88 92 dX5_takePieces_85 rfl (by decide) (fun q => ?_) (fun q => ?_)
  · replace h := h.1 q
    refine wa_iconst 93 dX5_takePieces_92 rfl (by decide) ?_
    refine wa_putN 96 12 dX5_takePieces_93 rfl wF_X5_219 rfl rfl k0 ?_
    refine wa_iconst 97 dX5_takePieces_96 rfl (by decide) ?_
    exact wa_zret dX5_takePieces_97 rfl (Or.inr rfl) h
  · replace h := h.2 q
    refine wa_iconst 89 dX5_takePieces_88 rfl (by decide) ?_
    refine wa_goto 93 dX5_takePieces_89 (by decide) ?_
    refine wa_putN 96 12 dX5_takePieces_93 rfl wF_X5_219 rfl rfl k0 ?_
    refine wa_iconst 97 dX5_takePieces_96 rfl (by decide) ?_
    exact wa_zret dX5_takePieces_97 rfl (Or.inr rfl) h
set_option maxRecDepth 20000 in
theorem t_X5_takeRestTo (hL : LayOK L) {v0 v1 v2 : Int} (k0 : isK L v0 (5, 0)) (k2 : isK L v2 (3, 0)) (h : TR mX5_agentAt 0 (0, 0) [(2, v0), (0, v1)] L μ (fun r1 L2 μ3 => ∃ w4, r1 = some (0, w4) ∧ L = L2 ∧ TR mX1_note 2 (0, 0) [(2, (rf L v0 1)), (0, 3), (0, w4), (2, (rf L ((rf L v0 4)) 0)), (2, v2)] L μ3 (fun r8 L9 μ10 => r8 = none ∧ L = L9 ∧ TR mX1_give 2 (0, 0) [(2, (rf L v0 1)), (0, w4), (2, (rf L ((rf L v0 4)) 0)), (2, v2)] L μ10 (fun r11 L12 μ13 => r11 = none ∧ L = L12 ∧ TR mX3_copy 0 (0, 0) [(2, (rf L ((rf L v0 4)) 0)), (2, v2)] L μ13 (fun r14 L15 μ16 => r14 = none ∧ L = L15 ∧ Q none L μ16))))) : TR mX5_takeRestTo 3 (0, 0) [(2, v0), (0, v1), (2, v2)] L μ Q := by
  refine TR.of (ls := [(2, v0), (0, v1), (2, v2), (9, 0)]) (by decide) (by simp) rfl (Nat.le_of_ble_eq_true rfl) ?_
  refine wa_aload_n 1 dX5_takeRestTo_0 rfl rfl ?_
  refine wa_iload_n 2 dX5_takeRestTo_1 rfl rfl ?_
  refine wa_callV 5 0 1 5 (av := [(0, v1)]) (rest := []) (k1 := (0, 0)) (k2 := (0, 0)) cvX5_agentAt dX5_takeRestTo_2 rfl wM_X5_136 ⟨rfl, by decide, rfl, Nat.le_of_ble_eq_true rfl, by decide, Nat.le_of_ble_eq_true rfl, rfl, rfl⟩ rfl k0 (TR.mono h (fun r1 L2 μ3 h => ?_))
  obtain ⟨w4, rfl, rfl, h⟩ := h
  show WA mX5_takeRestTo 3 (0, 0) 5 [(2, v0), (0, v1), (2, v2), (9, 0)] [(0, w4)] L μ3 Q
  refine wa_istore_n 6 [(2, v0), (0, v1), (2, v2), (0, w4)] dX5_takeRestTo_5 rfl rfl rfl ?_
  refine wa_aload_n 7 dX5_takeRestTo_6 rfl rfl ?_
  have e5 : isK L (rf L v0 1) (1, 0) := lay_f hL k0 1 rfl
  refine wa_getR 10 1 dX5_takeRestTo_7 rfl wF_X5_45 rfl rfl ⟨k0, isK_pos e5⟩ ?_
  refine wa_iconst 11 dX5_takeRestTo_10 rfl (by decide) ?_
  refine wa_iload_n 12 dX5_takeRestTo_11 rfl rfl ?_
  refine wa_aload_n 13 dX5_takeRestTo_12 rfl rfl ?_
  have e6 : isK L (rf L v0 4) (7, 0) := lay_f hL k0 4 rfl
  refine wa_getR 16 4 dX5_takeRestTo_13 rfl wF_X5_18 rfl rfl ⟨k0, isK_pos e6⟩ ?_
  have e7 : isK L (rf L ((rf L v0 4)) 0) (3, 0) := lay_f hL e6 0 rfl
  refine wa_getR 19 0 dX5_takeRestTo_16 rfl wF_X5_113 rfl rfl ⟨e6, isK_pos e7⟩ ?_
  refine wa_aload_n 20 dX5_takeRestTo_19 rfl rfl ?_
  refine wa_callV 23 2 4 1 (av := [(0, 3), (0, w4), (2, (rf L ((rf L v0 4)) 0)), (2, v2)]) (rest := []) (k1 := (0, 0)) (k2 := (0, 0)) cvX1_note dX5_takeRestTo_20 rfl wM_X5_140 ⟨rfl, by decide, rfl, Nat.le_of_ble_eq_true rfl, by decide, Nat.le_of_ble_eq_true rfl, rfl, rfl⟩ rfl e5 (TR.mono h (fun r8 L9 μ10 h => ?_))
  obtain ⟨rfl, rfl, h⟩ := h
  show WA mX5_takeRestTo 3 (0, 0) 23 [(2, v0), (0, v1), (2, v2), (0, w4)] [] L μ10 Q
  refine wa_aload_n 24 dX5_takeRestTo_23 rfl rfl ?_
  refine wa_getR 27 1 dX5_takeRestTo_24 rfl wF_X5_45 rfl rfl ⟨k0, isK_pos e5⟩ ?_
  refine wa_iload_n 28 dX5_takeRestTo_27 rfl rfl ?_
  refine wa_aload_n 29 dX5_takeRestTo_28 rfl rfl ?_
  refine wa_getR 32 4 dX5_takeRestTo_29 rfl wF_X5_18 rfl rfl ⟨k0, isK_pos e6⟩ ?_
  refine wa_getR 35 0 dX5_takeRestTo_32 rfl wF_X5_113 rfl rfl ⟨e6, isK_pos e7⟩ ?_
  refine wa_aload_n 36 dX5_takeRestTo_35 rfl rfl ?_
  refine wa_callV 39 2 3 1 (av := [(0, w4), (2, (rf L ((rf L v0 4)) 0)), (2, v2)]) (rest := []) (k1 := (0, 0)) (k2 := (0, 0)) cvX1_give dX5_takeRestTo_36 rfl wM_X5_144 ⟨rfl, by decide, rfl, Nat.le_of_ble_eq_true rfl, by decide, Nat.le_of_ble_eq_true rfl, rfl, rfl⟩ rfl e5 (TR.mono h (fun r11 L12 μ13 h => ?_))
  obtain ⟨rfl, rfl, h⟩ := h
  show WA mX5_takeRestTo 3 (0, 0) 39 [(2, v0), (0, v1), (2, v2), (0, w4)] [] L μ13 Q
  refine wa_aload_n 40 dX5_takeRestTo_39 rfl rfl ?_
  refine wa_getR 43 4 dX5_takeRestTo_40 rfl wF_X5_18 rfl rfl ⟨k0, isK_pos e6⟩ ?_
  refine wa_getR 46 0 dX5_takeRestTo_43 rfl wF_X5_113 rfl rfl ⟨e6, isK_pos e7⟩ ?_
  refine wa_aload_n 47 dX5_takeRestTo_46 rfl rfl ?_
  refine wa_callV 50 0 1 3 (av := [(2, v2)]) (rest := []) (k1 := (0, 0)) (k2 := (0, 0)) cvX3_copy dX5_takeRestTo_47 rfl wM_X5_148 ⟨rfl, by decide, rfl, Nat.le_of_ble_eq_true rfl, by decide, Nat.le_of_ble_eq_true rfl, rfl, rfl⟩ rfl e7 (TR.mono h (fun r14 L15 μ16 h => ?_))
  obtain ⟨rfl, rfl, h⟩ := h
  show WA mX5_takeRestTo 3 (0, 0) 50 [(2, v0), (0, v1), (2, v2), (0, w4)] [] L μ16 Q
  exact wa_vret dX5_takeRestTo_50 rfl h
set_option maxRecDepth 20000 in
theorem t_X5_trimOrPass (hL : LayOK L) {v0 v1 v2 v3 : Int} (k0 : isK L v0 (5, 0)) (h : TR mX5_agentAt 0 (0, 0) [(2, v0), (0, v1)] L μ (fun r1 L2 μ3 => ∃ w4, r1 = some (0, w4) ∧ L = L2 ∧ (0 ≤ w4 ∧ w4 < 5) ∧ (0 ≤ v2 ∧ v2 < 5) ∧ TR mX0_between 2 (0, 0) [(2, (rf L v0 0)), (2, (rf L ((rf L ((rf L v0 0)) 3)) w4)), (2, (rf L ((rf L v0 4)) 0)), (2, (rf L ((rf L v0 5)) v2)), (1, (μ3 ((rf L v0 1)) 2))] L μ3 (fun r15 L16 μ17 => ∃ w18, r15 = some (1, w18) ∧ L = L16 ∧ (inL (w18 * v3)) ∧ TR mX5_has 3 (0, 0) [(2, v0), (0, w4), (2, (rf L v0 4))] L μ17 (fun r20 L21 μ22 => ∃ w23, r20 = some (1, w23) ∧ L = L21 ∧ (w23 < (w18 * v3) → (0 ≤ v1 ∧ v1 < 5) ∧ TR mX5_putMark 3 (0, 0) [(2, v0), (2, (rf L ((rf L v0 5)) v1)), (0, w4), (2, (rf L ((rf L v0 4)) 0)), (2, (rf L v0 4)), (0, 1), (0, v3)] L μ22 (fun r26 L27 μ28 => ∃ w29, r26 = some (0, w29) ∧ L = L27 ∧ (¬ w29 = 0 → TR mX1_note 2 (0, 0) [(2, (rf L v0 1)), (0, 1), (0, w4), (2, (rf L ((rf L v0 5)) v1)), (2, (rf L ((rf L v0 5)) v2))] L μ28 (fun r30 L31 μ32 => r30 = none ∧ L = L31 ∧ Q (some (0, v1)) L μ32)) ∧ (w29 = 0 → Q (some (0, (-1))) L μ28))) ∧ (¬ w23 < (w18 * v3) → TR mX1_note 2 (0, 0) [(2, (rf L v0 1)), (0, 2), (0, w4), (2, (rf L ((rf L v0 5)) v2)), (2, (rf L ((rf L v0 3)) 0))] L μ22 (fun r35 L36 μ37 => r35 = none ∧ L = L36 ∧ Q (some (0, v2)) L μ37)))))) : TR mX5_trimOrPass 4 (0, 0) [(2, v0), (0, v1), (0, v2), (0, v3)] L μ Q := by
  refine TR.of (ls := [(2, v0), (0, v1), (0, v2), (0, v3), (9, 0), (9, 0), (9, 0)]) (by decide) (by simp) rfl (Nat.le_of_ble_eq_true rfl) ?_
  refine wa_aload_n 1 dX5_trimOrPass_0 rfl rfl ?_
  refine wa_iload_n 2 dX5_trimOrPass_1 rfl rfl ?_
  refine wa_callV 5 0 1 5 (av := [(0, v1)]) (rest := []) (k1 := (0, 0)) (k2 := (0, 0)) cvX5_agentAt dX5_trimOrPass_2 rfl wM_X5_136 ⟨rfl, by decide, rfl, Nat.le_of_ble_eq_true rfl, by decide, Nat.le_of_ble_eq_true rfl, rfl, rfl⟩ rfl k0 (TR.mono h (fun r1 L2 μ3 h => ?_))
  obtain ⟨w4, rfl, rfl, h⟩ := h
  show WA mX5_trimOrPass 4 (0, 0) 5 [(2, v0), (0, v1), (0, v2), (0, v3), (9, 0), (9, 0), (9, 0)] [(0, w4)] L μ3 Q
  refine wa_istore 7 [(2, v0), (0, v1), (0, v2), (0, v3), (0, w4), (9, 0), (9, 0)] dX5_trimOrPass_5 rfl rfl rfl ?_
  refine wa_aload_n 8 dX5_trimOrPass_7 rfl rfl ?_
  have e5 : isK L (rf L v0 0) (0, 0) := lay_f hL k0 0 rfl
  refine wa_getR 11 0 dX5_trimOrPass_8 rfl wF_X5_41 rfl rfl ⟨k0, isK_pos e5⟩ ?_
  refine wa_aload_n 12 dX5_trimOrPass_11 rfl rfl ?_
  refine wa_getR 15 0 dX5_trimOrPass_12 rfl wF_X5_41 rfl rfl ⟨k0, isK_pos e5⟩ ?_
  have e6 : isK L (rf L ((rf L v0 0)) 3) (23, 5) := lay_f hL e5 3 rfl
  refine wa_getR 18 3 dX5_trimOrPass_15 rfl wF_X5_109 rfl rfl ⟨e5, isK_pos e6⟩ ?_
  refine wa_iload 20 dX5_trimOrPass_18 rfl rfl ?_
  obtain ⟨c7, h⟩ := h
  have e8 : isK L (rf L ((rf L ((rf L v0 0)) 3)) w4) (20, 16) := lay_e hL e5 3 rfl c7
  refine wa_aaload 21 23 dX5_trimOrPass_20 rfl ⟨by decide, by decide⟩ ⟨okA_of e6 c7, isK_pos e8⟩ ?_
  refine wa_aload_n 22 dX5_trimOrPass_21 rfl rfl ?_
  have e9 : isK L (rf L v0 4) (7, 0) := lay_f hL k0 4 rfl
  refine wa_getR 25 4 dX5_trimOrPass_22 rfl wF_X5_18 rfl rfl ⟨k0, isK_pos e9⟩ ?_
  have e10 : isK L (rf L ((rf L v0 4)) 0) (3, 0) := lay_f hL e9 0 rfl
  refine wa_getR 28 0 dX5_trimOrPass_25 rfl wF_X5_113 rfl rfl ⟨e9, isK_pos e10⟩ ?_
  refine wa_aload_n 29 dX5_trimOrPass_28 rfl rfl ?_
  have e11 : isK L (rf L v0 5) (26, 5) := lay_f hL k0 5 rfl
  refine wa_getR 32 5 dX5_trimOrPass_29 rfl wF_X5_23 rfl rfl ⟨k0, isK_pos e11⟩ ?_
  refine wa_iload_n 33 dX5_trimOrPass_32 rfl rfl ?_
  obtain ⟨c12, h⟩ := h
  have e13 : isK L (rf L ((rf L v0 5)) v2) (3, 0) := lay_e hL k0 5 rfl c12
  refine wa_aaload 34 26 dX5_trimOrPass_33 rfl ⟨by decide, by decide⟩ ⟨okA_of e11 c12, isK_pos e13⟩ ?_
  refine wa_aload_n 35 dX5_trimOrPass_34 rfl rfl ?_
  have e14 : isK L (rf L v0 1) (1, 0) := lay_f hL k0 1 rfl
  refine wa_getR 38 1 dX5_trimOrPass_35 rfl wF_X5_45 rfl rfl ⟨k0, isK_pos e14⟩ ?_
  refine wa_getL 41 2 dX5_trimOrPass_38 rfl wF_X5_116 rfl rfl e14 ?_
  refine wa_callV 44 2 4 0 (av := [(2, (rf L ((rf L ((rf L v0 0)) 3)) w4)), (2, (rf L ((rf L v0 4)) 0)), (2, (rf L ((rf L v0 5)) v2)), (1, (μ3 ((rf L v0 1)) 2))]) (rest := []) (k1 := (0, 0)) (k2 := (0, 0)) cvX0_between dX5_trimOrPass_41 rfl wM_X5_120 ⟨rfl, by decide, rfl, Nat.le_of_ble_eq_true rfl, by decide, Nat.le_of_ble_eq_true rfl, rfl, rfl⟩ rfl e5 (TR.mono h (fun r15 L16 μ17 h => ?_))
  obtain ⟨w18, rfl, rfl, h⟩ := h
  show WA mX5_trimOrPass 4 (0, 0) 44 [(2, v0), (0, v1), (0, v2), (0, v3), (0, w4), (9, 0), (9, 0)] [(1, w18)] L μ17 Q
  refine wa_lstore 46 [(2, v0), (0, v1), (0, v2), (0, v3), (0, w4), (1, w18), (9, 0)] dX5_trimOrPass_44 rfl rfl rfl ?_
  refine wa_lload 48 dX5_trimOrPass_46 rfl rfl ?_
  refine wa_iload_n 49 dX5_trimOrPass_48 rfl rfl ?_
  refine wa_i2l 50 dX5_trimOrPass_49 rfl ?_
  obtain ⟨c19, h⟩ := h
  refine wa_lmul 51 dX5_trimOrPass_50 rfl c19 ?_
  refine wa_aload_n 52 dX5_trimOrPass_51 rfl rfl ?_
  refine wa_iload 54 dX5_trimOrPass_52 rfl rfl ?_
  refine wa_aload_n 55 dX5_trimOrPass_54 rfl rfl ?_
  refine wa_getR 58 4 dX5_trimOrPass_55 rfl wF_X5_18 rfl rfl ⟨k0, isK_pos e9⟩ ?_
  refine wa_callV 61 3 2 5 (av := [(0, w4), (2, (rf L v0 4))]) (rest := [(1, (w18 * v3))]) (k1 := (0, 0)) (k2 := (0, 0)) cvX5_has dX5_trimOrPass_58 rfl wM_X5_158 ⟨rfl, by decide, rfl, Nat.le_of_ble_eq_true rfl, by decide, Nat.le_of_ble_eq_true rfl, rfl, rfl⟩ rfl k0 (TR.mono h (fun r20 L21 μ22 h => ?_))
  obtain ⟨w23, rfl, rfl, h⟩ := h
  show WA mX5_trimOrPass 4 (0, 0) 61 [(2, v0), (0, v1), (0, v2), (0, v3), (0, w4), (1, w18), (9, 0)] [(1, w23), (1, (w18 * v3))] L μ22 Q
  refine wa_lc_gt 65 90 dX5_trimOrPass_61 dX5_trimOrPass_62 rfl (by decide) (fun q => ?_) (fun q => ?_)
  · replace h := h.1 q
    refine wa_aload_n 91 dX5_trimOrPass_90 rfl rfl ?_
    refine wa_aload_n 92 dX5_trimOrPass_91 rfl rfl ?_
    refine wa_getR 95 5 dX5_trimOrPass_92 rfl wF_X5_23 rfl rfl ⟨k0, isK_pos e11⟩ ?_
    refine wa_iload_n 96 dX5_trimOrPass_95 rfl rfl ?_
    obtain ⟨c24, h⟩ := h
    have e25 : isK L (rf L ((rf L v0 5)) v1) (3, 0) := lay_e hL k0 5 rfl c24
    refine wa_aaload 97 26 dX5_trimOrPass_96 rfl ⟨by decide, by decide⟩ ⟨okA_of e11 c24, isK_pos e25⟩ ?_
    refine wa_iload 99 dX5_trimOrPass_97 rfl rfl ?_
    refine wa_aload_n 100 dX5_trimOrPass_99 rfl rfl ?_
    refine wa_getR 103 4 dX5_trimOrPass_100 rfl wF_X5_18 rfl rfl ⟨k0, isK_pos e9⟩ ?_
    refine wa_getR 106 0 dX5_trimOrPass_103 rfl wF_X5_113 rfl rfl ⟨e9, isK_pos e10⟩ ?_
    refine wa_aload_n 107 dX5_trimOrPass_106 rfl rfl ?_
    refine wa_getR 110 4 dX5_trimOrPass_107 rfl wF_X5_18 rfl rfl ⟨k0, isK_pos e9⟩ ?_
    refine wa_iconst 111 dX5_trimOrPass_110 rfl (by decide) ?_
    refine wa_iload_n 112 dX5_trimOrPass_111 rfl rfl ?_
    refine wa_callV 115 3 6 5 (av := [(2, (rf L ((rf L v0 5)) v1)), (0, w4), (2, (rf L ((rf L v0 4)) 0)), (2, (rf L v0 4)), (0, 1), (0, v3)]) (rest := []) (k1 := (0, 0)) (k2 := (0, 0)) cvX5_putMark dX5_trimOrPass_112 rfl wM_X5_151 ⟨rfl, by decide, rfl, Nat.le_of_ble_eq_true rfl, by decide, Nat.le_of_ble_eq_true rfl, rfl, rfl⟩ rfl k0 (TR.mono h (fun r26 L27 μ28 h => ?_))
    obtain ⟨w29, rfl, rfl, h⟩ := h
    show WA mX5_trimOrPass 4 (0, 0) 115 [(2, v0), (0, v1), (0, v2), (0, v3), (0, w4), (1, w18), (9, 0)] [(0, w29)] L μ28 Q
    refine wa_if_ne 118 120 dX5_trimOrPass_115 rfl (by decide) (fun q => ?_) (fun q => ?_)
    · replace h := h.1 q
      refine wa_aload_n 121 dX5_trimOrPass_120 rfl rfl ?_
      refine wa_getR 124 1 dX5_trimOrPass_121 rfl wF_X5_45 rfl rfl ⟨k0, isK_pos e14⟩ ?_
      refine wa_iconst 125 dX5_trimOrPass_124 rfl (by decide) ?_
      refine wa_iload 127 dX5_trimOrPass_125 rfl rfl ?_
      refine wa_aload_n 128 dX5_trimOrPass_127 rfl rfl ?_
      refine wa_getR 131 5 dX5_trimOrPass_128 rfl wF_X5_23 rfl rfl ⟨k0, isK_pos e11⟩ ?_
      refine wa_iload_n 132 dX5_trimOrPass_131 rfl rfl ?_
      refine wa_aaload 133 26 dX5_trimOrPass_132 rfl ⟨by decide, by decide⟩ ⟨okA_of e11 c24, isK_pos e25⟩ ?_
      refine wa_aload_n 134 dX5_trimOrPass_133 rfl rfl ?_
      refine wa_getR 137 5 dX5_trimOrPass_134 rfl wF_X5_23 rfl rfl ⟨k0, isK_pos e11⟩ ?_
      refine wa_iload_n 138 dX5_trimOrPass_137 rfl rfl ?_
      refine wa_aaload 139 26 dX5_trimOrPass_138 rfl ⟨by decide, by decide⟩ ⟨okA_of e11 c12, isK_pos e13⟩ ?_
      refine wa_callV 142 2 4 1 (av := [(0, 1), (0, w4), (2, (rf L ((rf L v0 5)) v1)), (2, (rf L ((rf L v0 5)) v2))]) (rest := []) (k1 := (0, 0)) (k2 := (0, 0)) cvX1_note dX5_trimOrPass_139 rfl wM_X5_140 ⟨rfl, by decide, rfl, Nat.le_of_ble_eq_true rfl, by decide, Nat.le_of_ble_eq_true rfl, rfl, rfl⟩ rfl e14 (TR.mono h (fun r30 L31 μ32 h => ?_))
      obtain ⟨rfl, rfl, h⟩ := h
      show WA mX5_trimOrPass 4 (0, 0) 142 [(2, v0), (0, v1), (0, v2), (0, v3), (0, w4), (1, w18), (9, 0)] [] L μ32 Q
      refine wa_iload_n 143 dX5_trimOrPass_142 rfl rfl ?_
      exact wa_iret dX5_trimOrPass_143 rfl h
    · replace h := h.2 q
      refine wa_iconst 119 dX5_trimOrPass_118 rfl (by decide) ?_
      exact wa_iret dX5_trimOrPass_119 rfl h
  · replace h := h.2 q
    refine wa_aload_n 66 dX5_trimOrPass_65 rfl rfl ?_
    refine wa_getR 69 1 dX5_trimOrPass_66 rfl wF_X5_45 rfl rfl ⟨k0, isK_pos e14⟩ ?_
    refine wa_iconst 70 dX5_trimOrPass_69 rfl (by decide) ?_
    refine wa_iload 72 dX5_trimOrPass_70 rfl rfl ?_
    refine wa_aload_n 73 dX5_trimOrPass_72 rfl rfl ?_
    refine wa_getR 76 5 dX5_trimOrPass_73 rfl wF_X5_23 rfl rfl ⟨k0, isK_pos e11⟩ ?_
    refine wa_iload_n 77 dX5_trimOrPass_76 rfl rfl ?_
    refine wa_aaload 78 26 dX5_trimOrPass_77 rfl ⟨by decide, by decide⟩ ⟨okA_of e11 c12, isK_pos e13⟩ ?_
    refine wa_aload_n 79 dX5_trimOrPass_78 rfl rfl ?_
    have e33 : isK L (rf L v0 3) (7, 0) := lay_f hL k0 3 rfl
    refine wa_getR 82 3 dX5_trimOrPass_79 rfl wF_X5_12 rfl rfl ⟨k0, isK_pos e33⟩ ?_
    have e34 : isK L (rf L ((rf L v0 3)) 0) (3, 0) := lay_f hL e33 0 rfl
    refine wa_getR 85 0 dX5_trimOrPass_82 rfl wF_X5_113 rfl rfl ⟨e33, isK_pos e34⟩ ?_
    refine wa_callV 88 2 4 1 (av := [(0, 2), (0, w4), (2, (rf L ((rf L v0 5)) v2)), (2, (rf L ((rf L v0 3)) 0))]) (rest := []) (k1 := (0, 0)) (k2 := (0, 0)) cvX1_note dX5_trimOrPass_85 rfl wM_X5_140 ⟨rfl, by decide, rfl, Nat.le_of_ble_eq_true rfl, by decide, Nat.le_of_ble_eq_true rfl, rfl, rfl⟩ rfl e14 (TR.mono h (fun r35 L36 μ37 h => ?_))
    obtain ⟨rfl, rfl, h⟩ := h
    show WA mX5_trimOrPass 4 (0, 0) 88 [(2, v0), (0, v1), (0, v2), (0, v3), (0, w4), (1, w18), (9, 0)] [] L μ37 Q
    refine wa_iload_n 89 dX5_trimOrPass_88 rfl rfl ?_
    exact wa_iret dX5_trimOrPass_89 rfl h
end
