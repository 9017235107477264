/-! the law: its entry, its loop, its cases (laid by wip/whole/gen/vl.py) -/
def mLaw (nm : String) : MI := (⟨RL, nm, "([I)Z"⟩, code, 4, ret)
section
variable {L : Lay} {μ : Mem} {k : Nat × Nat} {Q : Option AV → Lay → Mem → Prop}
set_option maxRecDepth 20000 in
theorem a_L_law {nm : String} (h : ∃ k1 : Nat × Nat, k = (k1.1 + 1, k1.2 + 14) ∧ ∀ (o2 : Int) (L3 : Lay) (μ4 : Mem), o2 = L.1 + 1 → L3 = nwL L (9, 0) → μ4 = nwM L μ → (isK L3 o2 (9, 0)) ∧ ∃ k13 k14 : Nat × Nat, k13.1 + k14.1 = (k1.1, k1.2).1 ∧ k13.2 + k14.2 = (k1.1, k1.2).2 ∧ TR mX9_init 5 k13 [(2, o2)] L3 μ4 (fun r10 L11 μ12 => r10 = none ∧ (isK L11 o2 (9, 0)) ∧ ∃ k18 : Nat × Nat, k14 = (k18.1 + 1, k18.2 + 28) ∧ ∀ (o19 : Int) (L20 : Lay) (μ21 : Mem), o19 = L11.1 + 1 → L20 = nwL L11 (10, 0) → μ21 = nwM L11 μ12 → (isK L20 o2 (9, 0)) ∧ (isK L20 o19 (10, 0)) ∧ ∃ k31 k32 : Nat × Nat, k31.1 + k32.1 = (k18.1, k18.2).1 ∧ k31.2 + k32.2 = (k18.1, k18.2).2 ∧ TR mX10_init 1 k31 [(2, o19)] L20 μ21 (fun r28 L29 μ30 => r28 = none ∧ (isK L29 o2 (9, 0)) ∧ (isK L29 o19 (10, 0)) ∧ WA (mLaw nm) 10 k32 18 [(2, 0), (2, o2), (2, o19), (0, 0)] [] L29 μ30 Q))) : WA (mLaw nm) 10 k 0 [(2, 0), (9, 0), (9, 0), (9, 0)] [] L μ Q := by
  obtain ⟨k1, e5, h⟩ := h
  refine wa_new 3 9 dL_law_0 rfl wC_L_7 wI_X9 wZ_X9 ⟨by decide, e5⟩ ?_
  replace h := h _ _ _ rfl rfl rfl
  generalize nwL L (9, 0) = L3 at h ⊢
  generalize nwM L μ = μ4 at h ⊢
  generalize L.1 + 1 = o2 at h ⊢
  obtain ⟨c9, h⟩ := h
  refine wa_dup 4 dL_law_3 rfl (Or.inr rfl) ?_
  obtain ⟨k13, k14, e15, e16, h⟩ := h
  refine wa_callI 7 5 0 (av := []) (rest := [(2, o2)]) (k1 := k13) (k2 := k14) ⟨cvX9_init, rfl⟩ dL_law_4 rfl wM_L_9 ⟨rfl, Nat.le_of_ble_eq_true rfl, by decide, Nat.le_of_ble_eq_true rfl, e15, e16⟩ rfl (TR.mono h (fun r10 L11 μ12 h => ?_))
  obtain ⟨rfl, h⟩ := h
  obtain ⟨c17, h⟩ := h
  show WA (mLaw nm) 10 k14 7 [(2, 0), (9, 0), (9, 0), (9, 0)] [(2, o2)] L11 μ12 Q
  refine wa_astore_n 8 [(2, 0), (2, o2), (9, 0), (9, 0)] dL_law_7 rfl rfl rfl ?_
  obtain ⟨k18, e22, h⟩ := h
  refine wa_new 11 10 dL_law_8 rfl wC_L_10 wI_X10 wZ_X10 ⟨by decide, e22⟩ ?_
  replace h := h _ _ _ rfl rfl rfl
  generalize nwL L11 (10, 0) = L20 at h ⊢
  generalize nwM L11 μ12 = μ21 at h ⊢
  generalize L11.1 + 1 = o19 at h ⊢
  obtain ⟨c26, h⟩ := h
  obtain ⟨c27, h⟩ := h
  refine wa_dup 12 dL_law_11 rfl (Or.inr rfl) ?_
  obtain ⟨k31, k32, e33, e34, h⟩ := h
  refine wa_callI 15 1 0 (av := []) (rest := [(2, o19)]) (k1 := k31) (k2 := k32) ⟨cvX10_init, rfl⟩ dL_law_12 rfl wM_L_12 ⟨rfl, Nat.le_of_ble_eq_true rfl, by decide, Nat.le_of_ble_eq_true rfl, e33, e34⟩ rfl (TR.mono h (fun r28 L29 μ30 h => ?_))
  obtain ⟨rfl, h⟩ := h
  obtain ⟨c35, h⟩ := h
  obtain ⟨c36, h⟩ := h
  show WA (mLaw nm) 10 k32 15 [(2, 0), (2, o2), (9, 0), (9, 0)] [(2, o19)] L29 μ30 Q
  refine wa_astore_n 16 [(2, 0), (2, o2), (2, o19), (9, 0)] dL_law_15 rfl rfl rfl ?_
  refine wa_iconst 17 dL_law_16 rfl (by decide) ?_
  refine wa_istore_n 18 [(2, 0), (2, o2), (2, o19), (0, 0)] dL_law_17 rfl rfl rfl ?_
  exact h
set_option maxRecDepth 20000 in
theorem s_L_law_18 {nm : String} (hL : LayOK L) {v1 v2 v3 : Int} (k1 : isK L v1 (9, 0)) (k2 : isK L v2 (10, 0)) (h : (kd L 0 = (20, (kd L 0).2) ∧ 0 ≤ (kd L 0).2 ∧ (kd L 0).2 < 2147483648) ∧ (inI ((kd L 0).2 - 8)) ∧ (((kd L 0).2 - 8) < v3 → Q (some (0, 1)) L μ) ∧ (¬ ((kd L 0).2 - 8) < v3 → (okS L v3) ∧ (((bAnd ((μ 0 v3)) 63) = 0 → WA (mLaw nm) 10 (0, 0) 180 [(2, 0), (2, v1), (2, v2), (0, v3)] [] L μ Q) ∧ ((bAnd ((μ 0 v3)) 63) = 1 → WA (mLaw nm) 10 (0, 0) 213 [(2, 0), (2, v1), (2, v2), (0, v3)] [] L μ Q) ∧ ((bAnd ((μ 0 v3)) 63) = 2 → WA (mLaw nm) 10 (0, 0) 256 [(2, 0), (2, v1), (2, v2), (0, v3)] [] L μ Q) ∧ ((bAnd ((μ 0 v3)) 63) = 3 → WA (mLaw nm) 10 (0, 0) 299 [(2, 0), (2, v1), (2, v2), (0, v3)] [] L μ Q) ∧ ((bAnd ((μ 0 v3)) 63) = 4 → WA (mLaw nm) 10 (0, 0) 322 [(2, 0), (2, v1), (2, v2), (0, v3)] [] L μ Q) ∧ ((bAnd ((μ 0 v3)) 63) = 5 → WA (mLaw nm) 10 (0, 0) 365 [(2, 0), (2, v1), (2, v2), (0, v3)] [] L μ Q) ∧ ((bAnd ((μ 0 v3)) 63) = 6 → WA (mLaw nm) 10 (0, 0) 453 [(2, 0), (2, v1), (2, v2), (0, v3)] [] L μ Q) ∧ ((bAnd ((μ 0 v3)) 63) = 7 → WA (mLaw nm) 10 (0, 0) 529 [(2, 0), (2, v1), (2, v2), (0, v3)] [] L μ Q) ∧ ((bAnd ((μ 0 v3)) 63) = 8 → WA (mLaw nm) 10 (0, 0) 573 [(2, 0), (2, v1), (2, v2), (0, v3)] [] L μ Q) ∧ ((bAnd ((μ 0 v3)) 63) = 9 → WA (mLaw nm) 10 (0, 0) 596 [(2, 0), (2, v1), (2, v2), (0, v3)] [] L μ Q) ∧ ((bAnd ((μ 0 v3)) 63) = 10 → WA (mLaw nm) 10 (0, 0) 609 [(2, 0), (2, v1), (2, v2), (0, v3)] [] L μ Q) ∧ ((bAnd ((μ 0 v3)) 63) = 11 → WA (mLaw nm) 10 (0, 0) 622 [(2, 0), (2, v1), (2, v2), (0, v3)] [] L μ Q) ∧ ((bAnd ((μ 0 v3)) 63) = 12 → WA (mLaw nm) 10 (0, 0) 635 [(2, 0), (2, v1), (2, v2), (0, v3)] [] L μ Q) ∧ ((bAnd ((μ 0 v3)) 63) = 13 → WA (mLaw nm) 10 (0, 0) 658 [(2, 0), (2, v1), (2, v2), (0, v3)] [] L μ Q) ∧ ((bAnd ((μ 0 v3)) 63) = 14 → WA (mLaw nm) 10 (0, 0) 691 [(2, 0), (2, v1), (2, v2), (0, v3)] [] L μ Q) ∧ ((bAnd ((μ 0 v3)) 63) = 15 → WA (mLaw nm) 10 (0, 0) 725 [(2, 0), (2, v1), (2, v2), (0, v3)] [] L μ Q) ∧ ((bAnd ((μ 0 v3)) 63) = 16 → WA (mLaw nm) 10 (0, 0) 769 [(2, 0), (2, v1), (2, v2), (0, v3)] [] L μ Q) ∧ ((bAnd ((μ 0 v3)) 63) = 17 → WA (mLaw nm) 10 (0, 0) 823 [(2, 0), (2, v1), (2, v2), (0, v3)] [] L μ Q) ∧ ((bAnd ((μ 0 v3)) 63) = 18 → WA (mLaw nm) 10 (0, 0) 856 [(2, 0), (2, v1), (2, v2), (0, v3)] [] L μ Q) ∧ ((bAnd ((μ 0 v3)) 63) = 19 → WA (mLaw nm) 10 (0, 0) 879 [(2, 0), (2, v1), (2, v2), (0, v3)] [] L μ Q) ∧ ((bAnd ((μ 0 v3)) 63) = 20 → WA (mLaw nm) 10 (0, 0) 892 [(2, 0), (2, v1), (2, v2), (0, v3)] [] L μ Q) ∧ ((bAnd ((μ 0 v3)) 63) = 21 → WA (mLaw nm) 10 (0, 0) 905 [(2, 0), (2, v1), (2, v2), (0, v3)] [] L μ Q) ∧ ((bAnd ((μ 0 v3)) 63) = 22 → WA (mLaw nm) 10 (0, 0) 949 [(2, 0), (2, v1), (2, v2), (0, v3)] [] L μ Q) ∧ ((bAnd ((μ 0 v3)) 63) = 23 → WA (mLaw nm) 10 (0, 0) 1003 [(2, 0), (2, v1), (2, v2), (0, v3)] [] L μ Q) ∧ ((bAnd ((μ 0 v3)) 63) = 24 → WA (mLaw nm) 10 (0, 0) 1057 [(2, 0), (2, v1), (2, v2), (0, v3)] [] L μ Q) ∧ ((bAnd ((μ 0 v3)) 63) = 25 → WA (mLaw nm) 10 (0, 0) 1090 [(2, 0), (2, v1), (2, v2), (0, v3)] [] L μ Q) ∧ ((bAnd ((μ 0 v3)) 63) = 26 → WA (mLaw nm) 10 (0, 0) 1123 [(2, 0), (2, v1), (2, v2), (0, v3)] [] L μ Q) ∧ ((bAnd ((μ 0 v3)) 63) = 27 → WA (mLaw nm) 10 (0, 0) 1166 [(2, 0), (2, v1), (2, v2), (0, v3)] [] L μ Q) ∧ ((bAnd ((μ 0 v3)) 63) = 28 → WA (mLaw nm) 10 (0, 0) 1200 [(2, 0), (2, v1), (2, v2), (0, v3)] [] L μ Q) ∧ ((bAnd ((μ 0 v3)) 63) = 29 → WA (mLaw nm) 10 (0, 0) 1243 [(2, 0), (2, v1), (2, v2), (0, v3)] [] L μ Q) ∧ ((bAnd ((μ 0 v3)) 63) = 30 → WA (mLaw nm) 10 (0, 0) 1286 [(2, 0), (2, v1), (2, v2), (0, v3)] [] L μ Q) ∧ ((bAnd ((μ 0 v3)) 63) = 31 → WA (mLaw nm) 10 (0, 0) 1299 [(2, 0), (2, v1), (2, v2), (0, v3)] [] L μ Q) ∧ ((bAnd ((μ 0 v3)) 63) = 32 → WA (mLaw nm) 10 (0, 0) 1312 [(2, 0), (2, v1), (2, v2), (0, v3)] [] L μ Q)) ∧ ((bAnd ((μ 0 v3)) 63) < 0 ∨ 32 < (bAnd ((μ 0 v3)) 63) → WA (mLaw nm) 10 (0, 0) 1335 [(2, 0), (2, v1), (2, v2), (0, v3)] [] L μ Q))) : WA (mLaw nm) 10 (0, 0) 18 [(2, 0), (2, v1), (2, v2), (0, v3)] [] L μ Q := by
  refine wa_iload_n 19 dL_law_18 rfl rfl ?_
  refine wa_aload_n 20 dL_law_19 rfl rfl ?_
  obtain ⟨c1, h⟩ := h
  refine wa_slen 21 dL_law_20 rfl c1 ?_
  refine wa_bipush 23 dL_law_21 rfl ⟨by decide, by decide⟩ ?_
  obtain ⟨c2, h⟩ := h
  refine wa_isub 24 dL_law_23 rfl c2 ?_
  refine wa_icmp_gt 27 1341 dL_law_24 rfl (by decide) (fun q => ?_) (fun q => ?_)
  · replace h := h.1 q
    refine wa_iconst 1342 dL_law_1341 rfl (by decide) ?_
    exact wa_zret dL_law_1342 rfl (Or.inr rfl) h
  · replace h := h.2 q
    refine wa_aload_n 28 dL_law_27 rfl rfl ?_
    refine wa_iload_n 29 dL_law_28 rfl rfl ?_
    obtain ⟨c3, h⟩ := h
    refine wa_sload 30 dL_law_29 rfl c3 ?_
    refine wa_bipush 32 dL_law_30 rfl ⟨by decide, by decide⟩ ?_
    refine wa_iand 33 dL_law_32 rfl ?_
    refine wa_switch (fun j => match j with | 0 => 180 | 1 => 213 | 2 => 256 | 3 => 299 | 4 => 322 | 5 => 365 | 6 => 453 | 7 => 529 | 8 => 573 | 9 => 596 | 10 => 609 | 11 => 622 | 12 => 635 | 13 => 658 | 14 => 691 | 15 => 725 | 16 => 769 | 17 => 823 | 18 => 856 | 19 => 879 | 20 => 892 | 21 => 905 | 22 => 949 | 23 => 1003 | 24 => 1057 | 25 => 1090 | 26 => 1123 | 27 => 1166 | 28 => 1200 | 29 => 1243 | 30 => 1286 | 31 => 1299 | _ => 1312) 1335 (n := 33) dL_law_33 rfl (by decide) (by decide) (fun j hj hx => ?_) (fun hx => ?_)
    · have h := h.1
      rcases (show j = 0 ∨ j = 1 ∨ j = 2 ∨ j = 3 ∨ j = 4 ∨ j = 5 ∨ j = 6 ∨ j = 7 ∨ j = 8 ∨ j = 9 ∨ j = 10 ∨ j = 11 ∨ j = 12 ∨ j = 13 ∨ j = 14 ∨ j = 15 ∨ j = 16 ∨ j = 17 ∨ j = 18 ∨ j = 19 ∨ j = 20 ∨ j = 21 ∨ j = 22 ∨ j = 23 ∨ j = 24 ∨ j = 25 ∨ j = 26 ∨ j = 27 ∨ j = 28 ∨ j = 29 ∨ j = 30 ∨ j = 31 ∨ j = 32 by omega) with rfl | rfl | rfl | rfl | rfl | rfl | rfl | rfl | rfl | rfl | rfl | rfl | rfl | rfl | rfl | rfl | rfl | rfl | rfl | rfl | rfl | rfl | rfl | rfl | rfl | rfl | rfl | rfl | rfl | rfl | rfl | rfl | rfl
      · replace h := h.1 (by simpa using hx)
        exact h
      · replace h := h.2.1 (by simpa using hx)
        exact h
      · replace h := h.2.2.1 (by simpa using hx)
        exact h
      · replace h := h.2.2.2.1 (by simpa using hx)
        exact h
      · replace h := h.2.2.2.2.1 (by simpa using hx)
        exact h
      · replace h := h.2.2.2.2.2.1 (by simpa using hx)
        exact h
      · replace h := h.2.2.2.2.2.2.1 (by simpa using hx)
        exact h
      · replace h := h.2.2.2.2.2.2.2.1 (by simpa using hx)
        exact h
      · replace h := h.2.2.2.2.2.2.2.2.1 (by simpa using hx)
        exact h
      · replace h := h.2.2.2.2.2.2.2.2.2.1 (by simpa using hx)
        exact h
      · replace h := h.2.2.2.2.2.2.2.2.2.2.1 (by simpa using hx)
        exact h
      · replace h := h.2.2.2.2.2.2.2.2.2.2.2.1 (by simpa using hx)
        exact h
      · replace h := h.2.2.2.2.2.2.2.2.2.2.2.2.1 (by simpa using hx)
        exact h
      · replace h := h.2.2.2.2.2.2.2.2.2.2.2.2.2.1 (by simpa using hx)
        exact h
      · replace h := h.2.2.2.2.2.2.2.2.2.2.2.2.2.2.1 (by simpa using hx)
        exact h
      · replace h := h.2.2.2.2.2.2.2.2.2.2.2.2.2.2.2.1 (by simpa using hx)
        exact h
      · replace h := h.2.2.2.2.2.2.2.2.2.2.2.2.2.2.2.2.1 (by simpa using hx)
        exact h
      · replace h := h.2.2.2.2.2.2.2.2.2.2.2.2.2.2.2.2.2.1 (by simpa using hx)
        exact h
      · replace h := h.2.2.2.2.2.2.2.2.2.2.2.2.2.2.2.2.2.2.1 (by simpa using hx)
        exact h
      · replace h := h.2.2.2.2.2.2.2.2.2.2.2.2.2.2.2.2.2.2.2.1 (by simpa using hx)
        exact h
      · replace h := h.2.2.2.2.2.2.2.2.2.2.2.2.2.2.2.2.2.2.2.2.1 (by simpa using hx)
        exact h
      · replace h := h.2.2.2.2.2.2.2.2.2.2.2.2.2.2.2.2.2.2.2.2.2.1 (by simpa using hx)
        exact h
      · replace h := h.2.2.2.2.2.2.2.2.2.2.2.2.2.2.2.2.2.2.2.2.2.2.1 (by simpa using hx)
        exact h
      · replace h := h.2.2.2.2.2.2.2.2.2.2.2.2.2.2.2.2.2.2.2.2.2.2.2.1 (by simpa using hx)
        exact h
      · replace h := h.2.2.2.2.2.2.2.2.2.2.2.2.2.2.2.2.2.2.2.2.2.2.2.2.1 (by simpa using hx)
        exact h
      · replace h := h.2.2.2.2.2.2.2.2.2.2.2.2.2.2.2.2.2.2.2.2.2.2.2.2.2.1 (by simpa using hx)
        exact h
      · replace h := h.2.2.2.2.2.2.2.2.2.2.2.2.2.2.2.2.2.2.2.2.2.2.2.2.2.2.1 (by simpa using hx)
        exact h
      · replace h := h.2.2.2.2.2.2.2.2.2.2.2.2.2.2.2.2.2.2.2.2.2.2.2.2.2.2.2.1 (by simpa using hx)
        exact h
      · replace h := h.2.2.2.2.2.2.2.2.2.2.2.2.2.2.2.2.2.2.2.2.2.2.2.2.2.2.2.2.1 (by simpa using hx)
        exact h
      · replace h := h.2.2.2.2.2.2.2.2.2.2.2.2.2.2.2.2.2.2.2.2.2.2.2.2.2.2.2.2.2.1 (by simpa using hx)
        exact h
      · replace h := h.2.2.2.2.2.2.2.2.2.2.2.2.2.2.2.2.2.2.2.2.2.2.2.2.2.2.2.2.2.2.1 (by simpa using hx)
        exact h
      · replace h := h.2.2.2.2.2.2.2.2.2.2.2.2.2.2.2.2.2.2.2.2.2.2.2.2.2.2.2.2.2.2.2.1 (by simpa using hx)
        exact h
      · replace h := h.2.2.2.2.2.2.2.2.2.2.2.2.2.2.2.2.2.2.2.2.2.2.2.2.2.2.2.2.2.2.2.2 (by simpa using hx)
        exact h
    · replace h := h.2 hx
      exact h
set_option maxRecDepth 20000 in
theorem s_L_law_1335 {nm : String} (hL : LayOK L) {v1 v2 v3 : Int} (k1 : isK L v1 (9, 0)) (k2 : isK L v2 (10, 0)) (h : (inI (v3 + 8)) ∧ WA (mLaw nm) 10 (0, 0) 18 [(2, 0), (2, v1), (2, v2), (0, (v3 + 8))] [] L μ Q) : WA (mLaw nm) 10 (0, 0) 1335 [(2, 0), (2, v1), (2, v2), (0, v3)] [] L μ Q := by
  obtain ⟨c1, h⟩ := h
  refine wa_iinc 1338 [(2, 0), (2, v1), (2, v2), (0, (v3 + 8))] dL_law_1335 rfl rfl rfl c1 rfl ?_
  refine wa_goto 18 dL_law_1338 (by decide) ?_
  exact h
set_option maxRecDepth 20000 in
theorem s_L_law_180 {nm : String} (hL : LayOK L) {v1 v2 v3 : Int} (k1 : isK L v1 (9, 0)) (k2 : isK L v2 (10, 0)) (h : (inI (v3 + 1)) ∧ (okS L ((v3 + 1))) ∧ (inI (v3 + 2)) ∧ (okS L ((v3 + 2))) ∧ TR mX9_begin 1 (0, 0) [(2, v1), (0, (μ 0 ((v3 + 1)))), (0, (μ 0 ((v3 + 2))))] L μ (fun r5 L6 μ7 => ∃ w8, r5 = some (0, w8) ∧ L = L6 ∧ TR mX10_begin 1 (0, 0) [(2, v2), (0, (μ7 0 ((v3 + 1)))), (0, (μ7 0 ((v3 + 2))))] L μ7 (fun r9 L10 μ11 => ∃ w12, r9 = some (0, w12) ∧ L = L10 ∧ (w8 = w12 → WA (mLaw nm) 10 (0, 0) 1335 [(2, 0), (2, v1), (2, v2), (0, v3)] [] L μ11 Q) ∧ (¬ w8 = w12 → Q (some (0, 0)) L μ11)))) : WA (mLaw nm) 10 (0, 0) 180 [(2, 0), (2, v1), (2, v2), (0, v3)] [] L μ Q := by
  refine wa_aload_n 181 dL_law_180 rfl rfl ?_
  refine wa_aload_n 182 dL_law_181 rfl rfl ?_
  refine wa_iload_n 183 dL_law_182 rfl rfl ?_
  refine wa_iconst 184 dL_law_183 rfl (by decide) ?_
  obtain ⟨c1, h⟩ := h
  refine wa_iadd 185 dL_law_184 rfl c1 ?_
  obtain ⟨c2, h⟩ := h
  refine wa_sload 186 dL_law_185 rfl c2 ?_
  refine wa_aload_n 187 dL_law_186 rfl rfl ?_
  refine wa_iload_n 188 dL_law_187 rfl rfl ?_
  refine wa_iconst 189 dL_law_188 rfl (by decide) ?_
  obtain ⟨c3, h⟩ := h
  refine wa_iadd 190 dL_law_189 rfl c3 ?_
  obtain ⟨c4, h⟩ := h
  refine wa_sload 191 dL_law_190 rfl c4 ?_
  refine wa_callV 194 1 2 9 (av := [(0, (μ 0 ((v3 + 1)))), (0, (μ 0 ((v3 + 2))))]) (rest := []) (k1 := (0, 0)) (k2 := (0, 0)) cvX9_begin dL_law_191 rfl wM_L_13 ⟨rfl, by decide, rfl, Nat.le_of_ble_eq_true rfl, by decide, Nat.le_of_ble_eq_true rfl, rfl, rfl⟩ rfl k1 (TR.mono h (fun r5 L6 μ7 h => ?_))
  obtain ⟨w8, rfl, rfl, h⟩ := h
  show WA (mLaw nm) 10 (0, 0) 194 [(2, 0), (2, v1), (2, v2), (0, v3)] [(0, w8)] L μ7 Q
  refine wa_aload_n 195 dL_law_194 rfl rfl ?_
  refine wa_aload_n 196 dL_law_195 rfl rfl ?_
  refine wa_iload_n 197 dL_law_196 rfl rfl ?_
  refine wa_iconst 198 dL_law_197 rfl (by decide) ?_
  refine wa_iadd 199 dL_law_198 rfl c1 ?_
  refine wa_sload 200 dL_law_199 rfl c2 ?_
  refine wa_aload_n 201 dL_law_200 rfl rfl ?_
  refine wa_iload_n 202 dL_law_201 rfl rfl ?_
  refine wa_iconst 203 dL_law_202 rfl (by decide) ?_
  refine wa_iadd 204 dL_law_203 rfl c3 ?_
  refine wa_sload 205 dL_law_204 rfl c4 ?_
  refine wa_callV 208 1 2 10 (av := [(0, (μ7 0 ((v3 + 1)))), (0, (μ7 0 ((v3 + 2))))]) (rest := [(0, w8)]) (k1 := (0, 0)) (k2 := (0, 0)) cvX10_begin dL_law_205 rfl wM_L_17 ⟨rfl, by decide, rfl, Nat.le_of_ble_eq_true rfl, by decide, Nat.le_of_ble_eq_true rfl, rfl, rfl⟩ rfl k2 (TR.mono h (fun r9 L10 μ11 h => ?_))
  obtain ⟨w12, rfl, rfl, h⟩ := h
  show WA (mLaw nm) 10 (0, 0) 208 [(2, 0), (2, v1), (2, v2), (0, v3)] [(0, w12), (0, w8)] L μ11 Q
  refine wa_icmp_eq 211 1335 dL_law_208 rfl (by decide) (fun q => ?_) (fun q => ?_)
  · replace h := h.1 q
    exact h
  · replace h := h.2 q
    refine wa_iconst 212 dL_law_211 rfl (by decide) ?_
    exact wa_zret dL_law_212 rfl (Or.inl rfl) h
set_option maxRecDepth 20000 in
theorem s_L_law_213 {nm : String} (hL : LayOK L) {v1 v2 v3 : Int} (k1 : isK L v1 (9, 0)) (k2 : isK L v2 (10, 0)) (h : (inI (v3 + 1)) ∧ (okS L ((v3 + 1))) ∧ (inI (v3 + 2)) ∧ (okS L ((v3 + 2))) ∧ (inI (v3 + 3)) ∧ (okS L ((v3 + 3))) ∧ TR mX9_worth 1 (0, 0) [(2, v1), (0, (μ 0 ((v3 + 1)))), (0, (μ 0 ((v3 + 2)))), (0, (μ 0 ((v3 + 3))))] L μ (fun r7 L8 μ9 => ∃ w10, r7 = some (0, w10) ∧ L = L8 ∧ TR mX10_worth 2 (0, 0) [(2, v2), (0, (μ9 0 ((v3 + 1)))), (0, (μ9 0 ((v3 + 2)))), (0, (μ9 0 ((v3 + 3))))] L μ9 (fun r11 L12 μ13 => ∃ w14, r11 = some (0, w14) ∧ L = L12 ∧ (w10 = w14 → WA (mLaw nm) 10 (0, 0) 1335 [(2, 0), (2, v1), (2, v2), (0, v3)] [] L μ13 Q) ∧ (¬ w10 = w14 → Q (some (0, 0)) L μ13)))) : WA (mLaw nm) 10 (0, 0) 213 [(2, 0), (2, v1), (2, v2), (0, v3)] [] L μ Q := by
  refine wa_aload_n 214 dL_law_213 rfl rfl ?_
  refine wa_aload_n 215 dL_law_214 rfl rfl ?_
  refine wa_iload_n 216 dL_law_215 rfl rfl ?_
  refine wa_iconst 217 dL_law_216 rfl (by decide) ?_
  obtain ⟨c1, h⟩ := h
  refine wa_iadd 218 dL_law_217 rfl c1 ?_
  obtain ⟨c2, h⟩ := h
  refine wa_sload 219 dL_law_218 rfl c2 ?_
  refine wa_aload_n 220 dL_law_219 rfl rfl ?_
  refine wa_iload_n 221 dL_law_220 rfl rfl ?_
  refine wa_iconst 222 dL_law_221 rfl (by decide) ?_
  obtain ⟨c3, h⟩ := h
  refine wa_iadd 223 dL_law_222 rfl c3 ?_
  obtain ⟨c4, h⟩ := h
  refine wa_sload 224 dL_law_223 rfl c4 ?_
  refine wa_aload_n 225 dL_law_224 rfl rfl ?_
  refine wa_iload_n 226 dL_law_225 rfl rfl ?_
  refine wa_iconst 227 dL_law_226 rfl (by decide) ?_
  obtain ⟨c5, h⟩ := h
  refine wa_iadd 228 dL_law_227 rfl c5 ?_
  obtain ⟨c6, h⟩ := h
  refine wa_sload 229 dL_law_228 rfl c6 ?_
  refine wa_callV 232 1 3 9 (av := [(0, (μ 0 ((v3 + 1)))), (0, (μ 0 ((v3 + 2)))), (0, (μ 0 ((v3 + 3))))]) (rest := []) (k1 := (0, 0)) (k2 := (0, 0)) cvX9_worth dL_law_229 rfl wM_L_18 ⟨rfl, by decide, rfl, Nat.le_of_ble_eq_true rfl, by decide, Nat.le_of_ble_eq_true rfl, rfl, rfl⟩ rfl k1 (TR.mono h (fun r7 L8 μ9 h => ?_))
  obtain ⟨w10, rfl, rfl, h⟩ := h
  show WA (mLaw nm) 10 (0, 0) 232 [(2, 0), (2, v1), (2, v2), (0, v3)] [(0, w10)] L μ9 Q
  refine wa_aload_n 233 dL_law_232 rfl rfl ?_
  refine wa_aload_n 234 dL_law_233 rfl rfl ?_
  refine wa_iload_n 235 dL_law_234 rfl rfl ?_
  refine wa_iconst 236 dL_law_235 rfl (by decide) ?_
  refine wa_iadd 237 dL_law_236 rfl c1 ?_
  refine wa_sload 238 dL_law_237 rfl c2 ?_
  refine wa_aload_n 239 dL_law_238 rfl rfl ?_
  refine wa_iload_n 240 dL_law_239 rfl rfl ?_
  refine wa_iconst 241 dL_law_240 rfl (by decide) ?_
  refine wa_iadd 242 dL_law_241 rfl c3 ?_
  refine wa_sload 243 dL_law_242 rfl c4 ?_
  refine wa_aload_n 244 dL_law_243 rfl rfl ?_
  refine wa_iload_n 245 dL_law_244 rfl rfl ?_
  refine wa_iconst 246 dL_law_245 rfl (by decide) ?_
  refine wa_iadd 247 dL_law_246 rfl c5 ?_
  refine wa_sload 248 dL_law_247 rfl c6 ?_
  refine wa_callV 251 2 3 10 (av := [(0, (μ9 0 ((v3 + 1)))), (0, (μ9 0 ((v3 + 2)))), (0, (μ9 0 ((v3 + 3))))]) (rest := [(0, w10)]) (k1 := (0, 0)) (k2 := (0, 0)) cvX10_worth dL_law_248 rfl wM_L_22 ⟨rfl, by decide, rfl, Nat.le_of_ble_eq_true rfl, by decide, Nat.le_of_ble_eq_true rfl, rfl, rfl⟩ rfl k2 (TR.mono h (fun r11 L12 μ13 h => ?_))
  obtain ⟨w14, rfl, rfl, h⟩ := h
  show WA (mLaw nm) 10 (0, 0) 251 [(2, 0), (2, v1), (2, v2), (0, v3)] [(0, w14), (0, w10)] L μ13 Q
  refine wa_icmp_eq 254 1335 dL_law_251 rfl (by decide) (fun q => ?_) (fun q => ?_)
  · replace h := h.1 q
    exact h
  · replace h := h.2 q
    refine wa_iconst 255 dL_law_254 rfl (by decide) ?_
    exact wa_zret dL_law_255 rfl (Or.inl rfl) h
set_option maxRecDepth 20000 in
theorem s_L_law_256 {nm : String} (hL : LayOK L) {v1 v2 v3 : Int} (k1 : isK L v1 (9, 0)) (k2 : isK L v2 (10, 0)) (h : (inI (v3 + 1)) ∧ (okS L ((v3 + 1))) ∧ (inI (v3 + 2)) ∧ (okS L ((v3 + 2))) ∧ (inI (v3 + 3)) ∧ (okS L ((v3 + 3))) ∧ TR mX9_tells 1 (0, 0) [(2, v1), (0, (μ 0 ((v3 + 1)))), (0, (μ 0 ((v3 + 2)))), (0, (μ 0 ((v3 + 3))))] L μ (fun r7 L8 μ9 => ∃ w10, r7 = some (0, w10) ∧ L = L8 ∧ TR mX10_tells 2 (0, 0) [(2, v2), (0, (μ9 0 ((v3 + 1)))), (0, (μ9 0 ((v3 + 2)))), (0, (μ9 0 ((v3 + 3))))] L μ9 (fun r11 L12 μ13 => ∃ w14, r11 = some (0, w14) ∧ L = L12 ∧ (w10 = w14 → WA (mLaw nm) 10 (0, 0) 1335 [(2, 0), (2, v1), (2, v2), (0, v3)] [] L μ13 Q) ∧ (¬ w10 = w14 → Q (some (0, 0)) L μ13)))) : WA (mLaw nm) 10 (0, 0) 256 [(2, 0), (2, v1), (2, v2), (0, v3)] [] L μ Q := by
  refine wa_aload_n 257 dL_law_256 rfl rfl ?_
  refine wa_aload_n 258 dL_law_257 rfl rfl ?_
  refine wa_iload_n 259 dL_law_258 rfl rfl ?_
  refine wa_iconst 260 dL_law_259 rfl (by decide) ?_
  obtain ⟨c1, h⟩ := h
  refine wa_iadd 261 dL_law_260 rfl c1 ?_
  obtain ⟨c2, h⟩ := h
  refine wa_sload 262 dL_law_261 rfl c2 ?_
  refine wa_aload_n 263 dL_law_262 rfl rfl ?_
  refine wa_iload_n 264 dL_law_263 rfl rfl ?_
  refine wa_iconst 265 dL_law_264 rfl (by decide) ?_
  obtain ⟨c3, h⟩ := h
  refine wa_iadd 266 dL_law_265 rfl c3 ?_
  obtain ⟨c4, h⟩ := h
  refine wa_sload 267 dL_law_266 rfl c4 ?_
  refine wa_aload_n 268 dL_law_267 rfl rfl ?_
  refine wa_iload_n 269 dL_law_268 rfl rfl ?_
  refine wa_iconst 270 dL_law_269 rfl (by decide) ?_
  obtain ⟨c5, h⟩ := h
  refine wa_iadd 271 dL_law_270 rfl c5 ?_
  obtain ⟨c6, h⟩ := h
  refine wa_sload 272 dL_law_271 rfl c6 ?_
  refine wa_callV 275 1 3 9 (av := [(0, (μ 0 ((v3 + 1)))), (0, (μ 0 ((v3 + 2)))), (0, (μ 0 ((v3 + 3))))]) (rest := []) (k1 := (0, 0)) (k2 := (0, 0)) cvX9_tells dL_law_272 rfl wM_L_23 ⟨rfl, by decide, rfl, Nat.le_of_ble_eq_true rfl, by decide, Nat.le_of_ble_eq_true rfl, rfl, rfl⟩ rfl k1 (TR.mono h (fun r7 L8 μ9 h => ?_))
  obtain ⟨w10, rfl, rfl, h⟩ := h
  show WA (mLaw nm) 10 (0, 0) 275 [(2, 0), (2, v1), (2, v2), (0, v3)] [(0, w10)] L μ9 Q
  refine wa_aload_n 276 dL_law_275 rfl rfl ?_
  refine wa_aload_n 277 dL_law_276 rfl rfl ?_
  refine wa_iload_n 278 dL_law_277 rfl rfl ?_
  refine wa_iconst 279 dL_law_278 rfl (by decide) ?_
  refine wa_iadd 280 dL_law_279 rfl c1 ?_
  refine wa_sload 281 dL_law_280 rfl c2 ?_
  refine wa_aload_n 282 dL_law_281 rfl rfl ?_
  refine wa_iload_n 283 dL_law_282 rfl rfl ?_
  refine wa_iconst 284 dL_law_283 rfl (by decide) ?_
  refine wa_iadd 285 dL_law_284 rfl c3 ?_
  refine wa_sload 286 dL_law_285 rfl c4 ?_
  refine wa_aload_n 287 dL_law_286 rfl rfl ?_
  refine wa_iload_n 288 dL_law_287 rfl rfl ?_
  refine wa_iconst 289 dL_law_288 rfl (by decide) ?_
  refine wa_iadd 290 dL_law_289 rfl c5 ?_
  refine wa_sload 291 dL_law_290 rfl c6 ?_
  refine wa_callV 294 2 3 10 (av := [(0, (μ9 0 ((v3 + 1)))), (0, (μ9 0 ((v3 + 2)))), (0, (μ9 0 ((v3 + 3))))]) (rest := [(0, w10)]) (k1 := (0, 0)) (k2 := (0, 0)) cvX10_tells dL_law_291 rfl wM_L_26 ⟨rfl, by decide, rfl, Nat.le_of_ble_eq_true rfl, by decide, Nat.le_of_ble_eq_true rfl, rfl, rfl⟩ rfl k2 (TR.mono h (fun r11 L12 μ13 h => ?_))
  obtain ⟨w14, rfl, rfl, h⟩ := h
  show WA (mLaw nm) 10 (0, 0) 294 [(2, 0), (2, v1), (2, v2), (0, v3)] [(0, w14), (0, w10)] L μ13 Q
  refine wa_icmp_eq 297 1335 dL_law_294 rfl (by decide) (fun q => ?_) (fun q => ?_)
  · replace h := h.1 q
    exact h
  · replace h := h.2 q
    refine wa_iconst 298 dL_law_297 rfl (by decide) ?_
    exact wa_zret dL_law_298 rfl (Or.inl rfl) h
set_option maxRecDepth 20000 in
theorem s_L_law_299 {nm : String} (hL : LayOK L) {v1 v2 v3 : Int} (k1 : isK L v1 (9, 0)) (k2 : isK L v2 (10, 0)) (h : (inI (v3 + 1)) ∧ (okS L ((v3 + 1))) ∧ TR mX9_honest 1 (0, 0) [(2, v1), (0, (μ 0 ((v3 + 1))))] L μ (fun r3 L4 μ5 => ∃ w6, r3 = some (0, w6) ∧ L = L4 ∧ TR mX10_honest 2 (0, 0) [(2, v2), (0, (μ5 0 ((v3 + 1))))] L μ5 (fun r7 L8 μ9 => ∃ w10, r7 = some (0, w10) ∧ L = L8 ∧ (w6 = w10 → WA (mLaw nm) 10 (0, 0) 1335 [(2, 0), (2, v1), (2, v2), (0, v3)] [] L μ9 Q) ∧ (¬ w6 = w10 → Q (some (0, 0)) L μ9)))) : WA (mLaw nm) 10 (0, 0) 299 [(2, 0), (2, v1), (2, v2), (0, v3)] [] L μ Q := by
  refine wa_aload_n 300 dL_law_299 rfl rfl ?_
  refine wa_aload_n 301 dL_law_300 rfl rfl ?_
  refine wa_iload_n 302 dL_law_301 rfl rfl ?_
  refine wa_iconst 303 dL_law_302 rfl (by decide) ?_
  obtain ⟨c1, h⟩ := h
  refine wa_iadd 304 dL_law_303 rfl c1 ?_
  obtain ⟨c2, h⟩ := h
  refine wa_sload 305 dL_law_304 rfl c2 ?_
  refine wa_callV 308 1 1 9 (av := [(0, (μ 0 ((v3 + 1))))]) (rest := []) (k1 := (0, 0)) (k2 := (0, 0)) cvX9_honest dL_law_305 rfl wM_L_27 ⟨rfl, by decide, rfl, Nat.le_of_ble_eq_true rfl, by decide, Nat.le_of_ble_eq_true rfl, rfl, rfl⟩ rfl k1 (TR.mono h (fun r3 L4 μ5 h => ?_))
  obtain ⟨w6, rfl, rfl, h⟩ := h
  show WA (mLaw nm) 10 (0, 0) 308 [(2, 0), (2, v1), (2, v2), (0, v3)] [(0, w6)] L μ5 Q
  refine wa_aload_n 309 dL_law_308 rfl rfl ?_
  refine wa_aload_n 310 dL_law_309 rfl rfl ?_
  refine wa_iload_n 311 dL_law_310 rfl rfl ?_
  refine wa_iconst 312 dL_law_311 rfl (by decide) ?_
  refine wa_iadd 313 dL_law_312 rfl c1 ?_
  refine wa_sload 314 dL_law_313 rfl c2 ?_
  refine wa_callV 317 2 1 10 (av := [(0, (μ5 0 ((v3 + 1))))]) (rest := [(0, w6)]) (k1 := (0, 0)) (k2 := (0, 0)) cvX10_honest dL_law_314 rfl wM_L_31 ⟨rfl, by decide, rfl, Nat.le_of_ble_eq_true rfl, by decide, Nat.le_of_ble_eq_true rfl, rfl, rfl⟩ rfl k2 (TR.mono h (fun r7 L8 μ9 h => ?_))
  obtain ⟨w10, rfl, rfl, h⟩ := h
  show WA (mLaw nm) 10 (0, 0) 317 [(2, 0), (2, v1), (2, v2), (0, v3)] [(0, w10), (0, w6)] L μ9 Q
  refine wa_icmp_eq 320 1335 dL_law_317 rfl (by decide) (fun q => ?_) (fun q => ?_)
  · replace h := h.1 q
    exact h
  · replace h := h.2 q
    refine wa_iconst 321 dL_law_320 rfl (by decide) ?_
    exact wa_zret dL_law_321 rfl (Or.inl rfl) h
set_option maxRecDepth 20000 in
theorem s_L_law_322 {nm : String} (hL : LayOK L) {v1 v2 v3 : Int} (k1 : isK L v1 (9, 0)) (k2 : isK L v2 (10, 0)) (h : (inI (v3 + 1)) ∧ (okS L ((v3 + 1))) ∧ (inI (v3 + 2)) ∧ (okS L ((v3 + 2))) ∧ (inI (v3 + 3)) ∧ (okS L ((v3 + 3))) ∧ TR mX9_strip 1 (0, 0) [(2, v1), (0, (μ 0 ((v3 + 1)))), (0, (μ 0 ((v3 + 2)))), (0, (μ 0 ((v3 + 3))))] L μ (fun r7 L8 μ9 => ∃ w10, r7 = some (0, w10) ∧ L = L8 ∧ TR mX10_strip 2 (0, 0) [(2, v2), (0, (μ9 0 ((v3 + 1)))), (0, (μ9 0 ((v3 + 2)))), (0, (μ9 0 ((v3 + 3))))] L μ9 (fun r11 L12 μ13 => ∃ w14, r11 = some (0, w14) ∧ L = L12 ∧ (w10 = w14 → WA (mLaw nm) 10 (0, 0) 1335 [(2, 0), (2, v1), (2, v2), (0, v3)] [] L μ13 Q) ∧ (¬ w10 = w14 → Q (some (0, 0)) L μ13)))) : WA (mLaw nm) 10 (0, 0) 322 [(2, 0), (2, v1), (2, v2), (0, v3)] [] L μ Q := by
  refine wa_aload_n 323 dL_law_322 rfl rfl ?_
  refine wa_aload_n 324 dL_law_323 rfl rfl ?_
  refine wa_iload_n 325 dL_law_324 rfl rfl ?_
  refine wa_iconst 326 dL_law_325 rfl (by decide) ?_
  obtain ⟨c1, h⟩ := h
  refine wa_iadd 327 dL_law_326 rfl c1 ?_
  obtain ⟨c2, h⟩ := h
  refine wa_sload 328 dL_law_327 rfl c2 ?_
  refine wa_aload_n 329 dL_law_328 rfl rfl ?_
  refine wa_iload_n 330 dL_law_329 rfl rfl ?_
  refine wa_iconst 331 dL_law_330 rfl (by decide) ?_
  obtain ⟨c3, h⟩ := h
  refine wa_iadd 332 dL_law_331 rfl c3 ?_
  obtain ⟨c4, h⟩ := h
  refine wa_sload 333 dL_law_332 rfl c4 ?_
  refine wa_aload_n 334 dL_law_333 rfl rfl ?_
  refine wa_iload_n 335 dL_law_334 rfl rfl ?_
  refine wa_iconst 336 dL_law_335 rfl (by decide) ?_
  obtain ⟨c5, h⟩ := h
  refine wa_iadd 337 dL_law_336 rfl c5 ?_
  obtain ⟨c6, h⟩ := h
  refine wa_sload 338 dL_law_337 rfl c6 ?_
  refine wa_callV 341 1 3 9 (av := [(0, (μ 0 ((v3 + 1)))), (0, (μ 0 ((v3 + 2)))), (0, (μ 0 ((v3 + 3))))]) (rest := []) (k1 := (0, 0)) (k2 := (0, 0)) cvX9_strip dL_law_338 rfl wM_L_32 ⟨rfl, by decide, rfl, Nat.le_of_ble_eq_true rfl, by decide, Nat.le_of_ble_eq_true rfl, rfl, rfl⟩ rfl k1 (TR.mono h (fun r7 L8 μ9 h => ?_))
  obtain ⟨w10, rfl, rfl, h⟩ := h
  show WA (mLaw nm) 10 (0, 0) 341 [(2, 0), (2, v1), (2, v2), (0, v3)] [(0, w10)] L μ9 Q
  refine wa_aload_n 342 dL_law_341 rfl rfl ?_
  refine wa_aload_n 343 dL_law_342 rfl rfl ?_
  refine wa_iload_n 344 dL_law_343 rfl rfl ?_
  refine wa_iconst 345 dL_law_344 rfl (by decide) ?_
  refine wa_iadd 346 dL_law_345 rfl c1 ?_
  refine wa_sload 347 dL_law_346 rfl c2 ?_
  refine wa_aload_n 348 dL_law_347 rfl rfl ?_
  refine wa_iload_n 349 dL_law_348 rfl rfl ?_
  refine wa_iconst 350 dL_law_349 rfl (by decide) ?_
  refine wa_iadd 351 dL_law_350 rfl c3 ?_
  refine wa_sload 352 dL_law_351 rfl c4 ?_
  refine wa_aload_n 353 dL_law_352 rfl rfl ?_
  refine wa_iload_n 354 dL_law_353 rfl rfl ?_
  refine wa_iconst 355 dL_law_354 rfl (by decide) ?_
  refine wa_iadd 356 dL_law_355 rfl c5 ?_
  refine wa_sload 357 dL_law_356 rfl c6 ?_
  refine wa_callV 360 2 3 10 (av := [(0, (μ9 0 ((v3 + 1)))), (0, (μ9 0 ((v3 + 2)))), (0, (μ9 0 ((v3 + 3))))]) (rest := [(0, w10)]) (k1 := (0, 0)) (k2 := (0, 0)) cvX10_strip dL_law_357 rfl wM_L_35 ⟨rfl, by decide, rfl, Nat.le_of_ble_eq_true rfl, by decide, Nat.le_of_ble_eq_true rfl, rfl, rfl⟩ rfl k2 (TR.mono h (fun r11 L12 μ13 h => ?_))
  obtain ⟨w14, rfl, rfl, h⟩ := h
  show WA (mLaw nm) 10 (0, 0) 360 [(2, 0), (2, v1), (2, v2), (0, v3)] [(0, w14), (0, w10)] L μ13 Q
  refine wa_icmp_eq 363 1335 dL_law_360 rfl (by decide) (fun q => ?_) (fun q => ?_)
  · replace h := h.1 q
    exact h
  · replace h := h.2 q
    refine wa_iconst 364 dL_law_363 rfl (by decide) ?_
    exact wa_zret dL_law_364 rfl (Or.inl rfl) h
set_option maxRecDepth 20000 in
theorem s_L_law_365 {nm : String} (hL : LayOK L) {v1 v2 v3 : Int} (k1 : isK L v1 (9, 0)) (k2 : isK L v2 (10, 0)) (h : (inI (v3 + 1)) ∧ (okS L ((v3 + 1))) ∧ (inI (v3 + 2)) ∧ (okS L ((v3 + 2))) ∧ (inI (v3 + 3)) ∧ (okS L ((v3 + 3))) ∧ (inI (v3 + 4)) ∧ (okS L ((v3 + 4))) ∧ (inI (v3 + 5)) ∧ (okS L ((v3 + 5))) ∧ (inI (v3 + 6)) ∧ (okS L ((v3 + 6))) ∧ (inI (v3 + 7)) ∧ (okS L ((v3 + 7))) ∧ TR mX9_span 3 (0, 0) [(2, v1), (0, (μ 0 ((v3 + 1)))), (0, (μ 0 ((v3 + 2)))), (0, (μ 0 ((v3 + 3)))), (0, (μ 0 ((v3 + 4)))), (0, (μ 0 ((v3 + 5)))), (0, (μ 0 ((v3 + 6)))), (0, (μ 0 ((v3 + 7))))] L μ (fun r15 L16 μ17 => ∃ w18, r15 = some (1, w18) ∧ L = L16 ∧ TR mX10_span 3 (0, 0) [(2, v2), (0, (μ17 0 ((v3 + 1)))), (0, (μ17 0 ((v3 + 2)))), (0, (μ17 0 ((v3 + 3)))), (0, (μ17 0 ((v3 + 4)))), (0, (μ17 0 ((v3 + 5)))), (0, (μ17 0 ((v3 + 6)))), (0, (μ17 0 ((v3 + 7))))] L μ17 (fun r19 L20 μ21 => ∃ w22, r19 = some (1, w22) ∧ L = L20 ∧ (w18 = w22 → WA (mLaw nm) 10 (0, 0) 1335 [(2, 0), (2, v1), (2, v2), (0, v3)] [] L μ21 Q) ∧ (¬ w18 = w22 → Q (some (0, 0)) L μ21)))) : WA (mLaw nm) 10 (0, 0) 365 [(2, 0), (2, v1), (2, v2), (0, v3)] [] L μ Q := by
  refine wa_aload_n 366 dL_law_365 rfl rfl ?_
  refine wa_aload_n 367 dL_law_366 rfl rfl ?_
  refine wa_iload_n 368 dL_law_367 rfl rfl ?_
  refine wa_iconst 369 dL_law_368 rfl (by decide) ?_
  obtain ⟨c1, h⟩ := h
  refine wa_iadd 370 dL_law_369 rfl c1 ?_
  obtain ⟨c2, h⟩ := h
  refine wa_sload 371 dL_law_370 rfl c2 ?_
  refine wa_aload_n 372 dL_law_371 rfl rfl ?_
  refine wa_iload_n 373 dL_law_372 rfl rfl ?_
  refine wa_iconst 374 dL_law_373 rfl (by decide) ?_
  obtain ⟨c3, h⟩ := h
  refine wa_iadd 375 dL_law_374 rfl c3 ?_
  obtain ⟨c4, h⟩ := h
  refine wa_sload 376 dL_law_375 rfl c4 ?_
  refine wa_aload_n 377 dL_law_376 rfl rfl ?_
  refine wa_iload_n 378 dL_law_377 rfl rfl ?_
  refine wa_iconst 379 dL_law_378 rfl (by decide) ?_
  obtain ⟨c5, h⟩ := h
  refine wa_iadd 380 dL_law_379 rfl c5 ?_
  obtain ⟨c6, h⟩ := h
  refine wa_sload 381 dL_law_380 rfl c6 ?_
  refine wa_aload_n 382 dL_law_381 rfl rfl ?_
  refine wa_iload_n 383 dL_law_382 rfl rfl ?_
  refine wa_iconst 384 dL_law_383 rfl (by decide) ?_
  obtain ⟨c7, h⟩ := h
  refine wa_iadd 385 dL_law_384 rfl c7 ?_
  obtain ⟨c8, h⟩ := h
  refine wa_sload 386 dL_law_385 rfl c8 ?_
  refine wa_aload_n 387 dL_law_386 rfl rfl ?_
  refine wa_iload_n 388 dL_law_387 rfl rfl ?_
  refine wa_iconst 389 dL_law_388 rfl (by decide) ?_
  obtain ⟨c9, h⟩ := h
  refine wa_iadd 390 dL_law_389 rfl c9 ?_
  obtain ⟨c10, h⟩ := h
  refine wa_sload 391 dL_law_390 rfl c10 ?_
  refine wa_aload_n 392 dL_law_391 rfl rfl ?_
  refine wa_iload_n 393 dL_law_392 rfl rfl ?_
  refine wa_bipush 395 dL_law_393 rfl ⟨by decide, by decide⟩ ?_
  obtain ⟨c11, h⟩ := h
  refine wa_iadd 396 dL_law_395 rfl c11 ?_
  obtain ⟨c12, h⟩ := h
  refine wa_sload 397 dL_law_396 rfl c12 ?_
  refine wa_aload_n 398 dL_law_397 rfl rfl ?_
  refine wa_iload_n 399 dL_law_398 rfl rfl ?_
  refine wa_bipush 401 dL_law_399 rfl ⟨by decide, by decide⟩ ?_
  obtain ⟨c13, h⟩ := h
  refine wa_iadd 402 dL_law_401 rfl c13 ?_
  obtain ⟨c14, h⟩ := h
  refine wa_sload 403 dL_law_402 rfl c14 ?_
  refine wa_callV 406 3 7 9 (av := [(0, (μ 0 ((v3 + 1)))), (0, (μ 0 ((v3 + 2)))), (0, (μ 0 ((v3 + 3)))), (0, (μ 0 ((v3 + 4)))), (0, (μ 0 ((v3 + 5)))), (0, (μ 0 ((v3 + 6)))), (0, (μ 0 ((v3 + 7))))]) (rest := []) (k1 := (0, 0)) (k2 := (0, 0)) cvX9_span dL_law_403 rfl wM_L_36 ⟨rfl, by decide, rfl, Nat.le_of_ble_eq_true rfl, by decide, Nat.le_of_ble_eq_true rfl, rfl, rfl⟩ rfl k1 (TR.mono h (fun r15 L16 μ17 h => ?_))
  obtain ⟨w18, rfl, rfl, h⟩ := h
  show WA (mLaw nm) 10 (0, 0) 406 [(2, 0), (2, v1), (2, v2), (0, v3)] [(1, w18)] L μ17 Q
  refine wa_aload_n 407 dL_law_406 rfl rfl ?_
  refine wa_aload_n 408 dL_law_407 rfl rfl ?_
  refine wa_iload_n 409 dL_law_408 rfl rfl ?_
  refine wa_iconst 410 dL_law_409 rfl (by decide) ?_
  refine wa_iadd 411 dL_law_410 rfl c1 ?_
  refine wa_sload 412 dL_law_411 rfl c2 ?_
  refine wa_aload_n 413 dL_law_412 rfl rfl ?_
  refine wa_iload_n 414 dL_law_413 rfl rfl ?_
  refine wa_iconst 415 dL_law_414 rfl (by decide) ?_
  refine wa_iadd 416 dL_law_415 rfl c3 ?_
  refine wa_sload 417 dL_law_416 rfl c4 ?_
  refine wa_aload_n 418 dL_law_417 rfl rfl ?_
  refine wa_iload_n 419 dL_law_418 rfl rfl ?_
  refine wa_iconst 420 dL_law_419 rfl (by decide) ?_
  refine wa_iadd 421 dL_law_420 rfl c5 ?_
  refine wa_sload 422 dL_law_421 rfl c6 ?_
  refine wa_aload_n 423 dL_law_422 rfl rfl ?_
  refine wa_iload_n 424 dL_law_423 rfl rfl ?_
  refine wa_iconst 425 dL_law_424 rfl (by decide) ?_
  refine wa_iadd 426 dL_law_425 rfl c7 ?_
  refine wa_sload 427 dL_law_426 rfl c8 ?_
  refine wa_aload_n 428 dL_law_427 rfl rfl ?_
  refine wa_iload_n 429 dL_law_428 rfl rfl ?_
  refine wa_iconst 430 dL_law_429 rfl (by decide) ?_
  refine wa_iadd 431 dL_law_430 rfl c9 ?_
  refine wa_sload 432 dL_law_431 rfl c10 ?_
  refine wa_aload_n 433 dL_law_432 rfl rfl ?_
  refine wa_iload_n 434 dL_law_433 rfl rfl ?_
  refine wa_bipush 436 dL_law_434 rfl ⟨by decide, by decide⟩ ?_
  refine wa_iadd 437 dL_law_436 rfl c11 ?_
  refine wa_sload 438 dL_law_437 rfl c12 ?_
  refine wa_aload_n 439 dL_law_438 rfl rfl ?_
  refine wa_iload_n 440 dL_law_439 rfl rfl ?_
  refine wa_bipush 442 dL_law_440 rfl ⟨by decide, by decide⟩ ?_
  refine wa_iadd 443 dL_law_442 rfl c13 ?_
  refine wa_sload 444 dL_law_443 rfl c14 ?_
  refine wa_callV 447 3 7 10 (av := [(0, (μ17 0 ((v3 + 1)))), (0, (μ17 0 ((v3 + 2)))), (0, (μ17 0 ((v3 + 3)))), (0, (μ17 0 ((v3 + 4)))), (0, (μ17 0 ((v3 + 5)))), (0, (μ17 0 ((v3 + 6)))), (0, (μ17 0 ((v3 + 7))))]) (rest := [(1, w18)]) (k1 := (0, 0)) (k2 := (0, 0)) cvX10_span dL_law_444 rfl wM_L_40 ⟨rfl, by decide, rfl, Nat.le_of_ble_eq_true rfl, by decide, Nat.le_of_ble_eq_true rfl, rfl, rfl⟩ rfl k2 (TR.mono h (fun r19 L20 μ21 h => ?_))
  obtain ⟨w22, rfl, rfl, h⟩ := h
  show WA (mLaw nm) 10 (0, 0) 447 [(2, 0), (2, v1), (2, v2), (0, v3)] [(1, w22), (1, w18)] L μ21 Q
  refine wa_lc_eq 451 1335 dL_law_447 dL_law_448 rfl (by decide) (fun q => ?_) (fun q => ?_)
  · replace h := h.1 q
    exact h
  · replace h := h.2 q
    refine wa_iconst 452 dL_law_451 rfl (by decide) ?_
    exact wa_zret dL_law_452 rfl (Or.inl rfl) h
set_option maxRecDepth 20000 in
theorem s_L_law_453 {nm : String} (hL : LayOK L) {v1 v2 v3 : Int} (k1 : isK L v1 (9, 0)) (k2 : isK L v2 (10, 0)) (h : (inI (v3 + 1)) ∧ (okS L ((v3 + 1))) ∧ (inI (v3 + 2)) ∧ (okS L ((v3 + 2))) ∧ (inI (v3 + 3)) ∧ (okS L ((v3 + 3))) ∧ (inI (v3 + 4)) ∧ (okS L ((v3 + 4))) ∧ (inI (v3 + 5)) ∧ (okS L ((v3 + 5))) ∧ (inI (v3 + 6)) ∧ (okS L ((v3 + 6))) ∧ TR mX9_mark 3 (0, 0) [(2, v1), (0, (μ 0 ((v3 + 1)))), (0, (μ 0 ((v3 + 2)))), (0, (μ 0 ((v3 + 3)))), (0, (μ 0 ((v3 + 4)))), (0, (μ 0 ((v3 + 5)))), (0, (μ 0 ((v3 + 6))))] L μ (fun r13 L14 μ15 => ∃ w16, r13 = some (1, w16) ∧ L = L14 ∧ TR mX10_mark 3 (0, 0) [(2, v2), (0, (μ15 0 ((v3 + 1)))), (0, (μ15 0 ((v3 + 2)))), (0, (μ15 0 ((v3 + 3)))), (0, (μ15 0 ((v3 + 4)))), (0, (μ15 0 ((v3 + 5)))), (0, (μ15 0 ((v3 + 6))))] L μ15 (fun r17 L18 μ19 => ∃ w20, r17 = some (1, w20) ∧ L = L18 ∧ (w16 = w20 → WA (mLaw nm) 10 (0, 0) 1335 [(2, 0), (2, v1), (2, v2), (0, v3)] [] L μ19 Q) ∧ (¬ w16 = w20 → Q (some (0, 0)) L μ19)))) : WA (mLaw nm) 10 (0, 0) 453 [(2, 0), (2, v1), (2, v2), (0, v3)] [] L μ Q := by
  refine wa_aload_n 454 dL_law_453 rfl rfl ?_
  refine wa_aload_n 455 dL_law_454 rfl rfl ?_
  refine wa_iload_n 456 dL_law_455 rfl rfl ?_
  refine wa_iconst 457 dL_law_456 rfl (by decide) ?_
  obtain ⟨c1, h⟩ := h
  refine wa_iadd 458 dL_law_457 rfl c1 ?_
  obtain ⟨c2, h⟩ := h
  refine wa_sload 459 dL_law_458 rfl c2 ?_
  refine wa_aload_n 460 dL_law_459 rfl rfl ?_
  refine wa_iload_n 461 dL_law_460 rfl rfl ?_
  refine wa_iconst 462 dL_law_461 rfl (by decide) ?_
  obtain ⟨c3, h⟩ := h
  refine wa_iadd 463 dL_law_462 rfl c3 ?_
  obtain ⟨c4, h⟩ := h
  refine wa_sload 464 dL_law_463 rfl c4 ?_
  refine wa_aload_n 465 dL_law_464 rfl rfl ?_
  refine wa_iload_n 466 dL_law_465 rfl rfl ?_
  refine wa_iconst 467 dL_law_466 rfl (by decide) ?_
  obtain ⟨c5, h⟩ := h
  refine wa_iadd 468 dL_law_467 rfl c5 ?_
  obtain ⟨c6, h⟩ := h
  refine wa_sload 469 dL_law_468 rfl c6 ?_
  refine wa_aload_n 470 dL_law_469 rfl rfl ?_
  refine wa_iload_n 471 dL_law_470 rfl rfl ?_
  refine wa_iconst 472 dL_law_471 rfl (by decide) ?_
  obtain ⟨c7, h⟩ := h
  refine wa_iadd 473 dL_law_472 rfl c7 ?_
  obtain ⟨c8, h⟩ := h
  refine wa_sload 474 dL_law_473 rfl c8 ?_
  refine wa_aload_n 475 dL_law_474 rfl rfl ?_
  refine wa_iload_n 476 dL_law_475 rfl rfl ?_
  refine wa_iconst 477 dL_law_476 rfl (by decide) ?_
  obtain ⟨c9, h⟩ := h
  refine wa_iadd 478 dL_law_477 rfl c9 ?_
  obtain ⟨c10, h⟩ := h
  refine wa_sload 479 dL_law_478 rfl c10 ?_
  refine wa_aload_n 480 dL_law_479 rfl rfl ?_
  refine wa_iload_n 481 dL_law_480 rfl rfl ?_
  refine wa_bipush 483 dL_law_481 rfl ⟨by decide, by decide⟩ ?_
  obtain ⟨c11, h⟩ := h
  refine wa_iadd 484 dL_law_483 rfl c11 ?_
  obtain ⟨c12, h⟩ := h
  refine wa_sload 485 dL_law_484 rfl c12 ?_
  refine wa_callV 488 3 6 9 (av := [(0, (μ 0 ((v3 + 1)))), (0, (μ 0 ((v3 + 2)))), (0, (μ 0 ((v3 + 3)))), (0, (μ 0 ((v3 + 4)))), (0, (μ 0 ((v3 + 5)))), (0, (μ 0 ((v3 + 6))))]) (rest := []) (k1 := (0, 0)) (k2 := (0, 0)) cvX9_mark dL_law_485 rfl wM_L_41 ⟨rfl, by decide, rfl, Nat.le_of_ble_eq_true rfl, by decide, Nat.le_of_ble_eq_true rfl, rfl, rfl⟩ rfl k1 (TR.mono h (fun r13 L14 μ15 h => ?_))
  obtain ⟨w16, rfl, rfl, h⟩ := h
  show WA (mLaw nm) 10 (0, 0) 488 [(2, 0), (2, v1), (2, v2), (0, v3)] [(1, w16)] L μ15 Q
  refine wa_aload_n 489 dL_law_488 rfl rfl ?_
  refine wa_aload_n 490 dL_law_489 rfl rfl ?_
  refine wa_iload_n 491 dL_law_490 rfl rfl ?_
  refine wa_iconst 492 dL_law_491 rfl (by decide) ?_
  refine wa_iadd 493 dL_law_492 rfl c1 ?_
  refine wa_sload 494 dL_law_493 rfl c2 ?_
  refine wa_aload_n 495 dL_law_494 rfl rfl ?_
  refine wa_iload_n 496 dL_law_495 rfl rfl ?_
  refine wa_iconst 497 dL_law_496 rfl (by decide) ?_
  refine wa_iadd 498 dL_law_497 rfl c3 ?_
  refine wa_sload 499 dL_law_498 rfl c4 ?_
  refine wa_aload_n 500 dL_law_499 rfl rfl ?_
  refine wa_iload_n 501 dL_law_500 rfl rfl ?_
  refine wa_iconst 502 dL_law_501 rfl (by decide) ?_
  refine wa_iadd 503 dL_law_502 rfl c5 ?_
  refine wa_sload 504 dL_law_503 rfl c6 ?_
  refine wa_aload_n 505 dL_law_504 rfl rfl ?_
  refine wa_iload_n 506 dL_law_505 rfl rfl ?_
  refine wa_iconst 507 dL_law_506 rfl (by decide) ?_
  refine wa_iadd 508 dL_law_507 rfl c7 ?_
  refine wa_sload 509 dL_law_508 rfl c8 ?_
  refine wa_aload_n 510 dL_law_509 rfl rfl ?_
  refine wa_iload_n 511 dL_law_510 rfl rfl ?_
  refine wa_iconst 512 dL_law_511 rfl (by decide) ?_
  refine wa_iadd 513 dL_law_512 rfl c9 ?_
  refine wa_sload 514 dL_law_513 rfl c10 ?_
  refine wa_aload_n 515 dL_law_514 rfl rfl ?_
  refine wa_iload_n 516 dL_law_515 rfl rfl ?_
  refine wa_bipush 518 dL_law_516 rfl ⟨by decide, by decide⟩ ?_
  refine wa_iadd 519 dL_law_518 rfl c11 ?_
  refine wa_sload 520 dL_law_519 rfl c12 ?_
  refine wa_callV 523 3 6 10 (av := [(0, (μ15 0 ((v3 + 1)))), (0, (μ15 0 ((v3 + 2)))), (0, (μ15 0 ((v3 + 3)))), (0, (μ15 0 ((v3 + 4)))), (0, (μ15 0 ((v3 + 5)))), (0, (μ15 0 ((v3 + 6))))]) (rest := [(1, w16)]) (k1 := (0, 0)) (k2 := (0, 0)) cvX10_mark dL_law_520 rfl wM_L_45 ⟨rfl, by decide, rfl, Nat.le_of_ble_eq_true rfl, by decide, Nat.le_of_ble_eq_true rfl, rfl, rfl⟩ rfl k2 (TR.mono h (fun r17 L18 μ19 h => ?_))
  obtain ⟨w20, rfl, rfl, h⟩ := h
  show WA (mLaw nm) 10 (0, 0) 523 [(2, 0), (2, v1), (2, v2), (0, v3)] [(1, w20), (1, w16)] L μ19 Q
  refine wa_lc_eq 527 1335 dL_law_523 dL_law_524 rfl (by decide) (fun q => ?_) (fun q => ?_)
  · replace h := h.1 q
    exact h
  · replace h := h.2 q
    refine wa_iconst 528 dL_law_527 rfl (by decide) ?_
    exact wa_zret dL_law_528 rfl (Or.inl rfl) h
set_option maxRecDepth 20000 in
theorem s_L_law_529 {nm : String} (hL : LayOK L) {v1 v2 v3 : Int} (k1 : isK L v1 (9, 0)) (k2 : isK L v2 (10, 0)) (h : (inI (v3 + 1)) ∧ (okS L ((v3 + 1))) ∧ (inI (v3 + 2)) ∧ (okS L ((v3 + 2))) ∧ (inI (v3 + 3)) ∧ (okS L ((v3 + 3))) ∧ TR mX9_exact 4 (0, 0) [(2, v1), (0, (μ 0 ((v3 + 1)))), (0, (μ 0 ((v3 + 2)))), (0, (μ 0 ((v3 + 3))))] L μ (fun r7 L8 μ9 => ∃ w10, r7 = some (1, w10) ∧ L = L8 ∧ TR mX10_exact 3 (0, 0) [(2, v2), (0, (μ9 0 ((v3 + 1)))), (0, (μ9 0 ((v3 + 2)))), (0, (μ9 0 ((v3 + 3))))] L μ9 (fun r11 L12 μ13 => ∃ w14, r11 = some (1, w14) ∧ L = L12 ∧ (w10 = w14 → WA (mLaw nm) 10 (0, 0) 1335 [(2, 0), (2, v1), (2, v2), (0, v3)] [] L μ13 Q) ∧ (¬ w10 = w14 → Q (some (0, 0)) L μ13)))) : WA (mLaw nm) 10 (0, 0) 529 [(2, 0), (2, v1), (2, v2), (0, v3)] [] L μ Q := by
  refine wa_aload_n 530 dL_law_529 rfl rfl ?_
  refine wa_aload_n 531 dL_law_530 rfl rfl ?_
  refine wa_iload_n 532 dL_law_531 rfl rfl ?_
  refine wa_iconst 533 dL_law_532 rfl (by decide) ?_
  obtain ⟨c1, h⟩ := h
  refine wa_iadd 534 dL_law_533 rfl c1 ?_
  obtain ⟨c2, h⟩ := h
  refine wa_sload 535 dL_law_534 rfl c2 ?_
  refine wa_aload_n 536 dL_law_535 rfl rfl ?_
  refine wa_iload_n 537 dL_law_536 rfl rfl ?_
  refine wa_iconst 538 dL_law_537 rfl (by decide) ?_
  obtain ⟨c3, h⟩ := h
  refine wa_iadd 539 dL_law_538 rfl c3 ?_
  obtain ⟨c4, h⟩ := h
  refine wa_sload 540 dL_law_539 rfl c4 ?_
  refine wa_aload_n 541 dL_law_540 rfl rfl ?_
  refine wa_iload_n 542 dL_law_541 rfl rfl ?_
  refine wa_iconst 543 dL_law_542 rfl (by decide) ?_
  obtain ⟨c5, h⟩ := h
  refine wa_iadd 544 dL_law_543 rfl c5 ?_
  obtain ⟨c6, h⟩ := h
  refine wa_sload 545 dL_law_544 rfl c6 ?_
  refine wa_callV 548 4 3 9 (av := [(0, (μ 0 ((v3 + 1)))), (0, (μ 0 ((v3 + 2)))), (0, (μ 0 ((v3 + 3))))]) (rest := []) (k1 := (0, 0)) (k2 := (0, 0)) cvX9_exact dL_law_545 rfl wM_L_46 ⟨rfl, by decide, rfl, Nat.le_of_ble_eq_true rfl, by decide, Nat.le_of_ble_eq_true rfl, rfl, rfl⟩ rfl k1 (TR.mono h (fun r7 L8 μ9 h => ?_))
  obtain ⟨w10, rfl, rfl, h⟩ := h
  show WA (mLaw nm) 10 (0, 0) 548 [(2, 0), (2, v1), (2, v2), (0, v3)] [(1, w10)] L μ9 Q
  refine wa_aload_n 549 dL_law_548 rfl rfl ?_
  refine wa_aload_n 550 dL_law_549 rfl rfl ?_
  refine wa_iload_n 551 dL_law_550 rfl rfl ?_
  refine wa_iconst 552 dL_law_551 rfl (by decide) ?_
  refine wa_iadd 553 dL_law_552 rfl c1 ?_
  refine wa_sload 554 dL_law_553 rfl c2 ?_
  refine wa_aload_n 555 dL_law_554 rfl rfl ?_
  refine wa_iload_n 556 dL_law_555 rfl rfl ?_
  refine wa_iconst 557 dL_law_556 rfl (by decide) ?_
  refine wa_iadd 558 dL_law_557 rfl c3 ?_
  refine wa_sload 559 dL_law_558 rfl c4 ?_
  refine wa_aload_n 560 dL_law_559 rfl rfl ?_
  refine wa_iload_n 561 dL_law_560 rfl rfl ?_
  refine wa_iconst 562 dL_law_561 rfl (by decide) ?_
  refine wa_iadd 563 dL_law_562 rfl c5 ?_
  refine wa_sload 564 dL_law_563 rfl c6 ?_
  refine wa_callV 567 3 3 10 (av := [(0, (μ9 0 ((v3 + 1)))), (0, (μ9 0 ((v3 + 2)))), (0, (μ9 0 ((v3 + 3))))]) (rest := [(1, w10)]) (k1 := (0, 0)) (k2 := (0, 0)) cvX10_exact dL_law_564 rfl wM_L_50 ⟨rfl, by decide, rfl, Nat.le_of_ble_eq_true rfl, by decide, Nat.le_of_ble_eq_true rfl, rfl, rfl⟩ rfl k2 (TR.mono h (fun r11 L12 μ13 h => ?_))
  obtain ⟨w14, rfl, rfl, h⟩ := h
  show WA (mLaw nm) 10 (0, 0) 567 [(2, 0), (2, v1), (2, v2), (0, v3)] [(1, w14), (1, w10)] L μ13 Q
  refine wa_lc_eq 571 1335 dL_law_567 dL_law_568 rfl (by decide) (fun q => ?_) (fun q => ?_)
  · replace h := h.1 q
    exact h
  · replace h := h.2 q
    refine wa_iconst 572 dL_law_571 rfl (by decide) ?_
    exact wa_zret dL_law_572 rfl (Or.inl rfl) h
set_option maxRecDepth 20000 in
theorem s_L_law_573 {nm : String} (hL : LayOK L) {v1 v2 v3 : Int} (k1 : isK L v1 (9, 0)) (k2 : isK L v2 (10, 0)) (h : (inI (v3 + 1)) ∧ (okS L ((v3 + 1))) ∧ TR mX9_feed 1 (0, 0) [(2, v1), (0, (μ 0 ((v3 + 1))))] L μ (fun r3 L4 μ5 => ∃ w6, r3 = some (0, w6) ∧ L = L4 ∧ TR mX10_feed 1 (0, 0) [(2, v2), (0, (μ5 0 ((v3 + 1))))] L μ5 (fun r7 L8 μ9 => ∃ w10, r7 = some (0, w10) ∧ L = L8 ∧ (w6 = w10 → WA (mLaw nm) 10 (0, 0) 1335 [(2, 0), (2, v1), (2, v2), (0, v3)] [] L μ9 Q) ∧ (¬ w6 = w10 → Q (some (0, 0)) L μ9)))) : WA (mLaw nm) 10 (0, 0) 573 [(2, 0), (2, v1), (2, v2), (0, v3)] [] L μ Q := by
  refine wa_aload_n 574 dL_law_573 rfl rfl ?_
  refine wa_aload_n 575 dL_law_574 rfl rfl ?_
  refine wa_iload_n 576 dL_law_575 rfl rfl ?_
  refine wa_iconst 577 dL_law_576 rfl (by decide) ?_
  obtain ⟨c1, h⟩ := h
  refine wa_iadd 578 dL_law_577 rfl c1 ?_
  obtain ⟨c2, h⟩ := h
  refine wa_sload 579 dL_law_578 rfl c2 ?_
  refine wa_callV 582 1 1 9 (av := [(0, (μ 0 ((v3 + 1))))]) (rest := []) (k1 := (0, 0)) (k2 := (0, 0)) cvX9_feed dL_law_579 rfl wM_L_51 ⟨rfl, by decide, rfl, Nat.le_of_ble_eq_true rfl, by decide, Nat.le_of_ble_eq_true rfl, rfl, rfl⟩ rfl k1 (TR.mono h (fun r3 L4 μ5 h => ?_))
  obtain ⟨w6, rfl, rfl, h⟩ := h
  show WA (mLaw nm) 10 (0, 0) 582 [(2, 0), (2, v1), (2, v2), (0, v3)] [(0, w6)] L μ5 Q
  refine wa_aload_n 583 dL_law_582 rfl rfl ?_
  refine wa_aload_n 584 dL_law_583 rfl rfl ?_
  refine wa_iload_n 585 dL_law_584 rfl rfl ?_
  refine wa_iconst 586 dL_law_585 rfl (by decide) ?_
  refine wa_iadd 587 dL_law_586 rfl c1 ?_
  refine wa_sload 588 dL_law_587 rfl c2 ?_
  refine wa_callV 591 1 1 10 (av := [(0, (μ5 0 ((v3 + 1))))]) (rest := [(0, w6)]) (k1 := (0, 0)) (k2 := (0, 0)) cvX10_feed dL_law_588 rfl wM_L_54 ⟨rfl, by decide, rfl, Nat.le_of_ble_eq_true rfl, by decide, Nat.le_of_ble_eq_true rfl, rfl, rfl⟩ rfl k2 (TR.mono h (fun r7 L8 μ9 h => ?_))
  obtain ⟨w10, rfl, rfl, h⟩ := h
  show WA (mLaw nm) 10 (0, 0) 591 [(2, 0), (2, v1), (2, v2), (0, v3)] [(0, w10), (0, w6)] L μ9 Q
  refine wa_icmp_eq 594 1335 dL_law_591 rfl (by decide) (fun q => ?_) (fun q => ?_)
  · replace h := h.1 q
    exact h
  · replace h := h.2 q
    refine wa_iconst 595 dL_law_594 rfl (by decide) ?_
    exact wa_zret dL_law_595 rfl (Or.inl rfl) h
set_option maxRecDepth 20000 in
theorem s_L_law_596 {nm : String} (hL : LayOK L) {v1 v2 v3 : Int} (k1 : isK L v1 (9, 0)) (k2 : isK L v2 (10, 0)) (h : TR mX9_worths 7 (0, 0) [(2, v1)] L μ (fun r1 L2 μ3 => ∃ w4, r1 = some (0, w4) ∧ L = L2 ∧ TR mX10_worths 5 (0, 0) [(2, v2)] L μ3 (fun r5 L6 μ7 => ∃ w8, r5 = some (0, w8) ∧ L = L6 ∧ (w4 = w8 → WA (mLaw nm) 10 (0, 0) 1335 [(2, 0), (2, v1), (2, v2), (0, v3)] [] L μ7 Q) ∧ (¬ w4 = w8 → Q (some (0, 0)) L μ7)))) : WA (mLaw nm) 10 (0, 0) 596 [(2, 0), (2, v1), (2, v2), (0, v3)] [] L μ Q := by
  refine wa_aload_n 597 dL_law_596 rfl rfl ?_
  refine wa_callV 600 7 0 9 (av := []) (rest := []) (k1 := (0, 0)) (k2 := (0, 0)) cvX9_worths dL_law_597 rfl wM_L_55 ⟨rfl, by decide, rfl, Nat.le_of_ble_eq_true rfl, by decide, Nat.le_of_ble_eq_true rfl, rfl, rfl⟩ rfl k1 (TR.mono h (fun r1 L2 μ3 h => ?_))
  obtain ⟨w4, rfl, rfl, h⟩ := h
  show WA (mLaw nm) 10 (0, 0) 600 [(2, 0), (2, v1), (2, v2), (0, v3)] [(0, w4)] L μ3 Q
  refine wa_aload_n 601 dL_law_600 rfl rfl ?_
  refine wa_callV 604 5 0 10 (av := []) (rest := [(0, w4)]) (k1 := (0, 0)) (k2 := (0, 0)) cvX10_worths dL_law_601 rfl wM_L_59 ⟨rfl, by decide, rfl, Nat.le_of_ble_eq_true rfl, by decide, Nat.le_of_ble_eq_true rfl, rfl, rfl⟩ rfl k2 (TR.mono h (fun r5 L6 μ7 h => ?_))
  obtain ⟨w8, rfl, rfl, h⟩ := h
  show WA (mLaw nm) 10 (0, 0) 604 [(2, 0), (2, v1), (2, v2), (0, v3)] [(0, w8), (0, w4)] L μ7 Q
  refine wa_icmp_eq 607 1335 dL_law_604 rfl (by decide) (fun q => ?_) (fun q => ?_)
  · replace h := h.1 q
    exact h
  · replace h := h.2 q
    refine wa_iconst 608 dL_law_607 rfl (by decide) ?_
    exact wa_zret dL_law_608 rfl (Or.inl rfl) h
set_option maxRecDepth 20000 in
theorem s_L_law_609 {nm : String} (hL : LayOK L) {v1 v2 v3 : Int} (k1 : isK L v1 (9, 0)) (k2 : isK L v2 (10, 0)) (h : TR mX9_divides 7 (0, 0) [(2, v1)] L μ (fun r1 L2 μ3 => ∃ w4, r1 = some (0, w4) ∧ L = L2 ∧ TR mX10_divides 6 (0, 0) [(2, v2)] L μ3 (fun r5 L6 μ7 => ∃ w8, r5 = some (0, w8) ∧ L = L6 ∧ (w4 = w8 → WA (mLaw nm) 10 (0, 0) 1335 [(2, 0), (2, v1), (2, v2), (0, v3)] [] L μ7 Q) ∧ (¬ w4 = w8 → Q (some (0, 0)) L μ7)))) : WA (mLaw nm) 10 (0, 0) 609 [(2, 0), (2, v1), (2, v2), (0, v3)] [] L μ Q := by
  refine wa_aload_n 610 dL_law_609 rfl rfl ?_
  refine wa_callV 613 7 0 9 (av := []) (rest := []) (k1 := (0, 0)) (k2 := (0, 0)) cvX9_divides dL_law_610 rfl wM_L_60 ⟨rfl, by decide, rfl, Nat.le_of_ble_eq_true rfl, by decide, Nat.le_of_ble_eq_true rfl, rfl, rfl⟩ rfl k1 (TR.mono h (fun r1 L2 μ3 h => ?_))
  obtain ⟨w4, rfl, rfl, h⟩ := h
  show WA (mLaw nm) 10 (0, 0) 613 [(2, 0), (2, v1), (2, v2), (0, v3)] [(0, w4)] L μ3 Q
  refine wa_aload_n 614 dL_law_613 rfl rfl ?_
  refine wa_callV 617 6 0 10 (av := []) (rest := [(0, w4)]) (k1 := (0, 0)) (k2 := (0, 0)) cvX10_divides dL_law_614 rfl wM_L_63 ⟨rfl, by decide, rfl, Nat.le_of_ble_eq_true rfl, by decide, Nat.le_of_ble_eq_true rfl, rfl, rfl⟩ rfl k2 (TR.mono h (fun r5 L6 μ7 h => ?_))
  obtain ⟨w8, rfl, rfl, h⟩ := h
  show WA (mLaw nm) 10 (0, 0) 617 [(2, 0), (2, v1), (2, v2), (0, v3)] [(0, w8), (0, w4)] L μ7 Q
  refine wa_icmp_eq 620 1335 dL_law_617 rfl (by decide) (fun q => ?_) (fun q => ?_)
  · replace h := h.1 q
    exact h
  · replace h := h.2 q
    refine wa_iconst 621 dL_law_620 rfl (by decide) ?_
    exact wa_zret dL_law_621 rfl (Or.inl rfl) h
set_option maxRecDepth 20000 in
theorem s_L_law_622 {nm : String} (hL : LayOK L) {v1 v2 v3 : Int} (k1 : isK L v1 (9, 0)) (k2 : isK L v2 (10, 0)) (h : TR mX9_prints 4 (0, 0) [(2, v1)] L μ (fun r1 L2 μ3 => ∃ w4, r1 = some (0, w4) ∧ L = L2 ∧ TR mX10_prints_ 3 (0, 0) [(2, v2)] L μ3 (fun r5 L6 μ7 => ∃ w8, r5 = some (0, w8) ∧ L = L6 ∧ (w4 = w8 → WA (mLaw nm) 10 (0, 0) 1335 [(2, 0), (2, v1), (2, v2), (0, v3)] [] L μ7 Q) ∧ (¬ w4 = w8 → Q (some (0, 0)) L μ7)))) : WA (mLaw nm) 10 (0, 0) 622 [(2, 0), (2, v1), (2, v2), (0, v3)] [] L μ Q := by
  refine wa_aload_n 623 dL_law_622 rfl rfl ?_
  refine wa_callV 626 4 0 9 (av := []) (rest := []) (k1 := (0, 0)) (k2 := (0, 0)) cvX9_prints dL_law_623 rfl wM_L_64 ⟨rfl, by decide, rfl, Nat.le_of_ble_eq_true rfl, by decide, Nat.le_of_ble_eq_true rfl, rfl, rfl⟩ rfl k1 (TR.mono h (fun r1 L2 μ3 h => ?_))
  obtain ⟨w4, rfl, rfl, h⟩ := h
  show WA (mLaw nm) 10 (0, 0) 626 [(2, 0), (2, v1), (2, v2), (0, v3)] [(0, w4)] L μ3 Q
  refine wa_aload_n 627 dL_law_626 rfl rfl ?_
  refine wa_callV 630 3 0 10 (av := []) (rest := [(0, w4)]) (k1 := (0, 0)) (k2 := (0, 0)) cvX10_prints_ dL_law_627 rfl wM_L_67 ⟨rfl, by decide, rfl, Nat.le_of_ble_eq_true rfl, by decide, Nat.le_of_ble_eq_true rfl, rfl, rfl⟩ rfl k2 (TR.mono h (fun r5 L6 μ7 h => ?_))
  obtain ⟨w8, rfl, rfl, h⟩ := h
  show WA (mLaw nm) 10 (0, 0) 630 [(2, 0), (2, v1), (2, v2), (0, v3)] [(0, w8), (0, w4)] L μ7 Q
  refine wa_icmp_eq 633 1335 dL_law_630 rfl (by decide) (fun q => ?_) (fun q => ?_)
  · replace h := h.1 q
    exact h
  · replace h := h.2 q
    refine wa_iconst 634 dL_law_633 rfl (by decide) ?_
    exact wa_zret dL_law_634 rfl (Or.inl rfl) h
set_option maxRecDepth 20000 in
theorem s_L_law_635 {nm : String} (hL : LayOK L) {v1 v2 v3 : Int} (k1 : isK L v1 (9, 0)) (k2 : isK L v2 (10, 0)) (h : (inI (v3 + 1)) ∧ (okS L ((v3 + 1))) ∧ TR mX9_paper 0 (0, 0) [(2, v1), (0, (μ 0 ((v3 + 1))))] L μ (fun r3 L4 μ5 => ∃ w6, r3 = some (0, w6) ∧ L = L4 ∧ TR mX10_paper 0 (0, 0) [(2, v2), (0, (μ5 0 ((v3 + 1))))] L μ5 (fun r7 L8 μ9 => ∃ w10, r7 = some (0, w10) ∧ L = L8 ∧ (w6 = w10 → WA (mLaw nm) 10 (0, 0) 1335 [(2, 0), (2, v1), (2, v2), (0, v3)] [] L μ9 Q) ∧ (¬ w6 = w10 → Q (some (0, 0)) L μ9)))) : WA (mLaw nm) 10 (0, 0) 635 [(2, 0), (2, v1), (2, v2), (0, v3)] [] L μ Q := by
  refine wa_aload_n 636 dL_law_635 rfl rfl ?_
  refine wa_aload_n 637 dL_law_636 rfl rfl ?_
  refine wa_iload_n 638 dL_law_637 rfl rfl ?_
  refine wa_iconst 639 dL_law_638 rfl (by decide) ?_
  obtain ⟨c1, h⟩ := h
  refine wa_iadd 640 dL_law_639 rfl c1 ?_
  obtain ⟨c2, h⟩ := h
  refine wa_sload 641 dL_law_640 rfl c2 ?_
  refine wa_callV 644 0 1 9 (av := [(0, (μ 0 ((v3 + 1))))]) (rest := []) (k1 := (0, 0)) (k2 := (0, 0)) cvX9_paper dL_law_641 rfl wM_L_68 ⟨rfl, by decide, rfl, Nat.le_of_ble_eq_true rfl, by decide, Nat.le_of_ble_eq_true rfl, rfl, rfl⟩ rfl k1 (TR.mono h (fun r3 L4 μ5 h => ?_))
  obtain ⟨w6, rfl, rfl, h⟩ := h
  show WA (mLaw nm) 10 (0, 0) 644 [(2, 0), (2, v1), (2, v2), (0, v3)] [(0, w6)] L μ5 Q
  refine wa_aload_n 645 dL_law_644 rfl rfl ?_
  refine wa_aload_n 646 dL_law_645 rfl rfl ?_
  refine wa_iload_n 647 dL_law_646 rfl rfl ?_
  refine wa_iconst 648 dL_law_647 rfl (by decide) ?_
  refine wa_iadd 649 dL_law_648 rfl c1 ?_
  refine wa_sload 650 dL_law_649 rfl c2 ?_
  refine wa_callV 653 0 1 10 (av := [(0, (μ5 0 ((v3 + 1))))]) (rest := [(0, w6)]) (k1 := (0, 0)) (k2 := (0, 0)) cvX10_paper dL_law_650 rfl wM_L_71 ⟨rfl, by decide, rfl, Nat.le_of_ble_eq_true rfl, by decide, Nat.le_of_ble_eq_true rfl, rfl, rfl⟩ rfl k2 (TR.mono h (fun r7 L8 μ9 h => ?_))
  obtain ⟨w10, rfl, rfl, h⟩ := h
  show WA (mLaw nm) 10 (0, 0) 653 [(2, 0), (2, v1), (2, v2), (0, v3)] [(0, w10), (0, w6)] L μ9 Q
  refine wa_icmp_eq 656 1335 dL_law_653 rfl (by decide) (fun q => ?_) (fun q => ?_)
  · replace h := h.1 q
    exact h
  · replace h := h.2 q
    refine wa_iconst 657 dL_law_656 rfl (by decide) ?_
    exact wa_zret dL_law_657 rfl (Or.inl rfl) h
set_option maxRecDepth 20000 in
theorem s_L_law_658 {nm : String} (hL : LayOK L) {v1 v2 v3 : Int} (k1 : isK L v1 (9, 0)) (k2 : isK L v2 (10, 0)) (h : (inI (v3 + 1)) ∧ (okS L ((v3 + 1))) ∧ (inI (v3 + 2)) ∧ (okS L ((v3 + 2))) ∧ TR mX9_shares 7 (0, 0) [(2, v1), (0, (μ 0 ((v3 + 1)))), (0, (μ 0 ((v3 + 2))))] L μ (fun r5 L6 μ7 => ∃ w8, r5 = some (0, w8) ∧ L = L6 ∧ TR mX10_shares 8 (0, 0) [(2, v2), (0, (μ7 0 ((v3 + 1)))), (0, (μ7 0 ((v3 + 2))))] L μ7 (fun r9 L10 μ11 => ∃ w12, r9 = some (0, w12) ∧ L = L10 ∧ (w8 = w12 → WA (mLaw nm) 10 (0, 0) 1335 [(2, 0), (2, v1), (2, v2), (0, v3)] [] L μ11 Q) ∧ (¬ w8 = w12 → Q (some (0, 0)) L μ11)))) : WA (mLaw nm) 10 (0, 0) 658 [(2, 0), (2, v1), (2, v2), (0, v3)] [] L μ Q := by
  refine wa_aload_n 659 dL_law_658 rfl rfl ?_
  refine wa_aload_n 660 dL_law_659 rfl rfl ?_
  refine wa_iload_n 661 dL_law_660 rfl rfl ?_
  refine wa_iconst 662 dL_law_661 rfl (by decide) ?_
  obtain ⟨c1, h⟩ := h
  refine wa_iadd 663 dL_law_662 rfl c1 ?_
  obtain ⟨c2, h⟩ := h
  refine wa_sload 664 dL_law_663 rfl c2 ?_
  refine wa_aload_n 665 dL_law_664 rfl rfl ?_
  refine wa_iload_n 666 dL_law_665 rfl rfl ?_
  refine wa_iconst 667 dL_law_666 rfl (by decide) ?_
  obtain ⟨c3, h⟩ := h
  refine wa_iadd 668 dL_law_667 rfl c3 ?_
  obtain ⟨c4, h⟩ := h
  refine wa_sload 669 dL_law_668 rfl c4 ?_
  refine wa_callV 672 7 2 9 (av := [(0, (μ 0 ((v3 + 1)))), (0, (μ 0 ((v3 + 2))))]) (rest := []) (k1 := (0, 0)) (k2 := (0, 0)) cvX9_shares dL_law_669 rfl wM_L_72 ⟨rfl, by decide, rfl, Nat.le_of_ble_eq_true rfl, by decide, Nat.le_of_ble_eq_true rfl, rfl, rfl⟩ rfl k1 (TR.mono h (fun r5 L6 μ7 h => ?_))
  obtain ⟨w8, rfl, rfl, h⟩ := h
  show WA (mLaw nm) 10 (0, 0) 672 [(2, 0), (2, v1), (2, v2), (0, v3)] [(0, w8)] L μ7 Q
  refine wa_aload_n 673 dL_law_672 rfl rfl ?_
  refine wa_aload_n 674 dL_law_673 rfl rfl ?_
  refine wa_iload_n 675 dL_law_674 rfl rfl ?_
  refine wa_iconst 676 dL_law_675 rfl (by decide) ?_
  refine wa_iadd 677 dL_law_676 rfl c1 ?_
  refine wa_sload 678 dL_law_677 rfl c2 ?_
  refine wa_aload_n 679 dL_law_678 rfl rfl ?_
  refine wa_iload_n 680 dL_law_679 rfl rfl ?_
  refine wa_iconst 681 dL_law_680 rfl (by decide) ?_
  refine wa_iadd 682 dL_law_681 rfl c3 ?_
  refine wa_sload 683 dL_law_682 rfl c4 ?_
  refine wa_callV 686 8 2 10 (av := [(0, (μ7 0 ((v3 + 1)))), (0, (μ7 0 ((v3 + 2))))]) (rest := [(0, w8)]) (k1 := (0, 0)) (k2 := (0, 0)) cvX10_shares dL_law_683 rfl wM_L_75 ⟨rfl, by decide, rfl, Nat.le_of_ble_eq_true rfl, by decide, Nat.le_of_ble_eq_true rfl, rfl, rfl⟩ rfl k2 (TR.mono h (fun r9 L10 μ11 h => ?_))
  obtain ⟨w12, rfl, rfl, h⟩ := h
  show WA (mLaw nm) 10 (0, 0) 686 [(2, 0), (2, v1), (2, v2), (0, v3)] [(0, w12), (0, w8)] L μ11 Q
  refine wa_icmp_eq 689 1335 dL_law_686 rfl (by decide) (fun q => ?_) (fun q => ?_)
  · replace h := h.1 q
    exact h
  · replace h := h.2 q
    refine wa_iconst 690 dL_law_689 rfl (by decide) ?_
    exact wa_zret dL_law_690 rfl (Or.inl rfl) h
set_option maxRecDepth 20000 in
theorem s_L_law_691 {nm : String} (hL : LayOK L) {v1 v2 v3 : Int} (k1 : isK L v1 (9, 0)) (k2 : isK L v2 (10, 0)) (h : (inI (v3 + 1)) ∧ (okS L ((v3 + 1))) ∧ (inI (v3 + 2)) ∧ (okS L ((v3 + 2))) ∧ TR mX9_event 3 (0, 0) [(2, v1), (0, (μ 0 ((v3 + 1)))), (0, (μ 0 ((v3 + 2))))] L μ (fun r5 L6 μ7 => ∃ w8, r5 = some (1, w8) ∧ L = L6 ∧ TR mX10_event 1 (0, 0) [(2, v2), (0, (μ7 0 ((v3 + 1)))), (0, (μ7 0 ((v3 + 2))))] L μ7 (fun r9 L10 μ11 => ∃ w12, r9 = some (1, w12) ∧ L = L10 ∧ (w8 = w12 → WA (mLaw nm) 10 (0, 0) 1335 [(2, 0), (2, v1), (2, v2), (0, v3)] [] L μ11 Q) ∧ (¬ w8 = w12 → Q (some (0, 0)) L μ11)))) : WA (mLaw nm) 10 (0, 0) 691 [(2, 0), (2, v1), (2, v2), (0, v3)] [] L μ Q := by
  refine wa_aload_n 692 dL_law_691 rfl rfl ?_
  refine wa_aload_n 693 dL_law_692 rfl rfl ?_
  refine wa_iload_n 694 dL_law_693 rfl rfl ?_
  refine wa_iconst 695 dL_law_694 rfl (by decide) ?_
  obtain ⟨c1, h⟩ := h
  refine wa_iadd 696 dL_law_695 rfl c1 ?_
  obtain ⟨c2, h⟩ := h
  refine wa_sload 697 dL_law_696 rfl c2 ?_
  refine wa_aload_n 698 dL_law_697 rfl rfl ?_
  refine wa_iload_n 699 dL_law_698 rfl rfl ?_
  refine wa_iconst 700 dL_law_699 rfl (by decide) ?_
  obtain ⟨c3, h⟩ := h
  refine wa_iadd 701 dL_law_700 rfl c3 ?_
  obtain ⟨c4, h⟩ := h
  refine wa_sload 702 dL_law_701 rfl c4 ?_
  refine wa_callV 705 3 2 9 (av := [(0, (μ 0 ((v3 + 1)))), (0, (μ 0 ((v3 + 2))))]) (rest := []) (k1 := (0, 0)) (k2 := (0, 0)) cvX9_event dL_law_702 rfl wM_L_76 ⟨rfl, by decide, rfl, Nat.le_of_ble_eq_true rfl, by decide, Nat.le_of_ble_eq_true rfl, rfl, rfl⟩ rfl k1 (TR.mono h (fun r5 L6 μ7 h => ?_))
  obtain ⟨w8, rfl, rfl, h⟩ := h
  show WA (mLaw nm) 10 (0, 0) 705 [(2, 0), (2, v1), (2, v2), (0, v3)] [(1, w8)] L μ7 Q
  refine wa_aload_n 706 dL_law_705 rfl rfl ?_
  refine wa_aload_n 707 dL_law_706 rfl rfl ?_
  refine wa_iload_n 708 dL_law_707 rfl rfl ?_
  refine wa_iconst 709 dL_law_708 rfl (by decide) ?_
  refine wa_iadd 710 dL_law_709 rfl c1 ?_
  refine wa_sload 711 dL_law_710 rfl c2 ?_
  refine wa_aload_n 712 dL_law_711 rfl rfl ?_
  refine wa_iload_n 713 dL_law_712 rfl rfl ?_
  refine wa_iconst 714 dL_law_713 rfl (by decide) ?_
  refine wa_iadd 715 dL_law_714 rfl c3 ?_
  refine wa_sload 716 dL_law_715 rfl c4 ?_
  refine wa_callV 719 1 2 10 (av := [(0, (μ7 0 ((v3 + 1)))), (0, (μ7 0 ((v3 + 2))))]) (rest := [(1, w8)]) (k1 := (0, 0)) (k2 := (0, 0)) cvX10_event dL_law_716 rfl wM_L_80 ⟨rfl, by decide, rfl, Nat.le_of_ble_eq_true rfl, by decide, Nat.le_of_ble_eq_true rfl, rfl, rfl⟩ rfl k2 (TR.mono h (fun r9 L10 μ11 h => ?_))
  obtain ⟨w12, rfl, rfl, h⟩ := h
  show WA (mLaw nm) 10 (0, 0) 719 [(2, 0), (2, v1), (2, v2), (0, v3)] [(1, w12), (1, w8)] L μ11 Q
  refine wa_lc_eq 723 1335 dL_law_719 dL_law_720 rfl (by decide) (fun q => ?_) (fun q => ?_)
  · replace h := h.1 q
    exact h
  · replace h := h.2 q
    refine wa_iconst 724 dL_law_723 rfl (by decide) ?_
    exact wa_zret dL_law_724 rfl (Or.inl rfl) h
set_option maxRecDepth 20000 in
theorem s_L_law_725 {nm : String} (hL : LayOK L) {v1 v2 v3 : Int} (k1 : isK L v1 (9, 0)) (k2 : isK L v2 (10, 0)) (h : (inI (v3 + 1)) ∧ (okS L ((v3 + 1))) ∧ (inI (v3 + 2)) ∧ (okS L ((v3 + 2))) ∧ (inI (v3 + 3)) ∧ (okS L ((v3 + 3))) ∧ TR mX9_share 2 (0, 0) [(2, v1), (0, (μ 0 ((v3 + 1)))), (0, (μ 0 ((v3 + 2)))), (0, (μ 0 ((v3 + 3))))] L μ (fun r7 L8 μ9 => ∃ w10, r7 = some (1, w10) ∧ L = L8 ∧ TR mX10_share 2 (0, 0) [(2, v2), (0, (μ9 0 ((v3 + 1)))), (0, (μ9 0 ((v3 + 2)))), (0, (μ9 0 ((v3 + 3))))] L μ9 (fun r11 L12 μ13 => ∃ w14, r11 = some (1, w14) ∧ L = L12 ∧ (w10 = w14 → WA (mLaw nm) 10 (0, 0) 1335 [(2, 0), (2, v1), (2, v2), (0, v3)] [] L μ13 Q) ∧ (¬ w10 = w14 → Q (some (0, 0)) L μ13)))) : WA (mLaw nm) 10 (0, 0) 725 [(2, 0), (2, v1), (2, v2), (0, v3)] [] L μ Q := by
  refine wa_aload_n 726 dL_law_725 rfl rfl ?_
  refine wa_aload_n 727 dL_law_726 rfl rfl ?_
  refine wa_iload_n 728 dL_law_727 rfl rfl ?_
  refine wa_iconst 729 dL_law_728 rfl (by decide) ?_
  obtain ⟨c1, h⟩ := h
  refine wa_iadd 730 dL_law_729 rfl c1 ?_
  obtain ⟨c2, h⟩ := h
  refine wa_sload 731 dL_law_730 rfl c2 ?_
  refine wa_aload_n 732 dL_law_731 rfl rfl ?_
  refine wa_iload_n 733 dL_law_732 rfl rfl ?_
  refine wa_iconst 734 dL_law_733 rfl (by decide) ?_
  obtain ⟨c3, h⟩ := h
  refine wa_iadd 735 dL_law_734 rfl c3 ?_
  obtain ⟨c4, h⟩ := h
  refine wa_sload 736 dL_law_735 rfl c4 ?_
  refine wa_aload_n 737 dL_law_736 rfl rfl ?_
  refine wa_iload_n 738 dL_law_737 rfl rfl ?_
  refine wa_iconst 739 dL_law_738 rfl (by decide) ?_
  obtain ⟨c5, h⟩ := h
  refine wa_iadd 740 dL_law_739 rfl c5 ?_
  obtain ⟨c6, h⟩ := h
  refine wa_sload 741 dL_law_740 rfl c6 ?_
  refine wa_callV 744 2 3 9 (av := [(0, (μ 0 ((v3 + 1)))), (0, (μ 0 ((v3 + 2)))), (0, (μ 0 ((v3 + 3))))]) (rest := []) (k1 := (0, 0)) (k2 := (0, 0)) cvX9_share dL_law_741 rfl wM_L_81 ⟨rfl, by decide, rfl, Nat.le_of_ble_eq_true rfl, by decide, Nat.le_of_ble_eq_true rfl, rfl, rfl⟩ rfl k1 (TR.mono h (fun r7 L8 μ9 h => ?_))
  obtain ⟨w10, rfl, rfl, h⟩ := h
  show WA (mLaw nm) 10 (0, 0) 744 [(2, 0), (2, v1), (2, v2), (0, v3)] [(1, w10)] L μ9 Q
  refine wa_aload_n 745 dL_law_744 rfl rfl ?_
  refine wa_aload_n 746 dL_law_745 rfl rfl ?_
  refine wa_iload_n 747 dL_law_746 rfl rfl ?_
  refine wa_iconst 748 dL_law_747 rfl (by decide) ?_
  refine wa_iadd 749 dL_law_748 rfl c1 ?_
  refine wa_sload 750 dL_law_749 rfl c2 ?_
  refine wa_aload_n 751 dL_law_750 rfl rfl ?_
  refine wa_iload_n 752 dL_law_751 rfl rfl ?_
  refine wa_iconst 753 dL_law_752 rfl (by decide) ?_
  refine wa_iadd 754 dL_law_753 rfl c3 ?_
  refine wa_sload 755 dL_law_754 rfl c4 ?_
  refine wa_aload_n 756 dL_law_755 rfl rfl ?_
  refine wa_iload_n 757 dL_law_756 rfl rfl ?_
  refine wa_iconst 758 dL_law_757 rfl (by decide) ?_
  refine wa_iadd 759 dL_law_758 rfl c5 ?_
  refine wa_sload 760 dL_law_759 rfl c6 ?_
  refine wa_callV 763 2 3 10 (av := [(0, (μ9 0 ((v3 + 1)))), (0, (μ9 0 ((v3 + 2)))), (0, (μ9 0 ((v3 + 3))))]) (rest := [(1, w10)]) (k1 := (0, 0)) (k2 := (0, 0)) cvX10_share dL_law_760 rfl wM_L_84 ⟨rfl, by decide, rfl, Nat.le_of_ble_eq_true rfl, by decide, Nat.le_of_ble_eq_true rfl, rfl, rfl⟩ rfl k2 (TR.mono h (fun r11 L12 μ13 h => ?_))
  obtain ⟨w14, rfl, rfl, h⟩ := h
  show WA (mLaw nm) 10 (0, 0) 763 [(2, 0), (2, v1), (2, v2), (0, v3)] [(1, w14), (1, w10)] L μ13 Q
  refine wa_lc_eq 767 1335 dL_law_763 dL_law_764 rfl (by decide) (fun q => ?_) (fun q => ?_)
  · replace h := h.1 q
    exact h
  · replace h := h.2 q
    refine wa_iconst 768 dL_law_767 rfl (by decide) ?_
    exact wa_zret dL_law_768 rfl (Or.inl rfl) h
set_option maxRecDepth 20000 in
theorem s_L_law_769 {nm : String} (hL : LayOK L) {v1 v2 v3 : Int} (k1 : isK L v1 (9, 0)) (k2 : isK L v2 (10, 0)) (h : (inI (v3 + 1)) ∧ (okS L ((v3 + 1))) ∧ (inI (v3 + 2)) ∧ (okS L ((v3 + 2))) ∧ (inI (v3 + 3)) ∧ (okS L ((v3 + 3))) ∧ (inI (v3 + 4)) ∧ (okS L ((v3 + 4))) ∧ TR mX9_gets 4 (0, 0) [(2, v1), (0, (μ 0 ((v3 + 1)))), (0, (μ 0 ((v3 + 2)))), (0, (μ 0 ((v3 + 3)))), (0, (μ 0 ((v3 + 4))))] L μ (fun r9 L10 μ11 => ∃ w12, r9 = some (1, w12) ∧ L = L10 ∧ TR mX10_gets 5 (0, 0) [(2, v2), (0, (μ11 0 ((v3 + 1)))), (0, (μ11 0 ((v3 + 2)))), (0, (μ11 0 ((v3 + 3)))), (0, (μ11 0 ((v3 + 4))))] L μ11 (fun r13 L14 μ15 => ∃ w16, r13 = some (1, w16) ∧ L = L14 ∧ (w12 = w16 → WA (mLaw nm) 10 (0, 0) 1335 [(2, 0), (2, v1), (2, v2), (0, v3)] [] L μ15 Q) ∧ (¬ w12 = w16 → Q (some (0, 0)) L μ15)))) : WA (mLaw nm) 10 (0, 0) 769 [(2, 0), (2, v1), (2, v2), (0, v3)] [] L μ Q := by
  refine wa_aload_n 770 dL_law_769 rfl rfl ?_
  refine wa_aload_n 771 dL_law_770 rfl rfl ?_
  refine wa_iload_n 772 dL_law_771 rfl rfl ?_
  refine wa_iconst 773 dL_law_772 rfl (by decide) ?_
  obtain ⟨c1, h⟩ := h
  refine wa_iadd 774 dL_law_773 rfl c1 ?_
  obtain ⟨c2, h⟩ := h
  refine wa_sload 775 dL_law_774 rfl c2 ?_
  refine wa_aload_n 776 dL_law_775 rfl rfl ?_
  refine wa_iload_n 777 dL_law_776 rfl rfl ?_
  refine wa_iconst 778 dL_law_777 rfl (by decide) ?_
  obtain ⟨c3, h⟩ := h
  refine wa_iadd 779 dL_law_778 rfl c3 ?_
  obtain ⟨c4, h⟩ := h
  refine wa_sload 780 dL_law_779 rfl c4 ?_
  refine wa_aload_n 781 dL_law_780 rfl rfl ?_
  refine wa_iload_n 782 dL_law_781 rfl rfl ?_
  refine wa_iconst 783 dL_law_782 rfl (by decide) ?_
  obtain ⟨c5, h⟩ := h
  refine wa_iadd 784 dL_law_783 rfl c5 ?_
  obtain ⟨c6, h⟩ := h
  refine wa_sload 785 dL_law_784 rfl c6 ?_
  refine wa_aload_n 786 dL_law_785 rfl rfl ?_
  refine wa_iload_n 787 dL_law_786 rfl rfl ?_
  refine wa_iconst 788 dL_law_787 rfl (by decide) ?_
  obtain ⟨c7, h⟩ := h
  refine wa_iadd 789 dL_law_788 rfl c7 ?_
  obtain ⟨c8, h⟩ := h
  refine wa_sload 790 dL_law_789 rfl c8 ?_
  refine wa_callV 793 4 4 9 (av := [(0, (μ 0 ((v3 + 1)))), (0, (μ 0 ((v3 + 2)))), (0, (μ 0 ((v3 + 3)))), (0, (μ 0 ((v3 + 4))))]) (rest := []) (k1 := (0, 0)) (k2 := (0, 0)) cvX9_gets dL_law_790 rfl wM_L_85 ⟨rfl, by decide, rfl, Nat.le_of_ble_eq_true rfl, by decide, Nat.le_of_ble_eq_true rfl, rfl, rfl⟩ rfl k1 (TR.mono h (fun r9 L10 μ11 h => ?_))
  obtain ⟨w12, rfl, rfl, h⟩ := h
  show WA (mLaw nm) 10 (0, 0) 793 [(2, 0), (2, v1), (2, v2), (0, v3)] [(1, w12)] L μ11 Q
  refine wa_aload_n 794 dL_law_793 rfl rfl ?_
  refine wa_aload_n 795 dL_law_794 rfl rfl ?_
  refine wa_iload_n 796 dL_law_795 rfl rfl ?_
  refine wa_iconst 797 dL_law_796 rfl (by decide) ?_
  refine wa_iadd 798 dL_law_797 rfl c1 ?_
  refine wa_sload 799 dL_law_798 rfl c2 ?_
  refine wa_aload_n 800 dL_law_799 rfl rfl ?_
  refine wa_iload_n 801 dL_law_800 rfl rfl ?_
  refine wa_iconst 802 dL_law_801 rfl (by decide) ?_
  refine wa_iadd 803 dL_law_802 rfl c3 ?_
  refine wa_sload 804 dL_law_803 rfl c4 ?_
  refine wa_aload_n 805 dL_law_804 rfl rfl ?_
  refine wa_iload_n 806 dL_law_805 rfl rfl ?_
  refine wa_iconst 807 dL_law_806 rfl (by decide) ?_
  refine wa_iadd 808 dL_law_807 rfl c5 ?_
  refine wa_sload 809 dL_law_808 rfl c6 ?_
  refine wa_aload_n 810 dL_law_809 rfl rfl ?_
  refine wa_iload_n 811 dL_law_810 rfl rfl ?_
  refine wa_iconst 812 dL_law_811 rfl (by decide) ?_
  refine wa_iadd 813 dL_law_812 rfl c7 ?_
  refine wa_sload 814 dL_law_813 rfl c8 ?_
  refine wa_callV 817 5 4 10 (av := [(0, (μ11 0 ((v3 + 1)))), (0, (μ11 0 ((v3 + 2)))), (0, (μ11 0 ((v3 + 3)))), (0, (μ11 0 ((v3 + 4))))]) (rest := [(1, w12)]) (k1 := (0, 0)) (k2 := (0, 0)) cvX10_gets dL_law_814 rfl wM_L_89 ⟨rfl, by decide, rfl, Nat.le_of_ble_eq_true rfl, by decide, Nat.le_of_ble_eq_true rfl, rfl, rfl⟩ rfl k2 (TR.mono h (fun r13 L14 μ15 h => ?_))
  obtain ⟨w16, rfl, rfl, h⟩ := h
  show WA (mLaw nm) 10 (0, 0) 817 [(2, 0), (2, v1), (2, v2), (0, v3)] [(1, w16), (1, w12)] L μ15 Q
  refine wa_lc_eq 821 1335 dL_law_817 dL_law_818 rfl (by decide) (fun q => ?_) (fun q => ?_)
  · replace h := h.1 q
    exact h
  · replace h := h.2 q
    refine wa_iconst 822 dL_law_821 rfl (by decide) ?_
    exact wa_zret dL_law_822 rfl (Or.inl rfl) h
set_option maxRecDepth 20000 in
theorem s_L_law_823 {nm : String} (hL : LayOK L) {v1 v2 v3 : Int} (k1 : isK L v1 (9, 0)) (k2 : isK L v2 (10, 0)) (h : (inI (v3 + 1)) ∧ (okS L ((v3 + 1))) ∧ (inI (v3 + 2)) ∧ (okS L ((v3 + 2))) ∧ TR mX9_envies 4 (0, 0) [(2, v1), (0, (μ 0 ((v3 + 1)))), (0, (μ 0 ((v3 + 2))))] L μ (fun r5 L6 μ7 => ∃ w8, r5 = some (0, w8) ∧ L = L6 ∧ TR mX10_envies 5 (0, 0) [(2, v2), (0, (μ7 0 ((v3 + 1)))), (0, (μ7 0 ((v3 + 2))))] L μ7 (fun r9 L10 μ11 => ∃ w12, r9 = some (0, w12) ∧ L = L10 ∧ (w8 = w12 → WA (mLaw nm) 10 (0, 0) 1335 [(2, 0), (2, v1), (2, v2), (0, v3)] [] L μ11 Q) ∧ (¬ w8 = w12 → Q (some (0, 0)) L μ11)))) : WA (mLaw nm) 10 (0, 0) 823 [(2, 0), (2, v1), (2, v2), (0, v3)] [] L μ Q := by
  refine wa_aload_n 824 dL_law_823 rfl rfl ?_
  refine wa_aload_n 825 dL_law_824 rfl rfl ?_
  refine wa_iload_n 826 dL_law_825 rfl rfl ?_
  refine wa_iconst 827 dL_law_826 rfl (by decide) ?_
  obtain ⟨c1, h⟩ := h
  refine wa_iadd 828 dL_law_827 rfl c1 ?_
  obtain ⟨c2, h⟩ := h
  refine wa_sload 829 dL_law_828 rfl c2 ?_
  refine wa_aload_n 830 dL_law_829 rfl rfl ?_
  refine wa_iload_n 831 dL_law_830 rfl rfl ?_
  refine wa_iconst 832 dL_law_831 rfl (by decide) ?_
  obtain ⟨c3, h⟩ := h
  refine wa_iadd 833 dL_law_832 rfl c3 ?_
  obtain ⟨c4, h⟩ := h
  refine wa_sload 834 dL_law_833 rfl c4 ?_
  refine wa_callV 837 4 2 9 (av := [(0, (μ 0 ((v3 + 1)))), (0, (μ 0 ((v3 + 2))))]) (rest := []) (k1 := (0, 0)) (k2 := (0, 0)) cvX9_envies dL_law_834 rfl wM_L_90 ⟨rfl, by decide, rfl, Nat.le_of_ble_eq_true rfl, by decide, Nat.le_of_ble_eq_true rfl, rfl, rfl⟩ rfl k1 (TR.mono h (fun r5 L6 μ7 h => ?_))
  obtain ⟨w8, rfl, rfl, h⟩ := h
  show WA (mLaw nm) 10 (0, 0) 837 [(2, 0), (2, v1), (2, v2), (0, v3)] [(0, w8)] L μ7 Q
  refine wa_aload_n 838 dL_law_837 rfl rfl ?_
  refine wa_aload_n 839 dL_law_838 rfl rfl ?_
  refine wa_iload_n 840 dL_law_839 rfl rfl ?_
  refine wa_iconst 841 dL_law_840 rfl (by decide) ?_
  refine wa_iadd 842 dL_law_841 rfl c1 ?_
  refine wa_sload 843 dL_law_842 rfl c2 ?_
  refine wa_aload_n 844 dL_law_843 rfl rfl ?_
  refine wa_iload_n 845 dL_law_844 rfl rfl ?_
  refine wa_iconst 846 dL_law_845 rfl (by decide) ?_
  refine wa_iadd 847 dL_law_846 rfl c3 ?_
  refine wa_sload 848 dL_law_847 rfl c4 ?_
  refine wa_callV 851 5 2 10 (av := [(0, (μ7 0 ((v3 + 1)))), (0, (μ7 0 ((v3 + 2))))]) (rest := [(0, w8)]) (k1 := (0, 0)) (k2 := (0, 0)) cvX10_envies dL_law_848 rfl wM_L_93 ⟨rfl, by decide, rfl, Nat.le_of_ble_eq_true rfl, by decide, Nat.le_of_ble_eq_true rfl, rfl, rfl⟩ rfl k2 (TR.mono h (fun r9 L10 μ11 h => ?_))
  obtain ⟨w12, rfl, rfl, h⟩ := h
  show WA (mLaw nm) 10 (0, 0) 851 [(2, 0), (2, v1), (2, v2), (0, v3)] [(0, w12), (0, w8)] L μ11 Q
  refine wa_icmp_eq 854 1335 dL_law_851 rfl (by decide) (fun q => ?_) (fun q => ?_)
  · replace h := h.1 q
    exact h
  · replace h := h.2 q
    refine wa_iconst 855 dL_law_854 rfl (by decide) ?_
    exact wa_zret dL_law_855 rfl (Or.inl rfl) h
set_option maxRecDepth 20000 in
theorem s_L_law_856 {nm : String} (hL : LayOK L) {v1 v2 v3 : Int} (k1 : isK L v1 (9, 0)) (k2 : isK L v2 (10, 0)) (h : (inI (v3 + 1)) ∧ (okS L ((v3 + 1))) ∧ TR mX9_fair 4 (0, 0) [(2, v1), (0, (μ 0 ((v3 + 1))))] L μ (fun r3 L4 μ5 => ∃ w6, r3 = some (0, w6) ∧ L = L4 ∧ TR mX10_fair 5 (0, 0) [(2, v2), (0, (μ5 0 ((v3 + 1))))] L μ5 (fun r7 L8 μ9 => ∃ w10, r7 = some (0, w10) ∧ L = L8 ∧ (w6 = w10 → WA (mLaw nm) 10 (0, 0) 1335 [(2, 0), (2, v1), (2, v2), (0, v3)] [] L μ9 Q) ∧ (¬ w6 = w10 → Q (some (0, 0)) L μ9)))) : WA (mLaw nm) 10 (0, 0) 856 [(2, 0), (2, v1), (2, v2), (0, v3)] [] L μ Q := by
  refine wa_aload_n 857 dL_law_856 rfl rfl ?_
  refine wa_aload_n 858 dL_law_857 rfl rfl ?_
  refine wa_iload_n 859 dL_law_858 rfl rfl ?_
  refine wa_iconst 860 dL_law_859 rfl (by decide) ?_
  obtain ⟨c1, h⟩ := h
  refine wa_iadd 861 dL_law_860 rfl c1 ?_
  obtain ⟨c2, h⟩ := h
  refine wa_sload 862 dL_law_861 rfl c2 ?_
  refine wa_callV 865 4 1 9 (av := [(0, (μ 0 ((v3 + 1))))]) (rest := []) (k1 := (0, 0)) (k2 := (0, 0)) cvX9_fair dL_law_862 rfl wM_L_94 ⟨rfl, by decide, rfl, Nat.le_of_ble_eq_true rfl, by decide, Nat.le_of_ble_eq_true rfl, rfl, rfl⟩ rfl k1 (TR.mono h (fun r3 L4 μ5 h => ?_))
  obtain ⟨w6, rfl, rfl, h⟩ := h
  show WA (mLaw nm) 10 (0, 0) 865 [(2, 0), (2, v1), (2, v2), (0, v3)] [(0, w6)] L μ5 Q
  refine wa_aload_n 866 dL_law_865 rfl rfl ?_
  refine wa_aload_n 867 dL_law_866 rfl rfl ?_
  refine wa_iload_n 868 dL_law_867 rfl rfl ?_
  refine wa_iconst 869 dL_law_868 rfl (by decide) ?_
  refine wa_iadd 870 dL_law_869 rfl c1 ?_
  refine wa_sload 871 dL_law_870 rfl c2 ?_
  refine wa_callV 874 5 1 10 (av := [(0, (μ5 0 ((v3 + 1))))]) (rest := [(0, w6)]) (k1 := (0, 0)) (k2 := (0, 0)) cvX10_fair dL_law_871 rfl wM_L_97 ⟨rfl, by decide, rfl, Nat.le_of_ble_eq_true rfl, by decide, Nat.le_of_ble_eq_true rfl, rfl, rfl⟩ rfl k2 (TR.mono h (fun r7 L8 μ9 h => ?_))
  obtain ⟨w10, rfl, rfl, h⟩ := h
  show WA (mLaw nm) 10 (0, 0) 874 [(2, 0), (2, v1), (2, v2), (0, v3)] [(0, w10), (0, w6)] L μ9 Q
  refine wa_icmp_eq 877 1335 dL_law_874 rfl (by decide) (fun q => ?_) (fun q => ?_)
  · replace h := h.1 q
    exact h
  · replace h := h.2 q
    refine wa_iconst 878 dL_law_877 rfl (by decide) ?_
    exact wa_zret dL_law_878 rfl (Or.inl rfl) h
set_option maxRecDepth 20000 in
theorem s_L_law_879 {nm : String} (hL : LayOK L) {v1 v2 v3 : Int} (k1 : isK L v1 (9, 0)) (k2 : isK L v2 (10, 0)) (h : TR mX9_exchange 5 (0, 0) [(2, v1)] L μ (fun r1 L2 μ3 => ∃ w4, r1 = some (0, w4) ∧ L = L2 ∧ TR mX10_exchange 5 (0, 0) [(2, v2)] L μ3 (fun r5 L6 μ7 => ∃ w8, r5 = some (0, w8) ∧ L = L6 ∧ (w4 = w8 → WA (mLaw nm) 10 (0, 0) 1335 [(2, 0), (2, v1), (2, v2), (0, v3)] [] L μ7 Q) ∧ (¬ w4 = w8 → Q (some (0, 0)) L μ7)))) : WA (mLaw nm) 10 (0, 0) 879 [(2, 0), (2, v1), (2, v2), (0, v3)] [] L μ Q := by
  refine wa_aload_n 880 dL_law_879 rfl rfl ?_
  refine wa_callV 883 5 0 9 (av := []) (rest := []) (k1 := (0, 0)) (k2 := (0, 0)) cvX9_exchange dL_law_880 rfl wM_L_98 ⟨rfl, by decide, rfl, Nat.le_of_ble_eq_true rfl, by decide, Nat.le_of_ble_eq_true rfl, rfl, rfl⟩ rfl k1 (TR.mono h (fun r1 L2 μ3 h => ?_))
  obtain ⟨w4, rfl, rfl, h⟩ := h
  show WA (mLaw nm) 10 (0, 0) 883 [(2, 0), (2, v1), (2, v2), (0, v3)] [(0, w4)] L μ3 Q
  refine wa_aload_n 884 dL_law_883 rfl rfl ?_
  refine wa_callV 887 5 0 10 (av := []) (rest := [(0, w4)]) (k1 := (0, 0)) (k2 := (0, 0)) cvX10_exchange dL_law_884 rfl wM_L_101 ⟨rfl, by decide, rfl, Nat.le_of_ble_eq_true rfl, by decide, Nat.le_of_ble_eq_true rfl, rfl, rfl⟩ rfl k2 (TR.mono h (fun r5 L6 μ7 h => ?_))
  obtain ⟨w8, rfl, rfl, h⟩ := h
  show WA (mLaw nm) 10 (0, 0) 887 [(2, 0), (2, v1), (2, v2), (0, v3)] [(0, w8), (0, w4)] L μ7 Q
  refine wa_icmp_eq 890 1335 dL_law_887 rfl (by decide) (fun q => ?_) (fun q => ?_)
  · replace h := h.1 q
    exact h
  · replace h := h.2 q
    refine wa_iconst 891 dL_law_890 rfl (by decide) ?_
    exact wa_zret dL_law_891 rfl (Or.inl rfl) h
set_option maxRecDepth 20000 in
theorem s_L_law_892 {nm : String} (hL : LayOK L) {v1 v2 v3 : Int} (k1 : isK L v1 (9, 0)) (k2 : isK L v2 (10, 0)) (h : TR mX9_cuts 4 (0, 0) [(2, v1)] L μ (fun r1 L2 μ3 => ∃ w4, r1 = some (0, w4) ∧ L = L2 ∧ TR mX10_cuts 1 (0, 0) [(2, v2)] L μ3 (fun r5 L6 μ7 => ∃ w8, r5 = some (0, w8) ∧ L = L6 ∧ (w4 = w8 → WA (mLaw nm) 10 (0, 0) 1335 [(2, 0), (2, v1), (2, v2), (0, v3)] [] L μ7 Q) ∧ (¬ w4 = w8 → Q (some (0, 0)) L μ7)))) : WA (mLaw nm) 10 (0, 0) 892 [(2, 0), (2, v1), (2, v2), (0, v3)] [] L μ Q := by
  refine wa_aload_n 893 dL_law_892 rfl rfl ?_
  refine wa_callV 896 4 0 9 (av := []) (rest := []) (k1 := (0, 0)) (k2 := (0, 0)) cvX9_cuts dL_law_893 rfl wM_L_102 ⟨rfl, by decide, rfl, Nat.le_of_ble_eq_true rfl, by decide, Nat.le_of_ble_eq_true rfl, rfl, rfl⟩ rfl k1 (TR.mono h (fun r1 L2 μ3 h => ?_))
  obtain ⟨w4, rfl, rfl, h⟩ := h
  show WA (mLaw nm) 10 (0, 0) 896 [(2, 0), (2, v1), (2, v2), (0, v3)] [(0, w4)] L μ3 Q
  refine wa_aload_n 897 dL_law_896 rfl rfl ?_
  refine wa_callV 900 1 0 10 (av := []) (rest := [(0, w4)]) (k1 := (0, 0)) (k2 := (0, 0)) cvX10_cuts dL_law_897 rfl wM_L_105 ⟨rfl, by decide, rfl, Nat.le_of_ble_eq_true rfl, by decide, Nat.le_of_ble_eq_true rfl, rfl, rfl⟩ rfl k2 (TR.mono h (fun r5 L6 μ7 h => ?_))
  obtain ⟨w8, rfl, rfl, h⟩ := h
  show WA (mLaw nm) 10 (0, 0) 900 [(2, 0), (2, v1), (2, v2), (0, v3)] [(0, w8), (0, w4)] L μ7 Q
  refine wa_icmp_eq 903 1335 dL_law_900 rfl (by decide) (fun q => ?_) (fun q => ?_)
  · replace h := h.1 q
    exact h
  · replace h := h.2 q
    refine wa_iconst 904 dL_law_903 rfl (by decide) ?_
    exact wa_zret dL_law_904 rfl (Or.inl rfl) h
set_option maxRecDepth 20000 in
theorem s_L_law_905 {nm : String} (hL : LayOK L) {v1 v2 v3 : Int} (k1 : isK L v1 (9, 0)) (k2 : isK L v2 (10, 0)) (h : (inI (v3 + 1)) ∧ (okS L ((v3 + 1))) ∧ (inI (v3 + 2)) ∧ (okS L ((v3 + 2))) ∧ (inI (v3 + 3)) ∧ (okS L ((v3 + 3))) ∧ TR mX9_off 5 (0, 0) [(2, v1), (0, (μ 0 ((v3 + 1)))), (0, (μ 0 ((v3 + 2)))), (0, (μ 0 ((v3 + 3))))] L μ (fun r7 L8 μ9 => ∃ w10, r7 = some (1, w10) ∧ L = L8 ∧ TR mX10_off 5 (0, 0) [(2, v2), (0, (μ9 0 ((v3 + 1)))), (0, (μ9 0 ((v3 + 2)))), (0, (μ9 0 ((v3 + 3))))] L μ9 (fun r11 L12 μ13 => ∃ w14, r11 = some (1, w14) ∧ L = L12 ∧ (w10 = w14 → WA (mLaw nm) 10 (0, 0) 1335 [(2, 0), (2, v1), (2, v2), (0, v3)] [] L μ13 Q) ∧ (¬ w10 = w14 → Q (some (0, 0)) L μ13)))) : WA (mLaw nm) 10 (0, 0) 905 [(2, 0), (2, v1), (2, v2), (0, v3)] [] L μ Q := by
  refine wa_aload_n 906 dL_law_905 rfl rfl ?_
  refine wa_aload_n 907 dL_law_906 rfl rfl ?_
  refine wa_iload_n 908 dL_law_907 rfl rfl ?_
  refine wa_iconst 909 dL_law_908 rfl (by decide) ?_
  obtain ⟨c1, h⟩ := h
  refine wa_iadd 910 dL_law_909 rfl c1 ?_
  obtain ⟨c2, h⟩ := h
  refine wa_sload 911 dL_law_910 rfl c2 ?_
  refine wa_aload_n 912 dL_law_911 rfl rfl ?_
  refine wa_iload_n 913 dL_law_912 rfl rfl ?_
  refine wa_iconst 914 dL_law_913 rfl (by decide) ?_
  obtain ⟨c3, h⟩ := h
  refine wa_iadd 915 dL_law_914 rfl c3 ?_
  obtain ⟨c4, h⟩ := h
  refine wa_sload 916 dL_law_915 rfl c4 ?_
  refine wa_aload_n 917 dL_law_916 rfl rfl ?_
  refine wa_iload_n 918 dL_law_917 rfl rfl ?_
  refine wa_iconst 919 dL_law_918 rfl (by decide) ?_
  obtain ⟨c5, h⟩ := h
  refine wa_iadd 920 dL_law_919 rfl c5 ?_
  obtain ⟨c6, h⟩ := h
  refine wa_sload 921 dL_law_920 rfl c6 ?_
  refine wa_callV 924 5 3 9 (av := [(0, (μ 0 ((v3 + 1)))), (0, (μ 0 ((v3 + 2)))), (0, (μ 0 ((v3 + 3))))]) (rest := []) (k1 := (0, 0)) (k2 := (0, 0)) cvX9_off dL_law_921 rfl wM_L_106 ⟨rfl, by decide, rfl, Nat.le_of_ble_eq_true rfl, by decide, Nat.le_of_ble_eq_true rfl, rfl, rfl⟩ rfl k1 (TR.mono h (fun r7 L8 μ9 h => ?_))
  obtain ⟨w10, rfl, rfl, h⟩ := h
  show WA (mLaw nm) 10 (0, 0) 924 [(2, 0), (2, v1), (2, v2), (0, v3)] [(1, w10)] L μ9 Q
  refine wa_aload_n 925 dL_law_924 rfl rfl ?_
  refine wa_aload_n 926 dL_law_925 rfl rfl ?_
  refine wa_iload_n 927 dL_law_926 rfl rfl ?_
  refine wa_iconst 928 dL_law_927 rfl (by decide) ?_
  refine wa_iadd 929 dL_law_928 rfl c1 ?_
  refine wa_sload 930 dL_law_929 rfl c2 ?_
  refine wa_aload_n 931 dL_law_930 rfl rfl ?_
  refine wa_iload_n 932 dL_law_931 rfl rfl ?_
  refine wa_iconst 933 dL_law_932 rfl (by decide) ?_
  refine wa_iadd 934 dL_law_933 rfl c3 ?_
  refine wa_sload 935 dL_law_934 rfl c4 ?_
  refine wa_aload_n 936 dL_law_935 rfl rfl ?_
  refine wa_iload_n 937 dL_law_936 rfl rfl ?_
  refine wa_iconst 938 dL_law_937 rfl (by decide) ?_
  refine wa_iadd 939 dL_law_938 rfl c5 ?_
  refine wa_sload 940 dL_law_939 rfl c6 ?_
  refine wa_callV 943 5 3 10 (av := [(0, (μ9 0 ((v3 + 1)))), (0, (μ9 0 ((v3 + 2)))), (0, (μ9 0 ((v3 + 3))))]) (rest := [(1, w10)]) (k1 := (0, 0)) (k2 := (0, 0)) cvX10_off dL_law_940 rfl wM_L_109 ⟨rfl, by decide, rfl, Nat.le_of_ble_eq_true rfl, by decide, Nat.le_of_ble_eq_true rfl, rfl, rfl⟩ rfl k2 (TR.mono h (fun r11 L12 μ13 h => ?_))
  obtain ⟨w14, rfl, rfl, h⟩ := h
  show WA (mLaw nm) 10 (0, 0) 943 [(2, 0), (2, v1), (2, v2), (0, v3)] [(1, w14), (1, w10)] L μ13 Q
  refine wa_lc_eq 947 1335 dL_law_943 dL_law_944 rfl (by decide) (fun q => ?_) (fun q => ?_)
  · replace h := h.1 q
    exact h
  · replace h := h.2 q
    refine wa_iconst 948 dL_law_947 rfl (by decide) ?_
    exact wa_zret dL_law_948 rfl (Or.inl rfl) h
set_option maxRecDepth 20000 in
theorem s_L_law_949 {nm : String} (hL : LayOK L) {v1 v2 v3 : Int} (k1 : isK L v1 (9, 0)) (k2 : isK L v2 (10, 0)) (h : (inI (v3 + 1)) ∧ (okS L ((v3 + 1))) ∧ (inI (v3 + 2)) ∧ (okS L ((v3 + 2))) ∧ (inI (v3 + 3)) ∧ (okS L ((v3 + 3))) ∧ (inI (v3 + 4)) ∧ (okS L ((v3 + 4))) ∧ TR mX9_would 7 (0, 0) [(2, v1), (0, (μ 0 ((v3 + 1)))), (0, (μ 0 ((v3 + 2)))), (0, (μ 0 ((v3 + 3)))), (0, (μ 0 ((v3 + 4))))] L μ (fun r9 L10 μ11 => ∃ w12, r9 = some (1, w12) ∧ L = L10 ∧ TR mX10_would 9 (0, 0) [(2, v2), (0, (μ11 0 ((v3 + 1)))), (0, (μ11 0 ((v3 + 2)))), (0, (μ11 0 ((v3 + 3)))), (0, (μ11 0 ((v3 + 4))))] L μ11 (fun r13 L14 μ15 => ∃ w16, r13 = some (1, w16) ∧ L = L14 ∧ (w12 = w16 → WA (mLaw nm) 10 (0, 0) 1335 [(2, 0), (2, v1), (2, v2), (0, v3)] [] L μ15 Q) ∧ (¬ w12 = w16 → Q (some (0, 0)) L μ15)))) : WA (mLaw nm) 10 (0, 0) 949 [(2, 0), (2, v1), (2, v2), (0, v3)] [] L μ Q := by
  refine wa_aload_n 950 dL_law_949 rfl rfl ?_
  refine wa_aload_n 951 dL_law_950 rfl rfl ?_
  refine wa_iload_n 952 dL_law_951 rfl rfl ?_
  refine wa_iconst 953 dL_law_952 rfl (by decide) ?_
  obtain ⟨c1, h⟩ := h
  refine wa_iadd 954 dL_law_953 rfl c1 ?_
  obtain ⟨c2, h⟩ := h
  refine wa_sload 955 dL_law_954 rfl c2 ?_
  refine wa_aload_n 956 dL_law_955 rfl rfl ?_
  refine wa_iload_n 957 dL_law_956 rfl rfl ?_
  refine wa_iconst 958 dL_law_957 rfl (by decide) ?_
  obtain ⟨c3, h⟩ := h
  refine wa_iadd 959 dL_law_958 rfl c3 ?_
  obtain ⟨c4, h⟩ := h
  refine wa_sload 960 dL_law_959 rfl c4 ?_
  refine wa_aload_n 961 dL_law_960 rfl rfl ?_
  refine wa_iload_n 962 dL_law_961 rfl rfl ?_
  refine wa_iconst 963 dL_law_962 rfl (by decide) ?_
  obtain ⟨c5, h⟩ := h
  refine wa_iadd 964 dL_law_963 rfl c5 ?_
  obtain ⟨c6, h⟩ := h
  refine wa_sload 965 dL_law_964 rfl c6 ?_
  refine wa_aload_n 966 dL_law_965 rfl rfl ?_
  refine wa_iload_n 967 dL_law_966 rfl rfl ?_
  refine wa_iconst 968 dL_law_967 rfl (by decide) ?_
  obtain ⟨c7, h⟩ := h
  refine wa_iadd 969 dL_law_968 rfl c7 ?_
  obtain ⟨c8, h⟩ := h
  refine wa_sload 970 dL_law_969 rfl c8 ?_
  refine wa_callV 973 7 4 9 (av := [(0, (μ 0 ((v3 + 1)))), (0, (μ 0 ((v3 + 2)))), (0, (μ 0 ((v3 + 3)))), (0, (μ 0 ((v3 + 4))))]) (rest := []) (k1 := (0, 0)) (k2 := (0, 0)) cvX9_would dL_law_970 rfl wM_L_110 ⟨rfl, by decide, rfl, Nat.le_of_ble_eq_true rfl, by decide, Nat.le_of_ble_eq_true rfl, rfl, rfl⟩ rfl k1 (TR.mono h (fun r9 L10 μ11 h => ?_))
  obtain ⟨w12, rfl, rfl, h⟩ := h
  show WA (mLaw nm) 10 (0, 0) 973 [(2, 0), (2, v1), (2, v2), (0, v3)] [(1, w12)] L μ11 Q
  refine wa_aload_n 974 dL_law_973 rfl rfl ?_
  refine wa_aload_n 975 dL_law_974 rfl rfl ?_
  refine wa_iload_n 976 dL_law_975 rfl rfl ?_
  refine wa_iconst 977 dL_law_976 rfl (by decide) ?_
  refine wa_iadd 978 dL_law_977 rfl c1 ?_
  refine wa_sload 979 dL_law_978 rfl c2 ?_
  refine wa_aload_n 980 dL_law_979 rfl rfl ?_
  refine wa_iload_n 981 dL_law_980 rfl rfl ?_
  refine wa_iconst 982 dL_law_981 rfl (by decide) ?_
  refine wa_iadd 983 dL_law_982 rfl c3 ?_
  refine wa_sload 984 dL_law_983 rfl c4 ?_
  refine wa_aload_n 985 dL_law_984 rfl rfl ?_
  refine wa_iload_n 986 dL_law_985 rfl rfl ?_
  refine wa_iconst 987 dL_law_986 rfl (by decide) ?_
  refine wa_iadd 988 dL_law_987 rfl c5 ?_
  refine wa_sload 989 dL_law_988 rfl c6 ?_
  refine wa_aload_n 990 dL_law_989 rfl rfl ?_
  refine wa_iload_n 991 dL_law_990 rfl rfl ?_
  refine wa_iconst 992 dL_law_991 rfl (by decide) ?_
  refine wa_iadd 993 dL_law_992 rfl c7 ?_
  refine wa_sload 994 dL_law_993 rfl c8 ?_
  refine wa_callV 997 9 4 10 (av := [(0, (μ11 0 ((v3 + 1)))), (0, (μ11 0 ((v3 + 2)))), (0, (μ11 0 ((v3 + 3)))), (0, (μ11 0 ((v3 + 4))))]) (rest := [(1, w12)]) (k1 := (0, 0)) (k2 := (0, 0)) cvX10_would dL_law_994 rfl wM_L_113 ⟨rfl, by decide, rfl, Nat.le_of_ble_eq_true rfl, by decide, Nat.le_of_ble_eq_true rfl, rfl, rfl⟩ rfl k2 (TR.mono h (fun r13 L14 μ15 h => ?_))
  obtain ⟨w16, rfl, rfl, h⟩ := h
  show WA (mLaw nm) 10 (0, 0) 997 [(2, 0), (2, v1), (2, v2), (0, v3)] [(1, w16), (1, w12)] L μ15 Q
  refine wa_lc_eq 1001 1335 dL_law_997 dL_law_998 rfl (by decide) (fun q => ?_) (fun q => ?_)
  · replace h := h.1 q
    exact h
  · replace h := h.2 q
    refine wa_iconst 1002 dL_law_1001 rfl (by decide) ?_
    exact wa_zret dL_law_1002 rfl (Or.inl rfl) h
set_option maxRecDepth 20000 in
theorem s_L_law_1003 {nm : String} (hL : LayOK L) {v1 v2 v3 : Int} (k1 : isK L v1 (9, 0)) (k2 : isK L v2 (10, 0)) (h : (inI (v3 + 1)) ∧ (okS L ((v3 + 1))) ∧ (inI (v3 + 2)) ∧ (okS L ((v3 + 2))) ∧ (inI (v3 + 3)) ∧ (okS L ((v3 + 3))) ∧ (inI (v3 + 4)) ∧ (okS L ((v3 + 4))) ∧ TR mX9_lie 7 (0, 0) [(2, v1), (0, (μ 0 ((v3 + 1)))), (0, (μ 0 ((v3 + 2)))), (0, (μ 0 ((v3 + 3)))), (0, (μ 0 ((v3 + 4))))] L μ (fun r9 L10 μ11 => ∃ w12, r9 = some (1, w12) ∧ L = L10 ∧ TR mX10_lie 9 (0, 0) [(2, v2), (0, (μ11 0 ((v3 + 1)))), (0, (μ11 0 ((v3 + 2)))), (0, (μ11 0 ((v3 + 3)))), (0, (μ11 0 ((v3 + 4))))] L μ11 (fun r13 L14 μ15 => ∃ w16, r13 = some (1, w16) ∧ L = L14 ∧ (w12 = w16 → WA (mLaw nm) 10 (0, 0) 1335 [(2, 0), (2, v1), (2, v2), (0, v3)] [] L μ15 Q) ∧ (¬ w12 = w16 → Q (some (0, 0)) L μ15)))) : WA (mLaw nm) 10 (0, 0) 1003 [(2, 0), (2, v1), (2, v2), (0, v3)] [] L μ Q := by
  refine wa_aload_n 1004 dL_law_1003 rfl rfl ?_
  refine wa_aload_n 1005 dL_law_1004 rfl rfl ?_
  refine wa_iload_n 1006 dL_law_1005 rfl rfl ?_
  refine wa_iconst 1007 dL_law_1006 rfl (by decide) ?_
  obtain ⟨c1, h⟩ := h
  refine wa_iadd 1008 dL_law_1007 rfl c1 ?_
  obtain ⟨c2, h⟩ := h
  refine wa_sload 1009 dL_law_1008 rfl c2 ?_
  refine wa_aload_n 1010 dL_law_1009 rfl rfl ?_
  refine wa_iload_n 1011 dL_law_1010 rfl rfl ?_
  refine wa_iconst 1012 dL_law_1011 rfl (by decide) ?_
  obtain ⟨c3, h⟩ := h
  refine wa_iadd 1013 dL_law_1012 rfl c3 ?_
  obtain ⟨c4, h⟩ := h
  refine wa_sload 1014 dL_law_1013 rfl c4 ?_
  refine wa_aload_n 1015 dL_law_1014 rfl rfl ?_
  refine wa_iload_n 1016 dL_law_1015 rfl rfl ?_
  refine wa_iconst 1017 dL_law_1016 rfl (by decide) ?_
  obtain ⟨c5, h⟩ := h
  refine wa_iadd 1018 dL_law_1017 rfl c5 ?_
  obtain ⟨c6, h⟩ := h
  refine wa_sload 1019 dL_law_1018 rfl c6 ?_
  refine wa_aload_n 1020 dL_law_1019 rfl rfl ?_
  refine wa_iload_n 1021 dL_law_1020 rfl rfl ?_
  refine wa_iconst 1022 dL_law_1021 rfl (by decide) ?_
  obtain ⟨c7, h⟩ := h
  refine wa_iadd 1023 dL_law_1022 rfl c7 ?_
  obtain ⟨c8, h⟩ := h
  refine wa_sload 1024 dL_law_1023 rfl c8 ?_
  refine wa_callV 1027 7 4 9 (av := [(0, (μ 0 ((v3 + 1)))), (0, (μ 0 ((v3 + 2)))), (0, (μ 0 ((v3 + 3)))), (0, (μ 0 ((v3 + 4))))]) (rest := []) (k1 := (0, 0)) (k2 := (0, 0)) cvX9_lie dL_law_1024 rfl wM_L_114 ⟨rfl, by decide, rfl, Nat.le_of_ble_eq_true rfl, by decide, Nat.le_of_ble_eq_true rfl, rfl, rfl⟩ rfl k1 (TR.mono h (fun r9 L10 μ11 h => ?_))
  obtain ⟨w12, rfl, rfl, h⟩ := h
  show WA (mLaw nm) 10 (0, 0) 1027 [(2, 0), (2, v1), (2, v2), (0, v3)] [(1, w12)] L μ11 Q
  refine wa_aload_n 1028 dL_law_1027 rfl rfl ?_
  refine wa_aload_n 1029 dL_law_1028 rfl rfl ?_
  refine wa_iload_n 1030 dL_law_1029 rfl rfl ?_
  refine wa_iconst 1031 dL_law_1030 rfl (by decide) ?_
  refine wa_iadd 1032 dL_law_1031 rfl c1 ?_
  refine wa_sload 1033 dL_law_1032 rfl c2 ?_
  refine wa_aload_n 1034 dL_law_1033 rfl rfl ?_
  refine wa_iload_n 1035 dL_law_1034 rfl rfl ?_
  refine wa_iconst 1036 dL_law_1035 rfl (by decide) ?_
  refine wa_iadd 1037 dL_law_1036 rfl c3 ?_
  refine wa_sload 1038 dL_law_1037 rfl c4 ?_
  refine wa_aload_n 1039 dL_law_1038 rfl rfl ?_
  refine wa_iload_n 1040 dL_law_1039 rfl rfl ?_
  refine wa_iconst 1041 dL_law_1040 rfl (by decide) ?_
  refine wa_iadd 1042 dL_law_1041 rfl c5 ?_
  refine wa_sload 1043 dL_law_1042 rfl c6 ?_
  refine wa_aload_n 1044 dL_law_1043 rfl rfl ?_
  refine wa_iload_n 1045 dL_law_1044 rfl rfl ?_
  refine wa_iconst 1046 dL_law_1045 rfl (by decide) ?_
  refine wa_iadd 1047 dL_law_1046 rfl c7 ?_
  refine wa_sload 1048 dL_law_1047 rfl c8 ?_
  refine wa_callV 1051 9 4 10 (av := [(0, (μ11 0 ((v3 + 1)))), (0, (μ11 0 ((v3 + 2)))), (0, (μ11 0 ((v3 + 3)))), (0, (μ11 0 ((v3 + 4))))]) (rest := [(1, w12)]) (k1 := (0, 0)) (k2 := (0, 0)) cvX10_lie dL_law_1048 rfl wM_L_117 ⟨rfl, by decide, rfl, Nat.le_of_ble_eq_true rfl, by decide, Nat.le_of_ble_eq_true rfl, rfl, rfl⟩ rfl k2 (TR.mono h (fun r13 L14 μ15 h => ?_))
  obtain ⟨w16, rfl, rfl, h⟩ := h
  show WA (mLaw nm) 10 (0, 0) 1051 [(2, 0), (2, v1), (2, v2), (0, v3)] [(1, w16), (1, w12)] L μ15 Q
  refine wa_lc_eq 1055 1335 dL_law_1051 dL_law_1052 rfl (by decide) (fun q => ?_) (fun q => ?_)
  · replace h := h.1 q
    exact h
  · replace h := h.2 q
    refine wa_iconst 1056 dL_law_1055 rfl (by decide) ?_
    exact wa_zret dL_law_1056 rfl (Or.inl rfl) h
set_option maxRecDepth 20000 in
theorem s_L_law_1057 {nm : String} (hL : LayOK L) {v1 v2 v3 : Int} (k1 : isK L v1 (9, 0)) (k2 : isK L v2 (10, 0)) (h : (inI (v3 + 1)) ∧ (okS L ((v3 + 1))) ∧ (inI (v3 + 2)) ∧ (okS L ((v3 + 2))) ∧ TR mX9_best 7 (0, 0) [(2, v1), (0, (μ 0 ((v3 + 1)))), (0, (μ 0 ((v3 + 2))))] L μ (fun r5 L6 μ7 => ∃ w8, r5 = some (0, w8) ∧ L = L6 ∧ TR mX10_best 9 (0, 0) [(2, v2), (0, (μ7 0 ((v3 + 1)))), (0, (μ7 0 ((v3 + 2))))] L μ7 (fun r9 L10 μ11 => ∃ w12, r9 = some (0, w12) ∧ L = L10 ∧ (w8 = w12 → WA (mLaw nm) 10 (0, 0) 1335 [(2, 0), (2, v1), (2, v2), (0, v3)] [] L μ11 Q) ∧ (¬ w8 = w12 → Q (some (0, 0)) L μ11)))) : WA (mLaw nm) 10 (0, 0) 1057 [(2, 0), (2, v1), (2, v2), (0, v3)] [] L μ Q := by
  refine wa_aload_n 1058 dL_law_1057 rfl rfl ?_
  refine wa_aload_n 1059 dL_law_1058 rfl rfl ?_
  refine wa_iload_n 1060 dL_law_1059 rfl rfl ?_
  refine wa_iconst 1061 dL_law_1060 rfl (by decide) ?_
  obtain ⟨c1, h⟩ := h
  refine wa_iadd 1062 dL_law_1061 rfl c1 ?_
  obtain ⟨c2, h⟩ := h
  refine wa_sload 1063 dL_law_1062 rfl c2 ?_
  refine wa_aload_n 1064 dL_law_1063 rfl rfl ?_
  refine wa_iload_n 1065 dL_law_1064 rfl rfl ?_
  refine wa_iconst 1066 dL_law_1065 rfl (by decide) ?_
  obtain ⟨c3, h⟩ := h
  refine wa_iadd 1067 dL_law_1066 rfl c3 ?_
  obtain ⟨c4, h⟩ := h
  refine wa_sload 1068 dL_law_1067 rfl c4 ?_
  refine wa_callV 1071 7 2 9 (av := [(0, (μ 0 ((v3 + 1)))), (0, (μ 0 ((v3 + 2))))]) (rest := []) (k1 := (0, 0)) (k2 := (0, 0)) cvX9_best dL_law_1068 rfl wM_L_118 ⟨rfl, by decide, rfl, Nat.le_of_ble_eq_true rfl, by decide, Nat.le_of_ble_eq_true rfl, rfl, rfl⟩ rfl k1 (TR.mono h (fun r5 L6 μ7 h => ?_))
  obtain ⟨w8, rfl, rfl, h⟩ := h
  show WA (mLaw nm) 10 (0, 0) 1071 [(2, 0), (2, v1), (2, v2), (0, v3)] [(0, w8)] L μ7 Q
  refine wa_aload_n 1072 dL_law_1071 rfl rfl ?_
  refine wa_aload_n 1073 dL_law_1072 rfl rfl ?_
  refine wa_iload_n 1074 dL_law_1073 rfl rfl ?_
  refine wa_iconst 1075 dL_law_1074 rfl (by decide) ?_
  refine wa_iadd 1076 dL_law_1075 rfl c1 ?_
  refine wa_sload 1077 dL_law_1076 rfl c2 ?_
  refine wa_aload_n 1078 dL_law_1077 rfl rfl ?_
  refine wa_iload_n 1079 dL_law_1078 rfl rfl ?_
  refine wa_iconst 1080 dL_law_1079 rfl (by decide) ?_
  refine wa_iadd 1081 dL_law_1080 rfl c3 ?_
  refine wa_sload 1082 dL_law_1081 rfl c4 ?_
  refine wa_callV 1085 9 2 10 (av := [(0, (μ7 0 ((v3 + 1)))), (0, (μ7 0 ((v3 + 2))))]) (rest := [(0, w8)]) (k1 := (0, 0)) (k2 := (0, 0)) cvX10_best dL_law_1082 rfl wM_L_121 ⟨rfl, by decide, rfl, Nat.le_of_ble_eq_true rfl, by decide, Nat.le_of_ble_eq_true rfl, rfl, rfl⟩ rfl k2 (TR.mono h (fun r9 L10 μ11 h => ?_))
  obtain ⟨w12, rfl, rfl, h⟩ := h
  show WA (mLaw nm) 10 (0, 0) 1085 [(2, 0), (2, v1), (2, v2), (0, v3)] [(0, w12), (0, w8)] L μ11 Q
  refine wa_icmp_eq 1088 1335 dL_law_1085 rfl (by decide) (fun q => ?_) (fun q => ?_)
  · replace h := h.1 q
    exact h
  · replace h := h.2 q
    refine wa_iconst 1089 dL_law_1088 rfl (by decide) ?_
    exact wa_zret dL_law_1089 rfl (Or.inl rfl) h
set_option maxRecDepth 20000 in
theorem s_L_law_1090 {nm : String} (hL : LayOK L) {v1 v2 v3 : Int} (k1 : isK L v1 (9, 0)) (k2 : isK L v2 (10, 0)) (h : (inI (v3 + 1)) ∧ (okS L ((v3 + 1))) ∧ (inI (v3 + 2)) ∧ (okS L ((v3 + 2))) ∧ TR mX9_list 1 (0, 0) [(2, v1), (0, (μ 0 ((v3 + 1)))), (0, (μ 0 ((v3 + 2))))] L μ (fun r5 L6 μ7 => ∃ w8, r5 = some (0, w8) ∧ L = L6 ∧ TR mX10_list 2 (0, 0) [(2, v2), (0, (μ7 0 ((v3 + 1)))), (0, (μ7 0 ((v3 + 2))))] L μ7 (fun r9 L10 μ11 => ∃ w12, r9 = some (0, w12) ∧ L = L10 ∧ (w8 = w12 → WA (mLaw nm) 10 (0, 0) 1335 [(2, 0), (2, v1), (2, v2), (0, v3)] [] L μ11 Q) ∧ (¬ w8 = w12 → Q (some (0, 0)) L μ11)))) : WA (mLaw nm) 10 (0, 0) 1090 [(2, 0), (2, v1), (2, v2), (0, v3)] [] L μ Q := by
  refine wa_aload_n 1091 dL_law_1090 rfl rfl ?_
  refine wa_aload_n 1092 dL_law_1091 rfl rfl ?_
  refine wa_iload_n 1093 dL_law_1092 rfl rfl ?_
  refine wa_iconst 1094 dL_law_1093 rfl (by decide) ?_
  obtain ⟨c1, h⟩ := h
  refine wa_iadd 1095 dL_law_1094 rfl c1 ?_
  obtain ⟨c2, h⟩ := h
  refine wa_sload 1096 dL_law_1095 rfl c2 ?_
  refine wa_aload_n 1097 dL_law_1096 rfl rfl ?_
  refine wa_iload_n 1098 dL_law_1097 rfl rfl ?_
  refine wa_iconst 1099 dL_law_1098 rfl (by decide) ?_
  obtain ⟨c3, h⟩ := h
  refine wa_iadd 1100 dL_law_1099 rfl c3 ?_
  obtain ⟨c4, h⟩ := h
  refine wa_sload 1101 dL_law_1100 rfl c4 ?_
  refine wa_callV 1104 1 2 9 (av := [(0, (μ 0 ((v3 + 1)))), (0, (μ 0 ((v3 + 2))))]) (rest := []) (k1 := (0, 0)) (k2 := (0, 0)) cvX9_list dL_law_1101 rfl wM_L_122 ⟨rfl, by decide, rfl, Nat.le_of_ble_eq_true rfl, by decide, Nat.le_of_ble_eq_true rfl, rfl, rfl⟩ rfl k1 (TR.mono h (fun r5 L6 μ7 h => ?_))
  obtain ⟨w8, rfl, rfl, h⟩ := h
  show WA (mLaw nm) 10 (0, 0) 1104 [(2, 0), (2, v1), (2, v2), (0, v3)] [(0, w8)] L μ7 Q
  refine wa_aload_n 1105 dL_law_1104 rfl rfl ?_
  refine wa_aload_n 1106 dL_law_1105 rfl rfl ?_
  refine wa_iload_n 1107 dL_law_1106 rfl rfl ?_
  refine wa_iconst 1108 dL_law_1107 rfl (by decide) ?_
  refine wa_iadd 1109 dL_law_1108 rfl c1 ?_
  refine wa_sload 1110 dL_law_1109 rfl c2 ?_
  refine wa_aload_n 1111 dL_law_1110 rfl rfl ?_
  refine wa_iload_n 1112 dL_law_1111 rfl rfl ?_
  refine wa_iconst 1113 dL_law_1112 rfl (by decide) ?_
  refine wa_iadd 1114 dL_law_1113 rfl c3 ?_
  refine wa_sload 1115 dL_law_1114 rfl c4 ?_
  refine wa_callV 1118 2 2 10 (av := [(0, (μ7 0 ((v3 + 1)))), (0, (μ7 0 ((v3 + 2))))]) (rest := [(0, w8)]) (k1 := (0, 0)) (k2 := (0, 0)) cvX10_list dL_law_1115 rfl wM_L_125 ⟨rfl, by decide, rfl, Nat.le_of_ble_eq_true rfl, by decide, Nat.le_of_ble_eq_true rfl, rfl, rfl⟩ rfl k2 (TR.mono h (fun r9 L10 μ11 h => ?_))
  obtain ⟨w12, rfl, rfl, h⟩ := h
  show WA (mLaw nm) 10 (0, 0) 1118 [(2, 0), (2, v1), (2, v2), (0, v3)] [(0, w12), (0, w8)] L μ11 Q
  refine wa_icmp_eq 1121 1335 dL_law_1118 rfl (by decide) (fun q => ?_) (fun q => ?_)
  · replace h := h.1 q
    exact h
  · replace h := h.2 q
    refine wa_iconst 1122 dL_law_1121 rfl (by decide) ?_
    exact wa_zret dL_law_1122 rfl (Or.inl rfl) h
set_option maxRecDepth 20000 in
theorem s_L_law_1123 {nm : String} (hL : LayOK L) {v1 v2 v3 : Int} (k1 : isK L v1 (9, 0)) (k2 : isK L v2 (10, 0)) (h : (inI (v3 + 1)) ∧ (okS L ((v3 + 1))) ∧ (inI (v3 + 2)) ∧ (okS L ((v3 + 2))) ∧ (inI (v3 + 3)) ∧ (okS L ((v3 + 3))) ∧ TR mX9_set 1 (0, 0) [(2, v1), (0, (μ 0 ((v3 + 1)))), (0, (μ 0 ((v3 + 2)))), (0, (μ 0 ((v3 + 3))))] L μ (fun r7 L8 μ9 => ∃ w10, r7 = some (0, w10) ∧ L = L8 ∧ TR mX10_set 2 (0, 0) [(2, v2), (0, (μ9 0 ((v3 + 1)))), (0, (μ9 0 ((v3 + 2)))), (0, (μ9 0 ((v3 + 3))))] L μ9 (fun r11 L12 μ13 => ∃ w14, r11 = some (0, w14) ∧ L = L12 ∧ (w10 = w14 → WA (mLaw nm) 10 (0, 0) 1335 [(2, 0), (2, v1), (2, v2), (0, v3)] [] L μ13 Q) ∧ (¬ w10 = w14 → Q (some (0, 0)) L μ13)))) : WA (mLaw nm) 10 (0, 0) 1123 [(2, 0), (2, v1), (2, v2), (0, v3)] [] L μ Q := by
  refine wa_aload_n 1124 dL_law_1123 rfl rfl ?_
  refine wa_aload_n 1125 dL_law_1124 rfl rfl ?_
  refine wa_iload_n 1126 dL_law_1125 rfl rfl ?_
  refine wa_iconst 1127 dL_law_1126 rfl (by decide) ?_
  obtain ⟨c1, h⟩ := h
  refine wa_iadd 1128 dL_law_1127 rfl c1 ?_
  obtain ⟨c2, h⟩ := h
  refine wa_sload 1129 dL_law_1128 rfl c2 ?_
  refine wa_aload_n 1130 dL_law_1129 rfl rfl ?_
  refine wa_iload_n 1131 dL_law_1130 rfl rfl ?_
  refine wa_iconst 1132 dL_law_1131 rfl (by decide) ?_
  obtain ⟨c3, h⟩ := h
  refine wa_iadd 1133 dL_law_1132 rfl c3 ?_
  obtain ⟨c4, h⟩ := h
  refine wa_sload 1134 dL_law_1133 rfl c4 ?_
  refine wa_aload_n 1135 dL_law_1134 rfl rfl ?_
  refine wa_iload_n 1136 dL_law_1135 rfl rfl ?_
  refine wa_iconst 1137 dL_law_1136 rfl (by decide) ?_
  obtain ⟨c5, h⟩ := h
  refine wa_iadd 1138 dL_law_1137 rfl c5 ?_
  obtain ⟨c6, h⟩ := h
  refine wa_sload 1139 dL_law_1138 rfl c6 ?_
  refine wa_callV 1142 1 3 9 (av := [(0, (μ 0 ((v3 + 1)))), (0, (μ 0 ((v3 + 2)))), (0, (μ 0 ((v3 + 3))))]) (rest := []) (k1 := (0, 0)) (k2 := (0, 0)) cvX9_set dL_law_1139 rfl wM_L_126 ⟨rfl, by decide, rfl, Nat.le_of_ble_eq_true rfl, by decide, Nat.le_of_ble_eq_true rfl, rfl, rfl⟩ rfl k1 (TR.mono h (fun r7 L8 μ9 h => ?_))
  obtain ⟨w10, rfl, rfl, h⟩ := h
  show WA (mLaw nm) 10 (0, 0) 1142 [(2, 0), (2, v1), (2, v2), (0, v3)] [(0, w10)] L μ9 Q
  refine wa_aload_n 1143 dL_law_1142 rfl rfl ?_
  refine wa_aload_n 1144 dL_law_1143 rfl rfl ?_
  refine wa_iload_n 1145 dL_law_1144 rfl rfl ?_
  refine wa_iconst 1146 dL_law_1145 rfl (by decide) ?_
  refine wa_iadd 1147 dL_law_1146 rfl c1 ?_
  refine wa_sload 1148 dL_law_1147 rfl c2 ?_
  refine wa_aload_n 1149 dL_law_1148 rfl rfl ?_
  refine wa_iload_n 1150 dL_law_1149 rfl rfl ?_
  refine wa_iconst 1151 dL_law_1150 rfl (by decide) ?_
  refine wa_iadd 1152 dL_law_1151 rfl c3 ?_
  refine wa_sload 1153 dL_law_1152 rfl c4 ?_
  refine wa_aload_n 1154 dL_law_1153 rfl rfl ?_
  refine wa_iload_n 1155 dL_law_1154 rfl rfl ?_
  refine wa_iconst 1156 dL_law_1155 rfl (by decide) ?_
  refine wa_iadd 1157 dL_law_1156 rfl c5 ?_
  refine wa_sload 1158 dL_law_1157 rfl c6 ?_
  refine wa_callV 1161 2 3 10 (av := [(0, (μ9 0 ((v3 + 1)))), (0, (μ9 0 ((v3 + 2)))), (0, (μ9 0 ((v3 + 3))))]) (rest := [(0, w10)]) (k1 := (0, 0)) (k2 := (0, 0)) cvX10_set dL_law_1158 rfl wM_L_129 ⟨rfl, by decide, rfl, Nat.le_of_ble_eq_true rfl, by decide, Nat.le_of_ble_eq_true rfl, rfl, rfl⟩ rfl k2 (TR.mono h (fun r11 L12 μ13 h => ?_))
  obtain ⟨w14, rfl, rfl, h⟩ := h
  show WA (mLaw nm) 10 (0, 0) 1161 [(2, 0), (2, v1), (2, v2), (0, v3)] [(0, w14), (0, w10)] L μ13 Q
  refine wa_icmp_eq 1164 1335 dL_law_1161 rfl (by decide) (fun q => ?_) (fun q => ?_)
  · replace h := h.1 q
    exact h
  · replace h := h.2 q
    refine wa_iconst 1165 dL_law_1164 rfl (by decide) ?_
    exact wa_zret dL_law_1165 rfl (Or.inl rfl) h
set_option maxRecDepth 20000 in
theorem s_L_law_1166 {nm : String} (hL : LayOK L) {v1 v2 v3 : Int} (k1 : isK L v1 (9, 0)) (k2 : isK L v2 (10, 0)) (h : (inI (v3 + 1)) ∧ (okS L ((v3 + 1))) ∧ (inI (v3 + 2)) ∧ (okS L ((v3 + 2))) ∧ TR mX9_get 1 (0, 0) [(2, v1), (0, (μ 0 ((v3 + 1)))), (0, (μ 0 ((v3 + 2))))] L μ (fun r5 L6 μ7 => ∃ w8, r5 = some (1, w8) ∧ L = L6 ∧ TR mX10_get 2 (0, 0) [(2, v2), (0, (μ7 0 ((v3 + 1)))), (0, (μ7 0 ((v3 + 2))))] L μ7 (fun r9 L10 μ11 => ∃ w12, r9 = some (1, w12) ∧ L = L10 ∧ (w8 = w12 → WA (mLaw nm) 10 (0, 0) 1335 [(2, 0), (2, v1), (2, v2), (0, v3)] [] L μ11 Q) ∧ (¬ w8 = w12 → Q (some (0, 0)) L μ11)))) : WA (mLaw nm) 10 (0, 0) 1166 [(2, 0), (2, v1), (2, v2), (0, v3)] [] L μ Q := by
  refine wa_aload_n 1167 dL_law_1166 rfl rfl ?_
  refine wa_aload_n 1168 dL_law_1167 rfl rfl ?_
  refine wa_iload_n 1169 dL_law_1168 rfl rfl ?_
  refine wa_iconst 1170 dL_law_1169 rfl (by decide) ?_
  obtain ⟨c1, h⟩ := h
  refine wa_iadd 1171 dL_law_1170 rfl c1 ?_
  obtain ⟨c2, h⟩ := h
  refine wa_sload 1172 dL_law_1171 rfl c2 ?_
  refine wa_aload_n 1173 dL_law_1172 rfl rfl ?_
  refine wa_iload_n 1174 dL_law_1173 rfl rfl ?_
  refine wa_iconst 1175 dL_law_1174 rfl (by decide) ?_
  obtain ⟨c3, h⟩ := h
  refine wa_iadd 1176 dL_law_1175 rfl c3 ?_
  obtain ⟨c4, h⟩ := h
  refine wa_sload 1177 dL_law_1176 rfl c4 ?_
  refine wa_callV 1180 1 2 9 (av := [(0, (μ 0 ((v3 + 1)))), (0, (μ 0 ((v3 + 2))))]) (rest := []) (k1 := (0, 0)) (k2 := (0, 0)) cvX9_get dL_law_1177 rfl wM_L_130 ⟨rfl, by decide, rfl, Nat.le_of_ble_eq_true rfl, by decide, Nat.le_of_ble_eq_true rfl, rfl, rfl⟩ rfl k1 (TR.mono h (fun r5 L6 μ7 h => ?_))
  obtain ⟨w8, rfl, rfl, h⟩ := h
  show WA (mLaw nm) 10 (0, 0) 1180 [(2, 0), (2, v1), (2, v2), (0, v3)] [(1, w8)] L μ7 Q
  refine wa_aload_n 1181 dL_law_1180 rfl rfl ?_
  refine wa_aload_n 1182 dL_law_1181 rfl rfl ?_
  refine wa_iload_n 1183 dL_law_1182 rfl rfl ?_
  refine wa_iconst 1184 dL_law_1183 rfl (by decide) ?_
  refine wa_iadd 1185 dL_law_1184 rfl c1 ?_
  refine wa_sload 1186 dL_law_1185 rfl c2 ?_
  refine wa_aload_n 1187 dL_law_1186 rfl rfl ?_
  refine wa_iload_n 1188 dL_law_1187 rfl rfl ?_
  refine wa_iconst 1189 dL_law_1188 rfl (by decide) ?_
  refine wa_iadd 1190 dL_law_1189 rfl c3 ?_
  refine wa_sload 1191 dL_law_1190 rfl c4 ?_
  refine wa_callV 1194 2 2 10 (av := [(0, (μ7 0 ((v3 + 1)))), (0, (μ7 0 ((v3 + 2))))]) (rest := [(1, w8)]) (k1 := (0, 0)) (k2 := (0, 0)) cvX10_get dL_law_1191 rfl wM_L_133 ⟨rfl, by decide, rfl, Nat.le_of_ble_eq_true rfl, by decide, Nat.le_of_ble_eq_true rfl, rfl, rfl⟩ rfl k2 (TR.mono h (fun r9 L10 μ11 h => ?_))
  obtain ⟨w12, rfl, rfl, h⟩ := h
  show WA (mLaw nm) 10 (0, 0) 1194 [(2, 0), (2, v1), (2, v2), (0, v3)] [(1, w12), (1, w8)] L μ11 Q
  refine wa_lc_eq 1198 1335 dL_law_1194 dL_law_1195 rfl (by decide) (fun q => ?_) (fun q => ?_)
  · replace h := h.1 q
    exact h
  · replace h := h.2 q
    refine wa_iconst 1199 dL_law_1198 rfl (by decide) ?_
    exact wa_zret dL_law_1199 rfl (Or.inl rfl) h
set_option maxRecDepth 20000 in
theorem s_L_law_1200 {nm : String} (hL : LayOK L) {v1 v2 v3 : Int} (k1 : isK L v1 (9, 0)) (k2 : isK L v2 (10, 0)) (h : (inI (v3 + 1)) ∧ (okS L ((v3 + 1))) ∧ (inI (v3 + 2)) ∧ (okS L ((v3 + 2))) ∧ (inI (v3 + 3)) ∧ (okS L ((v3 + 3))) ∧ TR mX9_into 2 (0, 0) [(2, v1), (0, (μ 0 ((v3 + 1)))), (0, (μ 0 ((v3 + 2)))), (0, (μ 0 ((v3 + 3))))] L μ (fun r7 L8 μ9 => ∃ w10, r7 = some (0, w10) ∧ L = L8 ∧ TR mX10_into 3 (0, 0) [(2, v2), (0, (μ9 0 ((v3 + 1)))), (0, (μ9 0 ((v3 + 2)))), (0, (μ9 0 ((v3 + 3))))] L μ9 (fun r11 L12 μ13 => ∃ w14, r11 = some (0, w14) ∧ L = L12 ∧ (w10 = w14 → WA (mLaw nm) 10 (0, 0) 1335 [(2, 0), (2, v1), (2, v2), (0, v3)] [] L μ13 Q) ∧ (¬ w10 = w14 → Q (some (0, 0)) L μ13)))) : WA (mLaw nm) 10 (0, 0) 1200 [(2, 0), (2, v1), (2, v2), (0, v3)] [] L μ Q := by
  refine wa_aload_n 1201 dL_law_1200 rfl rfl ?_
  refine wa_aload_n 1202 dL_law_1201 rfl rfl ?_
  refine wa_iload_n 1203 dL_law_1202 rfl rfl ?_
  refine wa_iconst 1204 dL_law_1203 rfl (by decide) ?_
  obtain ⟨c1, h⟩ := h
  refine wa_iadd 1205 dL_law_1204 rfl c1 ?_
  obtain ⟨c2, h⟩ := h
  refine wa_sload 1206 dL_law_1205 rfl c2 ?_
  refine wa_aload_n 1207 dL_law_1206 rfl rfl ?_
  refine wa_iload_n 1208 dL_law_1207 rfl rfl ?_
  refine wa_iconst 1209 dL_law_1208 rfl (by decide) ?_
  obtain ⟨c3, h⟩ := h
  refine wa_iadd 1210 dL_law_1209 rfl c3 ?_
  obtain ⟨c4, h⟩ := h
  refine wa_sload 1211 dL_law_1210 rfl c4 ?_
  refine wa_aload_n 1212 dL_law_1211 rfl rfl ?_
  refine wa_iload_n 1213 dL_law_1212 rfl rfl ?_
  refine wa_iconst 1214 dL_law_1213 rfl (by decide) ?_
  obtain ⟨c5, h⟩ := h
  refine wa_iadd 1215 dL_law_1214 rfl c5 ?_
  obtain ⟨c6, h⟩ := h
  refine wa_sload 1216 dL_law_1215 rfl c6 ?_
  refine wa_callV 1219 2 3 9 (av := [(0, (μ 0 ((v3 + 1)))), (0, (μ 0 ((v3 + 2)))), (0, (μ 0 ((v3 + 3))))]) (rest := []) (k1 := (0, 0)) (k2 := (0, 0)) cvX9_into dL_law_1216 rfl wM_L_134 ⟨rfl, by decide, rfl, Nat.le_of_ble_eq_true rfl, by decide, Nat.le_of_ble_eq_true rfl, rfl, rfl⟩ rfl k1 (TR.mono h (fun r7 L8 μ9 h => ?_))
  obtain ⟨w10, rfl, rfl, h⟩ := h
  show WA (mLaw nm) 10 (0, 0) 1219 [(2, 0), (2, v1), (2, v2), (0, v3)] [(0, w10)] L μ9 Q
  refine wa_aload_n 1220 dL_law_1219 rfl rfl ?_
  refine wa_aload_n 1221 dL_law_1220 rfl rfl ?_
  refine wa_iload_n 1222 dL_law_1221 rfl rfl ?_
  refine wa_iconst 1223 dL_law_1222 rfl (by decide) ?_
  refine wa_iadd 1224 dL_law_1223 rfl c1 ?_
  refine wa_sload 1225 dL_law_1224 rfl c2 ?_
  refine wa_aload_n 1226 dL_law_1225 rfl rfl ?_
  refine wa_iload_n 1227 dL_law_1226 rfl rfl ?_
  refine wa_iconst 1228 dL_law_1227 rfl (by decide) ?_
  refine wa_iadd 1229 dL_law_1228 rfl c3 ?_
  refine wa_sload 1230 dL_law_1229 rfl c4 ?_
  refine wa_aload_n 1231 dL_law_1230 rfl rfl ?_
  refine wa_iload_n 1232 dL_law_1231 rfl rfl ?_
  refine wa_iconst 1233 dL_law_1232 rfl (by decide) ?_
  refine wa_iadd 1234 dL_law_1233 rfl c5 ?_
  refine wa_sload 1235 dL_law_1234 rfl c6 ?_
  refine wa_callV 1238 3 3 10 (av := [(0, (μ9 0 ((v3 + 1)))), (0, (μ9 0 ((v3 + 2)))), (0, (μ9 0 ((v3 + 3))))]) (rest := [(0, w10)]) (k1 := (0, 0)) (k2 := (0, 0)) cvX10_into dL_law_1235 rfl wM_L_137 ⟨rfl, by decide, rfl, Nat.le_of_ble_eq_true rfl, by decide, Nat.le_of_ble_eq_true rfl, rfl, rfl⟩ rfl k2 (TR.mono h (fun r11 L12 μ13 h => ?_))
  obtain ⟨w14, rfl, rfl, h⟩ := h
  show WA (mLaw nm) 10 (0, 0) 1238 [(2, 0), (2, v1), (2, v2), (0, v3)] [(0, w14), (0, w10)] L μ13 Q
  refine wa_icmp_eq 1241 1335 dL_law_1238 rfl (by decide) (fun q => ?_) (fun q => ?_)
  · replace h := h.1 q
    exact h
  · replace h := h.2 q
    refine wa_iconst 1242 dL_law_1241 rfl (by decide) ?_
    exact wa_zret dL_law_1242 rfl (Or.inl rfl) h
set_option maxRecDepth 20000 in
theorem s_L_law_1243 {nm : String} (hL : LayOK L) {v1 v2 v3 : Int} (k1 : isK L v1 (9, 0)) (k2 : isK L v2 (10, 0)) (h : (inI (v3 + 1)) ∧ (okS L ((v3 + 1))) ∧ (inI (v3 + 2)) ∧ (okS L ((v3 + 2))) ∧ (inI (v3 + 3)) ∧ (okS L ((v3 + 3))) ∧ TR mX9_from 2 (0, 0) [(2, v1), (0, (μ 0 ((v3 + 1)))), (0, (μ 0 ((v3 + 2)))), (0, (μ 0 ((v3 + 3))))] L μ (fun r7 L8 μ9 => ∃ w10, r7 = some (0, w10) ∧ L = L8 ∧ TR mX10_from 3 (0, 0) [(2, v2), (0, (μ9 0 ((v3 + 1)))), (0, (μ9 0 ((v3 + 2)))), (0, (μ9 0 ((v3 + 3))))] L μ9 (fun r11 L12 μ13 => ∃ w14, r11 = some (0, w14) ∧ L = L12 ∧ (w10 = w14 → WA (mLaw nm) 10 (0, 0) 1335 [(2, 0), (2, v1), (2, v2), (0, v3)] [] L μ13 Q) ∧ (¬ w10 = w14 → Q (some (0, 0)) L μ13)))) : WA (mLaw nm) 10 (0, 0) 1243 [(2, 0), (2, v1), (2, v2), (0, v3)] [] L μ Q := by
  refine wa_aload_n 1244 dL_law_1243 rfl rfl ?_
  refine wa_aload_n 1245 dL_law_1244 rfl rfl ?_
  refine wa_iload_n 1246 dL_law_1245 rfl rfl ?_
  refine wa_iconst 1247 dL_law_1246 rfl (by decide) ?_
  obtain ⟨c1, h⟩ := h
  refine wa_iadd 1248 dL_law_1247 rfl c1 ?_
  obtain ⟨c2, h⟩ := h
  refine wa_sload 1249 dL_law_1248 rfl c2 ?_
  refine wa_aload_n 1250 dL_law_1249 rfl rfl ?_
  refine wa_iload_n 1251 dL_law_1250 rfl rfl ?_
  refine wa_iconst 1252 dL_law_1251 rfl (by decide) ?_
  obtain ⟨c3, h⟩ := h
  refine wa_iadd 1253 dL_law_1252 rfl c3 ?_
  obtain ⟨c4, h⟩ := h
  refine wa_sload 1254 dL_law_1253 rfl c4 ?_
  refine wa_aload_n 1255 dL_law_1254 rfl rfl ?_
  refine wa_iload_n 1256 dL_law_1255 rfl rfl ?_
  refine wa_iconst 1257 dL_law_1256 rfl (by decide) ?_
  obtain ⟨c5, h⟩ := h
  refine wa_iadd 1258 dL_law_1257 rfl c5 ?_
  obtain ⟨c6, h⟩ := h
  refine wa_sload 1259 dL_law_1258 rfl c6 ?_
  refine wa_callV 1262 2 3 9 (av := [(0, (μ 0 ((v3 + 1)))), (0, (μ 0 ((v3 + 2)))), (0, (μ 0 ((v3 + 3))))]) (rest := []) (k1 := (0, 0)) (k2 := (0, 0)) cvX9_from dL_law_1259 rfl wM_L_138 ⟨rfl, by decide, rfl, Nat.le_of_ble_eq_true rfl, by decide, Nat.le_of_ble_eq_true rfl, rfl, rfl⟩ rfl k1 (TR.mono h (fun r7 L8 μ9 h => ?_))
  obtain ⟨w10, rfl, rfl, h⟩ := h
  show WA (mLaw nm) 10 (0, 0) 1262 [(2, 0), (2, v1), (2, v2), (0, v3)] [(0, w10)] L μ9 Q
  refine wa_aload_n 1263 dL_law_1262 rfl rfl ?_
  refine wa_aload_n 1264 dL_law_1263 rfl rfl ?_
  refine wa_iload_n 1265 dL_law_1264 rfl rfl ?_
  refine wa_iconst 1266 dL_law_1265 rfl (by decide) ?_
  refine wa_iadd 1267 dL_law_1266 rfl c1 ?_
  refine wa_sload 1268 dL_law_1267 rfl c2 ?_
  refine wa_aload_n 1269 dL_law_1268 rfl rfl ?_
  refine wa_iload_n 1270 dL_law_1269 rfl rfl ?_
  refine wa_iconst 1271 dL_law_1270 rfl (by decide) ?_
  refine wa_iadd 1272 dL_law_1271 rfl c3 ?_
  refine wa_sload 1273 dL_law_1272 rfl c4 ?_
  refine wa_aload_n 1274 dL_law_1273 rfl rfl ?_
  refine wa_iload_n 1275 dL_law_1274 rfl rfl ?_
  refine wa_iconst 1276 dL_law_1275 rfl (by decide) ?_
  refine wa_iadd 1277 dL_law_1276 rfl c5 ?_
  refine wa_sload 1278 dL_law_1277 rfl c6 ?_
  refine wa_callV 1281 3 3 10 (av := [(0, (μ9 0 ((v3 + 1)))), (0, (μ9 0 ((v3 + 2)))), (0, (μ9 0 ((v3 + 3))))]) (rest := [(0, w10)]) (k1 := (0, 0)) (k2 := (0, 0)) cvX10_from dL_law_1278 rfl wM_L_141 ⟨rfl, by decide, rfl, Nat.le_of_ble_eq_true rfl, by decide, Nat.le_of_ble_eq_true rfl, rfl, rfl⟩ rfl k2 (TR.mono h (fun r11 L12 μ13 h => ?_))
  obtain ⟨w14, rfl, rfl, h⟩ := h
  show WA (mLaw nm) 10 (0, 0) 1281 [(2, 0), (2, v1), (2, v2), (0, v3)] [(0, w14), (0, w10)] L μ13 Q
  refine wa_icmp_eq 1284 1335 dL_law_1281 rfl (by decide) (fun q => ?_) (fun q => ?_)
  · replace h := h.1 q
    exact h
  · replace h := h.2 q
    refine wa_iconst 1285 dL_law_1284 rfl (by decide) ?_
    exact wa_zret dL_law_1285 rfl (Or.inl rfl) h
set_option maxRecDepth 20000 in
theorem s_L_law_1286 {nm : String} (hL : LayOK L) {v1 v2 v3 : Int} (k1 : isK L v1 (9, 0)) (k2 : isK L v2 (10, 0)) (h : TR mX9_image 5 (0, 0) [(2, v1)] L μ (fun r1 L2 μ3 => ∃ w4, r1 = some (0, w4) ∧ L = L2 ∧ TR mX10_image 1 (0, 0) [(2, v2)] L μ3 (fun r5 L6 μ7 => ∃ w8, r5 = some (0, w8) ∧ L = L6 ∧ (w4 = w8 → WA (mLaw nm) 10 (0, 0) 1335 [(2, 0), (2, v1), (2, v2), (0, v3)] [] L μ7 Q) ∧ (¬ w4 = w8 → Q (some (0, 0)) L μ7)))) : WA (mLaw nm) 10 (0, 0) 1286 [(2, 0), (2, v1), (2, v2), (0, v3)] [] L μ Q := by
  refine wa_aload_n 1287 dL_law_1286 rfl rfl ?_
  refine wa_callV 1290 5 0 9 (av := []) (rest := []) (k1 := (0, 0)) (k2 := (0, 0)) cvX9_image dL_law_1287 rfl wM_L_142 ⟨rfl, by decide, rfl, Nat.le_of_ble_eq_true rfl, by decide, Nat.le_of_ble_eq_true rfl, rfl, rfl⟩ rfl k1 (TR.mono h (fun r1 L2 μ3 h => ?_))
  obtain ⟨w4, rfl, rfl, h⟩ := h
  show WA (mLaw nm) 10 (0, 0) 1290 [(2, 0), (2, v1), (2, v2), (0, v3)] [(0, w4)] L μ3 Q
  refine wa_aload_n 1291 dL_law_1290 rfl rfl ?_
  refine wa_callV 1294 1 0 10 (av := []) (rest := [(0, w4)]) (k1 := (0, 0)) (k2 := (0, 0)) cvX10_image dL_law_1291 rfl wM_L_145 ⟨rfl, by decide, rfl, Nat.le_of_ble_eq_true rfl, by decide, Nat.le_of_ble_eq_true rfl, rfl, rfl⟩ rfl k2 (TR.mono h (fun r5 L6 μ7 h => ?_))
  obtain ⟨w8, rfl, rfl, h⟩ := h
  show WA (mLaw nm) 10 (0, 0) 1294 [(2, 0), (2, v1), (2, v2), (0, v3)] [(0, w8), (0, w4)] L μ7 Q
  refine wa_icmp_eq 1297 1335 dL_law_1294 rfl (by decide) (fun q => ?_) (fun q => ?_)
  · replace h := h.1 q
    exact h
  · replace h := h.2 q
    refine wa_iconst 1298 dL_law_1297 rfl (by decide) ?_
    exact wa_zret dL_law_1298 rfl (Or.inl rfl) h
set_option maxRecDepth 20000 in
theorem s_L_law_1299 {nm : String} (hL : LayOK L) {v1 v2 v3 : Int} (k1 : isK L v1 (9, 0)) (k2 : isK L v2 (10, 0)) (h : TR mX9_back 5 (0, 0) [(2, v1)] L μ (fun r1 L2 μ3 => ∃ w4, r1 = some (0, w4) ∧ L = L2 ∧ TR mX10_back 1 (0, 0) [(2, v2)] L μ3 (fun r5 L6 μ7 => ∃ w8, r5 = some (0, w8) ∧ L = L6 ∧ (w4 = w8 → WA (mLaw nm) 10 (0, 0) 1335 [(2, 0), (2, v1), (2, v2), (0, v3)] [] L μ7 Q) ∧ (¬ w4 = w8 → Q (some (0, 0)) L μ7)))) : WA (mLaw nm) 10 (0, 0) 1299 [(2, 0), (2, v1), (2, v2), (0, v3)] [] L μ Q := by
  refine wa_aload_n 1300 dL_law_1299 rfl rfl ?_
  refine wa_callV 1303 5 0 9 (av := []) (rest := []) (k1 := (0, 0)) (k2 := (0, 0)) cvX9_back dL_law_1300 rfl wM_L_146 ⟨rfl, by decide, rfl, Nat.le_of_ble_eq_true rfl, by decide, Nat.le_of_ble_eq_true rfl, rfl, rfl⟩ rfl k1 (TR.mono h (fun r1 L2 μ3 h => ?_))
  obtain ⟨w4, rfl, rfl, h⟩ := h
  show WA (mLaw nm) 10 (0, 0) 1303 [(2, 0), (2, v1), (2, v2), (0, v3)] [(0, w4)] L μ3 Q
  refine wa_aload_n 1304 dL_law_1303 rfl rfl ?_
  refine wa_callV 1307 1 0 10 (av := []) (rest := [(0, w4)]) (k1 := (0, 0)) (k2 := (0, 0)) cvX10_back dL_law_1304 rfl wM_L_149 ⟨rfl, by decide, rfl, Nat.le_of_ble_eq_true rfl, by decide, Nat.le_of_ble_eq_true rfl, rfl, rfl⟩ rfl k2 (TR.mono h (fun r5 L6 μ7 h => ?_))
  obtain ⟨w8, rfl, rfl, h⟩ := h
  show WA (mLaw nm) 10 (0, 0) 1307 [(2, 0), (2, v1), (2, v2), (0, v3)] [(0, w8), (0, w4)] L μ7 Q
  refine wa_icmp_eq 1310 1335 dL_law_1307 rfl (by decide) (fun q => ?_) (fun q => ?_)
  · replace h := h.1 q
    exact h
  · replace h := h.2 q
    refine wa_iconst 1311 dL_law_1310 rfl (by decide) ?_
    exact wa_zret dL_law_1311 rfl (Or.inl rfl) h
set_option maxRecDepth 20000 in
theorem s_L_law_1312 {nm : String} (hL : LayOK L) {v1 v2 v3 : Int} (k1 : isK L v1 (9, 0)) (k2 : isK L v2 (10, 0)) (h : (inI (v3 + 1)) ∧ (okS L ((v3 + 1))) ∧ TR mX9_count 0 (0, 0) [(2, v1), (0, (μ 0 ((v3 + 1))))] L μ (fun r3 L4 μ5 => ∃ w6, r3 = some (0, w6) ∧ L = L4 ∧ TR mX10_count 1 (0, 0) [(2, v2), (0, (μ5 0 ((v3 + 1))))] L μ5 (fun r7 L8 μ9 => ∃ w10, r7 = some (0, w10) ∧ L = L8 ∧ (w6 = w10 → WA (mLaw nm) 10 (0, 0) 1335 [(2, 0), (2, v1), (2, v2), (0, v3)] [] L μ9 Q) ∧ (¬ w6 = w10 → Q (some (0, 0)) L μ9)))) : WA (mLaw nm) 10 (0, 0) 1312 [(2, 0), (2, v1), (2, v2), (0, v3)] [] L μ Q := by
  refine wa_aload_n 1313 dL_law_1312 rfl rfl ?_
  refine wa_aload_n 1314 dL_law_1313 rfl rfl ?_
  refine wa_iload_n 1315 dL_law_1314 rfl rfl ?_
  refine wa_iconst 1316 dL_law_1315 rfl (by decide) ?_
  obtain ⟨c1, h⟩ := h
  refine wa_iadd 1317 dL_law_1316 rfl c1 ?_
  obtain ⟨c2, h⟩ := h
  refine wa_sload 1318 dL_law_1317 rfl c2 ?_
  refine wa_callV 1321 0 1 9 (av := [(0, (μ 0 ((v3 + 1))))]) (rest := []) (k1 := (0, 0)) (k2 := (0, 0)) cvX9_count dL_law_1318 rfl wM_L_150 ⟨rfl, by decide, rfl, Nat.le_of_ble_eq_true rfl, by decide, Nat.le_of_ble_eq_true rfl, rfl, rfl⟩ rfl k1 (TR.mono h (fun r3 L4 μ5 h => ?_))
  obtain ⟨w6, rfl, rfl, h⟩ := h
  show WA (mLaw nm) 10 (0, 0) 1321 [(2, 0), (2, v1), (2, v2), (0, v3)] [(0, w6)] L μ5 Q
  refine wa_aload_n 1322 dL_law_1321 rfl rfl ?_
  refine wa_aload_n 1323 dL_law_1322 rfl rfl ?_
  refine wa_iload_n 1324 dL_law_1323 rfl rfl ?_
  refine wa_iconst 1325 dL_law_1324 rfl (by decide) ?_
  refine wa_iadd 1326 dL_law_1325 rfl c1 ?_
  refine wa_sload 1327 dL_law_1326 rfl c2 ?_
  refine wa_callV 1330 1 1 10 (av := [(0, (μ5 0 ((v3 + 1))))]) (rest := [(0, w6)]) (k1 := (0, 0)) (k2 := (0, 0)) cvX10_count dL_law_1327 rfl wM_L_153 ⟨rfl, by decide, rfl, Nat.le_of_ble_eq_true rfl, by decide, Nat.le_of_ble_eq_true rfl, rfl, rfl⟩ rfl k2 (TR.mono h (fun r7 L8 μ9 h => ?_))
  obtain ⟨w10, rfl, rfl, h⟩ := h
  show WA (mLaw nm) 10 (0, 0) 1330 [(2, 0), (2, v1), (2, v2), (0, v3)] [(0, w10), (0, w6)] L μ9 Q
  refine wa_icmp_eq 1333 1335 dL_law_1330 rfl (by decide) (fun q => ?_) (fun q => ?_)
  · replace h := h.1 q
    exact h
  · replace h := h.2 q
    refine wa_iconst 1334 dL_law_1333 rfl (by decide) ?_
    exact wa_zret dL_law_1334 rfl (Or.inl rfl) h
end
