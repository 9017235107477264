/-! what the parts of the layout refer to -/
section
variable {n : Int}
/-- spans: their points stand behind them -/
theorem spB : (List.range 510).all (fun o => if kd0 0 (o : Int) = (7, 0) ∧ o ≠ 0 then decide (rf0 o 0 = (o : Int) + 1) && decide (rf0 o 1 = (o : Int) + 2) && decide (kd0 0 ((o : Int) + 1) = (3, 0)) && decide (kd0 0 ((o : Int) + 2) = (3, 0)) && decide (o + 2 ≤ 509) else true) = true := by decide +kernel
theorem evB : (List.range 510).all (fun o => if kd0 0 (o : Int) = (2, 0) ∧ o ≠ 0 then decide (rf0 o 2 = (o : Int) + 1) && decide (kd0 0 ((o : Int) + 1) = (7, 0)) && decide (o + 3 ≤ 509) else true) = true := by decide +kernel
theorem sp_at {s : Int} (h : isK (L0 n) s (7, 0)) : rf (L0 n) s 0 = s + 1 ∧ rf (L0 n) s 1 = s + 2 ∧ isK (L0 n) (s + 1) (3, 0) ∧ isK (L0 n) (s + 2) (3, 0) := by
  obtain ⟨h1, h2, h3⟩ := h
  have h2 : s ≤ 509 := h2
  have h3 : kd0 0 s = (7, 0) := (kd0_pos h1).trans h3
  have h4 := List.all_eq_true.mp spB s.toNat (List.mem_range.mpr (by omega))
  have hs : ((s.toNat : Nat) : Int) = s := by omega
  rw [hs, if_pos ⟨h3, by omega⟩] at h4
  simp only [Bool.and_eq_true, decide_eq_true_eq] at h4
  obtain ⟨⟨⟨⟨e1, e2⟩, e3⟩, e4⟩, e5⟩ := h4
  exact ⟨e1, e2, isK0 (by omega) (by omega) e3, isK0 (by omega) (by omega) e4⟩
theorem ev_at {s : Int} (h : isK (L0 n) s (2, 0)) : rf (L0 n) s 2 = s + 1 ∧ isK (L0 n) (s + 1) (7, 0) := by
  obtain ⟨h1, h2, h3⟩ := h
  have h2 : s ≤ 509 := h2
  have h3 : kd0 0 s = (2, 0) := (kd0_pos h1).trans h3
  have h4 := List.all_eq_true.mp evB s.toNat (List.mem_range.mpr (by omega))
  have hs : ((s.toNat : Nat) : Int) = s := by omega
  rw [hs, if_pos ⟨h3, by omega⟩] at h4
  simp only [Bool.and_eq_true, decide_eq_true_eq] at h4
  obtain ⟨⟨e1, e2⟩, e3⟩ := h4
  exact ⟨e1, isK0 (by omega) (by omega) e2⟩
end
theorem ckB : (List.range 510).all (fun o => if kd0 0 (o : Int) = (0, 0) ∧ o ≠ 0 then decide (o = 2 ∨ o = 15 ∨ o = 28) else if kd0 0 (o : Int) = (1, 0) ∧ o ≠ 0 then decide (o = 41 ∨ o = 174 ∨ o = 307) else true) = true := by decide +kernel
theorem ck_is {n s : Int} (h : isK (L0 n) s (0, 0)) : s = 2 ∨ s = 15 ∨ s = 28 := by
  obtain ⟨h1, h2, h3⟩ := h
  have h2 : s ≤ 509 := h2
  have h3 : kd0 0 s = (0, 0) := (kd0_pos h1).trans h3
  have h4 := List.all_eq_true.mp ckB s.toNat (List.mem_range.mpr (by omega))
  have hs : ((s.toNat : Nat) : Int) = s := by omega
  rw [hs, if_pos ⟨h3, by omega⟩] at h4
  have := of_decide_eq_true h4
  omega
theorem dv_is {n s : Int} (h : isK (L0 n) s (1, 0)) : s = 41 ∨ s = 174 ∨ s = 307 := by
  obtain ⟨h1, h2, h3⟩ := h
  have h2 : s ≤ 509 := h2
  have h3 : kd0 0 s = (1, 0) := (kd0_pos h1).trans h3
  have h4 := List.all_eq_true.mp ckB s.toNat (List.mem_range.mpr (by omega))
  have hs : ((s.toNat : Nat) : Int) = s := by omega
  rw [hs, if_neg (fun q => absurd (h3.symm.trans q.1) (by decide)), if_pos ⟨h3, by omega⟩] at h4
  have := of_decide_eq_true h4
  omega
theorem rf0_eq {n o k v : Int} (h : decide (rf0 o k = v) = true) : rf (L0 n) o k = v := of_decide_eq_true h
/-- what a Cake refers to -/
theorem ck_rf {n s : Int} (h : s = 2 ∨ s = 15 ∨ s = 28) : rf (L0 n) s 2 = s + 1 ∧ rf (L0 n) s 3 = s + 7 := by
  rcases h with rfl | rfl | rfl <;> exact ⟨rf0_eq (by decide +kernel), rf0_eq (by decide +kernel)⟩
theorem ck_rows {n s a : Int} (h : s = 2 ∨ s = 15 ∨ s = 28) (ha : 0 ≤ a ∧ a < 5) : rf (L0 n) (s + 1) a = s + 2 + a ∧ rf (L0 n) (s + 7) a = s + 8 + a := by
  have : a = 0 ∨ a = 1 ∨ a = 2 ∨ a = 3 ∨ a = 4 := by omega
  rcases h with rfl | rfl | rfl <;> rcases this with rfl | rfl | rfl | rfl | rfl <;> exact ⟨rf0_eq (by decide +kernel), rf0_eq (by decide +kernel)⟩
theorem dv_rf {n s : Int} (h : s = 41 ∨ s = 174 ∨ s = 307) : rf (L0 n) s 4 = s + 1 ∧ rf (L0 n) s 5 = s + 2 ∧ rf (L0 n) s 6 = s + 3 ∧ rf (L0 n) s 7 = s + 4 ∧ rf (L0 n) s 8 = s + 5 ∧ rf (L0 n) s 9 = s + 6 := by
  rcases h with rfl | rfl | rfl <;> exact ⟨rf0_eq (by decide +kernel), rf0_eq (by decide +kernel), rf0_eq (by decide +kernel), rf0_eq (by decide +kernel), rf0_eq (by decide +kernel), rf0_eq (by decide +kernel)⟩
theorem dvB : [41, 174, 307].all (fun s : Int => (List.range 19).all (fun k => decide (rf0 (s + 1) (k : Int) = s + 7 + 4 * (k : Int))) && (List.range 10).all (fun k => decide (rf0 (s + 3) (k : Int) = s + 83 + 3 * (k : Int))) && (List.range 20).all (fun k => decide (rf0 (s + 4) (k : Int) = s + 113 + (k : Int)))) = true := by decide +kernel
theorem dv_all {n s : Int} (h : s = 41 ∨ s = 174 ∨ s = 307) : (∀ k : Int, 0 ≤ k → k < 19 → rf (L0 n) (s + 1) k = s + 7 + 4 * k) ∧ (∀ k : Int, 0 ≤ k → k < 10 → rf (L0 n) (s + 3) k = s + 83 + 3 * k) ∧ (∀ k : Int, 0 ≤ k → k < 20 → rf (L0 n) (s + 4) k = s + 113 + k) := by
  have h4 := List.all_eq_true.mp dvB s (by rcases h with rfl | rfl | rfl <;> simp)
  simp only [Bool.and_eq_true] at h4
  obtain ⟨⟨h1, h2⟩, h3⟩ := h4
  refine ⟨fun k k0 k1 => ?_, fun k k0 k1 => ?_, fun k k0 k1 => ?_⟩
  · have := of_decide_eq_true (List.all_eq_true.mp h1 k.toNat (List.mem_range.mpr (by omega)))
    rw [show ((k.toNat : Nat) : Int) = k by omega] at this
    exact this
  · have := of_decide_eq_true (List.all_eq_true.mp h2 k.toNat (List.mem_range.mpr (by omega)))
    rw [show ((k.toNat : Nat) : Int) = k by omega] at this
    exact this
  · have := of_decide_eq_true (List.all_eq_true.mp h3 k.toNat (List.mem_range.mpr (by omega)))
    rw [show ((k.toNat : Nat) : Int) = k by omega] at this
    exact this
theorem shB : (List.range 5).all (fun i => decide (rf0 447 (i : Int) = 454 + 2 * (i : Int)) && decide (rf0 448 (i : Int) = 455 + 2 * (i : Int)) && (if i < 3 then decide (rf0 450 (i : Int) = 464 + 3 * (i : Int)) else true) && (if i < 4 then decide (rf0 482 (i : Int) = 483 + (i : Int)) else true)) = true := by decide +kernel
theorem sh_el {n : Int} : (∀ i : Int, 0 ≤ i → i < 5 → rf (L0 n) 447 i = 454 + 2 * i ∧ rf (L0 n) 448 i = 455 + 2 * i) ∧ (∀ i : Int, 0 ≤ i → i < 3 → rf (L0 n) 450 i = 464 + 3 * i) ∧ (∀ i : Int, 0 ≤ i → i < 4 → rf (L0 n) 482 i = 483 + i) := by
  have key : ∀ i : Int, 0 ≤ i → i < 5 → _ := fun i i0 i1 => List.all_eq_true.mp shB i.toNat (List.mem_range.mpr (by omega))
  refine ⟨fun i i0 i1 => ?_, fun i i0 i1 => ?_, fun i i0 i1 => ?_⟩
  · have h := key i i0 i1
    simp only [Bool.and_eq_true, decide_eq_true_eq, show ((i.toNat : Nat) : Int) = i by omega] at h
    exact h.1.1
  · have h := key i i0 (by omega)
    simp only [Bool.and_eq_true, decide_eq_true_eq, show ((i.toNat : Nat) : Int) = i by omega, show i.toNat < 3 by omega, if_true] at h
    exact h.1.2
  · have h := key i i0 (by omega)
    simp only [Bool.and_eq_true, decide_eq_true_eq, show ((i.toNat : Nat) : Int) = i by omega, show i.toNat < 4 by omega, if_true] at h
    exact h.2
theorem rf_shr {n : Int} : rf (L0 n) 440 0 = 2 ∧ rf (L0 n) 440 1 = 174 ∧ rf (L0 n) 440 3 = 441 ∧ rf (L0 n) 440 4 = 444 ∧ rf (L0 n) 440 5 = 447 ∧ rf (L0 n) 440 6 = 448 ∧ rf (L0 n) 440 7 = 449 ∧ rf (L0 n) 440 8 = 450 ∧ rf (L0 n) 440 9 = 451 := ⟨rf0_eq (by decide +kernel), rf0_eq (by decide +kernel), rf0_eq (by decide +kernel), rf0_eq (by decide +kernel), rf0_eq (by decide +kernel), rf0_eq (by decide +kernel), rf0_eq (by decide +kernel), rf0_eq (by decide +kernel), rf0_eq (by decide +kernel)⟩
theorem rf_tape {n : Int} : rf (L0 n) 473 2 = 474 ∧ rf (L0 n) 473 3 = 475 ∧ rf (L0 n) 473 4 = 476 := ⟨rf0_eq (by decide +kernel), rf0_eq (by decide +kernel), rf0_eq (by decide +kernel)⟩
theorem rf_sheet {n : Int} : rf (L0 n) 479 1 = 480 := rf0_eq (by decide +kernel)
theorem rf_rws {n : Int} : rf (L0 n) 481 0 = 482 ∧ rf (L0 n) 481 1 = 487 := ⟨rf0_eq (by decide +kernel), rf0_eq (by decide +kernel)⟩
theorem rf_desk {n : Int} : rf (L0 n) 1 0 = 2 ∧ rf (L0 n) 1 1 = 15 ∧ rf (L0 n) 1 2 = 28 ∧ rf (L0 n) 1 3 = 41 ∧ rf (L0 n) 1 4 = 174 ∧ rf (L0 n) 1 5 = 307 ∧ rf (L0 n) 1 7 = 440 ∧ rf (L0 n) 1 8 = 473 ∧ rf (L0 n) 1 9 = 479 ∧ rf (L0 n) 1 10 = 481 ∧ rf (L0 n) 1 11 = 488 ∧ rf (L0 n) 1 12 = 489 ∧ rf (L0 n) 1 13 = 490 := ⟨rf0_eq (by decide +kernel), rf0_eq (by decide +kernel), rf0_eq (by decide +kernel), rf0_eq (by decide +kernel), rf0_eq (by decide +kernel), rf0_eq (by decide +kernel), rf0_eq (by decide +kernel), rf0_eq (by decide +kernel), rf0_eq (by decide +kernel), rf0_eq (by decide +kernel), rf0_eq (by decide +kernel), rf0_eq (by decide +kernel), rf0_eq (by decide +kernel)⟩
theorem rf_ref {n : Int} : rf (L0 n) 493 0 = 494 ∧ rf (L0 n) 493 1 = 495 ∧ rf (L0 n) 493 2 = 496 ∧ rf (L0 n) 493 6 = 497 ∧ rf (L0 n) 493 13 = 498 ∧ rf (L0 n) 493 14 = 499 ∧ rf (L0 n) 493 16 = 500 ∧ rf (L0 n) 493 17 = 501 ∧ rf (L0 n) 493 19 = 502 ∧ rf (L0 n) 493 20 = 503 ∧ rf (L0 n) 493 22 = 504 ∧ rf (L0 n) 493 23 = 505 ∧ rf (L0 n) 493 24 = 506 ∧ rf (L0 n) 493 25 = 507 ∧ rf (L0 n) 493 26 = 508 ∧ rf (L0 n) 493 27 = 509 := ⟨rf0_eq (by decide +kernel), rf0_eq (by decide +kernel), rf0_eq (by decide +kernel), rf0_eq (by decide +kernel), rf0_eq (by decide +kernel), rf0_eq (by decide +kernel), rf0_eq (by decide +kernel), rf0_eq (by decide +kernel), rf0_eq (by decide +kernel), rf0_eq (by decide +kernel), rf0_eq (by decide +kernel), rf0_eq (by decide +kernel), rf0_eq (by decide +kernel), rf0_eq (by decide +kernel), rf0_eq (by decide +kernel), rf0_eq (by decide +kernel)⟩
