/-! what each field refers to; the rows for it; Math -/
def fk : Nat → Nat → Nat × Int := fun ci k => match ci, k with
  | 0, 2 => (23, 5)
  | 0, 3 => (23, 5)
  | 1, 4 => (24, 19)
  | 1, 5 => (20, 5)
  | 1, 6 => (25, 10)
  | 1, 7 => (26, 20)
  | 1, 8 => (21, 25)
  | 1, 9 => (3, 0)
  | 2, 2 => (7, 0)
  | 4, 0 => (23, 4)
  | 4, 1 => (20, 4)
  | 5, 0 => (0, 0)
  | 5, 1 => (1, 0)
  | 5, 3 => (7, 0)
  | 5, 4 => (7, 0)
  | 5, 5 => (26, 5)
  | 5, 6 => (26, 5)
  | 5, 7 => (20, 5)
  | 5, 8 => (25, 3)
  | 5, 9 => (7, 0)
  | 6, 1 => (22, 640)
  | 7, 0 => (3, 0)
  | 7, 1 => (3, 0)
  | 8, 2 => (22, 160)
  | 8, 3 => (3, 0)
  | 8, 4 => (7, 0)
  | 9, 0 => (0, 0)
  | 9, 1 => (0, 0)
  | 9, 2 => (0, 0)
  | 9, 3 => (1, 0)
  | 9, 4 => (1, 0)
  | 9, 5 => (1, 0)
  | 9, 7 => (5, 0)
  | 9, 8 => (8, 0)
  | 9, 9 => (6, 0)
  | 9, 10 => (4, 0)
  | 9, 11 => (3, 0)
  | 9, 12 => (3, 0)
  | 9, 13 => (7, 0)
  | 10, 0 => (21, 510)
  | 10, 1 => (21, 510)
  | 10, 2 => (21, 510)
  | 10, 6 => (20, 160)
  | 10, 13 => (21, 5)
  | 10, 14 => (21, 5)
  | 10, 16 => (20, 10)
  | 10, 17 => (21, 40)
  | 10, 19 => (21, 12)
  | 10, 20 => (20, 4000)
  | 10, 22 => (20, 20)
  | 10, 23 => (21, 25)
  | 10, 24 => (21, 20)
  | 10, 25 => (21, 510)
  | 10, 26 => (20, 4)
  | 10, 27 => (20, 80)
  | _, _ => (99, 0)
def ek : Nat → Nat → Nat × Int := fun ci k => match ci, k with
  | 0, 2 => (20, 16)
  | 0, 3 => (20, 16)
  | 1, 4 => (2, 0)
  | 1, 6 => (7, 0)
  | 1, 7 => (3, 0)
  | 4, 0 => (20, 20)
  | 5, 5 => (3, 0)
  | 5, 6 => (3, 0)
  | 5, 8 => (7, 0)
  | _, _ => (99, 0)
def LayOK (L : Lay) : Prop := ∀ o ci, isK L o (ci, 0) → ci < 11 → ∀ k, k < cN ci → slotTag (cty ci k) = 2 → isK L (rf L o (k : Int)) (fk ci k) ∧ (23 ≤ (fk ci k).1 → ∀ i : Int, 0 ≤ i → i < (fk ci k).2 → isK L (rf L (rf L o (k : Int)) i) (ek ci k))
theorem isK_pos {L : Lay} {a : Int} {q : Nat × Int} (h : isK L a q) : 0 ≤ a := by have := h.1; omega
theorem lay_f {L : Lay} (hL : LayOK L) {o : Int} {ci : Nat} (ho : isK L o (ci, 0)) (k : Nat) (h : (Nat.ble (ci + 1) 11 && Nat.ble (k + 1) (cN ci) && Nat.beq (slotTag (cty ci k)) 2) = true) : isK L (rf L o (k : Int)) (fk ci k) := by
  simp only [Bool.and_eq_true, Nat.beq_eq] at h
  exact (hL o ci ho (Nat.le_of_ble_eq_true h.1.1) k (Nat.le_of_ble_eq_true h.1.2) h.2).1
theorem lay_e {L : Lay} (hL : LayOK L) {o : Int} {ci : Nat} (ho : isK L o (ci, 0)) (k : Nat) (h : (Nat.ble (ci + 1) 11 && Nat.ble (k + 1) (cN ci) && Nat.beq (slotTag (cty ci k)) 2 && Nat.ble 23 (fk ci k).1) = true) {i : Int} (hi : 0 ≤ i ∧ i < (fk ci k).2) : isK L (rf L (rf L o (k : Int)) i) (ek ci k) := by
  simp only [Bool.and_eq_true, Nat.beq_eq] at h
  exact (hL o ci ho (Nat.le_of_ble_eq_true h.1.1.1) k (Nat.le_of_ble_eq_true h.1.1.2) h.1.2).2 (Nat.le_of_ble_eq_true h.2) i hi.1 hi.2
section
variable {X : MI} {ht : Nat} {k : Nat × Nat} {pc : Nat} {ls st : List AV} {L : Lay} {μ : Mem} {Q : Option AV → Lay → Mem → Prop}
theorem wa_imax (pc' : Nat) {idx : Nat} {x y : Int} (hd : decode X.2.1 pc = .ok (.invokestatic idx, 3)) (hp : pc + 3 = pc') (hw : Cond.methodLink X.1.cls idx yJ9_max_7cf53 ∈ GW) (hst : catS st ≤ 8) (hht : 1 ≤ ht) (h : WA X ht k pc' ls ((0, max x y) :: st) L μ Q) : WA X ht k pc ls ((0, y) :: (0, x) :: st) L μ Q := by
  subst hp
  intro h1 h2 p l e R s m args below meth c b B D dA Z C S H locs cells slots lsA cx hr hR hS hc1 hc2 hl
  have hy : inI y := (hd1 h2).1 rfl
  have hx : inI x := (hd2 h2).1 rfl
  have g := cx.2.2.2.2.1
  have e9 := h h1 (okv_cons (okv_int ⟨by omega, by omega⟩) (tl2 h2)) p l e R s m args below meth c b B D dA Z C S H locs cells slots lsA cx hr hR hS hc1 hc2 hl
  have hsr := stack_room (b := b) (B := B) hst
  obtain ⟨-, -, -, -, -, -, -, -, -, a1, a2, a3, a4⟩ := id cx
  refine va_mmax cx.1 cx.2.1 (by rw [cx.2.2.1]; exact hl.1.symm) cx.2.2.2.1 (g _ hw) (g _ cvJ9_max_7cf53.2) (g _ cvJ9_max_7cf53.1.2.1) (g _ cvJ9_max_7cf53.1.1) (by omega) (by omega) (by omega) (by omega) hd ?_
  rw [show (if Int32.ofInt x < Int32.ofInt y then Int32.ofInt y else Int32.ofInt x) = Int32.ofInt (max x y) by
    by_cases q : x < y
    · rw [if_pos ((i32_lt hx hy).mpr q), show max x y = y by omega]
    · rw [if_neg (fun z => q ((i32_lt hx hy).mp z)), show max x y = x by omega]]
  exact e9
theorem wa_lmax (pc' : Nat) {idx : Nat} {x y : Int} (hd : decode X.2.1 pc = .ok (.invokestatic idx, 3)) (hp : pc + 3 = pc') (hw : Cond.methodLink X.1.cls idx yJ9_max_f86c9 ∈ GW) (hst : catS st ≤ 8) (hht : 1 ≤ ht) (h : WA X ht k pc' ls ((1, max x y) :: st) L μ Q) : WA X ht k pc ls ((1, y) :: (1, x) :: st) L μ Q := by
  subst hp
  intro h1 h2 p l e R s m args below meth c b B D dA Z C S H locs cells slots lsA cx hr hR hS hc1 hc2 hl
  have hy : inL y := (hd1 h2).2 rfl
  have hx : inL x := (hd2 h2).2 rfl
  have g := cx.2.2.2.2.1
  have e9 := h h1 (okv_cons (okv_long ⟨by omega, by omega⟩) (tl2 h2)) p l e R s m args below meth c b B D dA Z C S H locs cells slots lsA cx hr hR hS hc1 hc2 hl
  have hsr := stack_room (b := b) (B := B) hst
  obtain ⟨-, -, -, -, -, -, -, -, -, a1, a2, a3, a4⟩ := id cx
  refine va_mmax_long cx.1 cx.2.1 (by rw [cx.2.2.1]; exact hl.1.symm) cx.2.2.2.1 (g _ hw) (g _ cvJ9_max_f86c9.2) (g _ cvJ9_max_f86c9.1.2.1) (g _ cvJ9_max_f86c9.1.1) (by omega) (by omega) (by omega) (by omega) hd ?_
  rw [show (if Int64.ofInt y < Int64.ofInt x then Int64.ofInt x else Int64.ofInt y) = Int64.ofInt (max x y) by
    by_cases q : y < x
    · rw [if_pos ((i64_lt hy hx).mpr q), show max x y = x by omega]
    · rw [if_neg (fun z => q ((i64_lt hy hx).mp z)), show max x y = y by omega]]
  exact e9
theorem wa_lmin (pc' : Nat) {idx : Nat} {x y : Int} (hd : decode X.2.1 pc = .ok (.invokestatic idx, 3)) (hp : pc + 3 = pc') (hw : Cond.methodLink X.1.cls idx yJ9_min_f86c9 ∈ GW) (hst : catS st ≤ 8) (hht : 1 ≤ ht) (h : WA X ht k pc' ls ((1, min x y) :: st) L μ Q) : WA X ht k pc ls ((1, y) :: (1, x) :: st) L μ Q := by
  subst hp
  intro h1 h2 p l e R s m args below meth c b B D dA Z C S H locs cells slots lsA cx hr hR hS hc1 hc2 hl
  have hy : inL y := (hd1 h2).2 rfl
  have hx : inL x := (hd2 h2).2 rfl
  have g := cx.2.2.2.2.1
  have e9 := h h1 (okv_cons (okv_long ⟨by omega, by omega⟩) (tl2 h2)) p l e R s m args below meth c b B D dA Z C S H locs cells slots lsA cx hr hR hS hc1 hc2 hl
  have hsr := stack_room (b := b) (B := B) hst
  obtain ⟨-, -, -, -, -, -, -, -, -, a1, a2, a3, a4⟩ := id cx
  refine va_mmin_long cx.1 cx.2.1 (by rw [cx.2.2.1]; exact hl.1.symm) cx.2.2.2.1 (g _ hw) (g _ cvJ9_min_f86c9.2) (g _ cvJ9_min_f86c9.1.2.1) (g _ cvJ9_min_f86c9.1.1) (by omega) (by omega) (by omega) (by omega) hd ?_
  rw [show (if Int64.ofInt y < Int64.ofInt x then Int64.ofInt y else Int64.ofInt x) = Int64.ofInt (min x y) by
    by_cases q : y < x
    · rw [if_pos ((i64_lt hy hx).mpr q), show min x y = y by omega]
    · rw [if_neg (fun z => q ((i64_lt hy hx).mp z)), show min x y = x by omega]]
  exact e9
theorem wa_labs (pc' : Nat) {idx : Nat} {x : Int} (hd : decode X.2.1 pc = .ok (.invokestatic idx, 3)) (hp : pc + 3 = pc') (hw : Cond.methodLink X.1.cls idx yJ9_abs_067f4 ∈ GW) (hst : catS st ≤ 8) (hht : 1 ≤ ht) (hn : inL (-x)) (h : WA X ht k pc' ls ((1, max x (-x)) :: st) L μ Q) : WA X ht k pc ls ((1, x) :: st) L μ Q := by
  subst hp
  intro h1 h2 p l e R s m args below meth c b B D dA Z C S H locs cells slots lsA cx hr hR hS hc1 hc2 hl
  have hx : inL x := (hd1 h2).2 rfl
  have g := cx.2.2.2.2.1
  have e9 := h h1 (okv_cons (okv_long ⟨by omega, by omega⟩) (okv_tl h2)) p l e R s m args below meth c b B D dA Z C S H locs cells slots lsA cx hr hR hS hc1 hc2 hl
  have hsr := stack_room (b := b) (B := B) hst
  obtain ⟨-, -, -, -, -, -, -, -, -, a1, a2, a3, a4⟩ := id cx
  refine va_mabs_long cx.1 cx.2.1 (by rw [cx.2.2.1]; exact hl.1.symm) cx.2.2.2.1 (g _ hw) (g _ cvJ9_abs_067f4.2) (g _ cvJ9_abs_067f4.1.2.1) (g _ cvJ9_abs_067f4.1.1) (by omega) (by omega) (by omega) (by omega) hd ?_
  rw [show (if (0 : Int64) < Int64.ofInt x then Int64.ofInt x else -Int64.ofInt x) = Int64.ofInt (max x (-x)) by
    rw [show -Int64.ofInt x = Int64.ofInt (-x) from (Int64.ofInt_neg _).symm, show (0 : Int64) = Int64.ofInt 0 from rfl]
    by_cases q : 0 < x
    · rw [if_pos ((i64_lt (show inL 0 by decide) hx).mpr q), show max x (-x) = x by omega]
    · rw [if_neg (fun z => q ((i64_lt (show inL 0 by decide) hx).mp z)), show max x (-x) = -x by omega]]
  exact e9
end
