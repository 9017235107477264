/-! a laid world: what each reference refers to, by class and field; rows that use it -/
def isK (L : Lay) (a : Int) (q : Nat × Int) : Prop := 1 ≤ a ∧ a ≤ L.1 ∧ kd L a = q
section WALay
variable {X Y : MI} {ht h9 : Nat} {k : Nat × Nat} {pc : Nat} {ls st : List AV} {L : Lay} {μ : Mem} {Q : Option AV → Lay → Mem → Prop}
theorem okA_of {a i n : Int} {t : Nat} (h : isK L a (t, n)) (hi : 0 ≤ i ∧ i < n) : okA L a t i := ⟨h.1, h.2.1, by rw [h.2.2], hi.1, by rw [h.2.2]; exact hi.2⟩
theorem i64_edivP {x y : Int} (hx : 0 ≤ x) (hy : 0 < y) : x.tdiv y = x / y := Int.tdiv_eq_ediv_of_nonneg hx
theorem edivP_le {x y : Int} (hx : 0 ≤ x) (hy : 0 < y) : 0 ≤ x / y ∧ x / y ≤ x := ⟨Int.ediv_nonneg hx (by omega), Int.ediv_le_self y hx⟩
theorem emodP_le {x y : Int} (hx : 0 ≤ x) (hy : 0 < y) : 0 ≤ x % y ∧ x % y ≤ x := ⟨Int.emod_nonneg x (by omega), by
  have h1 := Int.emod_add_mul_ediv x y
  have h2 := Int.mul_nonneg (show 0 ≤ y by omega) (edivP_le hx hy).1
  omega⟩
theorem wa_ldivE (pc' : Nat) {x y : Int} (hd : decode X.2.1 pc = .ok (.ldiv, 1)) (hp : pc + 1 = pc') (hs : 0 ≤ x ∧ 0 < y) (h : WA X ht k pc' ls ((1, x / y) :: st) L μ Q) : WA X ht k pc ls ((1, y) :: (1, x) :: st) L μ Q :=
  WA.ok fun _ h2 _ => by
    have hx : inL x := (hd2 h2).2 rfl
    have e := edivP_le hs.1 hs.2
    have hx1 := hx.2
    refine wa_ldiv pc' hd hp (by omega) ?_ ?_
    · rw [i64_edivP hs.1 hs.2]; exact ⟨by omega, by omega⟩
    · rw [i64_edivP hs.1 hs.2]; exact h
theorem wa_lremE (pc' : Nat) {x y : Int} (hd : decode X.2.1 pc = .ok (.lrem, 1)) (hp : pc + 1 = pc') (hs : 0 ≤ x ∧ 0 < y) (h : WA X ht k pc' ls ((1, x % y) :: st) L μ Q) : WA X ht k pc ls ((1, y) :: (1, x) :: st) L μ Q :=
  WA.ok fun _ h2 _ => by
    have hx : inL x := (hd2 h2).2 rfl
    have e := edivP_le hs.1 hs.2
    have e2 := emodP_le hs.1 hs.2
    have hx1 := hx.2
    refine wa_lrem pc' hd hp (by omega) ?_ ?_ ?_
    · rw [i64_edivP hs.1 hs.2]; exact ⟨by omega, by omega⟩
    · rw [Int.tmod_eq_emod_of_nonneg hs.1]; exact ⟨by omega, by omega⟩
    · rw [Int.tmod_eq_emod_of_nonneg hs.1]; exact h
theorem wa_idivE (pc' : Nat) {x y : Int} (hd : decode X.2.1 pc = .ok (.idiv, 1)) (hp : pc + 1 = pc') (hs : 0 ≤ x ∧ 0 < y) (h : WA X ht k pc' ls ((0, x / y) :: st) L μ Q) : WA X ht k pc ls ((0, y) :: (0, x) :: st) L μ Q :=
  WA.ok fun _ h2 _ => by
    have hx : inI x := (hd2 h2).1 rfl
    have e := edivP_le hs.1 hs.2
    have hx1 := hx.2
    refine wa_idiv pc' hd hp (by omega) ?_ ?_
    · rw [i64_edivP hs.1 hs.2]; exact ⟨by omega, by omega⟩
    · rw [i64_edivP hs.1 hs.2]; exact h
theorem wa_iremE (pc' : Nat) {x y : Int} (hd : decode X.2.1 pc = .ok (.irem, 1)) (hp : pc + 1 = pc') (hs : 0 ≤ x ∧ 0 < y) (h : WA X ht k pc' ls ((0, x % y) :: st) L μ Q) : WA X ht k pc ls ((0, y) :: (0, x) :: st) L μ Q :=
  WA.ok fun _ h2 _ => by
    have hx : inI x := (hd2 h2).1 rfl
    have e := edivP_le hs.1 hs.2
    have e2 := emodP_le hs.1 hs.2
    have hx1 := hx.2
    refine wa_irem pc' hd hp (by omega) ?_ ?_ ?_
    · rw [i64_edivP hs.1 hs.2]; exact ⟨by omega, by omega⟩
    · rw [Int.tmod_eq_emod_of_nonneg hs.1]; exact ⟨by omega, by omega⟩
    · rw [Int.tmod_eq_emod_of_nonneg hs.1]; exact h
/-- an int field: what is put is in range -/
theorem wa_putN (pc' : Nat) (j : Int) {idx ci kk : Nat} {o v : Int} (hd : decode X.2.1 pc = .ok (.putfield idx, 3)) (hp : pc + 3 = pc') (hw : FL X.1.cls idx ci kk) (hk : (Nat.ble (kk + 1) (cN ci) && Nat.ble (ci + 1) 11 && decide (cty ci kk = .int) && !(cT ci kk).2.2.2) = true) (hj : (kk : Int) = j) (ho : okO L o ci) (h : WA X ht k pc' ls st L (up μ o j v) Q) : WA X ht k pc ls ((0, v) :: (2, o) :: st) L μ Q :=
  WA.ok fun _ h2 _ => by
    simp only [Bool.and_eq_true, decide_eq_true_eq, Bool.not_eq_true'] at hk
    obtain ⟨⟨⟨k1, k2⟩, k3⟩, k4⟩ := hk
    have hv : inI v := (hd1 h2).1 rfl
    exact wa_putI pc' j hd hp hw (by simp only [k1, k2, k4, k3]; rfl) hj ho (by rw [k3]; exact hv) h
end WALay
