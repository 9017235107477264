/-! THE ABSTRACT MACHINE: values are (tag, number), a memory is a function of address and place; every address is a number: 0 the script, 1 .. what the law makes, in the order of its making. -/
/-- 0 int, 1 long, 2 a reference, 3 null, above: not known -/
abbrev AV : Type := Nat × Int
abbrev Mem : Type := Int → Int → Int
/-- how many cells; of each its kind (a class, 0; 20.. an array, its length); of each place that holds a reference what it refers to (below 0: null) -/
abbrev Lay : Type := Int × (Int → Nat × Int) × (Int → Int → Int)
def kd (L : Lay) (o : Int) : Nat × Int := L.2.1 o
def rf (L : Lay) (o k : Int) : Int := L.2.2 o k
abbrev inI (i : Int) : Prop := -2147483648 ≤ i ∧ i < 2147483648
abbrev inL (i : Int) : Prop := -9223372036854775808 ≤ i ∧ i < 9223372036854775808
def ad (b B : Nat) (o : Int) : Nat := if o ≤ 0 then b else B + (o.toNat - 1)
def cv (b B : Nat) (v : AV) : Value := match v.1 with
  | 0 => .int (Int32.ofInt v.2)
  | 1 => .long (Int64.ofInt v.2)
  | 2 => .ref (ad b B v.2)
  | _ => .null
def okv (v : AV) : Prop := (v.1 = 0 → inI v.2) ∧ (v.1 = 1 → inL v.2)
def okT (ty : FieldType) (v : Int) : Prop := match ty with
  | .long => inL v
  | .byte => -128 ≤ v ∧ v < 128
  | .boolean => v = 0 ∨ v = 1
  | .object _ => True
  | .array _ => True
  | _ => inI v
def aTy : Nat → FieldType := fun t => match t with
  | 20 => .int
  | 21 => .long
  | 22 => .byte
  | 23 => .array .int
  | 24 => .object RX2
  | 25 => .object RX7
  | _ => .object RX3
def sty (L : Lay) (o k : Int) : FieldType := if (kd L o).1 < 11 then cty (kd L o).1 k.toNat else aTy (kd L o).1
def okM (L : Lay) (μ : Mem) : Prop := ∀ o k, 0 ≤ o → o ≤ L.1 → okT (sty L o k) (μ o k)
def rv (b B : Nat) (a : Int) : Value := if a < 0 then .null else .ref (ad b B a)
def slotV (b B : Nat) (L : Lay) (μ : Mem) (ty : FieldType) (o k : Int) : Value := match ty with
  | .long => .long (Int64.ofInt (μ o k))
  | .object _ => rv b B (rf L o k)
  | .array _ => rv b B (rf L o k)
  | _ => .int (Int32.ofInt (μ o k))
def tysL (dA : Nat → ClassId) : List (ClassId × FieldType) := [(dA 0, .int), (dA 1, .long), (dA 2, .byte), (dA 3, .array .int), (dA 4, .object RX2), (dA 5, .object RX7), (dA 6, .object RX3)]
def fldL (b B : Nat) (L : Lay) (μ : Mem) (c : Nat) (o : Int) : List Value := (List.range (cN c)).map fun k => slotV b B L μ (cty c k) o (k : Int)
def arrA (b B : Nat) (L : Lay) (μ : Mem) (t : Nat) (o : Int) : (Nat → Int32) ⊕ (Nat → Int64) ⊕ (Nat → UInt32) ⊕ (Nat → UInt64) ⊕ (Nat → Option Nat) :=
  if t = 21 then .inr (.inl fun j => Int64.ofInt (μ o (j : Int)))
  else if t = 20 ∨ t = 22 then .inl fun j => Int32.ofInt (μ o (j : Int))
  else .inr (.inr (.inr (.inr fun j => if rf L o (j : Int) < 0 then none else some (ad b B (rf L o (j : Int))))))
def entry (b B : Nat) (dA : Nat → ClassId) (L : Lay) (μ : Mem) (o : Int) : va_E :=
  if (kd L o).1 < 11 then .inr ((kd L o).1, fldL b B L μ (kd L o).1 o)
  else .inl (dA ((kd L o).1 - 20), (kd L o).2.toNat, arrA b B L μ (kd L o).1 o)
/-- the cells 1 .. N; cell n stands at place n - 1 -/
def wld (b B : Nat) (dA : Nat → ClassId) (L : Lay) (μ : Mem) : va_W := (List.range L.1.toNat).map fun n => (B + n, entry b B dA L μ ((n : Int) + 1))
def KK (D : va_G) (dA : Nat → ClassId) (s : State) : Prop :=
  va_K D clsL (tysL dA) s ∧ (∀ w ∈ nestW, va_Nw w s) ∧ (Cond.arrayOver (.array .int)).before #[] s = true ∧ va_AO RX2 s ∧ va_AO RX7 s ∧ va_AO RX3 s
def Rep (b B : Nat) (D : va_G) (dA : Nat → ClassId) (L : Lay) (μ : Mem) (s : State) (H : Heap) : Prop :=
  va_P D clsL (wld b B dA L μ) H ∧ H.size = B + L.1.toNat ∧ 0 ≤ L.1 ∧ va_X b (kd L 0).2.toNat (fun j => Int32.ofInt (μ 0 (j : Int))) s H ∧ okM L μ
/-- the known locals -/
def lvl (b B : Nat) : Nat → List AV → List (Nat × Value)
  | _, [] => []
  | i, v :: t => if v.1 < 4 then (i, cv b B v) :: lvl b B (i + 1) t else lvl b B (i + 1) t
theorem lvl_in (b B : Nat) : ∀ (ls : List AV) (i : Nat) (q : Nat × Value), q ∈ lvl b B i ls ↔ ∃ (j : Nat) (v : AV), ls[j]? = some v ∧ v.1 < 4 ∧ q = (i + j, cv b B v)
  | [], i, q => by simp [lvl]
  | v :: t, i, q => by
    have ih := lvl_in b B t (i + 1) q
    unfold lvl
    constructor
    · intro h
      have h2 : q = (i, cv b B v) ∧ v.1 < 4 ∨ q ∈ lvl b B (i + 1) t := by
        split at h
        · rename_i hv
          rcases List.mem_cons.mp h with h | h
          · exact Or.inl ⟨h, hv⟩
          · exact Or.inr h
        · exact Or.inr h
      rcases h2 with ⟨h, hv⟩ | h
      · exact ⟨0, v, by simp, hv, by simpa using h⟩
      · obtain ⟨j, w, h1, h2, h3⟩ := ih.mp h
        exact ⟨j + 1, w, by simpa using h1, h2, by rw [h3]; congr 1; omega⟩
    · rintro ⟨j, w, h1, h2, rfl⟩
      cases j with
      | zero =>
        have : v = w := by simpa using h1
        subst this
        simp [h2]
      | succ j =>
        have h4 : (i + (j + 1), cv b B w) ∈ lvl b B (i + 1) t := ih.mpr ⟨j, w, by simpa using h1, h2, by congr 1; omega⟩
        split
        · exact List.mem_cons_of_mem _ h4
        · exact h4
/-- a local becomes a value of one slot; of two -/
def clr (ls : List AV) (i : Nat) : List AV := if 0 < i ∧ (ls.getD (i - 1) (9, 0)).1 = 1 then ls.set (i - 1) (9, 0) else ls
def setL1 (ls : List AV) (i : Nat) (v : AV) : List AV := (clr ls i).set i v
def setL2 (ls : List AV) (i : Nat) (v : AV) : List AV := ((clr ls i).set i v).set (i + 1) (9, 0)
theorem cv_cat (b B : Nat) (v : AV) (h : v.1 < 4) : (cv b B v).category = if v.1 = 1 then 2 else 1 := by
  obtain ⟨t, x⟩ := v
  have : t = 0 ∨ t = 1 ∨ t = 2 ∨ t = 3 := by simp only at h; omega
  rcases this with rfl | rfl | rfl | rfl <;> simp [cv, Value.category]
theorem lvh_sub {ls : Array Slot} {n : Nat} {l l' : List (Nat × Value)} (h : lv_has ls n l) (hs : ∀ q ∈ l', q ∈ l) : lv_has ls n l' := ⟨h.1, h.2.1, fun q hq => h.2.2 q (hs q hq)⟩
theorem clr_at {ls : List AV} {i j : Nat} {w : AV} (h : (clr ls i)[j]? = some w) (hw : w.1 < 4) : ls[j]? = some w ∧ ¬ (j + 1 = i ∧ w.1 = 1) := by
  unfold clr at h
  split at h
  · rename_i hc
    by_cases hj : j = i - 1
    · subst hj
      rw [List.getElem?_set] at h
      split at h
      · split at h
        · cases h; simp at hw
        · cases h
      · rename_i q; exact absurd rfl q
    · rw [List.getElem?_set_ne (fun q => hj q.symm)] at h
      exact ⟨h, fun q => hj (by omega)⟩
  · rename_i hc
    refine ⟨h, fun q => hc ⟨by omega, ?_⟩⟩
    have hj : i - 1 = j := by omega
    rw [hj]
    simp [List.getD, h, q.2]
theorem lvl_set1 {b B i : Nat} {ls : List AV} {v : AV} (hv : v.1 < 4) (q : Nat × Value) (hq : q ∈ lvl b B 0 (setL1 ls i v)) :
    q ∈ (i, cv b B v) :: (lvl b B 0 ls).filter (fun q => !(q.1 == i) && !(q.1 + 1 == i && q.2.category == 2)) := by
  obtain ⟨j, w, h1, h2, rfl⟩ := (lvl_in _ _ _ _ _).mp hq
  rw [Nat.zero_add]
  unfold setL1 at h1
  by_cases hj : j = i
  · subst hj
    rw [List.getElem?_set] at h1
    simp only [if_true] at h1
    split at h1
    · cases h1; exact List.mem_cons_self
    · cases h1
  · rw [List.getElem?_set_ne (fun q => hj q.symm)] at h1
    obtain ⟨h3, h4⟩ := clr_at h1 h2
    refine List.mem_cons_of_mem _ (List.mem_filter.mpr ⟨(lvl_in _ _ _ _ _).mpr ⟨j, w, h3, h2, by rw [Nat.zero_add]⟩, ?_⟩)
    have hc := cv_cat b B w h2
    by_cases h5 : w.1 = 1
    · have : ¬ j + 1 = i := fun q => h4 ⟨q, h5⟩
      simp [hj, this]
    · rw [if_neg h5] at hc
      simp [hj, hc]
theorem lvl_set2 {b B i : Nat} {ls : List AV} {v : AV} (hv : v.1 < 4) (q : Nat × Value) (hq : q ∈ lvl b B 0 (setL2 ls i v)) :
    q ∈ (i, cv b B v) :: (lvl b B 0 ls).filter (fun q => !(q.1 == i) && (!(q.1 == i + 1) && !(q.1 + 1 == i && q.2.category == 2))) := by
  obtain ⟨j, w, h1, h2, rfl⟩ := (lvl_in _ _ _ _ _).mp hq
  rw [Nat.zero_add]
  unfold setL2 at h1
  by_cases hj1 : j = i + 1
  · subst hj1
    rw [List.getElem?_set] at h1
    simp only [if_true] at h1
    split at h1
    · cases h1; simp at h2
    · cases h1
  rw [List.getElem?_set_ne (fun q => hj1 q.symm)] at h1
  by_cases hj : j = i
  · subst hj
    rw [List.getElem?_set] at h1
    simp only [if_true] at h1
    split at h1
    · cases h1; exact List.mem_cons_self
    · cases h1
  · rw [List.getElem?_set_ne (fun q => hj q.symm)] at h1
    obtain ⟨h3, h4⟩ := clr_at h1 h2
    refine List.mem_cons_of_mem _ (List.mem_filter.mpr ⟨(lvl_in _ _ _ _ _).mpr ⟨j, w, h3, h2, by rw [Nat.zero_add]⟩, ?_⟩)
    have hc := cv_cat b B w h2
    by_cases h5 : w.1 = 1
    · have : ¬ j + 1 = i := fun q => h4 ⟨q, h5⟩
      simp [hj, hj1, this]
    · rw [if_neg h5] at hc
      simp [hj, hj1, hc]
