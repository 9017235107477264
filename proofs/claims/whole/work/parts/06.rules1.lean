/-! the rows of WA: numbers, locals, branches -/
theorem i32_toInt {a : Int} (h : inI a) : (Int32.ofInt a).toInt = a := Int32.toInt_ofInt_of_le h.1 h.2
theorem i64_toInt {a : Int} (h : inL a) : (Int64.ofInt a).toInt = a := Int64.toInt_ofInt_of_le h.1 h.2
theorem i32_lt {a b : Int} (ha : inI a) (hb : inI b) : Int32.ofInt a < Int32.ofInt b ↔ a < b := by
  rw [Int32.lt_iff_toInt_lt, i32_toInt ha, i32_toInt hb]
theorem i32_le {a b : Int} (ha : inI a) (hb : inI b) : Int32.ofInt a ≤ Int32.ofInt b ↔ a ≤ b := by
  rw [Int32.le_iff_toInt_le, i32_toInt ha, i32_toInt hb]
theorem i32_eq {a b : Int} (ha : inI a) (hb : inI b) : Int32.ofInt a = Int32.ofInt b ↔ a = b := by
  rw [← Int32.toInt_inj, i32_toInt ha, i32_toInt hb]
theorem i64_lt {a b : Int} (ha : inL a) (hb : inL b) : Int64.ofInt a < Int64.ofInt b ↔ a < b := by
  rw [Int64.lt_iff_toInt_lt, i64_toInt ha, i64_toInt hb]
theorem i64_eq {a b : Int} (ha : inL a) (hb : inL b) : Int64.ofInt a = Int64.ofInt b ↔ a = b := by
  rw [← Int64.toInt_inj, i64_toInt ha, i64_toInt hb]
theorem i32_div {a b : Int} (ha : inI a) (hb : inI b) (h : inI (a.tdiv b)) : Int32.ofInt a / Int32.ofInt b = Int32.ofInt (a.tdiv b) := by
  apply Int32.toInt_inj.mp
  rw [Int32.toInt_div, i32_toInt ha, i32_toInt hb, i32_toInt h]
  exact Int.bmod_eq_of_le (by have := h.1; omega) (by have := h.2; omega)
theorem i64_div {a b : Int} (ha : inL a) (hb : inL b) (h : inL (a.tdiv b)) : Int64.ofInt a / Int64.ofInt b = Int64.ofInt (a.tdiv b) := by
  apply Int64.toInt_inj.mp
  rw [Int64.toInt_div, i64_toInt ha, i64_toInt hb, i64_toInt h]
  exact Int.bmod_eq_of_le (by have := h.1; omega) (by have := h.2; omega)
theorem i64_mod {a b : Int} (ha : inL a) (hb : inL b) : Int64.ofInt a % Int64.ofInt b = Int64.ofInt (a.tmod b) := by
  have h : inL (a.tmod b) := by
    have h1 := Int.natAbs_tmod a b
    have h2 : (a.natAbs % b.natAbs) ≤ a.natAbs := Nat.mod_le _ _
    have ⟨h3, h4⟩ := ha
    constructor
    · rcases Int.le_total 0 a with h0 | h0
      · have := Int.tmod_nonneg b h0; omega
      · omega
    · rcases Int.le_total 0 a with h0 | h0
      · omega
      · have h5 := Int.tmod_nonneg b (a := -a) (by omega)
        rw [Int.neg_tmod] at h5
        omega
  apply Int64.toInt_inj.mp
  rw [Int64.toInt_mod, i64_toInt ha, i64_toInt hb, i64_toInt h]
theorem i32_to64 {a : Int} (h : inI a) : (Int32.ofInt a).toInt64 = Int64.ofInt a := by
  apply Int64.toInt_inj.mp
  rw [Int32.toInt_toInt64, i32_toInt h, i64_toInt (by unfold inI at h; unfold inL; omega)]
theorem i64_to32 {a : Int} (h : inI a) : (Int64.ofInt a).toInt32 = Int32.ofInt a := by
  apply Int32.toInt_inj.mp
  rw [Int64.toInt_toInt32, i32_toInt h, i64_toInt (by unfold inI at h; unfold inL; omega)]
  exact Int.bmod_eq_of_le (by have := h.1; omega) (by have := h.2; omega)
theorem i32_to8 {a : Int} (h : -128 ≤ a ∧ a < 128) : (Int32.ofInt a).toInt8.toInt32 = Int32.ofInt a := by
  apply Int32.toInt_inj.mp
  rw [Int8.toInt_toInt32, Int32.toInt_toInt8, i32_toInt (by unfold inI; omega)]
  exact Int.bmod_eq_of_le (by have := h.1; omega) (by have := h.2; omega)
/-- bits of ints -/
def bAnd (a b : Int) : Int := (Int32.ofInt a &&& Int32.ofInt b).toInt
def bOr (a b : Int) : Int := (Int32.ofInt a ||| Int32.ofInt b).toInt
def bXor (a b : Int) : Int := (Int32.ofInt a ^^^ Int32.ofInt b).toInt
def bShl (a b : Int) : Int := (Int32.ofInt a <<< (Int32.ofInt b &&& 31)).toInt
def bShr (a b : Int) : Int := (Int32.ofInt a >>> (Int32.ofInt b &&& 31)).toInt
def bUshr (a b : Int) : Int := ((Int32.ofInt a).toUInt32 >>> ((Int32.ofInt b).toUInt32 &&& Int32.toUInt32 31)).toInt32.toInt
theorem i32_in (x : Int32) : inI x.toInt := ⟨Int32.le_toInt x, Int32.toInt_lt x⟩
theorem okv_cons {v : AV} {st : List AV} (h : okv v) (hs : ∀ v ∈ st, okv v) : ∀ w ∈ v :: st, okv w := fun w hw => by
  rcases List.mem_cons.mp hw with rfl | hw
  · exact h
  · exact hs w hw
theorem okv_tl {v : AV} {st : List AV} (hs : ∀ w ∈ v :: st, okv w) : ∀ w ∈ st, okv w := fun w hw => hs w (List.mem_cons_of_mem _ hw)
theorem okv_int {a : Int} (h : inI a) : okv (0, a) := ⟨fun _ => h, fun h => absurd (show (0 : Nat) = 1 from h) (by decide)⟩
theorem okv_long {a : Int} (h : inL a) : okv (1, a) := ⟨fun h => absurd (show (1 : Nat) = 0 from h) (by decide), fun _ => h⟩
theorem okv_ref {a : Int} : okv (2, a) := ⟨fun h => absurd (show (2 : Nat) = 0 from h) (by decide), fun h => absurd (show (2 : Nat) = 1 from h) (by decide)⟩
theorem okv_null {a : Int} : okv (3, a) := ⟨fun h => absurd (show (3 : Nat) = 0 from h) (by decide), fun h => absurd (show (3 : Nat) = 1 from h) (by decide)⟩
theorem okv_set {ls : List AV} {i : Nat} {v : AV} (h : ∀ w ∈ ls, okv w) (hv : okv v) : ∀ w ∈ ls.set i v, okv w := fun w hw => by
  rcases List.mem_or_eq_of_mem_set hw with hw | rfl
  · exact h w hw
  · exact hv
theorem okv_clr {ls : List AV} {i : Nat} (h : ∀ w ∈ ls, okv w) : ∀ w ∈ clr ls i, okv w := by
  unfold clr
  split
  · exact okv_set h okv9
  · exact h
theorem okv_set1 {ls ls' : List AV} {i : Nat} {v : AV} (hl : setL1 ls i v = ls') (h : ∀ w ∈ ls, okv w) (hv : okv v) : ∀ w ∈ ls', okv w := by
  rw [← hl]; exact okv_set (okv_clr h) hv
theorem okv_set2 {ls ls' : List AV} {i : Nat} {v : AV} (hl : setL2 ls i v = ls') (h : ∀ w ∈ ls, okv w) (hv : okv v) : ∀ w ∈ ls', okv w := by
  rw [← hl]; exact okv_set (okv_set (okv_clr h) hv) okv9
theorem lvl_at {b B n : Nat} {lsA : Array Slot} {ls : List AV} {i : Nat} {v : AV} (h : lv_has lsA n (lvl b B 0 ls)) (hl : ls[i]? = some v) (hv : v.1 < 4) : lsA[i]? = some (.val (cv b B v)) :=
  h.2.2 (i, cv b B v) ((lvl_in _ _ _ _ _).mpr ⟨i, v, hl, hv, by rw [Nat.zero_add]⟩)
section WARows
variable {X : MI} {ht : Nat} {k : Nat × Nat} {pc pc' : Nat} {ls ls' st : List AV} {L : Lay} {μ : Mem} {Q : Option AV → Lay → Mem → Prop}
/-- what is held is in range -/
theorem WA.ok (h : (∀ v ∈ ls, okv v) → (∀ v ∈ st, okv v) → okM L μ → WA X ht k pc ls st L μ Q) : WA X ht k pc ls st L μ Q :=
  fun h1 h2 p l e R s m args below meth c b B D dA Z C S H locs cells slots lsA cx hr hR => h h1 h2 hR.2.2.2.2 h1 h2 p l e R s m args below meth c b B D dA Z C S H locs cells slots lsA cx hr hR
theorem WA.mono {Q' : Option AV → Lay → Mem → Prop} (h : WA X ht k pc ls st L μ Q') (hq : ∀ r L μ, Q' r L μ → Q r L μ) : WA X ht k pc ls st L μ Q :=
  fun h1 h2 p l e R s m args below meth c b B D dA Z C S H locs cells slots lsA cx hr => h h1 h2 p l e R s m args below meth c b B D dA Z C S H locs cells slots lsA cx (fun r L' μ' H' locs' c' s' ls' pc' ins hQ => hr r L' μ' H' locs' c' s' ls' pc' ins (hq _ _ _ hQ))
theorem TR.mono {av : List AV} {Q' : Option AV → Lay → Mem → Prop} (h : TR X ht k av L μ Q') (hq : ∀ r L μ, Q' r L μ → Q r L μ) : TR X ht k av L μ Q := by
  intro hok l b B D dA hbB
  intro p e ha hc hk s m args below hf hpre hP hK
  obtain ⟨t, o, h1, h2, h3, ⟨⟨r, L', μ', e1, e2, e3⟩, h5⟩, h6⟩ := h hok l b B D dA hbB p e ha hc hk s m args below hf hpre hP hK
  exact ⟨t, o, h1, h2, h3, ⟨⟨r, L', μ', e1, hq _ _ _ e2, e3⟩, h5⟩, h6⟩
theorem wa_iconst (pc' : Nat) {n : Int} (hd : decode X.2.1 pc = .ok (.iconst n, 1)) (hp : pc + 1 = pc') (hn : inI n) (h : WA X ht k pc' ls ((0, n) :: st) L μ Q) : WA X ht k pc ls st L μ Q := by
  subst hp
  intro h1 h2 p l e R s m args below meth c b B D dA Z C S H locs cells slots lsA cx hr hR hS hc1 hc2 hl
  exact lv_iconst cx.1 cx.2.1 hd rfl (h h1 (okv_cons (okv_int hn) h2) p l e R s m args below meth c b B D dA Z C S H locs cells slots lsA cx hr hR hS hc1 hc2 hl)
theorem wa_bipush (pc' : Nat) {n : Int} (hd : decode X.2.1 pc = .ok (.bipush n, 2)) (hp : pc + 2 = pc') (hn : (Int8.ofInt n).toInt32 = Int32.ofInt n ∧ inI n) (h : WA X ht k pc' ls ((0, n) :: st) L μ Q) : WA X ht k pc ls st L μ Q := by
  subst hp
  intro h1 h2 p l e R s m args below meth c b B D dA Z C S H locs cells slots lsA cx hr hR hS hc1 hc2 hl
  exact lv_bipush cx.1 cx.2.1 hd hn.1 (h h1 (okv_cons (okv_int hn.2) h2) p l e R s m args below meth c b B D dA Z C S H locs cells slots lsA cx hr hR hS hc1 hc2 hl)
theorem wa_sipush (pc' : Nat) {n : Int} (hd : decode X.2.1 pc = .ok (.sipush n, 3)) (hp : pc + 3 = pc') (hn : (Int16.ofInt n).toInt32 = Int32.ofInt n ∧ inI n) (h : WA X ht k pc' ls ((0, n) :: st) L μ Q) : WA X ht k pc ls st L μ Q := by
  subst hp
  intro h1 h2 p l e R s m args below meth c b B D dA Z C S H locs cells slots lsA cx hr hR hS hc1 hc2 hl
  exact lv_sipush cx.1 cx.2.1 hd hn.1 (h h1 (okv_cons (okv_int hn.2) h2) p l e R s m args below meth c b B D dA Z C S H locs cells slots lsA cx hr hR hS hc1 hc2 hl)
theorem wa_lconst (pc' : Nat) (n : Int) {f : Fin 2} (hd : decode X.2.1 pc = .ok (.lconst f, 1)) (hp : pc + 1 = pc') (hn : Int64.ofNat (f : Nat) = Int64.ofInt n ∧ inL n) (h : WA X ht k pc' ls ((1, n) :: st) L μ Q) : WA X ht k pc ls st L μ Q := by
  subst hp
  intro h1 h2 p l e R s m args below meth c b B D dA Z C S H locs cells slots lsA cx hr hR hS hc1 hc2 hl
  exact lv_lconst cx.1 cx.2.1 hd hn.1 (h h1 (okv_cons (okv_long hn.2) h2) p l e R s m args below meth c b B D dA Z C S H locs cells slots lsA cx hr hR hS hc1 hc2 hl)
theorem wa_ldc2 (pc' : Nat) (n : Int) {idx : Nat} {v : Int64} (hd : decode X.2.1 pc = .ok (.ldc2_w idx, 3)) (hp : pc + 3 = pc') (hw : Cond.constantLong X.1.cls idx v ∈ GW) (hn : v = Int64.ofInt n ∧ inL n) (h : WA X ht k pc' ls ((1, n) :: st) L μ Q) : WA X ht k pc ls st L μ Q := by
  subst hp
  intro h1 h2 p l e R s m args below meth c b B D dA Z C S H locs cells slots lsA cx hr hR hS hc1 hc2 hl
  obtain ⟨hv, hn⟩ := hn
  subst hv
  exact lv_ldc2 cx.1 cx.2.1 cx.2.2.2.1 (cx.2.2.2.2.1 _ hw) hd (h h1 (okv_cons (okv_long hn) h2) p l e R s m args below meth c b B D dA Z C S H locs cells slots lsA cx hr hR hS hc1 hc2 hl)
theorem wa_iload (pc' : Nat) {i : Nat} {x : Int} (hd : decode X.2.1 pc = .ok (.iload i, 2)) (hp : pc + 2 = pc') (hi : ls[i]? = some (0, x)) (h : WA X ht k pc' ls ((0, x) :: st) L μ Q) : WA X ht k pc ls st L μ Q := by
  subst hp
  intro h1 h2 p l e R s m args below meth c b B D dA Z C S H locs cells slots lsA cx hr hR hS hc1 hc2 hl
  exact lv_iload cx.1 cx.2.1 hd (lvl_at hl hi (by simp)) (h h1 (okv_cons (h1 _ (List.mem_of_getElem? hi)) h2) p l e R s m args below meth c b B D dA Z C S H locs cells slots lsA cx hr hR hS hc1 hc2 hl)
theorem wa_iload_n (pc' : Nat) {i : Fin 4} {x : Int} (hd : decode X.2.1 pc = .ok (.iload_n i, 1)) (hp : pc + 1 = pc') (hi : ls[(i : Nat)]? = some (0, x)) (h : WA X ht k pc' ls ((0, x) :: st) L μ Q) : WA X ht k pc ls st L μ Q := by
  subst hp
  intro h1 h2 p l e R s m args below meth c b B D dA Z C S H locs cells slots lsA cx hr hR hS hc1 hc2 hl
  exact lv_iload_n cx.1 cx.2.1 hd rfl (lvl_at hl hi (by simp)) (h h1 (okv_cons (h1 _ (List.mem_of_getElem? hi)) h2) p l e R s m args below meth c b B D dA Z C S H locs cells slots lsA cx hr hR hS hc1 hc2 hl)
theorem wa_lload (pc' : Nat) {i : Nat} {x : Int} (hd : decode X.2.1 pc = .ok (.lload i, 2)) (hp : pc + 2 = pc') (hi : ls[i]? = some (1, x)) (h : WA X ht k pc' ls ((1, x) :: st) L μ Q) : WA X ht k pc ls st L μ Q := by
  subst hp
  intro h1 h2 p l e R s m args below meth c b B D dA Z C S H locs cells slots lsA cx hr hR hS hc1 hc2 hl
  exact lv_lload cx.1 cx.2.1 hd (lvl_at hl hi (by simp)) (h h1 (okv_cons (h1 _ (List.mem_of_getElem? hi)) h2) p l e R s m args below meth c b B D dA Z C S H locs cells slots lsA cx hr hR hS hc1 hc2 hl)
theorem wa_lload_n (pc' : Nat) {i : Fin 4} {x : Int} (hd : decode X.2.1 pc = .ok (.lload_n i, 1)) (hp : pc + 1 = pc') (hi : ls[(i : Nat)]? = some (1, x)) (h : WA X ht k pc' ls ((1, x) :: st) L μ Q) : WA X ht k pc ls st L μ Q := by
  subst hp
  intro h1 h2 p l e R s m args below meth c b B D dA Z C S H locs cells slots lsA cx hr hR hS hc1 hc2 hl
  exact lv_lload_n cx.1 cx.2.1 hd rfl (lvl_at hl hi (by simp)) (h h1 (okv_cons (h1 _ (List.mem_of_getElem? hi)) h2) p l e R s m args below meth c b B D dA Z C S H locs cells slots lsA cx hr hR hS hc1 hc2 hl)
theorem wa_aload (pc' : Nat) {i : Nat} {x : Int} (hd : decode X.2.1 pc = .ok (.aload i, 2)) (hp : pc + 2 = pc') (hi : ls[i]? = some (2, x)) (h : WA X ht k pc' ls ((2, x) :: st) L μ Q) : WA X ht k pc ls st L μ Q := by
  subst hp
  intro h1 h2 p l e R s m args below meth c b B D dA Z C S H locs cells slots lsA cx hr hR hS hc1 hc2 hl
  exact lv_aload cx.1 cx.2.1 hd (lvl_at hl hi (by simp)) (h h1 (okv_cons okv_ref h2) p l e R s m args below meth c b B D dA Z C S H locs cells slots lsA cx hr hR hS hc1 hc2 hl)
theorem wa_aload_n (pc' : Nat) {i : Fin 4} {x : Int} (hd : decode X.2.1 pc = .ok (.aload_n i, 1)) (hp : pc + 1 = pc') (hi : ls[(i : Nat)]? = some (2, x)) (h : WA X ht k pc' ls ((2, x) :: st) L μ Q) : WA X ht k pc ls st L μ Q := by
  subst hp
  intro h1 h2 p l e R s m args below meth c b B D dA Z C S H locs cells slots lsA cx hr hR hS hc1 hc2 hl
  exact lv_aload_n cx.1 cx.2.1 hd rfl (lvl_at hl hi (by simp)) (h h1 (okv_cons okv_ref h2) p l e R s m args below meth c b B D dA Z C S H locs cells slots lsA cx hr hR hS hc1 hc2 hl)
theorem lvh_set1 {b B n i : Nat} {lsA : Array Slot} {v : AV} (hv : v.1 < 4) (hl' : setL1 ls i v = ls') (h : lv_has lsA n ((i, cv b B v) :: (lvl b B 0 ls).filter (fun q => !(q.1 == i) && !(q.1 + 1 == i && q.2.category == 2)))) : lv_has lsA n (lvl b B 0 ls') :=
  lvh_sub h (fun q hq => lvl_set1 hv q (by rw [hl']; exact hq))
theorem lvh_set2 {b B n i : Nat} {lsA : Array Slot} {v : AV} (hv : v.1 < 4) (hl' : setL2 ls i v = ls') (h : lv_has lsA n ((i, cv b B v) :: (lvl b B 0 ls).filter (fun q => !(q.1 == i) && (!(q.1 == i + 1) && !(q.1 + 1 == i && q.2.category == 2))))) : lv_has lsA n (lvl b B 0 ls') :=
  lvh_sub h (fun q hq => lvl_set2 hv q (by rw [hl']; exact hq))
theorem wa_istore (pc' : Nat) (ls' : List AV) {i : Nat} {x : Int} (hd : decode X.2.1 pc = .ok (.istore i, 2)) (hp : pc + 2 = pc') (hi : Nat.ble (i + 1) X.2.2.1 = true) (hl' : setL1 ls i (0, x) = ls') (h : WA X ht k pc' ls' st L μ Q) : WA X ht k pc ls ((0, x) :: st) L μ Q := by
  subst hp
  intro h1 h2 p l e R s m args below meth c b B D dA Z C S H locs cells slots lsA cx hr hR hS hc1 hc2 hl
  exact lv_istore cx.1 cx.2.1 hd hl (Nat.le_of_ble_eq_true hi) rfl fun lsA' hl2 => h (okv_set1 hl' h1 (h2 _ List.mem_cons_self)) (okv_tl h2) p l e R s m args below meth c b B D dA Z C S H locs cells slots lsA' cx hr hR hS hc1 hc2 (lvh_set1 (by simp) hl' hl2)
theorem wa_istore_n (pc' : Nat) (ls' : List AV) {i : Fin 4} {x : Int} (hd : decode X.2.1 pc = .ok (.istore_n i, 1)) (hp : pc + 1 = pc') (hi : Nat.ble ((i : Nat) + 1) X.2.2.1 = true) (hl' : setL1 ls (i : Nat) (0, x) = ls') (h : WA X ht k pc' ls' st L μ Q) : WA X ht k pc ls ((0, x) :: st) L μ Q := by
  subst hp
  intro h1 h2 p l e R s m args below meth c b B D dA Z C S H locs cells slots lsA cx hr hR hS hc1 hc2 hl
  exact lv_istore_n cx.1 cx.2.1 hd rfl hl (Nat.le_of_ble_eq_true hi) rfl fun lsA' hl2 => h (okv_set1 hl' h1 (h2 _ List.mem_cons_self)) (okv_tl h2) p l e R s m args below meth c b B D dA Z C S H locs cells slots lsA' cx hr hR hS hc1 hc2 (lvh_set1 (by simp) hl' hl2)
theorem wa_lstore (pc' : Nat) (ls' : List AV) {i : Nat} {x : Int} (hd : decode X.2.1 pc = .ok (.lstore i, 2)) (hp : pc + 2 = pc') (hi : Nat.ble (i + 2) X.2.2.1 = true) (hl' : setL2 ls i (1, x) = ls') (h : WA X ht k pc' ls' st L μ Q) : WA X ht k pc ls ((1, x) :: st) L μ Q := by
  subst hp
  intro h1 h2 p l e R s m args below meth c b B D dA Z C S H locs cells slots lsA cx hr hR hS hc1 hc2 hl
  exact lv_lstore cx.1 cx.2.1 hd hl (Nat.le_of_ble_eq_true hi) rfl fun lsA' hl2 => h (okv_set2 hl' h1 (h2 _ List.mem_cons_self)) (okv_tl h2) p l e R s m args below meth c b B D dA Z C S H locs cells slots lsA' cx hr hR hS hc1 hc2 (lvh_set2 (by simp) hl' hl2)
theorem wa_lstore_n (pc' : Nat) (ls' : List AV) {i : Fin 4} {x : Int} (hd : decode X.2.1 pc = .ok (.lstore_n i, 1)) (hp : pc + 1 = pc') (hi : Nat.ble ((i : Nat) + 2) X.2.2.1 = true) (hl' : setL2 ls (i : Nat) (1, x) = ls') (h : WA X ht k pc' ls' st L μ Q) : WA X ht k pc ls ((1, x) :: st) L μ Q := by
  subst hp
  intro h1 h2 p l e R s m args below meth c b B D dA Z C S H locs cells slots lsA cx hr hR hS hc1 hc2 hl
  exact lv_lstore_n cx.1 cx.2.1 hd rfl hl (Nat.le_of_ble_eq_true hi) rfl fun lsA' hl2 => h (okv_set2 hl' h1 (h2 _ List.mem_cons_self)) (okv_tl h2) p l e R s m args below meth c b B D dA Z C S H locs cells slots lsA' cx hr hR hS hc1 hc2 (lvh_set2 (by simp) hl' hl2)
theorem wa_astore (pc' : Nat) (ls' : List AV) {i : Nat} {x : Int} (hd : decode X.2.1 pc = .ok (.astore i, 2)) (hp : pc + 2 = pc') (hi : Nat.ble (i + 1) X.2.2.1 = true) (hl' : setL1 ls i (2, x) = ls') (h : WA X ht k pc' ls' st L μ Q) : WA X ht k pc ls ((2, x) :: st) L μ Q := by
  subst hp
  intro h1 h2 p l e R s m args below meth c b B D dA Z C S H locs cells slots lsA cx hr hR hS hc1 hc2 hl
  exact lv_astore cx.1 cx.2.1 hd hl (Nat.le_of_ble_eq_true hi) rfl fun lsA' hl2 => h (okv_set1 hl' h1 okv_ref) (okv_tl h2) p l e R s m args below meth c b B D dA Z C S H locs cells slots lsA' cx hr hR hS hc1 hc2 (lvh_set1 (by simp) hl' hl2)
theorem wa_astore_n (pc' : Nat) (ls' : List AV) {i : Fin 4} {x : Int} (hd : decode X.2.1 pc = .ok (.astore_n i, 1)) (hp : pc + 1 = pc') (hi : Nat.ble ((i : Nat) + 1) X.2.2.1 = true) (hl' : setL1 ls (i : Nat) (2, x) = ls') (h : WA X ht k pc' ls' st L μ Q) : WA X ht k pc ls ((2, x) :: st) L μ Q := by
  subst hp
  intro h1 h2 p l e R s m args below meth c b B D dA Z C S H locs cells slots lsA cx hr hR hS hc1 hc2 hl
  exact lv_astore_n cx.1 cx.2.1 hd rfl hl (Nat.le_of_ble_eq_true hi) rfl fun lsA' hl2 => h (okv_set1 hl' h1 okv_ref) (okv_tl h2) p l e R s m args below meth c b B D dA Z C S H locs cells slots lsA' cx hr hR hS hc1 hc2 (lvh_set1 (by simp) hl' hl2)
/-- locals may be forgotten -/
def subL : List AV → List AV → Prop
  | [], [] => True
  | v :: t, w :: u => (w = v ∨ w.1 = 9) ∧ subL t u
  | _, _ => False
theorem subL_at : ∀ {l1 l2 : List AV}, subL l1 l2 → ∀ (i : Nat) (w : AV), l2[i]? = some w → w.1 < 4 → l1[i]? = some w
  | [], [], _, i, w, h, _ => by simp at h
  | v :: t, u :: r, hs, i, w, h, hw => by
    obtain ⟨h1, h2⟩ := hs
    cases i with
    | zero =>
      have : u = w := by simpa using h
      subst this
      rcases h1 with rfl | h1
      · simp
      · omega
    | succ i => simpa using subL_at h2 i w (by simpa using h) hw
theorem subL_ok : ∀ {l1 l2 : List AV}, subL l1 l2 → (∀ v ∈ l1, okv v) → ∀ v ∈ l2, okv v
  | [], [], _, _, v, h => by cases h
  | v :: t, u :: r, hs, h, w, hw => by
    obtain ⟨h1, h2⟩ := hs
    rcases List.mem_cons.mp hw with rfl | hw
    · rcases h1 with rfl | h1
      · exact h _ List.mem_cons_self
      · exact ⟨fun q => absurd (h1.symm.trans q) (by decide), fun q => absurd (h1.symm.trans q) (by decide)⟩
    · exact subL_ok h2 (fun v hv => h v (List.mem_cons_of_mem _ hv)) w hw
theorem wa_weak (ls' : List AV) (hs : subL ls ls') (h : WA X ht k pc ls' st L μ Q) : WA X ht k pc ls st L μ Q :=
  fun h1 h2 p l e R s m args below meth c b B D dA Z C S H locs cells slots lsA cx hr hR hS hc1 hc2 hl => h (subL_ok hs h1) h2 p l e R s m args below meth c b B D dA Z C S H locs cells slots lsA cx hr hR hS hc1 hc2
    (lvh_sub hl (fun q hq => by
      obtain ⟨j, w, a1, a2, a3⟩ := (lvl_in _ _ _ _ _).mp hq
      exact (lvl_in _ _ _ _ _).mpr ⟨j, w, subL_at hs j w a1 a2, a2, a3⟩))
theorem wa_iinc (pc' : Nat) (ls' : List AV) {i : Nat} {n x : Int} (hd : decode X.2.1 pc = .ok (.iinc i n, 3)) (hp : pc + 3 = pc') (hi : Nat.ble (i + 1) X.2.2.1 = true) (hx : ls[i]? = some (0, x)) (hn : inI (x + n)) (hl' : setL1 ls i (0, x + n) = ls') (h : WA X ht k pc' ls' st L μ Q) : WA X ht k pc ls st L μ Q := by
  subst hp
  intro h1 h2 p l e R s m args below meth c b B D dA Z C S H locs cells slots lsA cx hr hR hS hc1 hc2 hl
  obtain ⟨j, hj⟩ := List.getElem?_of_mem ((lvl_in b B ls 0 (i, cv b B (0, x))).mpr ⟨i, (0, x), hx, by simp, by rw [Nat.zero_add]⟩)
  exact lv_iinc cx.1 cx.2.1 hd hl hj (v := Int32.ofInt (x + n)) (Int32.ofInt_add _ _).symm (Nat.le_of_ble_eq_true hi) rfl fun lsA' hl2 => h (okv_set1 hl' h1 (okv_int hn)) h2 p l e R s m args below meth c b B D dA Z C S H locs cells slots lsA' cx hr hR hS hc1 hc2 (lvh_set1 (v := (0, x + n)) (by simp) hl' hl2)
theorem wa_goto (pc' : Nat) {off : Int} (hd : decode X.2.1 pc = .ok (.goto off, 3)) (hp : (pc : Int) + off = (pc' : Int)) (h : WA X ht k pc' ls st L μ Q) : WA X ht k pc ls st L μ Q := by
  intro h1 h2 p l e R s m args below meth c b B D dA Z C S H locs cells slots lsA cx hr hR hS hc1 hc2 hl
  exact lv_goto cx.1 cx.2.1 hd hp (h h1 h2 p l e R s m args below meth c b B D dA Z C S H locs cells slots lsA cx hr hR hS hc1 hc2 hl)
theorem wa_pop (pc' : Nat) {v : AV} (hd : decode X.2.1 pc = .ok (.pop, 1)) (hp : pc + 1 = pc') (hv : v.1 = 0 ∨ v.1 = 2) (h : WA X ht k pc' ls st L μ Q) : WA X ht k pc ls (v :: st) L μ Q := by
  subst hp
  intro h1 h2 p l e R s m args below meth c b B D dA Z C S H locs cells slots lsA cx hr hR hS hc1 hc2 hl
  exact lv_pop cx.1 cx.2.1 hd (by rw [cv_cat b B v (by omega), if_neg (by omega)]) (h h1 (okv_tl h2) p l e R s m args below meth c b B D dA Z C S H locs cells slots lsA cx hr hR hS hc1 hc2 hl)
theorem wa_dup (pc' : Nat) {v : AV} (hd : decode X.2.1 pc = .ok (.dup, 1)) (hp : pc + 1 = pc') (hv : v.1 = 0 ∨ v.1 = 2) (h : WA X ht k pc' ls (v :: v :: st) L μ Q) : WA X ht k pc ls (v :: st) L μ Q := by
  subst hp
  intro h1 h2 p l e R s m args below meth c b B D dA Z C S H locs cells slots lsA cx hr hR hS hc1 hc2 hl
  exact lv_dup cx.1 cx.2.1 hd (by rw [cv_cat b B v (by omega), if_neg (by omega)]) (h h1 (okv_cons (h2 _ List.mem_cons_self) h2) p l e R s m args below meth c b B D dA Z C S H locs cells slots lsA cx hr hR hS hc1 hc2 hl)
theorem wa_dup2 (pc' : Nat) {v w : AV} (hd : decode X.2.1 pc = .ok (.dup2, 1)) (hp : pc + 1 = pc') (hv : (v.1 = 0 ∨ v.1 = 2) ∧ (w.1 = 0 ∨ w.1 = 2)) (h : WA X ht k pc' ls (v :: w :: v :: w :: st) L μ Q) : WA X ht k pc ls (v :: w :: st) L μ Q := by
  subst hp
  intro h1 h2 p l e R s m args below meth c b B D dA Z C S H locs cells slots lsA cx hr hR hS hc1 hc2 hl
  exact lv_dup2_11 cx.1 cx.2.1 hd (by rw [cv_cat b B v (by omega), if_neg (by omega)]) (by rw [cv_cat b B w (by omega), if_neg (by omega)]) (h h1 (okv_cons (h2 _ List.mem_cons_self) (okv_cons (h2 _ (List.mem_cons_of_mem _ List.mem_cons_self)) h2)) p l e R s m args below meth c b B D dA Z C S H locs cells slots lsA cx hr hR hS hc1 hc2 hl)
end WARows
