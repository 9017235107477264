/-! the rows of WA: what constructors make -/
/-- one more cell -/
def nwL (L : Lay) (q : Nat × Int) : Lay := (L.1 + 1, fun o => if o = L.1 + 1 then q else kd L o, fun o k => if o = L.1 + 1 then -1 else rf L o k)
def nwM (L : Lay) (μ : Mem) : Mem := fun o k => if o = L.1 + 1 then 0 else μ o k
/-- rows of ints: the outer one, then n of k places -/
def nwRL (L : Lay) (n k : Int) : Lay := (L.1 + 1 + n, fun o => if o ≤ L.1 then kd L o else if o = L.1 + 1 then (23, n) else (20, k), fun o j => if o ≤ L.1 then rf L o j else if o = L.1 + 1 ∧ 0 ≤ j ∧ j < n then L.1 + 2 + j else -1)
def nwRM (L : Lay) (μ : Mem) : Mem := fun o k => if o ≤ L.1 then μ o k else 0
/-- a reference is put -/
def upR (L : Lay) (o k v : Int) : Lay := (L.1, L.2.1, fun a i => if a = o ∧ i = k then v else rf L a i)
theorem okT_0 (ty : FieldType) : okT ty 0 := by
  cases ty <;> first | exact trivial | exact Or.inl rfl | (constructor <;> decide)
theorem cty_tag : ∀ ci, ci < 11 → ∀ j, j < cN ci → slotTag (cty ci j) = 0 ∨ slotTag (cty ci j) = 1 ∨ slotTag (cty ci j) = 2 := by decide +kernel
section WAAlloc
variable {X : MI} {ht : Nat} {k : Nat × Nat} {pc : Nat} {ls st : List AV} {L L' : Lay} {μ μ' : Mem} {Q : Option AV → Lay → Mem → Prop}
theorem wld_push {b B n : Nat} {dA : Nat → ClassId} {es : Nat → va_E} (h0 : 0 ≤ L.1) (hn : L'.1 = L.1 + n) (hk : ∀ a, a ≤ L.1 → kd L' a = kd L a) (hr : ∀ a k, a ≤ L.1 → rf L' a k = rf L a k) (hm : ∀ a k, a ≤ L.1 → μ' a k = μ a k) (he : ∀ i, i < n → entry b B dA L' μ' (L.1 + 1 + (i : Int)) = es i) : wld b B dA L' μ' = wld b B dA L μ ++ (List.range n).map (fun i => (B + L.1.toNat + i, es i)) := by
  apply List.ext_getElem?
  intro i
  by_cases h1 : i < L.1.toNat
  · rw [List.getElem?_append_left (by rw [wld_len]; exact h1), wld_nat h1, wld_nat (by rw [hn]; omega)]
    rw [entry_congr (hk _ (by omega)) (fun k => hr _ k (by omega)) (fun k => hm _ k (by omega))]
  · by_cases h2 : i < L.1.toNat + n
    · rw [List.getElem?_append_right (by rw [wld_len]; omega), wld_nat (by rw [hn]; omega), wld_len, List.getElem?_map, List.getElem?_range (by omega)]
      show some (B + i, _) = some (B + L.1.toNat + (i - L.1.toNat), es (i - L.1.toNat))
      rw [← he (i - L.1.toNat) (by omega)]
      congr 2
      · omega
      · congr 1
        omega
    · rw [List.getElem?_eq_none (by rw [wld_len, hn]; omega), List.getElem?_eq_none (by rw [List.length_append, wld_len, List.length_map, List.length_range]; omega)]
theorem Rep.push {b B n : Nat} {D : va_G} {dA : Nat → ClassId} {s : State} {H H1 : Heap} {es : Nat → va_E} (hR : Rep b B D dA L μ s H) (hb : b < B) (hn : L'.1 = L.1 + n) (hk : ∀ a, a ≤ L.1 → kd L' a = kd L a) (hr : ∀ a k, a ≤ L.1 → rf L' a k = rf L a k) (hm : ∀ a k, a ≤ L.1 → μ' a k = μ a k) (he : ∀ i, i < n → entry b B dA L' μ' (L.1 + 1 + (i : Int)) = es i)
    (hat : ∀ i, i < n → va_at D clsL (H.size + i, es i) H1) (hz : H1.size = H.size + n) (hq : ∀ q : Nat, q < H.size → H1[q]? = H[q]?) (h0 : ∀ a k, L.1 < a → a ≤ L'.1 → μ' a k = 0) : Rep b B D dA L' μ' s H1 := by
  obtain ⟨r1, r2, r3, r4, r5⟩ := hR
  refine ⟨?_, by rw [hz, r2, hn]; omega, by omega, ?_, ?_⟩
  · rw [wld_push r3 hn hk hr hm he]
    refine (r1.kept (fun i q h => hq q.1 ((r1 i q h).lt))).app (fun i q h => ?_)
    have hi : i < n := by
      have := (List.getElem?_eq_some_iff.mp h).1
      simpa using this
    rw [List.getElem?_map, List.getElem?_range hi] at h
    cases h
    have := hat i hi
    rw [r2] at this
    exact this
  · have hx := va_X.kept r4 (hq b (by rw [r2]; omega))
    have e0 : (fun i : Nat => Int32.ofInt (μ' 0 (i : Int))) = fun i : Nat => Int32.ofInt (μ 0 (i : Int)) := funext fun i => by rw [hm 0 _ r3]
    rw [e0, hk 0 r3]
    exact hx
  · intro o i ho1 ho2
    by_cases ho : o ≤ L.1
    · have := r5 o i ho1 ho
      rw [hm o i ho]
      unfold sty at this ⊢
      rw [hk o ho]
      exact this
    · rw [h0 o i (by omega) ho2]
      exact okT_0 _
theorem va_S_push {A : Nat → Prop} {H0 H H1 : Heap} {locs : List Loc} (hS : va_S A H0 H locs) (hz : H.size ≤ H1.size) (hq : ∀ q : Nat, q < H.size → H1[q]? = H[q]?) : va_S A H0 H1 locs :=
  ⟨Nat.le_trans hS.1 hz, fun x h1 h2 => (hq x (Nat.lt_of_lt_of_le h1 hS.1)).trans (hS.2.1 x h1 h2), hS.2.2⟩
theorem ad_new {b B : Nat} {D : va_G} {dA : Nat → ClassId} {s : State} {H : Heap} (hR : Rep b B D dA L μ s H) : ad b B (L.1 + 1) = H.size := by
  rw [ad_pos (by have := hR.2.2.1; omega), hR.2.1]
  have := hR.2.2.1
  omega
theorem wa_new (pc' : Nat) (ci : Nat) {idx kc ks : Nat} (hd : decode X.2.1 pc = .ok (.new idx, 3)) (hp : pc + 3 = pc') (hw : Cond.classLink X.1.cls idx (cR ci) ∈ GW) (hi : Cond.instantiable (cR ci) (cN ci) ∈ GW) (hz : Cond.initialized (cR ci) ∈ GW) (hc : ci < 11 ∧ k = (kc + 1, ks + cN ci)) (h : WA X ht (kc, ks) pc' ls ((2, L.1 + 1) :: st) (nwL L (ci, 0)) (nwM L μ) Q) : WA X ht k pc ls st L μ Q := by
  subst hp
  obtain ⟨hc, rfl⟩ := hc
  intro h1 h2 p l e R s m args below meth c b B D dA Z C S H locs cells slots lsA cx hr hR hS hc1 hc2 hl
  have hKn := cx.2.2.2.2.2.1.1.1 ci _ (clsL_at ci hc)
  have hCR := cx.2.2.2.2.2.2.2.2.2.2.2
  simp only at hc1 hc2
  refine W.newcK cx.1 cx.2.1 cx.2.2.2.1 (cx.2.2.2.2.1 _ hw) (cx.2.2.2.2.1 _ hi) (cx.2.2.2.2.1 _ hz) rfl hd (by omega) (by omega) hKn.2.1 rfl fun H1 kC hkC e1 z1 o1 => ?_
  have hat : va_at D clsL (H.size, .inr (ci, fldL b B (nwL L (ci, 0)) (nwM L μ) ci (L.1 + 1))) H1 := by
    refine ⟨_, clsL_at ci hc, (u_born (cty ci) cx.2.2.2.2.1 (wU ci hc) hKn hkC e1 (cty_ok ci hc)).to (fun j hj => ?_)⟩
    unfold vp_V
    rw [List.getD_eq_getElem?_getD, fldL_at hj]
    show defaultValue (cty ci j) = slotV b B (nwL L (ci, 0)) (nwM L μ) (cty ci j) (L.1 + 1) (j : Int)
    have e2 : nwM L μ (L.1 + 1) (j : Int) = 0 := by simp [nwM]
    have e3 : rf (nwL L (ci, 0)) (L.1 + 1) (j : Int) = -1 := by simp [nwL, rf]
    have hty : slotTag (cty ci j) = 0 ∨ slotTag (cty ci j) = 1 ∨ slotTag (cty ci j) = 2 := by
      exact cty_tag ci hc j hj
    unfold slotV
    generalize cty ci j = ty at hty ⊢
    cases ty <;> simp only [e2, e3] <;> first | rfl | (simp [slotTag] at hty)
  have hR1 : Rep b B D dA (nwL L (ci, 0)) (nwM L μ) s H1 := by
    refine hR.push (n := 1) (es := fun _ => .inr (ci, fldL b B (nwL L (ci, 0)) (nwM L μ) ci (L.1 + 1))) cx.2.2.2.2.2.2.1 rfl (fun a ha => ?_) (fun a i ha => ?_) (fun a i ha => ?_) (fun i hi => ?_) (fun i hi => ?_) z1 o1 (fun a i ha1 ha2 => ?_)
    · show (if a = L.1 + 1 then _ else kd L a) = kd L a
      rw [if_neg (by omega)]
    · show (if a = L.1 + 1 then _ else rf L a i) = rf L a i
      rw [if_neg (by omega)]
    · show (if a = L.1 + 1 then _ else μ a i) = μ a i
      rw [if_neg (by omega)]
    · have : i = 0 := by omega
      subst this
      rw [show L.1 + 1 + ((0 : Nat) : Int) = L.1 + 1 by simp]
      exact entry_obj (by show (if L.1 + 1 = L.1 + 1 then _ else _) = _; rw [if_pos rfl]) hc
    · have : i = 0 := by omega
      subst this
      exact hat
    · have ha2 : a ≤ L.1 + 1 := ha2
      show (if a = L.1 + 1 then _ else μ a i) = 0
      rw [if_pos (by omega)]
  have e9 := h h1 (okv_cons okv_ref h2) p l e R s m args below meth c b B D dA Z C S H1 locs (cells + 1) (slots + cN ci) lsA cx hr hR1 (va_S_push hS (by omega) o1) (by show cells + 1 + kc ≤ C; omega) (by show slots + cN ci + ks ≤ S; omega) hl
  rw [List.map_cons, show cv b B (2, L.1 + 1) = .ref (ad b B (L.1 + 1)) from rfl, ad_new hR] at e9
  exact e9
/-- a new array: its kind's entry, all 0 or null -/
theorem entry_nw {b B : Nat} {dA : Nat → ClassId} {t n : Nat} (h1 : 20 ≤ t) : entry b B dA (nwL L (t, (n : Int))) (nwM L μ) (L.1 + 1) = .inl (dA (t - 20), n, arrA b B (nwL L (t, (n : Int))) (nwM L μ) t (L.1 + 1)) := by
  have hk : kd (nwL L (t, (n : Int))) (L.1 + 1) = (t, (n : Int)) := by
    show (if L.1 + 1 = L.1 + 1 then _ else _) = _
    rw [if_pos rfl]
  rw [entry_arr (t := t) (by rw [hk]) h1, hk]
  rfl
theorem Rep.push1 {b B : Nat} {D : va_G} {dA : Nat → ClassId} {s : State} {H H1 : Heap} {q : Nat × Int} {e : va_E} (hR : Rep b B D dA L μ s H) (hb : b < B) (he : entry b B dA (nwL L q) (nwM L μ) (L.1 + 1) = e) (hat : va_at D clsL (H.size, e) H1) (hz : H1.size = H.size + 1) (hq : ∀ q : Nat, q < H.size → H1[q]? = H[q]?) : Rep b B D dA (nwL L q) (nwM L μ) s H1 := by
  refine hR.push (n := 1) (es := fun _ => e) hb rfl (fun a ha => ?_) (fun a i ha => ?_) (fun a i ha => ?_) (fun i hi => ?_) (fun i hi => ?_) hz hq (fun a i ha1 ha2 => ?_)
  · show (if a = L.1 + 1 then _ else kd L a) = kd L a
    rw [if_neg (by omega)]
  · show (if a = L.1 + 1 then _ else rf L a i) = rf L a i
    rw [if_neg (by omega)]
  · show (if a = L.1 + 1 then _ else μ a i) = μ a i
    rw [if_neg (by omega)]
  · have : i = 0 := by omega
    subst this
    rw [show L.1 + 1 + ((0 : Nat) : Int) = L.1 + 1 by simp]
    exact he
  · have : i = 0 := by omega
    subst this
    exact hat
  · have ha2 : a ≤ L.1 + 1 := ha2
    show (if a = L.1 + 1 then _ else μ a i) = 0
    rw [if_pos (by omega)]
theorem wa_newarray (pc' : Nat) (t n : Nat) {atype : ArrayType} {x : Int} {kc ks : Nat} (hd : decode X.2.1 pc = .ok (.newarray atype, 2)) (hp : pc + 2 = pc') (hc : (atype = .int ∧ t = 20 ∨ atype = .long ∧ t = 21 ∨ atype = .byte ∧ t = 22) ∧ (n : Int) = x ∧ n ≤ 10000 ∧ k = (kc + 1, ks + n)) (h : WA X ht (kc, ks) pc' ls ((2, L.1 + 1) :: st) (nwL L (t, x)) (nwM L μ) Q) : WA X ht k pc ls ((0, x) :: st) L μ Q := by
  subst hp
  obtain ⟨hty, rfl, hn, rfl⟩ := hc
  intro h1 h2 p l e R s m args below meth c b B D dA Z C S H locs cells slots lsA cx hr hR hS hc1 hc2 hl
  have hCR := cx.2.2.2.2.2.2.2.2.2.2.2
  simp only at hc1 hc2
  have hx : inI (n : Int) := (hd1 h2).1 rfl
  have hx32 : (Int32.ofInt (n : Int)).toNatClampNeg = n := by rw [clamp_i hx]; simp
  have hx0 : ¬ Int32.ofInt (n : Int) < 0 := fun q => by
    have := (i32_lt hx (by decide)).mp (show Int32.ofInt (n : Int) < Int32.ofInt 0 from q)
    omega
  have harr : (Cond.arrayClass (newarray.typeOf atype)).before args s = true := by
    rcases hty with ⟨rfl, -⟩ | ⟨rfl, -⟩ | ⟨rfl, -⟩
    · exact cx.2.2.2.2.1 _ wA_int
    · exact cx.2.2.2.2.1 _ wA_long
    · exact cx.2.2.2.2.1 _ wA_byte
  have hcb : componentBytes (newarray.typeOf atype) ≤ 8 := by rcases hty with ⟨rfl, -⟩ | ⟨rfl, -⟩ | ⟨rfl, -⟩ <;> decide
  refine va_newaK cx.1 cx.2.1 harr rfl hd rfl hx0 hx32 ?_ (by omega) (by omega) rfl fun H1 cA e1 z1 o1 hAr hNm => ?_
  · exact Nat.le_trans (Nat.mul_le_mul hn hcb) (by decide)
  have hcA : cA = dA (t - 20) := by
    have hK := cx.2.2.2.2.2.1.1.2
    rcases hty with ⟨rfl, rfl⟩ | ⟨rfl, rfl⟩ | ⟨rfl, rfl⟩
    · exact Option.some.inj (hNm.symm.trans (hK 0 _ rfl).2)
    · exact Option.some.inj (hNm.symm.trans (hK 1 _ rfl).2)
    · exact Option.some.inj (hNm.symm.trans (hK 2 _ rfl).2)
  have ht0 : 20 ≤ t ∧ t ≤ 22 := by rcases hty with ⟨-, rfl⟩ | ⟨-, rfl⟩ | ⟨-, rfl⟩ <;> decide
  have hat : va_at D clsL (H.size, .inl (dA (t - 20), n, arrA b B (nwL L (t, (n : Int))) (nwM L μ) t (L.1 + 1))) H1 := by
    have e2 : ∀ j : Int, nwM L μ (L.1 + 1) j = 0 := fun j => by simp [nwM]
    show H1[H.size]? = some (vp_cell (dA (t - 20)) (n, arrA b B _ _ t _))
    rw [e1, hcA]
    unfold arrA
    simp only [e2]
    rcases hty with ⟨rfl, rfl⟩ | ⟨rfl, rfl⟩ | ⟨rfl, rfl⟩ <;> rfl
  have hR1 := hR.push1 cx.2.2.2.2.2.2.1 (entry_nw (b := b) (B := B) (dA := dA) (L := L) (μ := μ) ht0.1) hat z1 o1
  have e9 := h h1 (okv_cons okv_ref (okv_tl h2)) p l e R s m args below meth c b B D dA Z C S H1 locs (cells + 1) (slots + n) lsA cx hr hR1 (va_S_push hS (by omega) o1) (by show cells + 1 + kc ≤ C; omega) (by show slots + n + ks ≤ S; omega) hl
  rw [List.map_cons, show cv b B (2, L.1 + 1) = .ref (ad b B (L.1 + 1)) from rfl, ad_new hR] at e9
  exact e9
theorem wa_anewarray (pc' : Nat) (t n : Nat) {C : String} {idx : Nat} {x : Int} {kc ks : Nat} (hd : decode X.2.1 pc = .ok (.anewarray idx, 3)) (hp : pc + 3 = pc') (hw : Cond.classLink X.1.cls idx C ∈ GW) (hc : (C = RX2 ∧ t = 24 ∨ C = RX7 ∧ t = 25 ∨ C = RX3 ∧ t = 26) ∧ (n : Int) = x ∧ n ≤ 10000 ∧ k = (kc + 1, ks + n)) (h : WA X ht (kc, ks) pc' ls ((2, L.1 + 1) :: st) (nwL L (t, x)) (nwM L μ) Q) : WA X ht k pc ls ((0, x) :: st) L μ Q := by
  subst hp
  obtain ⟨hty, rfl, hn, rfl⟩ := hc
  intro h1 h2 p l e R s m args below meth c b B D dA Z C9 S H locs cells slots lsA cx hr hR hS hc1 hc2 hl
  have hCR := cx.2.2.2.2.2.2.2.2.2.2.2
  simp only at hc1 hc2
  have hx : inI (n : Int) := (hd1 h2).1 rfl
  have hx32 : (Int32.ofInt (n : Int)).toNatClampNeg = n := by rw [clamp_i hx]; simp
  have hx0 : ¬ Int32.ofInt (n : Int) < 0 := fun q => by
    have := (i32_lt hx (by decide)).mp (show Int32.ofInt (n : Int) < Int32.ofInt 0 from q)
    omega
  obtain ⟨-, -, -, kO2, kO7, kO3⟩ := cx.2.2.2.2.2.1
  have hover : va_AO C s := by
    rcases hty with ⟨rfl, -⟩ | ⟨rfl, -⟩ | ⟨rfl, -⟩
    · exact kO2
    · exact kO7
    · exact kO3
  refine W.anew cx.1 cx.2.1 cx.2.2.2.1 (cx.2.2.2.2.1 _ hw) (va_AO.use hover) rfl hd rfl hx0 (by rw [hx32]; omega) (by omega) (by rw [hx32]; omega) fun cA kA comp f1 f2 f3 f4 => ?_
  rw [hx32]
  have hcA : cA = dA (t - 20) := by
    have hK := cx.2.2.2.2.2.1.1.2
    rcases hty with ⟨rfl, rfl⟩ | ⟨rfl, rfl⟩ | ⟨rfl, rfl⟩
    · obtain ⟨-, _, _, _, _, _, h5⟩ := hK 4 _ rfl
      exact Option.some.inj (f1.symm.trans h5)
    · obtain ⟨-, _, _, _, _, _, h5⟩ := hK 5 _ rfl
      exact Option.some.inj (f1.symm.trans h5)
    · obtain ⟨-, _, _, _, _, _, h5⟩ := hK 6 _ rfl
      exact Option.some.inj (f1.symm.trans h5)
  have ht0 : 24 ≤ t ∧ t ≤ 26 := by rcases hty with ⟨-, rfl⟩ | ⟨-, rfl⟩ | ⟨-, rfl⟩ <;> decide
  generalize hH1 : H.push ({ cls := cA, slots := Array.replicate n .null, vm := .none } : Cell) = H1
  have z1 : H1.size = H.size + 1 := by rw [← hH1, Array.size_push]
  have e1 : H1[H.size]? = some (arrV cA n (fun _ => .null)) := by rw [← hH1, Array.getElem?_push_size, ← arrV_new]
  have o1 : ∀ q : Nat, q < H.size → H1[q]? = H[q]? := fun q hq => by rw [← hH1, Array.getElem?_push, if_neg (Nat.ne_of_lt hq)]
  have hat : va_at D clsL (H.size, .inl (dA (t - 20), n, arrA b B (nwL L (t, (n : Int))) (nwM L μ) t (L.1 + 1))) H1 := by
    have e2 : ∀ j : Int, rf (nwL L (t, (n : Int))) (L.1 + 1) j = -1 := fun j => by simp [nwL, rf]
    show H1[H.size]? = some (vp_cell (dA (t - 20)) (n, arrA b B _ _ t _))
    rw [e1, hcA, arrA_r (by omega)]
    simp only [e2]
    rfl
  have hR1 := hR.push1 cx.2.2.2.2.2.2.1 (entry_nw (b := b) (B := B) (dA := dA) (L := L) (μ := μ) (by omega)) hat z1 o1
  have e9 := h h1 (okv_cons okv_ref (okv_tl h2)) p l e R s m args below meth c b B D dA Z C9 S H1 locs (cells + 1) (slots + n) lsA cx hr hR1 (va_S_push hS (by omega) o1) (by show cells + 1 + kc ≤ C9; omega) (by show slots + n + ks ≤ S; omega) hl
  rw [List.map_cons, show cv b B (2, L.1 + 1) = .ref (ad b B (L.1 + 1)) from rfl, ad_new hR] at e9
  exact e9
/-- a reference into a final field, in the constructor -/
theorem wa_putR (pc' : Nat) (j : Int) {idx ci kk : Nat} {o v : Int} (hd : decode X.2.1 pc = .ok (.putfield idx, 3)) (hp : pc + 3 = pc') (hw : FL X.1.cls idx ci kk) (hk : (Nat.ble (kk + 1) (cN ci) && Nat.ble (ci + 1) 11 && Nat.beq (slotTag (cty ci kk)) 2 && (cT ci kk).2.2.2) = true) (hf : X.1.name = "<init>" ∧ (cT ci kk).1 = X.1.cls) (hj : (kk : Int) = j) (ho : okO L o ci ∧ 0 ≤ v) (h : WA X ht k pc' ls st (upR L o j v) μ Q) : WA X ht k pc ls ((2, v) :: (2, o) :: st) L μ Q := by
  subst hp
  subst hj
  simp only [Bool.and_eq_true, Nat.beq_eq] at hk
  obtain ⟨⟨⟨k1, k2⟩, k3⟩, k4⟩ := hk
  have k1 := Nat.le_of_ble_eq_true k1
  have k2 := Nat.le_of_ble_eq_true k2
  obtain ⟨⟨o1, o2, o3⟩, hv⟩ := ho
  intro h1 h2 p l e R s m args below meth c b B D dA Z C S H locs cells slots lsA cx hr hR hS hc1 hc2 hl
  have he := wld_at (b := b) (B := B) (dA := dA) (μ := μ) o1 o2
  rw [entry_obj o3 k2] at he
  have hna : narrow (cty ci kk) (cv b B (2, v)) = cv b B (2, v) ∧ fits (cty ci kk) (cv b B (2, v)) = true := by
    generalize cty ci kk = ty at k3
    cases ty <;> simp [slotTag] at k3 <;> exact ⟨rfl, rfl⟩
  have o3' : kd (upR L o kk v) o = (ci, 0) := o3
  refine my_put cx.1 cx.2.1 cx.2.2.2.2.1 cx.2.2.2.1 cx.2.2.2.2.2.1.1 hR.1 he k2 k1 hw (Or.inr ⟨cx.2.2.2.2.2.2.2.2.1.trans hf.1, hf.2, k4⟩) hna.1 hna.2 (by rw [fldL_len]; exact k1) hd fun H1 i e1 e2 e3 => ?_
  have hR1 : Rep b B D dA (upR L o kk v) μ s H1 := by
    refine hR.put o1 o2 rfl cx.2.2.2.2.2.2.1 ?_ (fun _ => rfl) (fun a i ha => ?_) (fun _ _ _ => rfl) e1 e2 e3 ?_
    · rw [entry_obj o3' k2]
      congr 2
      apply List.ext_getElem?
      intro n
      by_cases hn : n < cN ci
      · rw [fldL_at hn]
        by_cases hnk : n = kk
        · subst hnk
          rw [List.getElem?_set_self (by rw [fldL_len]; exact hn), slotV_ref k3]
          have : rf (upR L o n v) o (n : Int) = v := by
            show (if o = o ∧ (n : Int) = n then v else _) = v
            rw [if_pos ⟨rfl, rfl⟩]
          rw [this]
          unfold rv
          rw [if_neg (by omega)]
          rfl
        · rw [List.getElem?_set_ne (fun q => hnk q.symm), fldL_at hn]
          have : rf (upR L o kk v) o (n : Int) = rf L o (n : Int) := by
            show (if o = o ∧ (n : Int) = kk then v else _) = _
            rw [if_neg (by omega)]
          congr 1
          unfold slotV
          cases cty ci n <;> simp only [this]
      · rw [List.getElem?_eq_none (by rw [fldL_len]; omega), List.getElem?_eq_none (by rw [List.length_set, fldL_len]; omega)]
    · show (if a = o ∧ i = (kk : Int) then v else _) = _
      rw [if_neg (by omega)]
    · exact hR.2.2.2.2
  refine h h1 (tl2 h2) p l e R s m args below meth c b B D dA Z C S H1 _ cells slots lsA cx hr hR1 (hS.put e2 e3 ?_) hc1 hc2 hl
  rw [ad_pos o1]
  exact Nat.le_add_right _ _
/-- an object into a row of its class -/
theorem wa_aastore (pc' : Nat) (t ci : Nat) {a i v : Int} (hd : decode X.2.1 pc = .ok (.aastore, 1)) (hp : pc + 1 = pc') (hc : ci = 2 ∧ t = 24 ∨ ci = 7 ∧ t = 25 ∨ ci = 3 ∧ t = 26) (ho : okA L a t i ∧ okO L v ci) (h : WA X ht k pc' ls st (upR L a i v) μ Q) : WA X ht k pc ls ((2, v) :: (0, i) :: (2, a) :: st) L μ Q := by
  subst hp
  obtain ⟨⟨o1, o2, o3, i0, i1⟩, v1, v2, v3⟩ := ho
  have ht0 : 24 ≤ t ∧ ci < 11 := by rcases hc with ⟨rfl, rfl⟩ | ⟨rfl, rfl⟩ | ⟨rfl, rfl⟩ <;> decide
  intro h1 h2 p l e R s m args below meth c b B D dA Z C S H locs cells slots lsA cx hr hR hS hc1 hc2 hl
  have hi : inI i := (hd2 h2).1 rfl
  have he := wld_at (b := b) (B := B) (dA := dA) (μ := μ) o1 o2
  rw [entry_arr o3 (by omega), arrA_r (by omega)] at he
  have hv := wld_at (b := b) (B := B) (dA := dA) (μ := μ) v1 v2
  rw [entry_obj v3 ht0.2] at hv
  have hin : vp_in (Int32.ofInt i) (kd L a).2.toNat := vp_in_i hi i0 (by omega)
  have hii : ((i.toNat : Nat) : Int) = i := by omega
  have hlt : (Int32.ofInt i).toNatClampNeg < (kd L a).2.toNat := Nat.not_le.mp fun q => hin (Or.inr q)
  have h0 : ¬ Int32.ofInt i < 0 := fun q => hin (Or.inl q)
  obtain ⟨r', hr', cellV, g1, g2, g3, -⟩ := hR.1 _ _ hv
  have hcls := (cx.2.2.2.2.2.1.1.1 ci _ (clsL_at ci ht0.2)).2
  have hK := cx.2.2.2.2.2.1.1.2
  obtain ⟨kA, comp, k1, k2, k3⟩ : ∃ (kA : Class) (comp : ClassId), s.vm.classes[dA (t - 20)]? = some kA ∧ kA.kind = .array comp (.object (cR ci)) ∧ s.vm.findClass (cR ci) = some comp := by
    rcases hc with ⟨rfl, rfl⟩ | ⟨rfl, rfl⟩ | ⟨rfl, rfl⟩
    · obtain ⟨-, kA, comp, h1, h2, h3, -⟩ := hK 4 _ rfl
      exact ⟨kA, comp, h1, h2, h3⟩
    · obtain ⟨-, kA, comp, h1, h2, h3, -⟩ := hK 5 _ rfl
      exact ⟨kA, comp, h1, h2, h3⟩
    · obtain ⟨-, kA, comp, h1, h2, h3, -⟩ := hK 6 _ rfl
      exact ⟨kA, comp, h1, h2, h3⟩
  have hcomp : comp = D.1 ci := Option.some.inj (k3.symm.trans hcls.1)
  subst hcomp
  obtain ⟨kC, hkC, -⟩ := id hcls.2
  refine W.aast (v := ad b B v) cx.1 cx.2.1 (hR.1 _ _ he) (fun q h => by cases h) (fun h => by cases h) k1 k2 rfl hkC ⟨h0, by show _ < (arrV _ _ _).slots.size; rw [arrV_size]; exact hlt⟩ g1 (fun q h => by rw [g3] at h; cases h) (by rw [g2]; exact hkC) (by rw [g2]; exact va_assign hcls) rfl rfl hd fun H1 e1 z oq => ?_
  rw [clamp_i hi] at e1 ⊢
  have e2 : va_at D clsL (ad b B a, .inl (dA (t - 20), (kd L a).2.toNat, .inr (.inr (.inr (.inr fun j => if rf (upR L a i v) a (j : Int) < 0 then none else some (ad b B (rf (upR L a i v) a (j : Int)))))))) H1 := by
    show H1[ad b B a]? = some (vp_cell _ _)
    rw [e1]
    rw [vp_cell_q, vp_cell_q, arrV_store]
    congr 2
    funext j
    unfold updV
    by_cases q : j = i.toNat
    · have e3 : rf (upR L a i v) a (j : Int) = v := by
        show (if a = a ∧ (j : Int) = i then v else _) = v
        rw [if_pos ⟨rfl, by omega⟩]
      rw [if_pos q, e3, if_neg (by omega)]
      rfl
    · have e3 : rf (upR L a i v) a (j : Int) = rf L a (j : Int) := by
        show (if a = a ∧ (j : Int) = i then v else _) = _
        rw [if_neg (by omega)]
      rw [if_neg q, e3]
  have o3' : (kd (upR L a i v) a).1 = t := o3
  refine h h1 (okv_tl (tl2 h2)) p l e R s m args below meth c b B D dA Z C S H1 _ cells slots lsA cx hr (hR.put o1 o2 rfl cx.2.2.2.2.2.2.1 (by rw [entry_arr o3' (by omega), arrA_r (by omega)]; rfl) (fun _ => rfl) (fun a' i' ha => by
    show (if a' = a ∧ i' = i then v else _) = _
    rw [if_neg (by omega)]) (fun _ _ _ => rfl) e2 z oq hR.2.2.2.2) (hS.put z oq ?_) hc1 hc2 hl
  rw [ad_pos o1]
  exact Nat.le_add_right _ _
end WAAlloc
