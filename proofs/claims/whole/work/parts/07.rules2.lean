/-! the rows of WA: arithmetic, compares, branches -/
section WARows2
variable {X : MI} {ht h9 : Nat} {k : Nat × Nat} {pc pc' : Nat} {ls ls' st : List AV} {L : Lay} {μ : Mem} {Q : Option AV → Lay → Mem → Prop}
theorem hd1 {v : AV} {st : List AV} (h : ∀ w ∈ v :: st, okv w) : okv v := h _ List.mem_cons_self
theorem hd2 {v u : AV} {st : List AV} (h : ∀ w ∈ u :: v :: st, okv w) : okv v := h _ (List.mem_cons_of_mem _ List.mem_cons_self)
theorem tl2 {v u : AV} {st : List AV} (h : ∀ w ∈ u :: v :: st, okv w) : ∀ w ∈ st, okv w := okv_tl (okv_tl h)
theorem wa_iadd (pc' : Nat) {x y : Int} (hd : decode X.2.1 pc = .ok (.iadd, 1)) (hp : pc + 1 = pc') (hn : inI (x + y)) (h : WA X ht k pc' ls ((0, x + y) :: st) L μ Q) : WA X ht k pc ls ((0, y) :: (0, x) :: st) L μ Q := by
  subst hp
  intro h1 h2 p l e R s m args below meth c b B D dA Z C S H locs cells slots lsA cx hr hR hS hc1 hc2 hl
  have hy : inI y := (hd1 h2).1 rfl
  have hx : inI x := (hd2 h2).1 rfl
  have e := h h1 (okv_cons (okv_int hn) (tl2 h2)) p l e R s m args below meth c b B D dA Z C S H locs cells slots lsA cx hr hR hS hc1 hc2 hl
  refine lv_iadd cx.1 cx.2.1 hd ?_
  rw [show Int32.ofInt x + Int32.ofInt y = Int32.ofInt (x + y) from (Int32.ofInt_add _ _).symm]
  exact e
theorem wa_ladd (pc' : Nat) {x y : Int} (hd : decode X.2.1 pc = .ok (.ladd, 1)) (hp : pc + 1 = pc') (hn : inL (x + y)) (h : WA X ht k pc' ls ((1, x + y) :: st) L μ Q) : WA X ht k pc ls ((1, y) :: (1, x) :: st) L μ Q := by
  subst hp
  intro h1 h2 p l e R s m args below meth c b B D dA Z C S H locs cells slots lsA cx hr hR hS hc1 hc2 hl
  have hy : inL y := (hd1 h2).2 rfl
  have hx : inL x := (hd2 h2).2 rfl
  have e := h h1 (okv_cons (okv_long hn) (tl2 h2)) p l e R s m args below meth c b B D dA Z C S H locs cells slots lsA cx hr hR hS hc1 hc2 hl
  refine lv_ladd cx.1 cx.2.1 hd ?_
  rw [show Int64.ofInt x + Int64.ofInt y = Int64.ofInt (x + y) from (Int64.ofInt_add _ _).symm]
  exact e
theorem wa_isub (pc' : Nat) {x y : Int} (hd : decode X.2.1 pc = .ok (.isub, 1)) (hp : pc + 1 = pc') (hn : inI (x - y)) (h : WA X ht k pc' ls ((0, x - y) :: st) L μ Q) : WA X ht k pc ls ((0, y) :: (0, x) :: st) L μ Q := by
  subst hp
  intro h1 h2 p l e R s m args below meth c b B D dA Z C S H locs cells slots lsA cx hr hR hS hc1 hc2 hl
  have hy : inI y := (hd1 h2).1 rfl
  have hx : inI x := (hd2 h2).1 rfl
  have e := h h1 (okv_cons (okv_int hn) (tl2 h2)) p l e R s m args below meth c b B D dA Z C S H locs cells slots lsA cx hr hR hS hc1 hc2 hl
  refine lv_isub cx.1 cx.2.1 hd ?_
  rw [show Int32.ofInt x - Int32.ofInt y = Int32.ofInt (x - y) from (Int32.ofInt_sub _ _).symm]
  exact e
theorem wa_lsub (pc' : Nat) {x y : Int} (hd : decode X.2.1 pc = .ok (.lsub, 1)) (hp : pc + 1 = pc') (hn : inL (x - y)) (h : WA X ht k pc' ls ((1, x - y) :: st) L μ Q) : WA X ht k pc ls ((1, y) :: (1, x) :: st) L μ Q := by
  subst hp
  intro h1 h2 p l e R s m args below meth c b B D dA Z C S H locs cells slots lsA cx hr hR hS hc1 hc2 hl
  have hy : inL y := (hd1 h2).2 rfl
  have hx : inL x := (hd2 h2).2 rfl
  have e := h h1 (okv_cons (okv_long hn) (tl2 h2)) p l e R s m args below meth c b B D dA Z C S H locs cells slots lsA cx hr hR hS hc1 hc2 hl
  refine lv_lsub cx.1 cx.2.1 hd ?_
  rw [show Int64.ofInt x - Int64.ofInt y = Int64.ofInt (x - y) from (Int64.ofInt_sub _ _).symm]
  exact e
theorem wa_imul (pc' : Nat) {x y : Int} (hd : decode X.2.1 pc = .ok (.imul, 1)) (hp : pc + 1 = pc') (hn : inI (x * y)) (h : WA X ht k pc' ls ((0, x * y) :: st) L μ Q) : WA X ht k pc ls ((0, y) :: (0, x) :: st) L μ Q := by
  subst hp
  intro h1 h2 p l e R s m args below meth c b B D dA Z C S H locs cells slots lsA cx hr hR hS hc1 hc2 hl
  have hy : inI y := (hd1 h2).1 rfl
  have hx : inI x := (hd2 h2).1 rfl
  have e := h h1 (okv_cons (okv_int hn) (tl2 h2)) p l e R s m args below meth c b B D dA Z C S H locs cells slots lsA cx hr hR hS hc1 hc2 hl
  refine lv_imul cx.1 cx.2.1 hd ?_
  rw [show Int32.ofInt x * Int32.ofInt y = Int32.ofInt (x * y) from (Int32.ofInt_mul _ _).symm]
  exact e
theorem wa_lmul (pc' : Nat) {x y : Int} (hd : decode X.2.1 pc = .ok (.lmul, 1)) (hp : pc + 1 = pc') (hn : inL (x * y)) (h : WA X ht k pc' ls ((1, x * y) :: st) L μ Q) : WA X ht k pc ls ((1, y) :: (1, x) :: st) L μ Q := by
  subst hp
  intro h1 h2 p l e R s m args below meth c b B D dA Z C S H locs cells slots lsA cx hr hR hS hc1 hc2 hl
  have hy : inL y := (hd1 h2).2 rfl
  have hx : inL x := (hd2 h2).2 rfl
  have e := h h1 (okv_cons (okv_long hn) (tl2 h2)) p l e R s m args below meth c b B D dA Z C S H locs cells slots lsA cx hr hR hS hc1 hc2 hl
  refine lv_lmul cx.1 cx.2.1 hd ?_
  rw [show Int64.ofInt x * Int64.ofInt y = Int64.ofInt (x * y) from (Int64.ofInt_mul _ _).symm]
  exact e
theorem wa_idiv (pc' : Nat) {x y : Int} (hd : decode X.2.1 pc = .ok (.idiv, 1)) (hp : pc + 1 = pc') (h0 : y ≠ 0) (hn : inI (x.tdiv y)) (h : WA X ht k pc' ls ((0, x.tdiv y) :: st) L μ Q) : WA X ht k pc ls ((0, y) :: (0, x) :: st) L μ Q := by
  subst hp
  intro h1 h2 p l e R s m args below meth c b B D dA Z C S H locs cells slots lsA cx hr hR hS hc1 hc2 hl
  have hy : inI y := (hd1 h2).1 rfl
  have hx : inI x := (hd2 h2).1 rfl
  have e := h h1 (okv_cons (okv_int hn) (tl2 h2)) p l e R s m args below meth c b B D dA Z C S H locs cells slots lsA cx hr hR hS hc1 hc2 hl
  refine lv_idiv cx.1 cx.2.1 hd (fun q => h0 ((i32_eq hy (by decide)).mp (show Int32.ofInt y = Int32.ofInt 0 from q))) ?_
  rw [i32_div hx hy hn]
  exact e
theorem wa_ldiv (pc' : Nat) {x y : Int} (hd : decode X.2.1 pc = .ok (.ldiv, 1)) (hp : pc + 1 = pc') (h0 : y ≠ 0) (hn : inL (x.tdiv y)) (h : WA X ht k pc' ls ((1, x.tdiv y) :: st) L μ Q) : WA X ht k pc ls ((1, y) :: (1, x) :: st) L μ Q := by
  subst hp
  intro h1 h2 p l e R s m args below meth c b B D dA Z C S H locs cells slots lsA cx hr hR hS hc1 hc2 hl
  have hy : inL y := (hd1 h2).2 rfl
  have hx : inL x := (hd2 h2).2 rfl
  have e := h h1 (okv_cons (okv_long hn) (tl2 h2)) p l e R s m args below meth c b B D dA Z C S H locs cells slots lsA cx hr hR hS hc1 hc2 hl
  refine lv_ldiv cx.1 cx.2.1 hd (fun q => h0 ((i64_eq hy (by decide)).mp (show Int64.ofInt y = Int64.ofInt 0 from q))) ?_
  rw [i64_div hx hy hn]
  exact e
theorem wa_irem (pc' : Nat) {x y : Int} (hd : decode X.2.1 pc = .ok (.irem, 1)) (hp : pc + 1 = pc') (h0 : y ≠ 0) (hn1 : inI (x.tdiv y)) (hn : inI (x.tmod y)) (h : WA X ht k pc' ls ((0, x.tmod y) :: st) L μ Q) : WA X ht k pc ls ((0, y) :: (0, x) :: st) L μ Q := by
  subst hp
  intro h1 h2 p l e R s m args below meth c b B D dA Z C S H locs cells slots lsA cx hr hR hS hc1 hc2 hl
  have hy : inI y := (hd1 h2).1 rfl
  have hx : inI x := (hd2 h2).1 rfl
  have e := h h1 (okv_cons (okv_int hn) (tl2 h2)) p l e R s m args below meth c b B D dA Z C S H locs cells slots lsA cx hr hR hS hc1 hc2 hl
  refine lv_irem cx.1 cx.2.1 hd (fun q => h0 ((i32_eq hy (by decide)).mp (show Int32.ofInt y = Int32.ofInt 0 from q))) ?_
  rw [show Int32.ofInt x - Int32.ofInt x / Int32.ofInt y * Int32.ofInt y = Int32.ofInt (x.tmod y) by
    rw [i32_div hx hy hn1, ← Int32.ofInt_mul, ← Int32.ofInt_sub]
    congr 1
    have := Int.tmod_add_mul_tdiv x y
    rw [Int.mul_comm] at this
    omega]
  exact e
theorem wa_lrem (pc' : Nat) {x y : Int} (hd : decode X.2.1 pc = .ok (.lrem, 1)) (hp : pc + 1 = pc') (h0 : y ≠ 0) (hn1 : inL (x.tdiv y)) (hn : inL (x.tmod y)) (h : WA X ht k pc' ls ((1, x.tmod y) :: st) L μ Q) : WA X ht k pc ls ((1, y) :: (1, x) :: st) L μ Q := by
  subst hp
  intro h1 h2 p l e R s m args below meth c b B D dA Z C S H locs cells slots lsA cx hr hR hS hc1 hc2 hl
  have hy : inL y := (hd1 h2).2 rfl
  have hx : inL x := (hd2 h2).2 rfl
  have e := h h1 (okv_cons (okv_long hn) (tl2 h2)) p l e R s m args below meth c b B D dA Z C S H locs cells slots lsA cx hr hR hS hc1 hc2 hl
  refine lv_lrem cx.1 cx.2.1 hd (fun q => h0 ((i64_eq hy (by decide)).mp (show Int64.ofInt y = Int64.ofInt 0 from q))) ?_
  rw [show Int64.ofInt x - Int64.ofInt x / Int64.ofInt y * Int64.ofInt y = Int64.ofInt (x.tmod y) by
    rw [i64_div hx hy hn1, ← Int64.ofInt_mul, ← Int64.ofInt_sub]
    congr 1
    have := Int.tmod_add_mul_tdiv x y
    rw [Int.mul_comm] at this
    omega]
  exact e
theorem wa_iand (pc' : Nat) {x y : Int} (hd : decode X.2.1 pc = .ok (.iand, 1)) (hp : pc + 1 = pc') (h : WA X ht k pc' ls ((0, bAnd x y) :: st) L μ Q) : WA X ht k pc ls ((0, y) :: (0, x) :: st) L μ Q := by
  subst hp
  intro h1 h2 p l e R s m args below meth c b B D dA Z C S H locs cells slots lsA cx hr hR hS hc1 hc2 hl
  have e := h h1 (okv_cons (okv_int (i32_in _)) (tl2 h2)) p l e R s m args below meth c b B D dA Z C S H locs cells slots lsA cx hr hR hS hc1 hc2 hl
  refine lv_iand cx.1 cx.2.1 hd ?_
  rw [show Int32.ofInt x &&& Int32.ofInt y = Int32.ofInt (bAnd x y) from (Int32.ofInt_toInt _).symm]
  exact e
theorem wa_ior (pc' : Nat) {x y : Int} (hd : decode X.2.1 pc = .ok (.ior, 1)) (hp : pc + 1 = pc') (h : WA X ht k pc' ls ((0, bOr x y) :: st) L μ Q) : WA X ht k pc ls ((0, y) :: (0, x) :: st) L μ Q := by
  subst hp
  intro h1 h2 p l e R s m args below meth c b B D dA Z C S H locs cells slots lsA cx hr hR hS hc1 hc2 hl
  have e := h h1 (okv_cons (okv_int (i32_in _)) (tl2 h2)) p l e R s m args below meth c b B D dA Z C S H locs cells slots lsA cx hr hR hS hc1 hc2 hl
  refine lv_ior cx.1 cx.2.1 hd ?_
  rw [show Int32.ofInt x ||| Int32.ofInt y = Int32.ofInt (bOr x y) from (Int32.ofInt_toInt _).symm]
  exact e
theorem wa_ixor (pc' : Nat) {x y : Int} (hd : decode X.2.1 pc = .ok (.ixor, 1)) (hp : pc + 1 = pc') (h : WA X ht k pc' ls ((0, bXor x y) :: st) L μ Q) : WA X ht k pc ls ((0, y) :: (0, x) :: st) L μ Q := by
  subst hp
  intro h1 h2 p l e R s m args below meth c b B D dA Z C S H locs cells slots lsA cx hr hR hS hc1 hc2 hl
  have e := h h1 (okv_cons (okv_int (i32_in _)) (tl2 h2)) p l e R s m args below meth c b B D dA Z C S H locs cells slots lsA cx hr hR hS hc1 hc2 hl
  refine lv_ixor cx.1 cx.2.1 hd ?_
  rw [show Int32.ofInt x ^^^ Int32.ofInt y = Int32.ofInt (bXor x y) from (Int32.ofInt_toInt _).symm]
  exact e
theorem wa_ishl (pc' : Nat) {x y : Int} (hd : decode X.2.1 pc = .ok (.ishl, 1)) (hp : pc + 1 = pc') (h : WA X ht k pc' ls ((0, bShl x y) :: st) L μ Q) : WA X ht k pc ls ((0, y) :: (0, x) :: st) L μ Q := by
  subst hp
  intro h1 h2 p l e R s m args below meth c b B D dA Z C S H locs cells slots lsA cx hr hR hS hc1 hc2 hl
  have e := h h1 (okv_cons (okv_int (i32_in _)) (tl2 h2)) p l e R s m args below meth c b B D dA Z C S H locs cells slots lsA cx hr hR hS hc1 hc2 hl
  refine lv_ishl cx.1 cx.2.1 hd ?_
  rw [show Int32.ofInt x <<< (Int32.ofInt y &&& 31) = Int32.ofInt (bShl x y) from (Int32.ofInt_toInt _).symm]
  exact e
theorem wa_ishr (pc' : Nat) {x y : Int} (hd : decode X.2.1 pc = .ok (.ishr, 1)) (hp : pc + 1 = pc') (h : WA X ht k pc' ls ((0, bShr x y) :: st) L μ Q) : WA X ht k pc ls ((0, y) :: (0, x) :: st) L μ Q := by
  subst hp
  intro h1 h2 p l e R s m args below meth c b B D dA Z C S H locs cells slots lsA cx hr hR hS hc1 hc2 hl
  have e := h h1 (okv_cons (okv_int (i32_in _)) (tl2 h2)) p l e R s m args below meth c b B D dA Z C S H locs cells slots lsA cx hr hR hS hc1 hc2 hl
  refine lv_ishr cx.1 cx.2.1 hd ?_
  rw [show Int32.ofInt x >>> (Int32.ofInt y &&& 31) = Int32.ofInt (bShr x y) from (Int32.ofInt_toInt _).symm]
  exact e
theorem wa_i2l (pc' : Nat) {x : Int} (hd : decode X.2.1 pc = .ok (.i2l, 1)) (hp : pc + 1 = pc') (h : WA X ht k pc' ls ((1, x) :: st) L μ Q) : WA X ht k pc ls ((0, x) :: st) L μ Q := by
  subst hp
  intro h1 h2 p l e R s m args below meth c b B D dA Z C S H locs cells slots lsA cx hr hR hS hc1 hc2 hl
  have hx : inI x := (hd1 h2).1 rfl
  exact lv_i2l cx.1 cx.2.1 hd (i32_to64 hx) (h h1 (okv_cons (okv_long (by have := hx.1; have := hx.2; exact ⟨by omega, by omega⟩)) (okv_tl h2)) p l e R s m args below meth c b B D dA Z C S H locs cells slots lsA cx hr hR hS hc1 hc2 hl)
theorem wa_l2i (pc' : Nat) {x : Int} (hd : decode X.2.1 pc = .ok (.l2i, 1)) (hp : pc + 1 = pc') (hn : inI x) (h : WA X ht k pc' ls ((0, x) :: st) L μ Q) : WA X ht k pc ls ((1, x) :: st) L μ Q := by
  subst hp
  intro h1 h2 p l e R s m args below meth c b B D dA Z C S H locs cells slots lsA cx hr hR hS hc1 hc2 hl
  exact lv_l2i cx.1 cx.2.1 hd (i64_to32 hn) (h h1 (okv_cons (okv_int hn) (okv_tl h2)) p l e R s m args below meth c b B D dA Z C S H locs cells slots lsA cx hr hR hS hc1 hc2 hl)
theorem wa_i2b (pc' : Nat) {x : Int} (hd : decode X.2.1 pc = .ok (.i2b, 1)) (hp : pc + 1 = pc') (hn : -128 ≤ x ∧ x < 128) (h : WA X ht k pc' ls ((0, x) :: st) L μ Q) : WA X ht k pc ls ((0, x) :: st) L μ Q := by
  subst hp
  intro h1 h2 p l e R s m args below meth c b B D dA Z C S H locs cells slots lsA cx hr hR hS hc1 hc2 hl
  exact lv_i2b cx.1 cx.2.1 hd (i32_to8 hn) (h h1 h2 p l e R s m args below meth c b B D dA Z C S H locs cells slots lsA cx hr hR hS hc1 hc2 hl)
theorem wa_lneg (pc' : Nat) {x : Int} (hd : decode X.2.1 pc = .ok (.lneg, 1)) (hp : pc + 1 = pc') (hn : inL (-x)) (h : WA X ht k pc' ls ((1, -x) :: st) L μ Q) : WA X ht k pc ls ((1, x) :: st) L μ Q := by
  subst hp
  intro h1 h2 p l e R s m args below meth c b B D dA Z C S H locs cells slots lsA cx hr hR hS hc1 hc2 hl
  have e := h h1 (okv_cons (okv_long hn) (okv_tl h2)) p l e R s m args below meth c b B D dA Z C S H locs cells slots lsA cx hr hR hS hc1 hc2 hl
  refine lv_lneg cx.1 cx.2.1 hd ?_
  rw [show -Int64.ofInt x = Int64.ofInt (-x) from (Int64.ofInt_neg _).symm]
  exact e
theorem wa_icmp_eq (pc' tgt : Nat) {x y off : Int} (hd : decode X.2.1 pc = .ok (.if_icmp .eq off, 3)) (hp : pc + 3 = pc') (ht : (pc : Int) + off = (tgt : Int)) (kt : x = y → WA X h9 k tgt ls st L μ Q) (kf : ¬ x = y → WA X h9 k pc' ls st L μ Q) : WA X h9 k pc ls ((0, y) :: (0, x) :: st) L μ Q := by
  subst hp
  intro h1 h2 p l e R s m args below meth c b B D dA Z C S H locs cells slots lsA cx hr hR hS hc1 hc2 hl
  have hy : inI y := (hd1 h2).1 rfl
  have hx : inI x := (hd2 h2).1 rfl
  refine lv_icmp_eq cx.1 cx.2.1 hd ht (fun q => kt (?_) h1 (tl2 h2) p l e R s m args below meth c b B D dA Z C S H locs cells slots lsA cx hr hR hS hc1 hc2 hl) (fun q => kf (?_) h1 (tl2 h2) p l e R s m args below meth c b B D dA Z C S H locs cells slots lsA cx hr hR hS hc1 hc2 hl)
  · exact (i32_eq hx hy).mp q
  · exact fun z => q ((i32_eq hx hy).mpr z)
theorem wa_if_eq (pc' tgt : Nat) {x off : Int} (hd : decode X.2.1 pc = .ok (.ifCond .eq off, 3)) (hp : pc + 3 = pc') (ht : (pc : Int) + off = (tgt : Int)) (kt : x = 0 → WA X h9 k tgt ls st L μ Q) (kf : ¬ x = 0 → WA X h9 k pc' ls st L μ Q) : WA X h9 k pc ls ((0, x) :: st) L μ Q := by
  subst hp
  intro h1 h2 p l e R s m args below meth c b B D dA Z C S H locs cells slots lsA cx hr hR hS hc1 hc2 hl
  have hx : inI x := (hd1 h2).1 rfl
  refine lv_if_eq cx.1 cx.2.1 hd ht (fun q => kt (?_) h1 (okv_tl h2) p l e R s m args below meth c b B D dA Z C S H locs cells slots lsA cx hr hR hS hc1 hc2 hl) (fun q => kf (?_) h1 (okv_tl h2) p l e R s m args below meth c b B D dA Z C S H locs cells slots lsA cx hr hR hS hc1 hc2 hl)
  · exact (i32_eq hx (show inI 0 by decide)).mp q
  · exact fun z => q ((i32_eq hx (show inI 0 by decide)).mpr z)
theorem wa_icmp_ne (pc' tgt : Nat) {x y off : Int} (hd : decode X.2.1 pc = .ok (.if_icmp .ne off, 3)) (hp : pc + 3 = pc') (ht : (pc : Int) + off = (tgt : Int)) (kt : ¬ x = y → WA X h9 k tgt ls st L μ Q) (kf : x = y → WA X h9 k pc' ls st L μ Q) : WA X h9 k pc ls ((0, y) :: (0, x) :: st) L μ Q := by
  subst hp
  intro h1 h2 p l e R s m args below meth c b B D dA Z C S H locs cells slots lsA cx hr hR hS hc1 hc2 hl
  have hy : inI y := (hd1 h2).1 rfl
  have hx : inI x := (hd2 h2).1 rfl
  refine lv_icmp_ne cx.1 cx.2.1 hd ht (fun q => kt (?_) h1 (tl2 h2) p l e R s m args below meth c b B D dA Z C S H locs cells slots lsA cx hr hR hS hc1 hc2 hl) (fun q => kf (?_) h1 (tl2 h2) p l e R s m args below meth c b B D dA Z C S H locs cells slots lsA cx hr hR hS hc1 hc2 hl)
  · exact fun z => q ((i32_eq hx hy).mpr z)
  · exact (i32_eq hx hy).mp q
theorem wa_if_ne (pc' tgt : Nat) {x off : Int} (hd : decode X.2.1 pc = .ok (.ifCond .ne off, 3)) (hp : pc + 3 = pc') (ht : (pc : Int) + off = (tgt : Int)) (kt : ¬ x = 0 → WA X h9 k tgt ls st L μ Q) (kf : x = 0 → WA X h9 k pc' ls st L μ Q) : WA X h9 k pc ls ((0, x) :: st) L μ Q := by
  subst hp
  intro h1 h2 p l e R s m args below meth c b B D dA Z C S H locs cells slots lsA cx hr hR hS hc1 hc2 hl
  have hx : inI x := (hd1 h2).1 rfl
  refine lv_if_ne cx.1 cx.2.1 hd ht (fun q => kt (?_) h1 (okv_tl h2) p l e R s m args below meth c b B D dA Z C S H locs cells slots lsA cx hr hR hS hc1 hc2 hl) (fun q => kf (?_) h1 (okv_tl h2) p l e R s m args below meth c b B D dA Z C S H locs cells slots lsA cx hr hR hS hc1 hc2 hl)
  · exact fun z => q ((i32_eq hx (show inI 0 by decide)).mpr z)
  · exact (i32_eq hx (show inI 0 by decide)).mp q
theorem wa_icmp_lt (pc' tgt : Nat) {x y off : Int} (hd : decode X.2.1 pc = .ok (.if_icmp .lt off, 3)) (hp : pc + 3 = pc') (ht : (pc : Int) + off = (tgt : Int)) (kt : x < y → WA X h9 k tgt ls st L μ Q) (kf : ¬ x < y → WA X h9 k pc' ls st L μ Q) : WA X h9 k pc ls ((0, y) :: (0, x) :: st) L μ Q := by
  subst hp
  intro h1 h2 p l e R s m args below meth c b B D dA Z C S H locs cells slots lsA cx hr hR hS hc1 hc2 hl
  have hy : inI y := (hd1 h2).1 rfl
  have hx : inI x := (hd2 h2).1 rfl
  refine lv_icmp_lt cx.1 cx.2.1 hd ht (fun q => kt (?_) h1 (tl2 h2) p l e R s m args below meth c b B D dA Z C S H locs cells slots lsA cx hr hR hS hc1 hc2 hl) (fun q => kf (?_) h1 (tl2 h2) p l e R s m args below meth c b B D dA Z C S H locs cells slots lsA cx hr hR hS hc1 hc2 hl)
  · exact (i32_lt hx hy).mp q
  · exact fun z => q ((i32_lt hx hy).mpr z)
theorem wa_if_lt (pc' tgt : Nat) {x off : Int} (hd : decode X.2.1 pc = .ok (.ifCond .lt off, 3)) (hp : pc + 3 = pc') (ht : (pc : Int) + off = (tgt : Int)) (kt : x < 0 → WA X h9 k tgt ls st L μ Q) (kf : ¬ x < 0 → WA X h9 k pc' ls st L μ Q) : WA X h9 k pc ls ((0, x) :: st) L μ Q := by
  subst hp
  intro h1 h2 p l e R s m args below meth c b B D dA Z C S H locs cells slots lsA cx hr hR hS hc1 hc2 hl
  have hx : inI x := (hd1 h2).1 rfl
  refine lv_if_lt cx.1 cx.2.1 hd ht (fun q => kt (?_) h1 (okv_tl h2) p l e R s m args below meth c b B D dA Z C S H locs cells slots lsA cx hr hR hS hc1 hc2 hl) (fun q => kf (?_) h1 (okv_tl h2) p l e R s m args below meth c b B D dA Z C S H locs cells slots lsA cx hr hR hS hc1 hc2 hl)
  · exact (i32_lt hx (show inI 0 by decide)).mp q
  · exact fun z => q ((i32_lt hx (show inI 0 by decide)).mpr z)
theorem wa_icmp_ge (pc' tgt : Nat) {x y off : Int} (hd : decode X.2.1 pc = .ok (.if_icmp .ge off, 3)) (hp : pc + 3 = pc') (ht : (pc : Int) + off = (tgt : Int)) (kt : y ≤ x → WA X h9 k tgt ls st L μ Q) (kf : ¬ y ≤ x → WA X h9 k pc' ls st L μ Q) : WA X h9 k pc ls ((0, y) :: (0, x) :: st) L μ Q := by
  subst hp
  intro h1 h2 p l e R s m args below meth c b B D dA Z C S H locs cells slots lsA cx hr hR hS hc1 hc2 hl
  have hy : inI y := (hd1 h2).1 rfl
  have hx : inI x := (hd2 h2).1 rfl
  refine lv_icmp_ge cx.1 cx.2.1 hd ht (fun q => kt (?_) h1 (tl2 h2) p l e R s m args below meth c b B D dA Z C S H locs cells slots lsA cx hr hR hS hc1 hc2 hl) (fun q => kf (?_) h1 (tl2 h2) p l e R s m args below meth c b B D dA Z C S H locs cells slots lsA cx hr hR hS hc1 hc2 hl)
  · exact (i32_le hy hx).mp q
  · exact fun z => q ((i32_le hy hx).mpr z)
theorem wa_if_ge (pc' tgt : Nat) {x off : Int} (hd : decode X.2.1 pc = .ok (.ifCond .ge off, 3)) (hp : pc + 3 = pc') (ht : (pc : Int) + off = (tgt : Int)) (kt : 0 ≤ x → WA X h9 k tgt ls st L μ Q) (kf : ¬ 0 ≤ x → WA X h9 k pc' ls st L μ Q) : WA X h9 k pc ls ((0, x) :: st) L μ Q := by
  subst hp
  intro h1 h2 p l e R s m args below meth c b B D dA Z C S H locs cells slots lsA cx hr hR hS hc1 hc2 hl
  have hx : inI x := (hd1 h2).1 rfl
  refine lv_if_ge cx.1 cx.2.1 hd ht (fun q => kt (?_) h1 (okv_tl h2) p l e R s m args below meth c b B D dA Z C S H locs cells slots lsA cx hr hR hS hc1 hc2 hl) (fun q => kf (?_) h1 (okv_tl h2) p l e R s m args below meth c b B D dA Z C S H locs cells slots lsA cx hr hR hS hc1 hc2 hl)
  · exact (i32_le (show inI 0 by decide) hx).mp q
  · exact fun z => q ((i32_le (show inI 0 by decide) hx).mpr z)
theorem wa_icmp_gt (pc' tgt : Nat) {x y off : Int} (hd : decode X.2.1 pc = .ok (.if_icmp .gt off, 3)) (hp : pc + 3 = pc') (ht : (pc : Int) + off = (tgt : Int)) (kt : y < x → WA X h9 k tgt ls st L μ Q) (kf : ¬ y < x → WA X h9 k pc' ls st L μ Q) : WA X h9 k pc ls ((0, y) :: (0, x) :: st) L μ Q := by
  subst hp
  intro h1 h2 p l e R s m args below meth c b B D dA Z C S H locs cells slots lsA cx hr hR hS hc1 hc2 hl
  have hy : inI y := (hd1 h2).1 rfl
  have hx : inI x := (hd2 h2).1 rfl
  refine lv_icmp_gt cx.1 cx.2.1 hd ht (fun q => kt (?_) h1 (tl2 h2) p l e R s m args below meth c b B D dA Z C S H locs cells slots lsA cx hr hR hS hc1 hc2 hl) (fun q => kf (?_) h1 (tl2 h2) p l e R s m args below meth c b B D dA Z C S H locs cells slots lsA cx hr hR hS hc1 hc2 hl)
  · exact (i32_lt hy hx).mp q
  · exact fun z => q ((i32_lt hy hx).mpr z)
theorem wa_if_gt (pc' tgt : Nat) {x off : Int} (hd : decode X.2.1 pc = .ok (.ifCond .gt off, 3)) (hp : pc + 3 = pc') (ht : (pc : Int) + off = (tgt : Int)) (kt : 0 < x → WA X h9 k tgt ls st L μ Q) (kf : ¬ 0 < x → WA X h9 k pc' ls st L μ Q) : WA X h9 k pc ls ((0, x) :: st) L μ Q := by
  subst hp
  intro h1 h2 p l e R s m args below meth c b B D dA Z C S H locs cells slots lsA cx hr hR hS hc1 hc2 hl
  have hx : inI x := (hd1 h2).1 rfl
  refine lv_if_gt cx.1 cx.2.1 hd ht (fun q => kt (?_) h1 (okv_tl h2) p l e R s m args below meth c b B D dA Z C S H locs cells slots lsA cx hr hR hS hc1 hc2 hl) (fun q => kf (?_) h1 (okv_tl h2) p l e R s m args below meth c b B D dA Z C S H locs cells slots lsA cx hr hR hS hc1 hc2 hl)
  · exact (i32_lt (show inI 0 by decide) hx).mp q
  · exact fun z => q ((i32_lt (show inI 0 by decide) hx).mpr z)
theorem wa_icmp_le (pc' tgt : Nat) {x y off : Int} (hd : decode X.2.1 pc = .ok (.if_icmp .le off, 3)) (hp : pc + 3 = pc') (ht : (pc : Int) + off = (tgt : Int)) (kt : x ≤ y → WA X h9 k tgt ls st L μ Q) (kf : ¬ x ≤ y → WA X h9 k pc' ls st L μ Q) : WA X h9 k pc ls ((0, y) :: (0, x) :: st) L μ Q := by
  subst hp
  intro h1 h2 p l e R s m args below meth c b B D dA Z C S H locs cells slots lsA cx hr hR hS hc1 hc2 hl
  have hy : inI y := (hd1 h2).1 rfl
  have hx : inI x := (hd2 h2).1 rfl
  refine lv_icmp_le cx.1 cx.2.1 hd ht (fun q => kt (?_) h1 (tl2 h2) p l e R s m args below meth c b B D dA Z C S H locs cells slots lsA cx hr hR hS hc1 hc2 hl) (fun q => kf (?_) h1 (tl2 h2) p l e R s m args below meth c b B D dA Z C S H locs cells slots lsA cx hr hR hS hc1 hc2 hl)
  · exact (i32_le hx hy).mp q
  · exact fun z => q ((i32_le hx hy).mpr z)
theorem wa_if_le (pc' tgt : Nat) {x off : Int} (hd : decode X.2.1 pc = .ok (.ifCond .le off, 3)) (hp : pc + 3 = pc') (ht : (pc : Int) + off = (tgt : Int)) (kt : x ≤ 0 → WA X h9 k tgt ls st L μ Q) (kf : ¬ x ≤ 0 → WA X h9 k pc' ls st L μ Q) : WA X h9 k pc ls ((0, x) :: st) L μ Q := by
  subst hp
  intro h1 h2 p l e R s m args below meth c b B D dA Z C S H locs cells slots lsA cx hr hR hS hc1 hc2 hl
  have hx : inI x := (hd1 h2).1 rfl
  refine lv_if_le cx.1 cx.2.1 hd ht (fun q => kt (?_) h1 (okv_tl h2) p l e R s m args below meth c b B D dA Z C S H locs cells slots lsA cx hr hR hS hc1 hc2 hl) (fun q => kf (?_) h1 (okv_tl h2) p l e R s m args below meth c b B D dA Z C S H locs cells slots lsA cx hr hR hS hc1 hc2 hl)
  · exact (i32_le hx (show inI 0 by decide)).mp q
  · exact fun z => q ((i32_le hx (show inI 0 by decide)).mpr z)
/-- the answer of lcmp -/
def cmp (x y : Int) : Int := if x < y then -1 else if x = y then 0 else 1
theorem wa_lcmp (pc' : Nat) {x y : Int} (hd : decode X.2.1 pc = .ok (.lcmp, 1)) (hp : pc + 1 = pc') (h : WA X h9 k pc' ls ((0, cmp x y) :: st) L μ Q) : WA X h9 k pc ls ((1, y) :: (1, x) :: st) L μ Q := by
  subst hp
  intro h1 h2 p l e R s m args below meth c b B D dA Z C S H locs cells slots lsA cx hr hR hS hc1 hc2 hl
  have hy : inL y := (hd1 h2).2 rfl
  have hx : inL x := (hd2 h2).2 rfl
  have e := h h1 (okv_cons (okv_int (by unfold cmp; split; exact ⟨by decide, by decide⟩; split <;> exact ⟨by decide, by decide⟩)) (tl2 h2)) p l e R s m args below meth c b B D dA Z C S H locs cells slots lsA cx hr hR hS hc1 hc2 hl
  refine W.lcmp cx.1 cx.2.1 hd ?_
  have e2 : lg_cmp (Int64.ofInt x) (Int64.ofInt y) = Int32.ofInt (cmp x y) := by
    unfold lg_cmp cmp
    simp only [gt_iff_lt, i64_lt hy hx, i64_eq hx hy]
    by_cases q1 : y < x
    · rw [if_pos q1, if_neg (by omega), if_neg (by omega)]; rfl
    · by_cases q2 : x = y
      · rw [if_neg q1, if_pos q2, if_neg (by omega), if_pos q2]; rfl
      · rw [if_neg q1, if_neg q2, if_pos (by omega)]; rfl
  rw [e2]
  exact e
theorem wa_lc_eq (pc' tgt : Nat) {x y off : Int} (hd : decode X.2.1 pc = .ok (.lcmp, 1)) (hd2 : decode X.2.1 (pc + 1) = .ok (.ifCond .eq off, 3)) (hp : pc + 4 = pc') (ht : (pc : Int) + 1 + off = (tgt : Int)) (kt : x = y → WA X h9 k tgt ls st L μ Q) (kf : ¬ x = y → WA X h9 k pc' ls st L μ Q) : WA X h9 k pc ls ((1, y) :: (1, x) :: st) L μ Q :=
  wa_lcmp (pc + 1) hd rfl (wa_if_eq pc' tgt hd2 (by omega) (by omega) (fun q => kt (by unfold cmp at q; split at q <;> first | omega | (split at q <;> omega))) (fun q => kf (by unfold cmp at q; split at q <;> first | omega | (split at q <;> omega))))
theorem wa_lc_ne (pc' tgt : Nat) {x y off : Int} (hd : decode X.2.1 pc = .ok (.lcmp, 1)) (hd2 : decode X.2.1 (pc + 1) = .ok (.ifCond .ne off, 3)) (hp : pc + 4 = pc') (ht : (pc : Int) + 1 + off = (tgt : Int)) (kt : ¬ x = y → WA X h9 k tgt ls st L μ Q) (kf : x = y → WA X h9 k pc' ls st L μ Q) : WA X h9 k pc ls ((1, y) :: (1, x) :: st) L μ Q :=
  wa_lcmp (pc + 1) hd rfl (wa_if_ne pc' tgt hd2 (by omega) (by omega) (fun q => kt (by unfold cmp at q; split at q <;> first | omega | (split at q <;> omega))) (fun q => kf (by unfold cmp at q; split at q <;> first | omega | (split at q <;> omega))))
theorem wa_lc_lt (pc' tgt : Nat) {x y off : Int} (hd : decode X.2.1 pc = .ok (.lcmp, 1)) (hd2 : decode X.2.1 (pc + 1) = .ok (.ifCond .lt off, 3)) (hp : pc + 4 = pc') (ht : (pc : Int) + 1 + off = (tgt : Int)) (kt : x < y → WA X h9 k tgt ls st L μ Q) (kf : ¬ x < y → WA X h9 k pc' ls st L μ Q) : WA X h9 k pc ls ((1, y) :: (1, x) :: st) L μ Q :=
  wa_lcmp (pc + 1) hd rfl (wa_if_lt pc' tgt hd2 (by omega) (by omega) (fun q => kt (by unfold cmp at q; split at q <;> first | omega | (split at q <;> omega))) (fun q => kf (by unfold cmp at q; split at q <;> first | omega | (split at q <;> omega))))
theorem wa_lc_ge (pc' tgt : Nat) {x y off : Int} (hd : decode X.2.1 pc = .ok (.lcmp, 1)) (hd2 : decode X.2.1 (pc + 1) = .ok (.ifCond .ge off, 3)) (hp : pc + 4 = pc') (ht : (pc : Int) + 1 + off = (tgt : Int)) (kt : y ≤ x → WA X h9 k tgt ls st L μ Q) (kf : ¬ y ≤ x → WA X h9 k pc' ls st L μ Q) : WA X h9 k pc ls ((1, y) :: (1, x) :: st) L μ Q :=
  wa_lcmp (pc + 1) hd rfl (wa_if_ge pc' tgt hd2 (by omega) (by omega) (fun q => kt (by unfold cmp at q; split at q <;> first | omega | (split at q <;> omega))) (fun q => kf (by unfold cmp at q; split at q <;> first | omega | (split at q <;> omega))))
theorem wa_lc_gt (pc' tgt : Nat) {x y off : Int} (hd : decode X.2.1 pc = .ok (.lcmp, 1)) (hd2 : decode X.2.1 (pc + 1) = .ok (.ifCond .gt off, 3)) (hp : pc + 4 = pc') (ht : (pc : Int) + 1 + off = (tgt : Int)) (kt : y < x → WA X h9 k tgt ls st L μ Q) (kf : ¬ y < x → WA X h9 k pc' ls st L μ Q) : WA X h9 k pc ls ((1, y) :: (1, x) :: st) L μ Q :=
  wa_lcmp (pc + 1) hd rfl (wa_if_gt pc' tgt hd2 (by omega) (by omega) (fun q => kt (by unfold cmp at q; split at q <;> first | omega | (split at q <;> omega))) (fun q => kf (by unfold cmp at q; split at q <;> first | omega | (split at q <;> omega))))
theorem wa_lc_le (pc' tgt : Nat) {x y off : Int} (hd : decode X.2.1 pc = .ok (.lcmp, 1)) (hd2 : decode X.2.1 (pc + 1) = .ok (.ifCond .le off, 3)) (hp : pc + 4 = pc') (ht : (pc : Int) + 1 + off = (tgt : Int)) (kt : x ≤ y → WA X h9 k tgt ls st L μ Q) (kf : ¬ x ≤ y → WA X h9 k pc' ls st L μ Q) : WA X h9 k pc ls ((1, y) :: (1, x) :: st) L μ Q :=
  wa_lcmp (pc + 1) hd rfl (wa_if_le pc' tgt hd2 (by omega) (by omega) (fun q => kt (by unfold cmp at q; split at q <;> first | omega | (split at q <;> omega))) (fun q => kf (by unfold cmp at q; split at q <;> first | omega | (split at q <;> omega))))
end WARows2
