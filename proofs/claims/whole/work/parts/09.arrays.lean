/-! the rows of WA: arrays -/
theorem clamp_i {i : Int} (h : inI i) : (Int32.ofInt i).toNatClampNeg = i.toNat := by
  show (Int32.ofInt i).toInt.toNat = i.toNat
  rw [i32_toInt h]
theorem vp_in_i {i : Int} {n : Nat} (h : inI i) (h0 : 0 ≤ i) (h1 : i < (n : Int)) : vp_in (Int32.ofInt i) n := by
  refine vp_in_iff.mpr ?_
  rw [i32_toInt h]
  exact ⟨h0, h1⟩
theorem arr_store_i {cA : ClassId} {n i : Nat} {f g : Nat → Int32} {x : Int32} (h : ∀ j, g j = if j = i then x else f j) : (vp_cell cA (n, .inl f)).setSlot i (.int x) = vp_cell cA (n, .inl g) := by
  rw [vp_cell_i, vp_cell_i, arrV_store]
  congr 1
  funext j
  rw [h j]
  by_cases hj : j = i <;> simp [updV, hj]
theorem arr_store_l {cA : ClassId} {n i : Nat} {f g : Nat → Int64} {x : Int64} (h : ∀ j, g j = if j = i then x else f j) : (vp_cell cA (n, .inr (.inl f))).setSlot i (.long x) = vp_cell cA (n, .inr (.inl g)) := by
  rw [vp_cell_l, vp_cell_l, arrV_store]
  congr 1
  funext j
  rw [h j]
  by_cases hj : j = i <;> simp [updV, hj]
theorem arrA_i {b B : Nat} {L : Lay} {μ : Mem} {t : Nat} {o : Int} (h : t = 20 ∨ t = 22) : arrA b B L μ t o = .inl fun j => Int32.ofInt (μ o (j : Int)) := by
  unfold arrA
  rw [if_neg (by omega), if_pos h]
theorem arrA_l {b B : Nat} {L : Lay} {μ : Mem} {o : Int} : arrA b B L μ 21 o = .inr (.inl fun j => Int64.ofInt (μ o (j : Int))) := rfl
theorem arrA_r {b B : Nat} {L : Lay} {μ : Mem} {t : Nat} {o : Int} (h : 23 ≤ t) : arrA b B L μ t o = .inr (.inr (.inr (.inr fun j => if rf L o (j : Int) < 0 then none else some (ad b B (rf L o (j : Int)))))) := by
  unfold arrA
  rw [if_neg (by omega), if_neg (by omega)]
section WAArr
variable {X : MI} {ht : Nat} {k : Nat × Nat} {pc : Nat} {ls st : List AV} {L : Lay} {μ : Mem} {Q : Option AV → Lay → Mem → Prop}
theorem wa_iaload (pc' : Nat) {a i : Int} (hd : decode X.2.1 pc = .ok (.iaload, 1)) (hp : pc + 1 = pc') (ho : okA L a 20 i) (h : WA X ht k pc' ls ((0, μ a i) :: st) L μ Q) : WA X ht k pc ls ((0, i) :: (2, a) :: st) L μ Q := by
  subst hp
  obtain ⟨o1, o2, o3, i0, i1⟩ := ho
  intro h1 h2 p l e R s m args below meth c b B D dA Z C S H locs cells slots lsA cx hr hR hS hc1 hc2 hl
  have hi : inI i := (hd1 h2).1 rfl
  have he := wld_at (b := b) (B := B) (dA := dA) (μ := μ) o1 o2
  rw [entry_arr o3 (by decide)] at he
  have hin : vp_in (Int32.ofInt i) (kd L a).2.toNat := vp_in_i hi i0 (by omega)
  have hii : ((i.toNat : Nat) : Int) = i := by omega
  rw [arrA_i (by decide)] at he
  have hv := hR.2.2.2.2 a i (by omega) o2
  rw [sty_arr o3 (by decide)] at hv
  have hv : inI (μ a i) := by exact hv
  refine va_iald cx.1 cx.2.1 cx.2.2.2.2.2.1.1 hR.1 _ 0 he rfl hin hd ?_
  rw [clamp_i hi, hii]
  exact h h1 (okv_cons (okv_int hv) (tl2 h2)) p l e R s m args below meth c b B D dA Z C S H locs cells slots lsA cx hr hR hS hc1 hc2 hl
theorem wa_baload (pc' : Nat) {a i : Int} (hd : decode X.2.1 pc = .ok (.baload, 1)) (hp : pc + 1 = pc') (ho : okA L a 22 i) (h : WA X ht k pc' ls ((0, μ a i) :: st) L μ Q) : WA X ht k pc ls ((0, i) :: (2, a) :: st) L μ Q := by
  subst hp
  obtain ⟨o1, o2, o3, i0, i1⟩ := ho
  intro h1 h2 p l e R s m args below meth c b B D dA Z C S H locs cells slots lsA cx hr hR hS hc1 hc2 hl
  have hi : inI i := (hd1 h2).1 rfl
  have he := wld_at (b := b) (B := B) (dA := dA) (μ := μ) o1 o2
  rw [entry_arr o3 (by decide)] at he
  have hin : vp_in (Int32.ofInt i) (kd L a).2.toNat := vp_in_i hi i0 (by omega)
  have hii : ((i.toNat : Nat) : Int) = i := by omega
  rw [arrA_i (by decide)] at he
  have hv := hR.2.2.2.2 a i (by omega) o2
  rw [sty_arr o3 (by decide)] at hv
  have hv : inI (μ a i) := by have h8 : -128 ≤ μ a i ∧ μ a i < 128 := hv; exact ⟨by omega, by omega⟩
  refine va_bald cx.1 cx.2.1 cx.2.2.2.2.2.1.1 hR.1 _ 2 he rfl hin hd ?_
  rw [clamp_i hi, hii]
  exact h h1 (okv_cons (okv_int hv) (tl2 h2)) p l e R s m args below meth c b B D dA Z C S H locs cells slots lsA cx hr hR hS hc1 hc2 hl
theorem wa_laload (pc' : Nat) {a i : Int} (hd : decode X.2.1 pc = .ok (.laload, 1)) (hp : pc + 1 = pc') (ho : okA L a 21 i) (h : WA X ht k pc' ls ((1, μ a i) :: st) L μ Q) : WA X ht k pc ls ((0, i) :: (2, a) :: st) L μ Q := by
  subst hp
  obtain ⟨o1, o2, o3, i0, i1⟩ := ho
  intro h1 h2 p l e R s m args below meth c b B D dA Z C S H locs cells slots lsA cx hr hR hS hc1 hc2 hl
  have hi : inI i := (hd1 h2).1 rfl
  have he := wld_at (b := b) (B := B) (dA := dA) (μ := μ) o1 o2
  rw [entry_arr o3 (by decide)] at he
  have hin : vp_in (Int32.ofInt i) (kd L a).2.toNat := vp_in_i hi i0 (by omega)
  have hii : ((i.toNat : Nat) : Int) = i := by omega
  rw [arrA_l] at he
  have hv := hR.2.2.2.2 a i (by omega) o2
  rw [sty_arr o3 (by decide)] at hv
  have hv : inL (μ a i) := hv
  refine va_lald cx.1 cx.2.1 cx.2.2.2.2.2.1.1 hR.1 _ 1 he rfl hin hd ?_
  rw [clamp_i hi, hii]
  exact h h1 (okv_cons (okv_long hv) (tl2 h2)) p l e R s m args below meth c b B D dA Z C S H locs cells slots lsA cx hr hR hS hc1 hc2 hl
/-- a place of the script -/
theorem wa_sload (pc' : Nat) {i : Int} (hd : decode X.2.1 pc = .ok (.iaload, 1)) (hp : pc + 1 = pc') (ho : okS L i) (h : WA X ht k pc' ls ((0, μ 0 i) :: st) L μ Q) : WA X ht k pc ls ((0, i) :: (2, 0) :: st) L μ Q := by
  subst hp
  obtain ⟨o1, o2, i0, i1⟩ := ho
  intro h1 h2 p l e R s m args below meth c b B D dA Z C S H locs cells slots lsA cx hr hR hS hc1 hc2 hl
  have hi : inI i := (hd1 h2).1 rfl
  have hin : vp_in (Int32.ofInt i) (kd L 0).2.toNat := vp_in_i hi i0 (by omega)
  have hii : ((i.toNat : Nat) : Int) = i := by omega
  have hv := hR.2.2.2.2 0 i (by omega) hR.2.2.1
  unfold sty at hv
  rw [o1, if_neg (show ¬ ((20 : Nat) < 11) by decide)] at hv
  have hv : inI (μ 0 i) := hv
  have hX := hR.2.2.2.1
  refine va_sld (H0 := H) (A := fun q => B ≤ q) (b := b) cx.1 cx.2.1 hX ?_ (by have := cx.2.2.2.2.2.2.1; omega) ⟨Nat.le_refl _, fun _ _ _ => rfl, hS.2.2⟩ hin hd ?_
  · exact Nat.lt_of_lt_of_le cx.2.2.2.2.2.2.1 (by rw [hR.2.1]; exact Nat.le_add_right _ _)
  · rw [clamp_i hi, hii]
    exact h h1 (okv_cons (okv_int hv) (tl2 h2)) p l e R s m args below meth c b B D dA Z C S H locs cells slots lsA cx hr hR hS hc1 hc2 hl
theorem wa_slen (pc' : Nat) {n : Int} (hd : decode X.2.1 pc = .ok (.arraylength, 1)) (hp : pc + 1 = pc') (ho : kd L 0 = (20, n) ∧ 0 ≤ n ∧ n < 2147483648) (h : WA X ht k pc' ls ((0, n) :: st) L μ Q) : WA X ht k pc ls ((2, 0) :: st) L μ Q := by
  subst hp
  obtain ⟨o1, o2, o3⟩ := ho
  intro h1 h2 p l e R s m args below meth c b B D dA Z C S H locs cells slots lsA cx hr hR hS hc1 hc2 hl
  have hX := hR.2.2.2.1
  refine va_slen (H0 := H) (A := fun q => B ≤ q) (b := b) cx.1 cx.2.1 hX ?_ (by have := cx.2.2.2.2.2.2.1; omega) ⟨Nat.le_refl _, fun _ _ _ => rfl, hS.2.2⟩ hd ?_
  · exact Nat.lt_of_lt_of_le cx.2.2.2.2.2.2.1 (by rw [hR.2.1]; exact Nat.le_add_right _ _)
  · have e9 : Int32.ofNat (kd L 0).2.toNat = Int32.ofInt n := by
      rw [o1, ← Int32.ofInt_eq_ofNat]
      congr 1
      show ((n.toNat : Nat) : Int) = n
      omega
    rw [e9]
    exact h h1 (okv_cons (okv_int ⟨by omega, by omega⟩) (okv_tl h2)) p l e R s m args below meth c b B D dA Z C S H locs cells slots lsA cx hr hR hS hc1 hc2 hl
theorem wa_alen (pc' : Nat) {a n : Int} (hd : decode X.2.1 pc = .ok (.arraylength, 1)) (hp : pc + 1 = pc') (ho : 1 ≤ a ∧ a ≤ L.1 ∧ (kd L a).2 = n ∧ (20 ≤ (kd L a).1 ∧ (kd L a).1 ≤ 26) ∧ 0 ≤ n ∧ n < 2147483648) (h : WA X ht k pc' ls ((0, n) :: st) L μ Q) : WA X ht k pc ls ((2, a) :: st) L μ Q := by
  subst hp
  obtain ⟨o1, o2, o3, o4, o5, o6⟩ := ho
  intro h1 h2 p l e R s m args below meth c b B D dA Z C S H locs cells slots lsA cx hr hR hS hc1 hc2 hl
  have he := wld_at (b := b) (B := B) (dA := dA) (μ := μ) o1 o2
  rw [entry_arr rfl o4.1] at he
  have hty : ∃ ty, (tysL dA)[(kd L a).1 - 20]? = some (dA ((kd L a).1 - 20), ty) := by
    generalize (kd L a).1 = t at o4
    have : t = 20 ∨ t = 21 ∨ t = 22 ∨ t = 23 ∨ t = 24 ∨ t = 25 ∨ t = 26 := by omega
    rcases this with rfl | rfl | rfl | rfl | rfl | rfl | rfl <;> exact ⟨_, rfl⟩
  obtain ⟨ty, hty⟩ := hty
  refine va_alen cx.1 cx.2.1 cx.2.2.2.2.2.1.1 hR.1 _ _ he hty (v := Int32.ofInt n) ?_ hd ?_
  · rw [o3, ← Int32.ofInt_eq_ofNat]
    congr 1
    show ((n.toNat : Nat) : Int) = n
    omega
  · exact h h1 (okv_cons (okv_int ⟨by omega, by omega⟩) (okv_tl h2)) p l e R s m args below meth c b B D dA Z C S H locs cells slots lsA cx hr hR hS hc1 hc2 hl
theorem wa_aaload (pc' : Nat) (t : Nat) {a i : Int} (hd : decode X.2.1 pc = .ok (.aaload, 1)) (hp : pc + 1 = pc') (ht2 : 23 ≤ t ∧ t ≤ 26) (ho : okA L a t i ∧ 0 ≤ rf L a i) (h : WA X ht k pc' ls ((2, rf L a i) :: st) L μ Q) : WA X ht k pc ls ((0, i) :: (2, a) :: st) L μ Q := by
  subst hp
  obtain ⟨⟨o1, o2, o3, i0, i1⟩, hr0⟩ := ho
  intro h1 h2 p l e R s m args below meth c b B D dA Z C S H locs cells slots lsA cx hr hR hS hc1 hc2 hl
  have hi : inI i := (hd1 h2).1 rfl
  have he := wld_at (b := b) (B := B) (dA := dA) (μ := μ) o1 o2
  rw [entry_arr o3 (by omega)] at he
  have hin : vp_in (Int32.ofInt i) (kd L a).2.toNat := vp_in_i hi i0 (by omega)
  have hii : ((i.toNat : Nat) : Int) = i := by omega
  rw [arrA_r ht2.1] at he
  have e := h h1 (okv_cons okv_ref (tl2 h2)) p l e R s m args below meth c b B D dA Z C S H locs cells slots lsA cx hr hR hS hc1 hc2 hl
  have e9 : va_rf (if rf L a (((Int32.ofInt i).toNatClampNeg : Nat) : Int) < 0 then none else some (ad b B (rf L a (((Int32.ofInt i).toNatClampNeg : Nat) : Int)))) = .ref (ad b B (rf L a i)) := by
    rw [clamp_i hi, hii, if_neg (by omega)]
    rfl
  have hty : ∃ ty, (tysL dA)[t - 20]? = some (dA (t - 20), ty) ∧ ty.isReference = true := by
    have : t = 23 ∨ t = 24 ∨ t = 25 ∨ t = 26 := by omega
    rcases this with rfl | rfl | rfl | rfl <;> exact ⟨_, rfl, rfl⟩
  obtain ⟨ty, hty, hrty⟩ := hty
  have hlt : (Int32.ofInt i).toNatClampNeg < (kd L a).2.toNat := Nat.not_le.mp fun q => hin (Or.inr q)
  have hc := hR.1 _ _ he
  exact W.aald (v := .ref (ad b B (rf L a i))) (ty := ty) cx.1 cx.2.1 hc ((cx.2.2.2.2.2.1.1.2 _ _ hty).1 _ (fun j => va_rf (if rf L a (j : Int) < 0 then none else some (ad b B (rf L a (j : Int)))))) hrty (fun q => by cases q) (by show ¬ (Int32.ofInt i < 0 ∨ (arrV _ _ _).slots.size ≤ _); rw [arrV_size]; exact hin) (by show (arrV _ _ _).slots[_]? = _; rw [arrV_read _ _ hlt]; rw [e9]) rfl rfl hd e
theorem wa_iastore (pc' : Nat) {a i v : Int} (hd : decode X.2.1 pc = .ok (.iastore, 1)) (hp : pc + 1 = pc') (ho : okA L a 20 i) (h : WA X ht k pc' ls st L (up μ a i v) Q) : WA X ht k pc ls ((0, v) :: (0, i) :: (2, a) :: st) L μ Q := by
  subst hp
  obtain ⟨o1, o2, o3, i0, i1⟩ := ho
  intro h1 h2 p l e R s m args below meth c b B D dA Z C S H locs cells slots lsA cx hr hR hS hc1 hc2 hl
  have hi : inI i := (hd2 h2).1 rfl
  have he := wld_at (b := b) (B := B) (dA := dA) (μ := μ) o1 o2
  rw [entry_arr o3 (by decide)] at he
  have hin : vp_in (Int32.ofInt i) (kd L a).2.toNat := vp_in_i hi i0 (by omega)
  have hii : ((i.toNat : Nat) : Int) = i := by omega
  rw [arrA_i (by decide)] at he
  have hv : inI v := (hd1 h2).1 rfl
  refine W.iast cx.1 cx.2.1 (hR.1 _ _ he) ((cx.2.2.2.2.2.1.1.2 0 _ rfl).1 _ (fun j => .int (Int32.ofInt (μ a (j : Int))))) (fun q => by cases q) (by show ¬ (Int32.ofInt i < 0 ∨ (arrV _ _ _).slots.size ≤ _); rw [arrV_size]; exact hin) rfl rfl hd fun H1 e1 z oq => ?_
  rw [clamp_i hi] at e1 ⊢
  rw [arr_store_i (g := fun j => Int32.ofInt (up μ a i v a (j : Int))) (fun j => by
    by_cases q : j = i.toNat
    · rw [if_pos q, q, hii, up_eq]
    · rw [if_neg q, up_ne (Or.inr (by omega))])] at e1
  have e2 : va_at D clsL (ad b B a, .inl (dA (20 - 20), (kd L a).2.toNat, .inl fun j => Int32.ofInt (up μ a i v a (j : Int)))) H1 := e1
  refine h h1 (okv_tl (tl2 h2)) p l e R s m args below meth c b B D dA Z C S H1 _ cells slots lsA cx hr (hR.put o1 o2 rfl cx.2.2.2.2.2.2.1 (by rw [entry_arr o3 (by decide), arrA_i (by decide)]) (fun _ => rfl) (fun _ _ _ => rfl) (fun a i ha => up_ne (Or.inl ha)) e2 z oq (okM_up hR.2.2.2.2 (by rw [sty_arr o3 (by decide)]; exact hv))) (hS.put z oq ?_) hc1 hc2 hl
  rw [ad_pos o1]
  exact Nat.le_add_right _ _
theorem wa_bastore (pc' : Nat) {a i v : Int} (hd : decode X.2.1 pc = .ok (.bastore, 1)) (hp : pc + 1 = pc') (ho : okA L a 22 i) (hv : -128 ≤ v ∧ v < 128) (h : WA X ht k pc' ls st L (up μ a i v) Q) : WA X ht k pc ls ((0, v) :: (0, i) :: (2, a) :: st) L μ Q := by
  subst hp
  obtain ⟨o1, o2, o3, i0, i1⟩ := ho
  intro h1 h2 p l e R s m args below meth c b B D dA Z C S H locs cells slots lsA cx hr hR hS hc1 hc2 hl
  have hi : inI i := (hd2 h2).1 rfl
  have he := wld_at (b := b) (B := B) (dA := dA) (μ := μ) o1 o2
  rw [entry_arr o3 (by decide)] at he
  have hin : vp_in (Int32.ofInt i) (kd L a).2.toNat := vp_in_i hi i0 (by omega)
  have hii : ((i.toNat : Nat) : Int) = i := by omega
  rw [arrA_i (by decide)] at he
  have nb : narrow .byte (.int (Int32.ofInt v)) = .int (Int32.ofInt v) := by
    show Value.int (vp_nar .byte (Int32.ofInt v)) = _
    rw [vp_nar_byte, i32_to8 hv]
  refine W.bast cx.1 cx.2.1 (hR.1 _ _ he) ((cx.2.2.2.2.2.1.1.2 2 _ rfl).1 _ (fun j => .int (Int32.ofInt (μ a (j : Int))))) (fun q => by cases q) (by show ¬ (Int32.ofInt i < 0 ∨ (arrV _ _ _).slots.size ≤ _); rw [arrV_size]; exact hin) rfl rfl hd fun H1 e1 z oq => ?_
  rw [clamp_i hi] at e1 ⊢
  rw [nb] at e1
  rw [arr_store_i (g := fun j => Int32.ofInt (up μ a i v a (j : Int))) (fun j => by
    by_cases q : j = i.toNat
    · rw [if_pos q, q, hii, up_eq]
    · rw [if_neg q, up_ne (Or.inr (by omega))])] at e1
  have e2 : va_at D clsL (ad b B a, .inl (dA (22 - 20), (kd L a).2.toNat, .inl fun j => Int32.ofInt (up μ a i v a (j : Int)))) H1 := e1
  refine h h1 (okv_tl (tl2 h2)) p l e R s m args below meth c b B D dA Z C S H1 _ cells slots lsA cx hr (hR.put o1 o2 rfl cx.2.2.2.2.2.2.1 (by rw [entry_arr o3 (by decide), arrA_i (by decide)]) (fun _ => rfl) (fun _ _ _ => rfl) (fun a i ha => up_ne (Or.inl ha)) e2 z oq (okM_up hR.2.2.2.2 (by rw [sty_arr o3 (by decide)]; exact hv))) (hS.put z oq ?_) hc1 hc2 hl
  rw [ad_pos o1]
  exact Nat.le_add_right _ _
theorem wa_lastore (pc' : Nat) {a i v : Int} (hd : decode X.2.1 pc = .ok (.lastore, 1)) (hp : pc + 1 = pc') (ho : okA L a 21 i) (h : WA X ht k pc' ls st L (up μ a i v) Q) : WA X ht k pc ls ((1, v) :: (0, i) :: (2, a) :: st) L μ Q := by
  subst hp
  obtain ⟨o1, o2, o3, i0, i1⟩ := ho
  intro h1 h2 p l e R s m args below meth c b B D dA Z C S H locs cells slots lsA cx hr hR hS hc1 hc2 hl
  have hi : inI i := (hd2 h2).1 rfl
  have he := wld_at (b := b) (B := B) (dA := dA) (μ := μ) o1 o2
  rw [entry_arr o3 (by decide)] at he
  have hin : vp_in (Int32.ofInt i) (kd L a).2.toNat := vp_in_i hi i0 (by omega)
  have hii : ((i.toNat : Nat) : Int) = i := by omega
  rw [arrA_l] at he
  have hv : inL v := (hd1 h2).2 rfl
  refine W.last cx.1 cx.2.1 (hR.1 _ _ he) ((cx.2.2.2.2.2.1.1.2 1 _ rfl).1 _ (fun j => .long (Int64.ofInt (μ a (j : Int))))) (fun q => by cases q) (by show ¬ (Int32.ofInt i < 0 ∨ (arrV _ _ _).slots.size ≤ _); rw [arrV_size]; exact hin) rfl rfl hd fun H1 e1 z oq => ?_
  rw [clamp_i hi] at e1 ⊢
  rw [arr_store_l (g := fun j => Int64.ofInt (up μ a i v a (j : Int))) (fun j => by
    by_cases q : j = i.toNat
    · rw [if_pos q, q, hii, up_eq]
    · rw [if_neg q, up_ne (Or.inr (by omega))])] at e1
  have e2 : va_at D clsL (ad b B a, .inl (dA (21 - 20), (kd L a).2.toNat, .inr (.inl fun j => Int64.ofInt (up μ a i v a (j : Int))))) H1 := e1
  refine h h1 (okv_tl (tl2 h2)) p l e R s m args below meth c b B D dA Z C S H1 _ cells slots lsA cx hr (hR.put o1 o2 rfl cx.2.2.2.2.2.2.1 (by rw [entry_arr o3 (by decide), arrA_l]) (fun _ => rfl) (fun _ _ _ => rfl) (fun a i ha => up_ne (Or.inl ha)) e2 z oq (okM_up hR.2.2.2.2 (by rw [sty_arr o3 (by decide)]; exact hv))) (hS.put z oq ?_) hc1 hc2 hl
  rw [ad_pos o1]
  exact Nat.le_add_right _ _
end WAArr
