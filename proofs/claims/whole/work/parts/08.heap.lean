/-! the rows of WA: fields and arrays -/
def okO (L : Lay) (o : Int) (ci : Nat) : Prop := 1 ≤ o ∧ o ≤ L.1 ∧ kd L o = (ci, 0)
def okA (L : Lay) (a : Int) (t : Nat) (i : Int) : Prop := 1 ≤ a ∧ a ≤ L.1 ∧ (kd L a).1 = t ∧ 0 ≤ i ∧ i < (kd L a).2
def okS (L : Lay) (i : Int) : Prop := kd L 0 = (20, (kd L 0).2) ∧ (kd L 0).2 < 2147483648 ∧ 0 ≤ i ∧ i < (kd L 0).2
def slotTag (ty : FieldType) : Nat := match ty with
  | .long => 1
  | .object _ => 2
  | .array _ => 2
  | .float => 9
  | .double => 9
  | .char => 9
  | .short => 9
  | .byte => 3
  | _ => 0
def up (μ : Mem) (o k v : Int) : Mem := fun a i => if a = o ∧ i = k then v else μ a i
theorem up_eq (μ : Mem) (o k v : Int) : up μ o k v o k = v := by simp [up]
theorem up_ne {μ : Mem} {o k v a i : Int} (h : a ≠ o ∨ i ≠ k) : up μ o k v a i = μ a i := by
  unfold up
  rw [if_neg]
  omega
theorem okT_int {ty : FieldType} {v : Int} (h : slotTag ty = 0) (hv : okT ty v) : inI v := by
  cases ty <;> simp [slotTag] at h <;> simp [okT] at hv <;> first | exact hv | (unfold inI; omega)
theorem okT_long {ty : FieldType} {v : Int} (h : slotTag ty = 1) (hv : okT ty v) : inL v := by
  cases ty <;> simp [slotTag] at h
  exact hv
theorem slotV_int {b B : Nat} {L : Lay} {μ : Mem} {ty : FieldType} {o k : Int} (h : slotTag ty = 0) : slotV b B L μ ty o k = .int (Int32.ofInt (μ o k)) := by
  cases ty <;> simp [slotTag] at h <;> rfl
theorem slotV_long {b B : Nat} {L : Lay} {μ : Mem} {ty : FieldType} {o k : Int} (h : slotTag ty = 1) : slotV b B L μ ty o k = .long (Int64.ofInt (μ o k)) := by
  cases ty <;> simp [slotTag] at h <;> rfl
theorem slotV_ref {b B : Nat} {L : Lay} {μ : Mem} {ty : FieldType} {o k : Int} (h : slotTag ty = 2) : slotV b B L μ ty o k = rv b B (rf L o k) := by
  cases ty <;> simp [slotTag] at h <;> rfl
theorem ad_pos {b B : Nat} {o : Int} (h : 1 ≤ o) : ad b B o = B + (o.toNat - 1) := by unfold ad; rw [if_neg (by omega)]
theorem wld_len {b B : Nat} {dA : Nat → ClassId} {L : Lay} {μ : Mem} : (wld b B dA L μ).length = L.1.toNat := by simp [wld]
theorem wld_nat {b B : Nat} {dA : Nat → ClassId} {L : Lay} {μ : Mem} {n : Nat} (h : n < L.1.toNat) : (wld b B dA L μ)[n]? = some (B + n, entry b B dA L μ ((n : Int) + 1)) := by
  unfold wld
  rw [List.getElem?_map, List.getElem?_range h]
  rfl
theorem wld_at {b B : Nat} {dA : Nat → ClassId} {L : Lay} {μ : Mem} {o : Int} (h1 : 1 ≤ o) (h2 : o ≤ L.1) : (wld b B dA L μ)[o.toNat - 1]? = some (ad b B o, entry b B dA L μ o) := by
  rw [wld_nat (by omega), ad_pos h1]
  congr 3
  omega
theorem entry_congr {b B : Nat} {dA : Nat → ClassId} {L L' : Lay} {μ μ' : Mem} {o : Int} (hk : kd L' o = kd L o) (hr : ∀ k, rf L' o k = rf L o k) (hm : ∀ k, μ' o k = μ o k) : entry b B dA L' μ' o = entry b B dA L μ o := by
  have e1 : (fun k => μ' o k) = fun k => μ o k := funext hm
  unfold entry
  rw [hk]
  congr 1
  · congr 2
    unfold fldL
    apply List.map_congr_left
    intro k _
    unfold slotV
    cases cty (kd L o).1 k <;> simp only [hm, hr]
  · congr 3
    unfold arrA
    simp only [hm, hr]
theorem wld_D {b B : Nat} {dA : Nat → ClassId} {L : Lay} {μ : Mem} : va_D (fun q => B ≤ q) (wld b B dA L μ) := by
  have key : ∀ (i : Nat) (p : Nat × va_E), (wld b B dA L μ)[i]? = some p → p.1 = B + i := fun i p h => by
    have hi := (List.getElem?_eq_some_iff.mp h).1
    rw [wld_len] at hi
    rw [wld_nat hi] at h
    cases h
    rfl
  refine ⟨fun i j p q hi hj h => ?_, fun k q h => ?_⟩
  · have := key i p hi
    have := key j q hj
    omega
  · have := key k q h
    omega
theorem wld_set {b B : Nat} {dA : Nat → ClassId} {L L' : Lay} {μ μ' : Mem} {o : Int} {e : va_E} (h1 : 1 ≤ o) (h2 : o ≤ L.1) (hn : L'.1 = L.1) (he : entry b B dA L' μ' o = e) (hk : ∀ a, a ≠ o → kd L' a = kd L a) (hr : ∀ a k, a ≠ o → rf L' a k = rf L a k) (hm : ∀ a k, a ≠ o → μ' a k = μ a k) : (wld b B dA L μ).set (o.toNat - 1) (ad b B o, e) = wld b B dA L' μ' := by
  apply List.ext_getElem?
  intro n
  by_cases hlt : n < L.1.toNat
  · rw [wld_nat (L := L') (by rw [hn]; exact hlt)]
    by_cases hno : n = o.toNat - 1
    · subst hno
      rw [List.getElem?_set_self (by rw [wld_len]; exact hlt), ad_pos h1]
      have : ((o.toNat - 1 : Nat) : Int) + 1 = o := by omega
      rw [this, he]
    · rw [List.getElem?_set_ne (fun q => hno q.symm), wld_nat hlt]
      have hno' : ((n : Int) + 1) ≠ o := by omega
      rw [entry_congr (hk _ hno') (fun k => hr _ k hno') (fun k => hm _ k hno')]
  · rw [List.getElem?_eq_none (by rw [List.length_set, wld_len]; omega), List.getElem?_eq_none (by rw [wld_len, hn]; omega)]
theorem fldL_at {b B : Nat} {L : Lay} {μ : Mem} {c k : Nat} {o : Int} (h : k < cN c) : (fldL b B L μ c o)[k]? = some (slotV b B L μ (cty c k) o (k : Int)) := by
  unfold fldL
  rw [List.getElem?_map, List.getElem?_range h]
  rfl
theorem fldL_len {b B : Nat} {L : Lay} {μ : Mem} {c : Nat} {o : Int} : (fldL b B L μ c o).length = cN c := by simp [fldL]
theorem okM_up {L : Lay} {μ : Mem} {o k v : Int} (h : okM L μ) (hv : okT (sty L o k) v) : okM L (up μ o k v) := by
  intro a i ha1 ha2
  unfold up
  split
  · rename_i q
    obtain ⟨rfl, rfl⟩ := q
    exact hv
  · exact h a i ha1 ha2
theorem entry_obj {b B : Nat} {dA : Nat → ClassId} {L : Lay} {μ : Mem} {o : Int} {ci : Nat} (h : kd L o = (ci, 0)) (hc : ci < 11) : entry b B dA L μ o = .inr (ci, fldL b B L μ ci o) := by
  unfold entry
  rw [h, if_pos hc]
theorem entry_arr {b B : Nat} {dA : Nat → ClassId} {L : Lay} {μ : Mem} {o : Int} {t : Nat} (h : (kd L o).1 = t) (hc : 20 ≤ t) : entry b B dA L μ o = .inl (dA (t - 20), (kd L o).2.toNat, arrA b B L μ t o) := by
  unfold entry
  rw [h, if_neg (by omega)]
section WAHeap
variable {X : MI} {ht : Nat} {k : Nat × Nat} {pc : Nat} {ls st : List AV} {L : Lay} {μ : Mem} {Q : Option AV → Lay → Mem → Prop}
theorem wa_getI (pc' : Nat) (j : Int) {idx ci kk : Nat} {o : Int} (hd : decode X.2.1 pc = .ok (.getfield idx, 3)) (hp : pc + 3 = pc') (hw : FL X.1.cls idx ci kk) (hk : (Nat.ble (kk + 1) (cN ci) && Nat.ble (ci + 1) 11 && Nat.beq (slotTag (cty ci kk)) 0) = true) (hj : (kk : Int) = j) (ho : okO L o ci) (h : WA X ht k pc' ls ((0, μ o j) :: st) L μ Q) : WA X ht k pc ls ((2, o) :: st) L μ Q := by
  subst hp
  subst hj
  simp only [Bool.and_eq_true, Nat.beq_eq] at hk
  obtain ⟨⟨k1, k2⟩, k3⟩ := hk
  have k1 := Nat.le_of_ble_eq_true k1
  have k2 := Nat.le_of_ble_eq_true k2
  obtain ⟨o1, o2, o3⟩ := ho
  intro h1 h2 p l e R s m args below meth c b B D dA Z C S H locs cells slots lsA cx hr hR hS hc1 hc2 hl
  have hv : inI (μ o kk) := okT_int k3 (by have := hR.2.2.2.2 o kk (by omega) o2; unfold sty at this; rw [o3, if_pos (show (ci, (0 : Int)).1 < 11 from k2)] at this; simpa using this)
  have he := wld_at (b := b) (B := B) (dA := dA) (μ := μ) o1 o2
  rw [entry_obj o3 k2] at he
  refine va_get (D := D) (ci := ci) (v := .int (Int32.ofInt (μ o kk))) (C := cR ci) (T := cT ci) (N := cN ci) cx.1 cx.2.1 cx.2.2.2.2.1 (wU ci k2) cx.2.2.2.1 cx.2.2.2.2.2.1.1 hR.1 _ he (clsL_at ci k2) kk k1 (cx.2.2.2.2.1 _ hw) (fun _ h9 => h9) (by rw [fldL_at k1, slotV_int k3]) hd ?_
  exact h h1 (okv_cons (okv_int hv) (okv_tl h2)) p l e R s m args below meth c b B D dA Z C S H locs cells slots lsA cx hr hR hS hc1 hc2 hl
theorem wa_getL (pc' : Nat) (j : Int) {idx ci kk : Nat} {o : Int} (hd : decode X.2.1 pc = .ok (.getfield idx, 3)) (hp : pc + 3 = pc') (hw : FL X.1.cls idx ci kk) (hk : (Nat.ble (kk + 1) (cN ci) && Nat.ble (ci + 1) 11 && Nat.beq (slotTag (cty ci kk)) 1) = true) (hj : (kk : Int) = j) (ho : okO L o ci) (h : WA X ht k pc' ls ((1, μ o j) :: st) L μ Q) : WA X ht k pc ls ((2, o) :: st) L μ Q := by
  subst hp
  subst hj
  simp only [Bool.and_eq_true, Nat.beq_eq] at hk
  obtain ⟨⟨k1, k2⟩, k3⟩ := hk
  have k1 := Nat.le_of_ble_eq_true k1
  have k2 := Nat.le_of_ble_eq_true k2
  obtain ⟨o1, o2, o3⟩ := ho
  intro h1 h2 p l e R s m args below meth c b B D dA Z C S H locs cells slots lsA cx hr hR hS hc1 hc2 hl
  have hv : inL (μ o kk) := okT_long k3 (by have := hR.2.2.2.2 o kk (by omega) o2; unfold sty at this; rw [o3, if_pos (show (ci, (0 : Int)).1 < 11 from k2)] at this; simpa using this)
  have he := wld_at (b := b) (B := B) (dA := dA) (μ := μ) o1 o2
  rw [entry_obj o3 k2] at he
  refine va_get (D := D) (ci := ci) (v := .long (Int64.ofInt (μ o kk))) (C := cR ci) (T := cT ci) (N := cN ci) cx.1 cx.2.1 cx.2.2.2.2.1 (wU ci k2) cx.2.2.2.1 cx.2.2.2.2.2.1.1 hR.1 _ he (clsL_at ci k2) kk k1 (cx.2.2.2.2.1 _ hw) (fun _ h9 => h9) (by rw [fldL_at k1, slotV_long k3]) hd ?_
  exact h h1 (okv_cons (okv_long hv) (okv_tl h2)) p l e R s m args below meth c b B D dA Z C S H locs cells slots lsA cx hr hR hS hc1 hc2 hl
theorem wa_getR (pc' : Nat) (j : Int) {idx ci kk : Nat} {o : Int} (hd : decode X.2.1 pc = .ok (.getfield idx, 3)) (hp : pc + 3 = pc') (hw : FL X.1.cls idx ci kk) (hk : (Nat.ble (kk + 1) (cN ci) && Nat.ble (ci + 1) 11 && Nat.beq (slotTag (cty ci kk)) 2) = true) (hj : (kk : Int) = j) (ho : okO L o ci ∧ 0 ≤ rf L o j) (h : WA X ht k pc' ls ((2, rf L o j) :: st) L μ Q) : WA X ht k pc ls ((2, o) :: st) L μ Q := by
  subst hp
  subst hj
  simp only [Bool.and_eq_true, Nat.beq_eq] at hk
  obtain ⟨⟨k1, k2⟩, k3⟩ := hk
  have k1 := Nat.le_of_ble_eq_true k1
  have k2 := Nat.le_of_ble_eq_true k2
  obtain ⟨⟨o1, o2, o3⟩, o4⟩ := ho
  intro h1 h2 p l e R s m args below meth c b B D dA Z C S H locs cells slots lsA cx hr hR hS hc1 hc2 hl
  have he := wld_at (b := b) (B := B) (dA := dA) (μ := μ) o1 o2
  rw [entry_obj o3 k2] at he
  refine va_get (D := D) (ci := ci) (v := .ref (ad b B (rf L o kk))) (C := cR ci) (T := cT ci) (N := cN ci) cx.1 cx.2.1 cx.2.2.2.2.1 (wU ci k2) cx.2.2.2.1 cx.2.2.2.2.2.1.1 hR.1 _ he (clsL_at ci k2) kk k1 (cx.2.2.2.2.1 _ hw) (fun _ h9 => h9) (by rw [fldL_at k1, slotV_ref k3]; unfold rv; rw [if_neg (by omega)]) hd ?_
  exact h h1 (okv_cons okv_ref (okv_tl h2)) p l e R s m args below meth c b B D dA Z C S H locs cells slots lsA cx hr hR hS hc1 hc2 hl
theorem narrow_ok {ty : FieldType} {v : Int} (h : slotTag ty = 0) (hv : okT ty v) : narrow ty (.int (Int32.ofInt v)) = .int (Int32.ofInt v) ∧ fits ty (.int (Int32.ofInt v)) = true := by
  cases ty <;> simp [slotTag] at h
  · exact ⟨rfl, rfl⟩
  · rcases hv with rfl | rfl <;> exact ⟨rfl, rfl⟩
theorem fldL_up {b B : Nat} {L : Lay} {μ : Mem} {c kk : Nat} {o v : Int} {w : Value} (hk : kk < cN c) (hw : slotV b B L (up μ o kk v) (cty c kk) o (kk : Int) = w) : fldL b B L (up μ o kk v) c o = (fldL b B L μ c o).set kk w := by
  apply List.ext_getElem?
  intro n
  by_cases hn : n < cN c
  · rw [fldL_at hn]
    by_cases hnk : n = kk
    · subst hnk
      rw [List.getElem?_set_self (by rw [fldL_len]; exact hn), hw]
    · rw [List.getElem?_set_ne (fun q => hnk q.symm), fldL_at hn]
      congr 1
      unfold slotV
      cases cty c n <;> simp only [up_ne (Or.inr (show (n : Int) ≠ kk by omega))]
  · rw [List.getElem?_eq_none (by rw [fldL_len]; omega), List.getElem?_eq_none (by rw [List.length_set, fldL_len]; omega)]
theorem Rep.put {b B : Nat} {D : va_G} {dA : Nat → ClassId} {s : State} {H H1 : Heap} {o : Int} {L L' : Lay} {μ μ' : Mem} {e : va_E} (hR : Rep b B D dA L μ s H) (o1 : 1 ≤ o) (o2 : o ≤ L.1) (hn : L'.1 = L.1) (hb : b < B) (he : entry b B dA L' μ' o = e) (hk : ∀ a, kd L' a = kd L a) (hr : ∀ a k, a ≠ o → rf L' a k = rf L a k) (hm : ∀ a k, a ≠ o → μ' a k = μ a k) (hat : va_at D clsL (ad b B o, e) H1) (hz : H1.size = H.size) (hq : ∀ q : Nat, q ≠ ad b B o → H1[q]? = H[q]?) (hM : okM L' μ') : Rep b B D dA L' μ' s H1 := by
  have hab : b ≠ ad b B o := by rw [ad_pos o1]; omega
  refine ⟨?_, by rw [hz, hn]; exact hR.2.1, by rw [hn]; exact hR.2.2.1, ?_, hM⟩
  · rw [← wld_set (L := L) (L' := L') (μ := μ) o1 o2 hn he (fun a _ => hk a) hr hm]
    exact hR.1.set wld_D (wld_at o1 o2) hat hq
  · have hx : va_X b (kd L 0).2.toNat (fun j => Int32.ofInt (μ 0 (j : Int))) s H1 := va_X.kept hR.2.2.2.1 (hq b hab)
    have e0 : (fun i : Nat => Int32.ofInt (μ' 0 (i : Int))) = fun i : Nat => Int32.ofInt (μ 0 (i : Int)) := funext fun i => by rw [hm 0 _ (by omega)]
    rw [e0, hk 0]
    exact hx
/-- a field's new value, final (in its constructor) or not -/
theorem my_put {p : Program} {l : Launch} {e : Env} {R : Room} {s : State} {m : MethodId} {args : Array Value} {below : List Frame} {meth : Method} {c : Code} {H : Heap} {locs : List Loc} {cells slots : Nat} {Z : State → Prop} {lsA : Array Slot} {rest : List Value} {D : va_G} {tys : List (ClassId × FieldType)} {ws : va_W} {a ci q0 kk idx : Nat} {cc : ByteArray} {own : String} {fs : List Value} {v : Value}
    (hexec : p.tables.exec = Jvm.exec) (hb : c.code = cc) (hts : ∀ w ∈ GW, w.before args s = true) (hown : s.vm.findClass own = some m.cls) (hK : va_K D clsL tys s) (hP : va_P D clsL ws H) (he : ws[q0]? = some (a, .inr (ci, fs))) (hc : ci < 11) (hk : kk < cN ci) (hw : FL own idx ci kk) (hf : (cT ci kk).2.2.2 = false ∨ (meth.name = "<init>" ∧ (cT ci kk).1 = own ∧ (cT ci kk).2.2.2 = true)) (hn : narrow (cty ci kk) v = v) (hfit : fits (cty ci kk) v = true) (hl : kk < fs.length) (hdg : decode cc pc = .ok (.putfield idx, 3))
    (h : ∀ (H1 : Heap) (i : Nat), va_at D clsL (a, .inr (ci, fs.set kk v)) H1 → H1.size = H.size → (∀ q : Nat, q ≠ a → H1[q]? = H[q]?) → W p l e R s m args below meth c H1 (locs ++ [⟨a, i⟩]) cells slots Z (F0 m (pc + 3) lsA rest)) : W p l e R s m args below meth c H locs cells slots Z (F0 m pc lsA (v :: .ref a :: rest)) := by
  have hcl := clsL_at ci hc
  have hin := wU ci hc
  have hap := va_apart (own := own) hts hin (cty ci) (cty_ok ci hc) (cnm_ok ci hc) hK hcl
  obtain ⟨r, h1, cell, q1, q2, q3, q4⟩ := hP q0 _ he
  cases h1.symm.trans hcl
  obtain ⟨hS, hfc, kC, hkC, hkind⟩ := hK.1 ci _ hcl
  obtain ⟨cf, kf, fi, f, hi, hsl⟩ := hS kk hk
  have hlay := hts _ (hin _ (u_in_lay hk))
  have hst := (u_facts hfc hkC (u_lays hts hin hk) hi).1
  have hd := cty_ok ci hc kk hk
  have fin : ∀ H1 : Heap, H1[a]? = some (cell.setSlot f.slot v) → H1.size = H.size → (∀ q : Nat, q ≠ a → H1[q]? = H[q]?) → W p l e R s m args below meth c H1 (locs ++ [⟨a, f.slot⟩]) cells slots Z (F0 m (pc + 3) lsA rest) := by
    intro H1 e1 e2 e3
    rw [hsl] at e1
    exact h H1 f.slot ⟨_, hcl, t_OB.to (V := updV (vp_V fs) kk v) ⟨_, e1, q2, q3, t_set q4 hap hk v⟩ (fun j _ => vp_updV_set hl v j)⟩ e2 e3
  rcases hf with hf | ⟨hf1, hf2, hf3⟩
  · unfold u_lay at hlay
    rw [if_neg (by rw [hf]; decide)] at hlay
    have h6 := u_store hfc hkC hkind hlay hi hd hn hfit
    exact W.putK hexec hb (f := f) ⟨hown, hts _ hw, ⟨_, _, _, hi⟩, hst⟩ (by rw [q2]; exact h6) q1 q3 (by rw [hsl]; exact k2_hasslot (q4 kk hk)) rfl rfl hdg fin
  · unfold u_lay at hlay
    rw [if_pos hf3] at hlay
    have hcf : m.cls = cf := by
      obtain ⟨_, _, c', _, _, _, -, -, hf', -, -, -, hown2, -⟩ := Cond.laysFinal_spec hlay
      have e1 : c' = cf := by have := hi.symm.trans hf'; simp at this; exact this.1.symm
      rw [hf2] at hown2
      rw [← e1]; exact Option.some.inj (hown.symm.trans hown2)
    have h6 := u_fits hfc hkC hkind (Or.inr hlay) hi hd hn hfit
    exact W.putFinK hexec hb hown (hts _ hw) hi hst hcf hf1 (by rw [q2]; exact h6) q1 q3 (by rw [hsl]; exact k2_hasslot (q4 kk hk)) rfl rfl hdg fin
theorem sty_obj {o : Int} {ci kk : Nat} (h : kd L o = (ci, 0)) (hc : ci < 11) : sty L o (kk : Int) = cty ci kk := by
  unfold sty
  rw [h, if_pos (show (ci, (0 : Int)).1 < 11 from hc)]
  simp
theorem sty_arr {o i : Int} {t : Nat} (h : (kd L o).1 = t) (hc : 20 ≤ t) : sty L o i = aTy t := by
  unfold sty
  rw [h, if_neg (by omega)]
/-- an int or a boolean into a field -/
theorem wa_putI (pc' : Nat) (j : Int) {idx ci kk : Nat} {o v : Int} (hd : decode X.2.1 pc = .ok (.putfield idx, 3)) (hp : pc + 3 = pc') (hw : FL X.1.cls idx ci kk) (hk : (Nat.ble (kk + 1) (cN ci) && Nat.ble (ci + 1) 11 && Nat.beq (slotTag (cty ci kk)) 0 && !(cT ci kk).2.2.2) = true) (hj : (kk : Int) = j) (ho : okO L o ci) (hv : okT (cty ci kk) v) (h : WA X ht k pc' ls st L (up μ o j v) Q) : WA X ht k pc ls ((0, v) :: (2, o) :: st) L μ Q := by
  subst hp
  subst hj
  simp only [Bool.and_eq_true, Nat.beq_eq, Bool.not_eq_true'] at hk
  obtain ⟨⟨⟨k1, k2⟩, k3⟩, k4⟩ := hk
  have k1 := Nat.le_of_ble_eq_true k1
  have k2 := Nat.le_of_ble_eq_true k2
  obtain ⟨o1, o2, o3⟩ := ho
  intro h1 h2 p l e R s m args below meth c b B D dA Z C S H locs cells slots lsA cx hr hR hS hc1 hc2 hl
  have he := wld_at (b := b) (B := B) (dA := dA) (μ := μ) o1 o2
  rw [entry_obj o3 k2] at he
  have hn := narrow_ok k3 hv
  refine my_put cx.1 cx.2.1 cx.2.2.2.2.1 cx.2.2.2.1 cx.2.2.2.2.2.1.1 hR.1 he k2 k1 hw (Or.inl k4) hn.1 hn.2 (by rw [fldL_len]; exact k1) hd fun H1 i e1 e2 e3 => ?_
  refine h h1 (tl2 h2) p l e R s m args below meth c b B D dA Z C S H1 _ cells slots lsA cx hr (hR.put o1 o2 rfl cx.2.2.2.2.2.2.1 (by rw [entry_obj o3 k2, fldL_up k1 (slotV_int k3), up_eq]; rfl) (fun _ => rfl) (fun _ _ _ => rfl) (fun a i ha => up_ne (Or.inl ha)) e1 e2 e3 (okM_up hR.2.2.2.2 (by rw [sty_obj o3 k2]; exact hv))) (hS.put e2 e3 ?_) hc1 hc2 hl
  rw [ad_pos o1]
  exact Nat.le_add_right _ _
theorem wa_putL (pc' : Nat) (j : Int) {idx ci kk : Nat} {o v : Int} (hd : decode X.2.1 pc = .ok (.putfield idx, 3)) (hp : pc + 3 = pc') (hw : FL X.1.cls idx ci kk) (hk : (Nat.ble (kk + 1) (cN ci) && Nat.ble (ci + 1) 11 && decide (cty ci kk = .long) && !(cT ci kk).2.2.2) = true) (hj : (kk : Int) = j) (ho : okO L o ci) (h : WA X ht k pc' ls st L (up μ o j v) Q) : WA X ht k pc ls ((1, v) :: (2, o) :: st) L μ Q := by
  subst hp
  subst hj
  simp only [Bool.and_eq_true, decide_eq_true_eq, Bool.not_eq_true'] at hk
  obtain ⟨⟨⟨k1, k2⟩, k3⟩, k4⟩ := hk
  have k1 := Nat.le_of_ble_eq_true k1
  have k2 := Nat.le_of_ble_eq_true k2
  obtain ⟨o1, o2, o3⟩ := ho
  intro h1 h2 p l e R s m args below meth c b B D dA Z C S H locs cells slots lsA cx hr hR hS hc1 hc2 hl
  have he := wld_at (b := b) (B := B) (dA := dA) (μ := μ) o1 o2
  rw [entry_obj o3 k2] at he
  have hv : inL v := (hd1 h2).2 rfl
  refine my_put cx.1 cx.2.1 cx.2.2.2.2.1 cx.2.2.2.1 cx.2.2.2.2.2.1.1 hR.1 he k2 k1 hw (Or.inl k4) (by rw [k3]; rfl) (by rw [k3]; rfl) (by rw [fldL_len]; exact k1) hd fun H1 i e1 e2 e3 => ?_
  refine h h1 (tl2 h2) p l e R s m args below meth c b B D dA Z C S H1 _ cells slots lsA cx hr (hR.put o1 o2 rfl cx.2.2.2.2.2.2.1 (by rw [entry_obj o3 k2, fldL_up k1 (slotV_long (by rw [k3]; rfl)), up_eq]; rfl) (fun _ => rfl) (fun _ _ _ => rfl) (fun a i ha => up_ne (Or.inl ha)) e1 e2 e3 (okM_up hR.2.2.2.2 (by rw [sty_obj o3 k2, k3]; exact hv))) (hS.put e2 e3 ?_) hc1 hc2 hl
  rw [ad_pos o1]
  exact Nat.le_add_right _ _
end WAHeap
