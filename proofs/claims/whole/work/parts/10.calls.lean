/-! the rows of WA: calls, returns, switches -/
section WACalls
variable {X Y : MI} {ht h9 : Nat} {k : Nat × Nat} {pc : Nat} {ls st : List AV} {L : Lay} {μ : Mem} {Q : Option AV → Lay → Mem → Prop}
/-- what a call's row gives, behind it -/
theorem wa_back {p : Program} {l : Launch} {e : Env} {R : Room} {s : State} {m : MethodId} {args : Array Value} {below : List Frame} {meth : Method} {c : Code} {b B : Nat} {D : va_G} {dA : Nat → ClassId} {Z : State → Prop} {H : Heap} {locs : List Loc} {cells slots mc ms : Nat} {lsA : Array Slot} {st0 rest : List Value} {Q1 : Option AV → Lay → Mem → Prop}
    (hr : va_Run p l e R s m args below meth c H locs cells slots mc ms (F0 m pc lsA st0) rest (fun st o t => (∃ r L' μ', o = .returned ((r : Option AV).map (cv b B)) ∧ Q1 r L' μ' ∧ okr r ∧ Rep b B D dA L' μ' t t.heap) ∧ va_F (fun q => B ≤ q) st t) (fun q => B ≤ q)) (hS : va_S (fun q => B ≤ q) s.heap H locs)
    (kk : ∀ (r : Option AV) (L' : Lay) (μ' : Mem) (H1 : Heap) (locs1 : List Loc), Q1 r L' μ' → okr r → Rep b B D dA L' μ' s H1 → va_S (fun q => B ≤ q) s.heap H1 locs1 → W p l e R s m args below meth c H1 locs1 (cells + mc) (slots + ms) Z (F0 m (pc + 3) lsA ((r.map (cv b B)).toList ++ rest))) : W p l e R s m args below meth c H locs cells slots Z (F0 m pc lsA st0) := by
  intro T hT Xs
  obtain ⟨v, st₀, t, T', L9, h0, X', hL, e1, e2, ⟨⟨r, L', μ', hv, hq, hok, hRep⟩, hz, hk⟩, stp⟩ := hr T hT Xs
  cases hv
  rw [h0] at hz hk
  have ha : t.vm.Alike s.vm := by
    have := X'.warmed.alike
    rw [e2] at this
    exact this.symm
  have hS1 : va_S (fun q => B ≤ q) s.heap T'.heap (locs ++ L9) := by
    refine ⟨Nat.le_trans hS.1 (by rw [e1]; exact hz), fun q h1 h2 => ?_, fun q hq => ?_⟩
    · rw [e1, hk q (Nat.lt_of_lt_of_le h1 hS.1) h2]
      exact hS.2.1 q h1 h2
    · rcases List.mem_append.mp hq with h | h
      · exact hS.2.2 q h
      · exact hL q h
  obtain ⟨t2, a1, b1⟩ := kk r L' μ' T'.heap (locs ++ L9) hq hok (by rw [e1]; exact hRep.moved ha) hS1 T' rfl X'
  exact ⟨t2, stp t2 a1, b1⟩
theorem blind_Pc {b B : Nat} {D : va_G} {dA : Nat → ClassId} {av : List Value} : FrameBlind (va_Pc av (fun U => Rep b B D dA L μ U U.heap ∧ KK D dA U ∧ B ≤ U.heap.size)) := by
  intro a U g mk q
  obtain ⟨q1, q2, q3, q4⟩ := q
  exact ⟨q1, q2.moved (u := U) (U := U.calling g mk a) (Vm.Alike.refl U.vm), q3.same (u := U) (U := U.calling g mk a) rfl, q4⟩
theorem okr_list {r : Option AV} (h : okr r) {st : List AV} (hs : ∀ v ∈ st, okv v) : ∀ v ∈ r.toList ++ st, okv v := by
  intro v hv
  rcases List.mem_append.mp hv with h1 | h1
  · cases r with
    | none => cases h1
    | some w =>
      rw [show v = w by simpa using h1]
      exact (h w rfl).2
  · exact hs v h1
theorem map_toList {b B : Nat} {r : Option AV} {st : List AV} : (r.map (cv b B)).toList ++ st.map (cv b B) = (r.toList ++ st).map (cv b B) := by
  cases r <;> rfl
def catS (st : List AV) : Nat := (st.map fun v => if v.1 = 1 then 2 else 1).sum
theorem stack_room {b B : Nat} {st : List AV} (h : catS st ≤ 8) : ((st.map (cv b B)).map fun v => v.category).sum ≤ 8 := by
  have key : ∀ v : AV, (cv b B v).category = if v.1 = 1 then 2 else 1 := by
    rintro ⟨t, x⟩
    match t with
    | 0 => rfl
    | 1 => rfl
    | 2 => rfl
    | n + 3 => rfl
  rw [List.map_map, show ((fun v : Value => v.category) ∘ cv b B) = fun v : AV => if v.1 = 1 then 2 else 1 from funext key]
  exact h
theorem preV {b B : Nat} {D : va_G} {dA : Nat → ClassId} {s : State} {H : Heap} {o : Int} {ci : Nat} {av : List AV} (hci : ci < 11) (ho : okO L o ci) (hR : Rep b B D dA L μ s H) (hK : KK D dA s) (hB : B ≤ H.size) : PreV s H (cR ci) (ad b B o) (va_Pc (((2, o) :: av).map (cv b B)) (fun U => Rep b B D dA L μ U U.heap ∧ KK D dA U ∧ B ≤ U.heap.size)) (av.map (cv b B)) := by
  obtain ⟨o1, o2, o3⟩ := ho
  have he := wld_at (b := b) (B := B) (dA := dA) (μ := μ) o1 o2
  rw [entry_obj o3 hci] at he
  refine ⟨blind_Pc, va_recv hK.1 hR.1 (ci := ci) (clsL_at ci hci) he, fun U hU hW => ⟨rfl, ?_, hK.moved hW, by rw [hU]; exact hB⟩⟩
  rw [hU]
  exact hR.moved hW.alike
theorem rmX_le {R : Room} {n : Nat} (hR1 : ht ≤ R.frames) (hR2 : 50 * ht ≤ R.locals) (h : h9 + 1 ≤ ht) (hm : n ≤ 28) : h9 + 1 ≤ R.frames ∧ 8 + (n + 11) + 50 * h9 ≤ R.locals := ⟨by omega, by omega⟩
/-- invokevirtual -/
theorem wa_callV (pc' : Nat) (h9 n : Nat) (ci : Nat) {idx : Nat} {o : Int} {av rest : List AV} {k1 k2 : Nat × Nat} (cvY : CV Y n) (hd : decode X.2.1 pc = .ok (.invokevirtual idx, 3)) (hp : pc + 3 = pc') (hw : Cond.methodLink X.1.cls idx Y.1 ∈ GW) (hc : Y.1.cls = cR ci ∧ ci < 11 ∧ av.length = n ∧ catS rest ≤ 8 ∧ h9 + 1 ≤ ht ∧ Y.2.2.1 ≤ 28 ∧ k1.1 + k2.1 = k.1 ∧ k1.2 + k2.2 = k.2) (hst : av.reverse ++ (2, o) :: rest = st) (ho : okO L o ci)
    (h : TR Y h9 k1 ((2, o) :: av) L μ (fun r L' μ' => WA X ht k2 pc' ls (r.toList ++ rest) L' μ' Q)) : WA X ht k pc ls st L μ Q := by
  subst hp
  subst hst
  obtain ⟨c1, c2, c3, c4, c5, c6, c7, c8⟩ := hc
  intro h1 h2 p l e R s m args below meth c b B D dA Z C S H locs cells slots lsA cx hr hR hS hc1 hc2 hl
  have hav : ∀ v ∈ (2, o) :: av, okv v := by
    intro v hv
    rcases List.mem_cons.mp hv with rfl | hv
    · exact okv_ref
    · exact h2 v (List.mem_append_left _ (List.mem_reverse.mpr hv))
  have hrest : ∀ v ∈ rest, okv v := fun v hv => h2 v (List.mem_append_right _ (List.mem_cons_of_mem _ hv))
  have hM := h hav l b B D dA cx.2.2.2.2.2.2.1
  have hG : GoodIn GW (wsV X.1.cls idx Y.1.cls Y.1 (mws Y)) := goodIn_gw (fun w hw' => by
    rcases List.mem_append.mp hw' with hw' | hw'
    · simp only [List.mem_cons, List.not_mem_nil, or_false] at hw'
      rcases hw' with rfl | rfl | rfl | rfl
      · exact hw
      · exact cvY.2.1
      · exact cvY.2.2
      · exact cvY.1.2.1
    · exact (goodIn_mws cvY.1.1 w hw').1)
  have hB : B ≤ H.size := Nat.le_trans cx.2.2.2.2.2.2.2.1 hS.1
  have hrm := rmX_le (n := Y.2.2.1) cx.2.2.2.2.2.2.2.2.2.1 cx.2.2.2.2.2.2.2.2.2.2.1 c5 c6
  have cw := cwV (R := R) (rm := rmX h9 k1.1 k1.2) (mc := k1.1) (ms := k1.2) n cx.2.2.2.2.1 hG (ws' := GW) rfl rfl rfl ⟨rfl, cvY.1.2.2⟩ hrm
  have hpre := preV (b := b) (B := B) (av := av) c2 ho hR cx.2.2.2.2.2.1 hB
  rw [← c1] at hpre
  rw [show (List.map (cv b B) (av.reverse ++ (2, o) :: rest)) = (av.map (cv b B)).reverse ++ Value.ref (ad b B o) :: rest.map (cv b B) by simp [cv]]
  refine wa_back (va_runV ⟨cx.1, cx.2.1, cx.2.2.1, cx.2.2.2.1, cx.2.2.2.2.1⟩ hM cw hpre rfl (by rw [List.length_map]; exact c3) hl.1 rfl (lv_room (stack_room c4)) hd ⟨by have := cx.2.2.2.2.2.2.2.2.2.2.2.1; omega, by have := cx.2.2.2.2.2.2.2.2.2.2.2.2; omega⟩) hS ?_
  intro r L' μ' H1 locs1 hq hok hRep hS1
  rw [map_toList]
  exact hq h1 (okr_list hok hrest) p l e R s m args below meth c b B D dA Z C S H1 locs1 _ _ lsA cx hr hRep hS1 (by omega) (by omega) hl
/-- invokestatic -/
theorem wa_callS (pc' : Nat) (h9 n : Nat) {idx : Nat} {av rest : List AV} {k1 k2 : Nat × Nat} (cvY : CS Y n) (hd : decode X.2.1 pc = .ok (.invokestatic idx, 3)) (hp : pc + 3 = pc') (hw : Cond.methodLink X.1.cls idx Y.1 ∈ GW) (hc : av.length = n ∧ catS rest ≤ 8 ∧ h9 + 1 ≤ ht ∧ Y.2.2.1 ≤ 28 ∧ k1.1 + k2.1 = k.1 ∧ k1.2 + k2.2 = k.2) (hst : av.reverse ++ rest = st)
    (h : TR Y h9 k1 av L μ (fun r L' μ' => WA X ht k2 pc' ls (r.toList ++ rest) L' μ' Q)) : WA X ht k pc ls st L μ Q := by
  subst hp
  subst hst
  obtain ⟨c3, c4, c5, c6, c7, c8⟩ := hc
  intro h1 h2 p l e R s m args below meth c b B D dA Z C S H locs cells slots lsA cx hr hR hS hc1 hc2 hl
  have hav : ∀ v ∈ av, okv v := fun v hv => h2 v (List.mem_append_left _ (List.mem_reverse.mpr hv))
  have hrest : ∀ v ∈ rest, okv v := fun v hv => h2 v (List.mem_append_right _ hv)
  have hM := h hav l b B D dA cx.2.2.2.2.2.2.1
  have hG := goodIn_mws cvY.1.1
  have hB : B ≤ H.size := Nat.le_trans cx.2.2.2.2.2.2.2.1 hS.1
  have hrm := rmX_le (n := Y.2.2.1) cx.2.2.2.2.2.2.2.2.2.1 cx.2.2.2.2.2.2.2.2.2.2.1 c5 c6
  have cw : CallB R s args X.1.cls idx Y.1 Y.2.1 Y.2.2.1 Y.2.2.2 (mws Y) (rmX h9 k1.1 k1.2) k1.1 k1.2 n ∧ (Cond.static Y.1).before args s = true :=
    ⟨callB_of n cx.2.2.2.2.1 hG (ws' := GW) rfl rfl rfl (cx.2.2.2.2.1 _ cvY.1.2.1) (cx.2.2.2.2.1 _ hw) cvY.1.2.2 hrm, cx.2.2.2.2.1 _ cvY.2⟩
  have hpre : PreS s H (va_Pc (av.map (cv b B)) (fun U => Rep b B D dA L μ U U.heap ∧ KK D dA U ∧ B ≤ U.heap.size)) (av.map (cv b B)) := ⟨blind_Pc, fun U hU hW => ⟨rfl, by rw [hU]; exact hR.moved hW.alike, cx.2.2.2.2.2.1.moved hW, by rw [hU]; exact hB⟩⟩
  rw [show (List.map (cv b B) (av.reverse ++ rest)) = (av.map (cv b B)).reverse ++ rest.map (cv b B) by simp]
  refine wa_back (va_runS ⟨cx.1, cx.2.1, cx.2.2.1, cx.2.2.2.1, cx.2.2.2.2.1⟩ hM cw hpre rfl (by rw [List.length_map]; exact c3) hl.1 rfl (lv_room (stack_room c4)) hd ⟨by have := cx.2.2.2.2.2.2.2.2.2.2.2.1; omega, by have := cx.2.2.2.2.2.2.2.2.2.2.2.2; omega⟩) hS ?_
  intro r L' μ' H1 locs1 hq hok hRep hS1
  rw [map_toList]
  exact hq h1 (okr_list hok hrest) p l e R s m args below meth c b B D dA Z C S H1 locs1 _ _ lsA cx hr hRep hS1 (by omega) (by omega) hl
/-- invokespecial of a constructor; of a nest mate's -/
theorem wa_callI (pc' : Nat) (h9 n : Nat) {idx : Nat} {o : Int} {av rest : List AV} {k1 k2 : Nat × Nat} (cvY : CI Y n ∧ Y.2.2.2 = none) (hd : decode X.2.1 pc = .ok (.invokespecial idx, 3)) (hp : pc + 3 = pc') (hw : Cond.methodLink X.1.cls idx Y.1 ∈ GW) (hc : av.length = n ∧ catS rest ≤ 8 ∧ h9 + 1 ≤ ht ∧ Y.2.2.1 ≤ 28 ∧ k1.1 + k2.1 = k.1 ∧ k1.2 + k2.2 = k.2) (hst : av.reverse ++ (2, o) :: rest = st)
    (h : TR Y h9 k1 ((2, o) :: av) L μ (fun r L' μ' => WA X ht k2 pc' ls (r.toList ++ rest) L' μ' Q)) : WA X ht k pc ls st L μ Q := by
  subst hp
  subst hst
  obtain ⟨c3, c4, c5, c6, c7, c8⟩ := hc
  obtain ⟨cvY, hnone⟩ := cvY
  intro h1 h2 p l e R s m args below meth c b B D dA Z C S H locs cells slots lsA cx hr hR hS hc1 hc2 hl
  have hav : ∀ v ∈ (2, o) :: av, okv v := by
    intro v hv
    rcases List.mem_cons.mp hv with rfl | hv
    · exact okv_ref
    · exact h2 v (List.mem_append_left _ (List.mem_reverse.mpr hv))
  have hrest : ∀ v ∈ rest, okv v := fun v hv => h2 v (List.mem_append_right _ (List.mem_cons_of_mem _ hv))
  have hM := h hav l b B D dA cx.2.2.2.2.2.2.1
  have hG := goodIn_mws cvY.1.1
  have hB : B ≤ H.size := Nat.le_trans cx.2.2.2.2.2.2.2.1 hS.1
  have hrm := rmX_le (n := Y.2.2.1) cx.2.2.2.2.2.2.2.2.2.1 cx.2.2.2.2.2.2.2.2.2.2.1 c5 c6
  have cw := cwI (R := R) (rm := rmX h9 k1.1 k1.2) (mc := k1.1) (ms := k1.2) (ws' := GW) (bytes := Y.2.1) (maxL := Y.2.2.1) n cx.2.2.2.2.1 hG (by unfold mws; rw [hnone]) rfl rfl (cx.2.2.2.2.1 _ cvY.1.2.1) (cx.2.2.2.2.1 _ hw) (cx.2.2.2.2.1 _ cvY.2.1) cvY.2.2 cvY.1.2.2 hrm
  have hpre : PreS s H (va_Pc (((2, o) :: av).map (cv b B)) (fun U => Rep b B D dA L μ U U.heap ∧ KK D dA U ∧ B ≤ U.heap.size)) (.ref (ad b B o) :: av.map (cv b B)) := ⟨blind_Pc, fun U hU hW => ⟨rfl, by rw [hU]; exact hR.moved hW.alike, cx.2.2.2.2.2.1.moved hW, by rw [hU]; exact hB⟩⟩
  rw [show (List.map (cv b B) (av.reverse ++ (2, o) :: rest)) = (av.map (cv b B)).reverse ++ Value.ref (ad b B o) :: rest.map (cv b B) by simp [cv]]
  refine wa_back (va_runI ⟨cx.1, cx.2.1, cx.2.2.1, cx.2.2.2.1, cx.2.2.2.2.1⟩ hM cw hpre rfl (by rw [List.length_map]; exact c3) hl.1 rfl (lv_room (stack_room c4)) hd ⟨by have := cx.2.2.2.2.2.2.2.2.2.2.2.1; omega, by have := cx.2.2.2.2.2.2.2.2.2.2.2.2; omega⟩) hS ?_
  intro r L' μ' H1 locs1 hq hok hRep hS1
  rw [map_toList]
  exact hq h1 (okr_list hok hrest) p l e R s m args below meth c b B D dA Z C S H1 locs1 _ _ lsA cx hr hRep hS1 (by omega) (by omega) hl
theorem wa_callN (pc' : Nat) (h9 n : Nat) {idx : Nat} {host : String} {o : Int} {av rest : List AV} {k1 k2 : Nat × Nat} (cvY : CI Y n ∧ Y.2.2.2 = none) (hd : decode X.2.1 pc = .ok (.invokespecial idx, 3)) (hp : pc + 3 = pc') (hw : Cond.methodLinkNest X.1.cls idx Y.1 host ∈ nestW) (hc : av.length = n ∧ catS rest ≤ 8 ∧ h9 + 1 ≤ ht ∧ Y.2.2.1 ≤ 28 ∧ k1.1 + k2.1 = k.1 ∧ k1.2 + k2.2 = k.2) (hst : av.reverse ++ (2, o) :: rest = st)
    (h : TR Y h9 k1 ((2, o) :: av) L μ (fun r L' μ' => WA X ht k2 pc' ls (r.toList ++ rest) L' μ' Q)) : WA X ht k pc ls st L μ Q := by
  subst hp
  subst hst
  obtain ⟨c3, c4, c5, c6, c7, c8⟩ := hc
  obtain ⟨cvY, hnone⟩ := cvY
  intro h1 h2 p l e R s m args below meth c b B D dA Z C S H locs cells slots lsA cx hr hR hS hc1 hc2 hl
  have hav : ∀ v ∈ (2, o) :: av, okv v := by
    intro v hv
    rcases List.mem_cons.mp hv with rfl | hv
    · exact okv_ref
    · exact h2 v (List.mem_append_left _ (List.mem_reverse.mpr hv))
  have hrest : ∀ v ∈ rest, okv v := fun v hv => h2 v (List.mem_append_right _ (List.mem_cons_of_mem _ hv))
  have hM := h hav l b B D dA cx.2.2.2.2.2.2.1
  have hG := goodIn_mws cvY.1.1
  have hB : B ≤ H.size := Nat.le_trans cx.2.2.2.2.2.2.2.1 hS.1
  have hrm := rmX_le (n := Y.2.2.1) cx.2.2.2.2.2.2.2.2.2.1 cx.2.2.2.2.2.2.2.2.2.2.1 c5 c6
  have cw := va_cnB (R := R) (rm := rmX h9 k1.1 k1.2) (mc := k1.1) (ms := k1.2) (ret := none) (ws' := GW) (bytes := Y.2.1) (maxL := Y.2.2.1) n cx.2.2.2.2.1 hG (by unfold mws; rw [hnone]) rfl rfl (cx.2.2.2.2.2.1.2.1 _ hw) (cx.2.2.2.2.1 _ cvY.1.2.1) cvY.1.2.2 hrm
  have hpre : PreS s H (va_Pc (((2, o) :: av).map (cv b B)) (fun U => Rep b B D dA L μ U U.heap ∧ KK D dA U ∧ B ≤ U.heap.size)) (.ref (ad b B o) :: av.map (cv b B)) := ⟨blind_Pc, fun U hU hW => ⟨rfl, by rw [hU]; exact hR.moved hW.alike, cx.2.2.2.2.2.1.moved hW, by rw [hU]; exact hB⟩⟩
  rw [show (List.map (cv b B) (av.reverse ++ (2, o) :: rest)) = (av.map (cv b B)).reverse ++ Value.ref (ad b B o) :: rest.map (cv b B) by simp [cv]]
  refine wa_back (va_runIN ⟨cx.1, cx.2.1, cx.2.2.1, cx.2.2.2.1, cx.2.2.2.2.1⟩ hM ⟨cw, cvY.2.2, cx.2.2.2.2.1 _ cvY.2.1⟩ hpre rfl (by rw [List.length_map]; exact c3) hl.1 rfl (lv_room (stack_room c4)) hd ⟨by have := cx.2.2.2.2.2.2.2.2.2.2.2.1; omega, by have := cx.2.2.2.2.2.2.2.2.2.2.2.2; omega⟩) hS ?_
  intro r L' μ' H1 locs1 hq hok hRep hS1
  rw [map_toList]
  exact hq h1 (okr_list hok hrest) p l e R s m args below meth c b B D dA Z C S H1 locs1 _ _ lsA cx hr hRep hS1 (by omega) (by omega) hl
theorem wa_objInit (pc' : Nat) {idx : Nat} {o : Int} (hd : decode X.2.1 pc = .ok (.invokespecial idx, 3)) (hp : pc + 3 = pc') (hw : Cond.methodLink X.1.cls idx Lib.objectInit ∈ GW) (hc : 1 ≤ ht) (h : WA X ht k pc' ls [] L μ Q) : WA X ht k pc ls [(2, o)] L μ Q := by
  subst hp
  intro h1 h2 p l e R s m args below meth c b B D dA Z C S H locs cells slots lsA cx hr hR hS hc1 hc2 hl
  refine W.objInit (g := F0 m pc lsA [.ref (ad b B o)]) cx.1 cx.2.1 cx.2.2.2.1 (cx.2.2.2.2.1 _ hw) (cx.2.2.2.2.1 _ wO_inst) (cx.2.2.2.2.1 _ wO_code) rfl (by rw [cx.2.2.1]; exact hl.1) rfl hd (by have := cx.2.2.2.2.2.2.2.2.2.1; omega) (by have := cx.2.2.2.2.2.2.2.2.2.2.1; show 2 * 0 + 0 + 12 ≤ _; omega) ?_
  exact h h1 (fun v hv => by cases hv) p l e R s m args below meth c b B D dA Z C S H locs cells slots lsA cx hr hR hS hc1 hc2 hl
/-- returns -/
theorem wa_ret {r : Option AV} {ins : Instr} (hd : decode X.2.1 pc = .ok (ins, 1)) (hst : r.toList = st) (hr0 : ∀ v, r = some v → v.1 < 3) (hK : RetK X.2.2.2 r ins) (hq : Q r L μ) : WA X ht k pc ls st L μ Q := by
  subst hst
  intro h1 h2 p l e R s m args below meth c b B D dA Z C S H locs cells slots lsA cx hr hR hS hc1 hc2 hl
  have := hr r L μ H locs cells slots lsA pc ins hq hR hS (by omega) (by omega) hK (fun v hv => ⟨hr0 v hv, h2 v (by rw [hv]; simp)⟩) hd
  cases r <;> exact this
theorem wa_iret {v : Int} (hd : decode X.2.1 pc = .ok (.ireturn, 1)) (ht9 : X.2.2.2 = some .int) (hq : Q (some (0, v)) L μ) : WA X ht k pc ls [(0, v)] L μ Q :=
  wa_ret (r := some (0, v)) hd rfl (fun w hw => by cases hw; exact (by decide : (0 : Nat) < 3)) (Or.inl ⟨rfl, rfl, Or.inl ht9⟩) hq
theorem wa_zret {v : Int} (hd : decode X.2.1 pc = .ok (.ireturn, 1)) (ht9 : X.2.2.2 = some .boolean) (hv : v = 0 ∨ v = 1) (hq : Q (some (0, v)) L μ) : WA X ht k pc ls [(0, v)] L μ Q :=
  wa_ret (r := some (0, v)) hd rfl (fun w hw => by cases hw; exact (by decide : (0 : Nat) < 3)) (Or.inl ⟨rfl, rfl, Or.inr ⟨ht9, hv⟩⟩) hq
theorem wa_lret {v : Int} (hd : decode X.2.1 pc = .ok (.lreturn, 1)) (ht9 : X.2.2.2 = some .long) (hq : Q (some (1, v)) L μ) : WA X ht k pc ls [(1, v)] L μ Q :=
  wa_ret (r := some (1, v)) hd rfl (fun w hw => by cases hw; exact (by decide : (1 : Nat) < 3)) (Or.inr (Or.inl ⟨rfl, rfl, ht9⟩)) hq
theorem wa_aret {v : Int} (hd : decode X.2.1 pc = .ok (.areturn, 1)) (ht9 : ∃ t, X.2.2.2 = some t ∧ ((∃ n, t = .object n) ∨ ∃ u, t = .array u)) (hq : Q (some (2, v)) L μ) : WA X ht k pc ls [(2, v)] L μ Q :=
  wa_ret (r := some (2, v)) hd rfl (fun w hw => by cases hw; exact (by decide : (2 : Nat) < 3)) (Or.inr (Or.inr ⟨rfl, rfl, ht9⟩)) hq
theorem wa_vret (hd : decode X.2.1 pc = .ok (.return_, 1)) (ht9 : X.2.2.2 = none) (hq : Q none L μ) : WA X ht k pc ls [] L μ Q :=
  wa_ret (r := none) hd rfl (fun w hw => by cases hw) ⟨rfl, ht9⟩ hq
/-- a switch: one row a case (by its number), one for all others -/
theorem wa_switch (tgt : Nat → Nat) (td : Nat) {n : Nat} {hi dflt x : Int} {offs : Array Int} {len : Nat} (hd : decode X.2.1 pc = .ok (.tableswitch dflt 0 hi offs, len)) (hn : (n : Int) = hi + 1) (ho : ∀ j, j < n → ∃ off, offs[j]? = some off ∧ (pc : Int) + off = (tgt j : Int)) (hdf : (pc : Int) + dflt = (td : Int))
    (hin : ∀ j : Nat, j < n → x = (j : Int) → WA X ht k (tgt j) ls st L μ Q) (hout : x < 0 ∨ hi < x → WA X ht k td ls st L μ Q) : WA X ht k pc ls ((0, x) :: st) L μ Q := by
  intro h1 h2 p l e R s m args below meth c b B D dA Z C S H locs cells slots lsA cx hr hR hS hc1 hc2 hl
  have hx : inI x := (hd1 h2).1 rfl
  by_cases q : x < 0 ∨ hi < x
  · exact lv_tableOut cx.1 cx.2.1 hd (by rw [i32_toInt hx]; exact q) hdf (hout q h1 (okv_tl h2) p l e R s m args below meth c b B D dA Z C S H locs cells slots lsA cx hr hR hS hc1 hc2 hl)
  · obtain ⟨off, a1, a2⟩ := ho x.toNat (by omega)
    exact lv_tableIn cx.1 cx.2.1 hd (by rw [i32_toInt hx]; omega) (by rw [i32_toInt hx]; omega) (off := off) (by rw [i32_toInt hx, Int.sub_zero]; exact a1) a2 (hin x.toNat (by omega) (by omega) h1 (okv_tl h2) p l e R s m args below meth c b B D dA Z C S H locs cells slots lsA cx hr hR hS hc1 hc2 hl)
theorem wa_ldcw (pc' : Nat) (n : Int) {idx : Nat} {v : Int32} (hd : decode X.2.1 pc = .ok (.ldc_w idx, 3)) (hp : pc + 3 = pc') (hw : Cond.constant X.1.cls idx v ∈ GW) (hn : v = Int32.ofInt n ∧ inI n) (h : WA X ht k pc' ls ((0, n) :: st) L μ Q) : WA X ht k pc ls st L μ Q := by
  subst hp
  intro h1 h2 p l e R s m args below meth c b B D dA Z C S H locs cells slots lsA cx hr hR hS hc1 hc2 hl
  obtain ⟨hv, hn⟩ := hn
  subst hv
  exact lv_ldcw cx.1 cx.2.1 cx.2.2.2.1 (cx.2.2.2.2.1 _ hw) hd (h h1 (okv_cons (okv_int hn) h2) p l e R s m args below meth c b B D dA Z C S H locs cells slots lsA cx hr hR hS hc1 hc2 hl)
theorem wa_iushr (pc' : Nat) {x y : Int} (hd : decode X.2.1 pc = .ok (.iushr, 1)) (hp : pc + 1 = pc') (h : WA X ht k pc' ls ((0, bUshr x y) :: st) L μ Q) : WA X ht k pc ls ((0, y) :: (0, x) :: st) L μ Q := by
  subst hp
  intro h1 h2 p l e R s m args below meth c b B D dA Z C S H locs cells slots lsA cx hr hR hS hc1 hc2 hl
  exact lv_iushr cx.1 cx.2.1 hd (Int32.ofInt_toInt _).symm (h h1 (okv_cons (okv_int (i32_in _)) (tl2 h2)) p l e R s m args below meth c b B D dA Z C S H locs cells slots lsA cx hr hR hS hc1 hc2 hl)
end WACalls
