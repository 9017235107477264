/-! A METHOD'S RUN over the abstract machine: WA (at an instruction), TR (a call) -/
def mws (X : MI) : List Cond := .code X.1 X.2.1 X.2.2.1 X.2.2.2 :: GW
def rmX (ht kc ks : Nat) : Room := { frames := ht, cells := kc, slots := ks, locals := 50 * ht }
/-- what a method's frame stands on -/
def CX (X : MI) (ht : Nat) (p : Program) (R : Room) (s : State) (m : MethodId) (args : Array Value) (meth : Method) (c : Code) (b B : Nat) (D : va_G) (dA : Nat → ClassId) (C S : Nat) : Prop :=
  p.tables.exec = Jvm.exec ∧ c.code = X.2.1 ∧ c.maxLocals = X.2.2.1 ∧ s.vm.findClass X.1.cls = some m.cls ∧ (∀ w ∈ GW, w.before args s = true) ∧ KK D dA s ∧ b < B ∧ B ≤ s.heap.size ∧ meth.name = X.1.name ∧ ht ≤ R.frames ∧ 50 * ht ≤ R.locals ∧ C ≤ R.cells ∧ S ≤ R.slots
def RetK (ret : Option FieldType) (r : Option AV) (ins : Instr) : Prop := match r with
  | none => ins = .return_ ∧ ret = none
  | some v => (v.1 = 0 ∧ ins = .ireturn ∧ (ret = some .int ∨ (ret = some .boolean ∧ (v.2 = 0 ∨ v.2 = 1)))) ∨ (v.1 = 1 ∧ ins = .lreturn ∧ ret = some .long) ∨ (v.1 = 2 ∧ ins = .areturn ∧ ∃ t, ret = some t ∧ ((∃ n, t = .object n) ∨ ∃ u, t = .array u))
def okr (r : Option AV) : Prop := ∀ v, r = some v → v.1 < 3 ∧ okv v
def RetH (X : MI) (Q : Option AV → Lay → Mem → Prop) (p : Program) (l : Launch) (e : Env) (R : Room) (s : State) (m : MethodId) (args : Array Value) (below : List Frame) (meth : Method) (c : Code) (b B : Nat) (D : va_G) (dA : Nat → ClassId) (Z : State → Prop) (C S : Nat) : Prop :=
  ∀ (r : Option AV) (L : Lay) (μ : Mem) (H : Heap) (locs : List Loc) (cells slots : Nat) (ls : Array Slot) (pc : Nat) (ins : Instr), Q r L μ → Rep b B D dA L μ s H → va_S (fun q => B ≤ q) s.heap H locs → cells ≤ C → slots ≤ S → RetK X.2.2.2 r ins → okr r → decode X.2.1 pc = .ok (ins, 1) →
    W p l e R s m args below meth c H locs cells slots Z (F0 m pc ls ((r.map (cv b B)).toList))
/-- from pc on, with these locals, this stack, this memory, the method ends, and Q holds of its answer and of what is then; k: how many cells and slots it may still make -/
def WA (X : MI) (ht : Nat) (k : Nat × Nat) (pc : Nat) (ls st : List AV) (L : Lay) (μ : Mem) (Q : Option AV → Lay → Mem → Prop) : Prop :=
  (∀ v ∈ ls, okv v) → (∀ v ∈ st, okv v) → ∀ (p : Program) (l : Launch) (e : Env) (R : Room) (s : State) (m : MethodId) (args : Array Value) (below : List Frame) (meth : Method) (c : Code) (b B : Nat) (D : va_G) (dA : Nat → ClassId) (Z : State → Prop) (C S : Nat) (H : Heap) (locs : List Loc) (cells slots : Nat) (lsA : Array Slot),
    CX X ht p R s m args meth c b B D dA C S → RetH X Q p l e R s m args below meth c b B D dA Z C S → Rep b B D dA L μ s H → va_S (fun q => B ≤ q) s.heap H locs → cells + k.1 ≤ C → slots + k.2 ≤ S → lv_has lsA X.2.2.1 (lvl b B 0 ls) →
      W p l e R s m args below meth c H locs cells slots Z (F0 m pc lsA (st.map (cv b B)))
def TR (X : MI) (ht : Nat) (k : Nat × Nat) (av : List AV) (L : Lay) (μ : Mem) (Q : Option AV → Lay → Mem → Prop) : Prop :=
  (∀ v ∈ av, okv v) → ∀ (l : Launch) (b B : Nat) (D : va_G) (dA : Nat → ClassId), b < B →
    Met l X.1 (mws X) (rmX ht k.1 k.2) (va_Pc (av.map (cv b B)) (fun U => Rep b B D dA L μ U U.heap ∧ KK D dA U ∧ B ≤ U.heap.size))
      (fun _ st o t => (∃ r L' μ', o = .returned (r.map (cv b B)) ∧ Q r L' μ' ∧ okr r ∧ Rep b B D dA L' μ' t t.heap) ∧ va_F (fun q => B ≤ q) st t) k.1 k.2 (fun q => B ≤ q)
theorem okv9 : okv (9, 0) := ⟨fun h => absurd h (by decide), fun h => absurd h (by decide)⟩
theorem KK.moved {D : va_G} {dA : Nat → ClassId} {u U : State} (hW : u.WarmedH U.vm) (h : KK D dA u) : KK D dA U := by
  obtain ⟨h1, h2, h3, h4, h5, h6⟩ := h
  refine ⟨va_K.moved hW.alike h1, fun w hw => ?_, over_moved hW.alike h3, h4.moved hW.alike, h5.moved hW.alike, h6.moved hW.alike⟩
  have := h2 w hw
  simp only [nestW, List.mem_cons, List.not_mem_nil, or_false] at hw
  rcases hw with rfl | rfl | rfl | rfl | rfl | rfl | rfl | rfl | rfl | rfl | rfl | rfl | rfl <;> exact va_Nw.warmM hW this
theorem KK.same {D : va_G} {dA : Nat → ClassId} {u U : State} (hv : u.vm = U.vm) (h : KK D dA u) : KK D dA U := by
  obtain ⟨h1, h2, h3, h4, h5, h6⟩ := h
  have ha : u.vm.Alike U.vm := by rw [hv]; exact Vm.Alike.refl U.vm
  refine ⟨va_K.moved ha h1, fun w hw => ?_, over_moved ha h3, h4.moved ha, h5.moved ha, h6.moved ha⟩
  have := h2 w hw
  simp only [nestW, List.mem_cons, List.not_mem_nil, or_false] at hw
  rcases hw with rfl | rfl | rfl | rfl | rfl | rfl | rfl | rfl | rfl | rfl | rfl | rfl | rfl <;> exact va_Nw.same rfl hv this
theorem Rep.moved {b B : Nat} {D : va_G} {dA : Nat → ClassId} {L : Lay} {μ : Mem} {u U : State} {H : Heap} (ha : u.vm.Alike U.vm) (h : Rep b B D dA L μ u H) : Rep b B D dA L μ U H :=
  ⟨h.1, h.2.1, h.2.2.1, va_X.moved ha h.2.2.2.1, h.2.2.2.2⟩
theorem goodIn_mws {X : MI} (h : Cond.code X.1 X.2.1 X.2.2.1 X.2.2.2 ∈ GW) : GoodIn GW (mws X) := by
  intro w hw
  have hm : w ∈ GW := by
    rcases List.mem_cons.mp hw with rfl | hw
    · exact h
    · exact hw
  exact ⟨hm, good_of_word (List.mem_filter.mp hm).2⟩
theorem goodIn_gw {ws : List Cond} (h : ∀ w ∈ ws, w ∈ GW) : GoodIn GW ws := fun w hw => ⟨h w hw, good_of_word (List.mem_filter.mp (h w hw)).2⟩
/-- the locals at a method's entry -/
def argL (av : List AV) (n : Nat) : List AV := av.flatMap (fun v => if v.1 = 1 then [v, (9, 0)] else [v]) ++ List.replicate (n - (av.flatMap (fun v => if v.1 = 1 then [v, (9, 0)] else [v])).length) (9, 0)
theorem args_in {b B : Nat} : ∀ (av : List AV), (∀ v ∈ av, v.1 < 4) → ∀ (tl : List AV) (i : Nat) (q : Nat × Value), (∀ v ∈ tl, v.1 = 9) → q ∈ lvl b B i (av.flatMap (fun v => if v.1 = 1 then [v, (9, 0)] else [v]) ++ tl) → q ∈ lv_args i (av.map (cv b B))
  | [], _, tl, i, q, ht, hq => by
    obtain ⟨j, v, h1, h2, -⟩ := (lvl_in _ _ _ _ _).mp hq
    have := ht v (List.mem_of_getElem? (by simpa using h1))
    omega
  | v :: t, hv, tl, i, q, ht, hq => by
    have hv0 := hv v List.mem_cons_self
    have ih := args_in (b := b) (B := B) t (fun w hw => hv w (List.mem_cons_of_mem _ hw)) tl
    have hc := cv_cat b B v hv0
    by_cases h1 : v.1 = 1
    · rw [if_pos h1] at hc
      simp only [List.flatMap_cons, h1, if_true, List.cons_append, List.nil_append, lvl, hv0] at hq
      simp only [List.map_cons, lv_args, hc, if_true]
      rw [if_pos (by decide)] at hq
      rcases List.mem_cons.mp hq with h | h
      · exact List.mem_cons.mpr (Or.inl h)
      · rw [if_neg (by decide)] at h
        exact List.mem_cons_of_mem _ (ih _ q ht h)
    · rw [if_neg h1] at hc
      simp only [List.flatMap_cons, h1, if_false, List.cons_append, List.nil_append, lvl, hv0, if_true] at hq
      simp only [List.map_cons, lv_args, hc]
      rcases List.mem_cons.mp hq with h | h
      · exact List.mem_cons.mpr (Or.inl h)
      · exact List.mem_cons_of_mem _ (ih _ q ht (by simpa using h))
theorem lg_sl_len {b B : Nat} : ∀ (av : List AV), (∀ v ∈ av, v.1 < 4) → (lg_sl (av.map (cv b B))).length = (av.flatMap (fun v => if v.1 = 1 then [v, (9, 0)] else [v])).length
  | [], _ => rfl
  | v :: t, hv => by
    have ih := lg_sl_len (b := b) (B := B) t (fun w hw => hv w (List.mem_cons_of_mem _ hw))
    have hc := cv_cat b B v (hv v List.mem_cons_self)
    unfold lg_sl at ih ⊢
    simp only [List.map_cons, List.flatMap_cons, List.length_append, ih]
    congr 1
    by_cases h1 : v.1 = 1
    · rw [if_pos h1] at hc
      simp [hc, h1]
    · rw [if_neg h1] at hc
      simp [hc, h1]
set_option maxHeartbeats 4000000 in
/-- a method's call, out of its run from its entry -/
theorem TR.of {X : MI} {ht : Nat} {k : Nat × Nat} {av ls : List AV} {L : Lay} {μ : Mem} {Q : Option AV → Lay → Mem → Prop} (hy : plainName X.1.cls = true) (hav : ∀ v ∈ av, v.1 < 4) (hls : argL av X.2.2.1 = ls) (hlen : (av.flatMap (fun v => if v.1 = 1 then [v, (9, 0)] else [v])).length ≤ X.2.2.1) (h : WA X ht k 0 ls [] L μ Q) : TR X ht k av L μ Q := by
  intro hok l b B D dA hbB
  refine Met.ofW (cc := X.2.1) (maxL := X.2.2.1) (ret := X.2.2.2) (ws' := GW) hy rfl ?_
  intro p e s m args below meth c s₁ BB hml hv
  obtain ⟨rfl, hRep, hKK, hBs⟩ := hv
  have hts := atoms_spec (ws := mws X) BB.pre
  have hown : s.vm.findClass X.1.cls = some m.cls := findClass_of_methodNamed BB.named
  have hlocks := BB.notSynchronized
  have hname : meth.name = X.1.name := (name_of_methodNamed BB.named BB.method).1
  rw [lg_entry_eq]
  have hsl : (lg_sl (av.map (cv b B))).length ≤ X.2.2.1 := by rw [lg_sl_len av hav]; exact hlen
  have hl := lv_entry (av.map (cv b B)) (n := X.2.2.1) hsl
  generalize (lg_sl (av.map (cv b B)) ++ List.replicate (X.2.2.1 - (lg_sl (av.map (cv b B))).length) Slot.unset).toArray = lsA at hl ⊢
  have hl2 : lv_has lsA X.2.2.1 (lvl b B 0 ls) := lvh_sub hl (fun q hq => by
    rw [← hls] at hq
    exact args_in av hav _ 0 q (fun v hv => (List.mem_replicate.mp hv).2 ▸ rfl) hq)
  have hokls : ∀ v ∈ ls, okv v := by
    intro v hv
    rw [← hls] at hv
    unfold argL at hv
    rcases List.mem_append.mp hv with hv | hv
    · obtain ⟨w, hw, hv⟩ := List.mem_flatMap.mp hv
      split at hv
      · rcases List.mem_cons.mp hv with rfl | hv
        · exact hok _ hw
        · rw [List.mem_singleton.mp hv]; exact okv9
      · rw [List.mem_singleton.mp hv]; exact hok _ hw
    · rw [(List.mem_replicate.mp hv).2]; exact okv9
  refine h hokls (fun v hv => by cases hv) p l e (headSpec (mws X) (rmX ht k.1 k.2)).room s m _ below meth c b B D dA _ k.1 k.2 s.heap [] 0 0 lsA ⟨BB.exec, BB.bytes, hml, hown, fun w hw => hts w (List.mem_cons_of_mem _ hw), hKK, hbB, hBs, hname, Nat.le_refl _, Nat.le_refl _, Nat.le_refl _, Nat.le_refl _⟩ ?_ hRep va_S.rf (by omega) (by omega) hl2
  intro r L' μ' H locs cells slots lsA2 pc ins hQ hR hS hc1 hc2 hK hokr hd
  have hq : ∀ t : State, t.heap = H → s.WarmedH t.vm → (∃ r L' μ', Outcome.returned ((r : Option AV).map (cv b B)) = .returned (r.map (cv b B)) ∧ Q r L' μ' ∧ okr r ∧ Rep b B D dA L' μ' t t.heap) → True := fun _ _ _ _ => trivial
  have fin : ∀ t : State, t.heap = H → s.WarmedH t.vm → (∃ r' L' μ', Outcome.returned (r.map (cv b B)) = .returned (r'.map (cv b B)) ∧ Q r' L' μ' ∧ okr r' ∧ Rep b B D dA L' μ' t t.heap) ∧ va_F (fun q => B ≤ q) s t := fun t ht hW => ⟨⟨r, L', μ', rfl, hQ, hokr, by rw [ht]; exact hR.moved hW.alike⟩, hS.F ht⟩
  refine W.widen hc1 hc2 ?_
  cases r with
  | none =>
    obtain ⟨rfl, hr⟩ := hK
    exact W.vret BB.exec BB.bytes (by rw [BB.returns]; exact hr) (fun t ht hW => fin t ht hW) hS.2.2 hd
  | some v =>
    obtain ⟨t, x⟩ := v
    rcases hK with ⟨h0, rfl, hr⟩ | ⟨h0, rfl, hr⟩ | ⟨h0, rfl, ty, hr, hty⟩
    · simp only at h0
      subst h0
      rcases hr with hr | ⟨hr, hx⟩
      · exact W.iret BB.exec BB.bytes (by rw [BB.returns]; exact hr) (fun t ht hW => fin t ht hW) hS.2.2 hd
      · refine W.zret (ty := .boolean) BB.exec BB.bytes (by rw [BB.returns]; exact hr) ?_ (fun t ht hW => fin t ht hW) hS.2.2 hd
        simp only at hx
        rcases hx with rfl | rfl <;> rfl
    · simp only at h0
      subst h0
      exact W.lret BB.exec BB.bytes (by rw [BB.returns]; exact hr) (fun t ht hW => fin t ht hW) hS.2.2 hd
    · simp only at h0
      subst h0
      exact W.aret BB.exec BB.bytes (by rw [BB.returns]; exact hr) hty (Or.inr ⟨_, rfl⟩) (fun t ht hW => fin t ht hW) hS.2.2 hd
