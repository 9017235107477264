section WAMulti
variable {X : MI} {ht : Nat} {k : Nat × Nat} {pc : Nat} {ls st : List AV} {L L' : Lay} {μ μ' : Mem} {Q : Option AV → Lay → Mem → Prop}
/-- rows of ints -/
theorem wa_multi (pc' : Nat) (n kk : Nat) {idx : Nat} {x y : Int} {kc ks : Nat} (hd : decode X.2.1 pc = .ok (.multianewarray idx 2, 4)) (hp : pc + 4 = pc') (hw : Cond.classLink X.1.cls idx "[[I" ∈ GW) (hc : (n : Int) = x ∧ (kk : Int) = y ∧ n ≤ 1000 ∧ kk ≤ 1000 ∧ k = (kc + (1 + n), ks + (n + n * kk))) (h : WA X ht (kc, ks) pc' ls ((2, L.1 + 1) :: st) (nwRL L x y) (nwRM L μ) Q) : WA X ht k pc ls ((0, y) :: (0, x) :: st) L μ Q := by
  subst hp
  obtain ⟨rfl, rfl, hn, hkk, rfl⟩ := hc
  intro h1 h2 p l e R s m args below meth c b B D dA Z C9 S H locs cells slots lsA cx hr hR hS hc1 hc2 hl
  have hCR := cx.2.2.2.2.2.2.2.2.2.2.2
  simp only at hc1 hc2
  have hy : inI (kk : Int) := (hd1 h2).1 rfl
  have hx : inI (n : Int) := (hd2 h2).1 rfl
  have hx32 : (Int32.ofInt (n : Int)).toNatClampNeg = n := by rw [clamp_i hx]; simp
  have hy32 : (Int32.ofInt (kk : Int)).toNatClampNeg = kk := by rw [clamp_i hy]; simp
  have hx0 : ¬ Int32.ofInt (n : Int) < 0 := fun q => by
    have := (i32_lt hx (by decide)).mp (show Int32.ofInt (n : Int) < Int32.ofInt 0 from q)
    omega
  have hy0 : ¬ Int32.ofInt (kk : Int) < 0 := fun q => by
    have := (i32_lt hy (by decide)).mp (show Int32.ofInt (kk : Int) < Int32.ofInt 0 from q)
    omega
  have hK := cx.2.2.2.2.2.1.1.2
  have hmul : n * kk ≤ 1000 * 1000 := Nat.mul_le_mul hn hkk
  intro T hT Xs
  obtain ⟨vm₁, cA, comp, -, fA, fC, hO, -, X', step⟩ := Xs.multianewarray2F (ty := .int) cx.1 cx.2.2.2.1 (cx.2.2.2.2.1 _ hw) cx.2.2.2.2.2.1.2.2.1 (cx.2.2.2.2.1 _ wA_int) (g := F0 m pc lsA ((((0, (kk : Int)) :: (0, (n : Int)) :: st)).map (cv b B))) rfl (by rw [cx.2.1]; exact hd) (n := Int32.ofInt (n : Int)) (k := Int32.ofInt (kk : Int)) (rest := st.map (cv b B)) rfl hx0 hy0 (by rw [hx32]; omega) (by rw [hy32]; show kk * 4 ≤ _; omega) (by rw [hy32]; omega) rfl rfl (by rw [hx32]; omega) (by rw [hx32, hy32]; omega)
  rw [hx32, hy32] at X' step
  have hcA : cA = dA 3 := Option.some.inj (fA.symm.trans (hK 3 _ rfl).2)
  have hcI : comp = dA 0 := Option.some.inj (fC.symm.trans (hK 0 _ rfl).2)
  generalize hF : Jvm.Free.Multi.fill (T.setVm vm₁) cA comp n kk (defaultValue .int) n = F at X' step
  have hTh : (T.setVm vm₁).heap = H := hT
  obtain ⟨f1, f2, -, -⟩ := Jvm.Free.Multi.fill_facts (T.setVm vm₁) cA comp n kk (defaultValue .int) n
  rw [hF, hTh] at f1 f2
  have hold : ∀ x : Nat, x < H.size → F.heap[x]? = H[x]? := fun x hx => by
    have := Jvm.Free.Multi.fill_old (T.setVm vm₁) cA comp n kk (defaultValue .int) (a := x) (by rw [hTh]; exact hx) n
    rw [hF, hTh] at this
    exact this
  have hrow : ∀ j : Nat, j < n → F.heap[H.size + 1 + j]? = some (Jvm.Free.Multi.innerC comp kk (defaultValue .int)) := fun j hj => by
    have := Jvm.Free.Multi.fill_inner (T.setVm vm₁) cA comp n kk (defaultValue .int) n j hj
    rw [hF, hTh] at this
    exact this
  have e2 : ∀ j : Int, nwRM L μ (L.1 + 1 + j) = nwRM L μ (L.1 + 1 + j) := fun _ => rfl
  have hL0 := hR.2.2.1
  have hsz := hR.2.1
  have hm0 : ∀ (a j : Int), L.1 < a → nwRM L μ a j = 0 := fun a j ha => by
    show (if a ≤ L.1 then _ else _) = _
    rw [if_neg (by omega)]
  have hout : Jvm.Free.Multi.outerC cA n H.size n = vp_cell (dA 3) (n, arrA b B (nwRL L (n : Int) (kk : Int)) (nwRM L μ) 23 (L.1 + 1)) := by
    rw [hcA, arrA_r (by decide), vp_cell_q]
    have key : ∀ i : Nat, Jvm.Free.Multi.outerC (dA 3) n H.size i = arrV (dA 3) n (fun j => va_rf (if j < i then some (H.size + 1 + j) else none)) := by
      intro i
      induction i with
      | zero =>
        show ({ cls := dA 3, slots := Array.replicate n .null, vm := .none } : Cell) = _
        rw [arrV_new]
        exact congrArg (arrV (dA 3) n) (funext fun j => by simp [va_rf])
      | succ i ih =>
        show (Jvm.Free.Multi.outerC (dA 3) n H.size i).setSlot i (.ref (H.size + 1 + i)) = _
        rw [ih, arrV_store]
        refine congrArg (arrV (dA 3) n) (funext fun j => ?_)
        by_cases e : j = i
        · subst e
          simp [updV, va_rf]
        · by_cases h : j < i
          · simp [updV, e, h, Nat.lt_succ_of_lt h]
          · simp [updV, e, h, show ¬ j < i + 1 by omega]
    rw [key n]
    refine congrArg (arrV (dA 3) n) (funext fun j => ?_)
    have e3 : rf (nwRL L (n : Int) (kk : Int)) (L.1 + 1) (j : Int) = if j < n then L.1 + 2 + (j : Int) else -1 := by
      show (if L.1 + 1 ≤ L.1 then _ else if L.1 + 1 = L.1 + 1 ∧ 0 ≤ (j : Int) ∧ (j : Int) < n then _ else _) = _
      rw [if_neg (by omega)]
      by_cases q : j < n
      · rw [if_pos ⟨rfl, by omega, by omega⟩, if_pos q]
      · rw [if_neg (by omega), if_neg q]
    rw [e3]
    by_cases q : j < n
    · rw [if_pos q, if_pos q, if_neg (by omega), ad_pos (by omega)]
      congr 2
      omega
    · rw [if_neg q, if_neg q]
      rfl
  rw [hout] at f2
  have hin : ∀ j : Nat, Jvm.Free.Multi.innerC comp kk (defaultValue .int) = vp_cell (dA 0) (kk, arrA b B (nwRL L (n : Int) (kk : Int)) (nwRM L μ) 20 (L.1 + 2 + (j : Int))) := fun j => by
    rw [hcI, arrA_i (Or.inl rfl), vp_cell_i]
    show ({ cls := dA 0, slots := Array.replicate kk (.int 0), vm := .none } : Cell) = _
    rw [arrV_new]
    refine congrArg (arrV (dA 0) kk) (funext fun i => ?_)
    rw [hm0 _ _ (by omega)]
    rfl
  have hk0 : ∀ a, a ≤ L.1 → kd (nwRL L (n : Int) (kk : Int)) a = kd L a := fun a ha => by
    show (if a ≤ L.1 then _ else _) = _
    rw [if_pos ha]
  have hR1 : Rep b B D dA (nwRL L (n : Int) (kk : Int)) (nwRM L μ) s F.heap := by
    refine hR.push (n := 1 + n) (es := fun i => if i = 0 then .inl (dA 3, n, arrA b B (nwRL L (n : Int) (kk : Int)) (nwRM L μ) 23 (L.1 + 1)) else .inl (dA 0, kk, arrA b B (nwRL L (n : Int) (kk : Int)) (nwRM L μ) 20 (L.1 + 1 + (i : Int)))) cx.2.2.2.2.2.2.1 (by show L.1 + 1 + (n : Int) = _; omega) hk0 (fun a i ha => ?_) (fun a i ha => ?_) (fun i hi => ?_) (fun i hi => ?_) (by omega) hold (fun a i ha1 ha2 => hm0 a i ha1)
    · show (if a ≤ L.1 then _ else _) = _
      rw [if_pos ha]
    · show (if a ≤ L.1 then _ else _) = _
      rw [if_pos ha]
    · by_cases q : i = 0
      · subst q
        have e4 : kd (nwRL L (n : Int) (kk : Int)) (L.1 + 1 + ((0 : Nat) : Int)) = (23, (n : Int)) := by
          show (if L.1 + 1 + ((0 : Nat) : Int) ≤ L.1 then _ else if L.1 + 1 + ((0 : Nat) : Int) = L.1 + 1 then _ else _) = _
          rw [if_neg (by omega), if_pos (by omega)]
        rw [entry_arr (t := 23) (by rw [e4]) (by decide), e4, if_pos rfl]
        simp
      · have e4 : kd (nwRL L (n : Int) (kk : Int)) (L.1 + 1 + (i : Int)) = (20, (kk : Int)) := by
          show (if L.1 + 1 + (i : Int) ≤ L.1 then _ else if L.1 + 1 + (i : Int) = L.1 + 1 then _ else _) = _
          rw [if_neg (by omega), if_neg (by omega)]
        rw [entry_arr (t := 20) (by rw [e4]) (by decide), e4, if_neg q]
        simp
    · by_cases q : i = 0
      · subst q
        rw [if_pos rfl]
        exact f2
      · rw [if_neg q]
        show F.heap[H.size + i]? = some (vp_cell _ _)
        have e5 := hrow (i - 1) (by omega)
        rw [hin (i - 1)] at e5
        rw [show H.size + i = H.size + 1 + (i - 1) by omega, e5, show L.1 + 2 + ((i - 1 : Nat) : Int) = L.1 + 1 + (i : Int) by omega]
  have e9 := h h1 (okv_cons okv_ref (tl2 h2)) p l e R s m args below meth c b B D dA Z C9 S F.heap locs (cells + 1 + n) (slots + n + n * kk) lsA cx hr hR1 (va_S_push hS (by omega) hold) (by show cells + 1 + n + kc ≤ C9; omega) (by show slots + n + n * kk + ks ≤ S; omega) hl
  rw [List.map_cons, show cv b B (2, L.1 + 1) = .ref (ad b B (L.1 + 1)) from rfl, ad_new hR] at e9
  obtain ⟨t, a1, b1⟩ := e9 F rfl X'
  refine ⟨t, step t ?_, b1⟩
  rw [hT]
  exact a1
end WAMulti
