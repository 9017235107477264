/-! the reference: the unit, events, takes, marks of agents -/
def PU (μ : Mem) (a : Int) (m : Pt) : Prop := μ 498 a = m.1 ∧ μ 499 a = m.2
/-- marks of a change only these -/
def frP (a : Int) (μ μ' : Mem) : Prop := ∀ x i : Int, (x ≠ 493 ∨ (i ≠ 4 ∧ i ≠ 5 ∧ i ≠ 11)) → x ≠ 494 → ((x ≠ 498 ∧ x ≠ 499) ∨ i ≠ a) → μ' x i = μ x i
/-- a way changes only these -/
def frW (μ μ' : Mem) : Prop := ∀ x i : Int, ((x ≠ 493 ∧ x ≠ 494 ∧ (x < 498 ∨ 502 < x)) ∨ (x = 493 ∧ i ≠ 4 ∧ i ≠ 5 ∧ i ≠ 11 ∧ i ≠ 15 ∧ i ≠ 18)) → μ' x i = μ x i
theorem frW_rf {μ : Mem} : frW μ μ := fun _ _ _ => rfl
theorem frW_tr {μ μ' μ'' : Mem} (h : frW μ μ') (h' : frW μ' μ'') : frW μ μ'' := fun x i hx => (h' x i hx).trans (h x i hx)
theorem frQ_W {μ μ' : Mem} (h : frQ μ μ') : frW μ μ' := fun x i hx => h x i (by omega)
theorem frP_W {a : Int} {μ μ' : Mem} (h : frP a μ μ') : frW μ μ' := fun x i hx => h x i (by omega) (by omega) (by omega)
theorem fr4_W {μ μ' : Mem} (h : ∀ x i : Int, x ≠ 494 → μ' x i = μ x i) : frW μ μ' := fun x i hx => h x i (by omega)
theorem PU_fr {μ μ' : Mem} {a : Int} {m : Pt} (h : PU μ a m) (h1 : μ' 498 a = μ 498 a) (h2 : μ' 499 a = μ 499 a) : PU μ' a m := ⟨h1.trans h.1, h2.trans h.2⟩
theorem SW_of {w w' : Dv} (h : SW w) (he : ∀ i : Int, i < 165 → i ≠ 2 → i ≠ 3 → i ≠ 4 → w' i = w i) : SW w' := by
  obtain ⟨h1, h2, h3⟩ := h
  unfold SW
  rw [he 0 (by decide) (by decide) (by decide) (by decide), he 1 (by decide) (by decide) (by decide) (by decide)]
  refine ⟨h1, h2, fun a how a0 a1 s s0 s1 => ?_⟩
  have := h3 a how a0 a1 s s0 s1
  unfold rowW at this ⊢
  rw [he (5 + 16 * a + s) (by omega) (by omega) (by omega) (by omega), he (85 + 16 * a + s) (by omega) (by omega) (by omega) (by omega)]
  exact this
/-- an empty division, as yet none -/
def hsW (w : Dv) (v : Int) : Dv := fun i => if i = 2 then v else w i
theorem hsW_ne {w : Dv} {v i : Int} (h : i ≠ 2) : hsW w v i = w i := if_neg h
section
variable {n : Int} {μ : Mem} {Q : Option AV → Lay → Mem → Prop}
theorem c_X10_unites {w : Dv} {y : Int} (hr : RWm μ w) (hu : WFu w) (hy : 0 < y) (hf : μ 493 11 = 0)
    (hok : ∀ w', unS w y = some w' → ∀ μ', RWm μ' w' → μ' 493 11 = 0 → (∀ x i, (x ≠ 493 ∨ i ≠ 11) → (x ≠ 494 ∨ i ≠ 3) → μ' x i = μ x i) → Q none (L0 n) μ')
    (hno : unS w y = none → ∀ μ', RWm μ' w → μ' 493 11 = 1 → (∀ x i, (x ≠ 493 ∨ i ≠ 11) → (x ≠ 494 ∨ i ≠ 3) → μ' x i = μ x i) → Q none (L0 n) μ') : TR mX10_unites 1 (0, 0) [(2, 493), (1, y)] (L0 n) μ Q := by
  obtain ⟨u1, u2⟩ := hu
  have none_ : unS w y = none → ∀ s0 : Int, ¬ s0 ≤ 1000000000 → WA mX10_unites 1 (0, 0) 40 [(2, 493), (9, 0), (9, 0), (9, 0), (9, 0)] [(1, s0)] (L0 n) μ Q := fun e s0 hs0 => by
    apply s_X10_unites_40 (layOK n) k493
    rw [rf_ref.1]
    refine ⟨fun q => absurd q hs0, fun _ => ⟨fun q => absurd (q.symm.trans (up_eq μ 493 11 1)) (by decide), fun _ => ?_⟩⟩
    refine hno e _ (fun i i0 i1 => ?_) (by rw [up_ne (Or.inl (by decide)), up_eq]) (fun x i h1 h2 => by rw [up_ne h2, up_ne h1])
    by_cases z : i = 3
    · rw [z, up_eq, up_ne (Or.inl (by decide))]; exact hr 3 (by decide) (by decide)
    · rw [up_ne (Or.inr z), up_ne (Or.inl (by decide))]; exact hr i i0 i1
  apply t_X10_unites (layOK n) k493
  rw [rf_ref.1, hr 3 (by decide) (by decide)]
  refine ⟨fun q => absurd hf q, fun _ => ⟨fun q => ?_, fun q => none_ (by unfold unS; rw [if_pos (Or.inl (by omega))]) _ (by decide)⟩⟩
  have g := gc_pos (x := w 3) hy
  have e0 : w 3 / gc (w 3) y = rdN (w 3) y := rfl
  have r0 := rdN_nn (x := w 3) (y := y) (by omega)
  have r1 := rdN_le (x := w 3) (y := y) (by omega)
  have mb := mulLB r0 (show 0 ≤ y by omega) (show rdN (w 3) y ≤ 1000000000 by omega) q
  refine c_X10_divisor (by omega) (by omega) ⟨_, rfl, rfl, ⟨by omega, g⟩, ?_⟩
  rw [e0]
  refine ⟨⟨by omega, by omega⟩, ?_⟩
  by_cases z : rdN (w 3) y * y ≤ 1000000000
  · apply s_X10_unites_40 (layOK n) k493
    rw [rf_ref.1]
    refine ⟨fun _ => ⟨fun _ => ?_, fun q2 => absurd (up_eq μ 493 11 0) q2⟩, fun q2 => absurd z q2⟩
    refine hok _ (by unfold unS; rw [if_neg (by omega)]) _ (fun i i0 i1 => ?_) (by rw [up_ne (Or.inl (by decide)), up_eq]) (fun x i h1 h2 => by rw [up_ne h2, up_ne h1])
    by_cases z : i = 3
    · rw [z, up_eq, setU_3]
    · rw [up_ne (Or.inr z), up_ne (Or.inl (by decide)), setU_ne z]; exact hr i i0 i1
  · exact none_ (by unfold unS; rw [if_pos (Or.inr (by omega))]) _ z
theorem c_X10_happens {w : Dv} {e0 e1 e2 e3 e4 e5 : Int} (hr : RWm μ w) (h4 : 0 ≤ w 4 ∧ w 4 < 49)
    (h : ∀ μ', RWm μ' (happ w e0 e1 e2 e3 e4 e5) → (∀ x i, x ≠ 494 → μ' x i = μ x i) → Q none (L0 n) μ') : TR mX10_happens 0 (0, 0) [(2, 493), (0, e0), (0, e1), (1, e2), (1, e3), (1, e4), (1, e5)] (L0 n) μ Q := by
  apply t_X10_happens (layOK n) k493
  rw [rf_ref.1, hr 4 (by decide) (by decide)]
  rw [up_ne (a := 494) (i := 4) (Or.inr (by omega)), up_ne (a := 494) (i := 4) (Or.inr (by omega)), up_ne (a := 494) (i := 4) (Or.inr (by omega)), up_ne (a := 494) (i := 4) (Or.inr (by omega)), up_ne (a := 494) (i := 4) (Or.inr (by omega)), up_ne (a := 494) (i := 4) (Or.inr (by omega)), hr 4 (by decide) (by decide)]
  refine ⟨⟨by omega, by omega⟩, ⟨by omega, by omega⟩, ⟨by omega, by omega⟩, ⟨by omega, by omega⟩, ⟨by omega, by omega⟩, ⟨by omega, by omega⟩, ⟨by omega, by omega⟩, ⟨by omega, by omega⟩, ⟨by omega, by omega⟩, ⟨by omega, by omega⟩, ⟨by omega, by omega⟩, ⟨by omega, by omega⟩, ⟨by omega, by omega⟩, ⟨by omega, by omega⟩, ⟨by omega, by omega⟩, ?_⟩
  refine h _ (fun i i0 i1 => ?_) (fun x i hx => ?_)
  · unfold happ
    by_cases z4 : i = 4
    · rw [z4, up_eq, if_neg (by omega), if_neg (by omega), if_neg (by omega), if_neg (by omega), if_neg (by omega), if_neg (by omega), if_pos rfl]
    · rw [up_ne (Or.inr z4)]
      unfold up
      repeat' split
      all_goals first | rfl | omega | exact hr i i0 i1
  · rw [up_ne (Or.inl hx), up_ne (Or.inl hx), up_ne (Or.inl hx), up_ne (Or.inl hx), up_ne (Or.inl hx), up_ne (Or.inl hx), up_ne (Or.inl hx)]
theorem c_X10_adds {w : Dv} {a e0 e1 e2 e3 : Int} (hr : RWm μ w) (ha : 0 ≤ a ∧ a < 5) (hm : 0 ≤ w (165 + a) ∧ w (165 + a) < 2)
    (h : ∀ μ', RWm μ' (addS w a e0 e1 e2 e3) → (∀ x i, x ≠ 494 → μ' x i = μ x i) → Q none (L0 n) μ') : TR mX10_adds 0 (0, 0) [(2, 493), (0, a), (1, e0), (1, e1), (1, e2), (1, e3)] (L0 n) μ Q := by
  apply t_X10_adds (layOK n) k493
  rw [rf_ref.1, hr (165 + a) (by omega) (by omega)]
  rw [up_ne (a := 494) (i := 165 + a) (Or.inr (by omega)), up_ne (a := 494) (i := 165 + a) (Or.inr (by omega)), up_ne (a := 494) (i := 165 + a) (Or.inr (by omega)), up_ne (a := 494) (i := 165 + a) (Or.inr (by omega)), hr (165 + a) (by omega) (by omega)]
  refine ⟨⟨by omega, by omega⟩, ⟨by omega, by omega⟩, ⟨by omega, by omega⟩, ⟨by omega, by omega⟩, ⟨by omega, by omega⟩, ⟨by omega, by omega⟩, ⟨by omega, by omega⟩, ⟨by omega, by omega⟩, ⟨by omega, by omega⟩, ⟨by omega, by omega⟩, ⟨by omega, by omega⟩, ⟨by omega, by omega⟩, ⟨by omega, by omega⟩, ⟨by omega, by omega⟩, ⟨by omega, by omega⟩, ?_⟩
  refine h _ (fun i i0 i1 => ?_) (fun x i hx => ?_)
  · unfold addS
    by_cases z4 : i = 165 + a
    · rw [z4, up_eq, if_neg (by omega), if_neg (by omega), if_neg (by omega), if_neg (by omega), if_pos rfl]
    · rw [up_ne (Or.inr z4)]
      unfold up
      repeat' split
      all_goals first | rfl | omega | exact hr i i0 i1
  · rw [up_ne (Or.inl hx), up_ne (Or.inl hx), up_ne (Or.inl hx), up_ne (Or.inl hx), up_ne (Or.inl hx)]
theorem c_X10_takes {w : Dv} {a : Int} {p q : Pt} (hr : RWm μ w) (ha : 0 ≤ a ∧ a < 5) (h4 : 0 ≤ w 4 ∧ w 4 < 49) (hm : 0 ≤ w (165 + a) ∧ w (165 + a) < 2)
    (h : ∀ μ', RWm μ' (takeS w a p q) → (∀ x i, x ≠ 494 → μ' x i = μ x i) → Q none (L0 n) μ') : TR mX10_takes 1 (0, 0) [(2, 493), (0, a), (1, p.1), (1, p.2), (1, q.1), (1, q.2)] (L0 n) μ Q := by
  obtain ⟨n1, n2⟩ := note_lo (w := w) (kind := 3) (a := a) (p := p) (q := q) h4.1
  apply t_X10_takes (layOK n) k493
  refine c_X10_happens hr h4 fun μ1 g1 g2 => ⟨rfl, rfl, ?_⟩
  have g1 : RWm μ1 (noteS w 3 a p q) := g1
  refine c_X10_adds g1 ha (by rw [n2 _ (by omega) (by omega)]; exact hm) fun μ2 g3 g4 => ⟨rfl, rfl, ?_⟩
  exact h μ2 g3 (fun x i hx => (g4 x i hx).trans (g2 x i hx))
theorem c_X10_marksPoint {w : Dv} {a u hap : Int} {p v m : Pt} (hr : RWm μ w) (hs : SW w) (ha : 0 ≤ a ∧ a < 5) (hp : ptC w p) (hv : 0 ≤ v.1 ∧ 0 < v.2) (hu : 0 < u ∧ u ≤ 10000000000) (d1 : p.2 ∣ u) (d2 : v.2 ∣ u) (hb : v.1 * rdN p.2 v.2 ≤ 10000000000000000)
    (hwu : WFu w) (h4 : 0 ≤ w 4 ∧ w 4 < 49) (hf : μ 493 11 = 0) (em : markR (rowW w a 1) (w 0).toNat p.1 p.2 v.1 v.2 = some m) (hm : 0 < m.2) (hhap : hap = 0 ∨ hap = 1)
    (hok : ∀ w1, unS w m.2 = some w1 → ∀ μ', RWm μ' (if hap = 1 then noteS w1 0 a m (0, 1) else w1) → PU μ' a m → μ' 493 11 = 0 → frP a μ μ' → Q none (L0 n) μ')
    (hno : unS w m.2 = none → ∀ μ', RWm μ' w → PU μ' a m → μ' 493 11 = 1 → frP a μ μ' → Q none (L0 n) μ') : TR mX10_marksPoint 3 (0, 0) [(2, 493), (0, a), (1, p.1), (1, p.2), (1, v.1), (1, v.2), (0, hap)] (L0 n) μ Q := by
  apply t_X10_marksPoint (layOK n) k493
  refine c_X10_marks hr hs ha hp hv hu d1 d2 hb ?_ ?_
  · intro m' em' μ1 f1 f2
    have : m' = m := by rw [em] at em'; exact (Option.some.inj em').symm
    subst this
    refine ⟨1, rfl, rfl, ha, ?_⟩
    rw [rf_ref.2.2.2.2.1, rf_ref.2.2.2.2.2.1]
    have x5 : up μ1 498 a (μ1 493 4) 493 5 = m'.2 := by rw [up_ne (Or.inl (by decide))]; exact f2.2
    have x5' : up μ1 498 a m'.1 493 5 = m'.2 := by rw [up_ne (Or.inl (by decide))]; exact f2.2
    rw [x5, f2.1, up_ne (a := 493) (i := 5) (Or.inl (by decide)), x5']
    generalize hμ2 : up (up μ1 498 a m'.1) 499 a m'.2 = μ2
    have o2 : ∀ x i, ((x ≠ 498 ∧ x ≠ 499) ∨ i ≠ a) → μ2 x i = μ1 x i := fun x i hx => by rw [← hμ2, up_ne (by omega), up_ne (by omega)]
    have pu : PU μ2 a m' := ⟨by rw [← hμ2, up_ne (Or.inl (by decide)), up_eq], by rw [← hμ2, up_eq]⟩
    have hr2 : RWm μ2 w := RWm_fr (RWm_Q hr f1) (fun i => o2 494 i (Or.inl (by decide)))
    have h11 : μ2 493 11 = 0 := by rw [o2 493 11 (Or.inl (by decide)), f1 493 11 (Or.inr (by decide)), hf]
    have h45 : μ2 493 4 = m'.1 ∧ μ2 493 5 = m'.2 := ⟨by rw [o2 493 4 (Or.inl (by decide))]; exact f2.1, by rw [o2 493 5 (Or.inl (by decide))]; exact f2.2⟩
    have fp : ∀ μ3, (∀ x i, (x ≠ 493 ∨ i ≠ 11) → (x ≠ 494 ∨ i ≠ 3) → μ3 x i = μ2 x i) → frP a μ μ3 := fun μ3 f3 x i h1 h2 h3 => by rw [f3 x i (by omega) (by omega), o2 x i h3, f1 x i (by omega)]
    refine c_X10_unites hr2 hwu hm h11 ?_ ?_
    · intro w1 e1 μ3 r3 z3 f3
      have pu3 : PU μ3 a m' := PU_fr pu (f3 498 a (Or.inl (by decide)) (Or.inl (by decide))) (f3 499 a (Or.inl (by decide)) (Or.inl (by decide)))
      refine ⟨rfl, rfl, fun q => ?_, fun q => ⟨fun q2 => absurd z3 q2, fun _ => ?_⟩⟩
      · have := hok w1 e1 μ3
        rw [if_neg (by omega)] at this
        exact this r3 pu3 z3 (fp μ3 f3)
      · have := hok w1 e1
        rw [if_pos (by omega)] at this
        have ew := (unS_ok (S := 0) hwu hm e1).1
        rw [f3 493 4 (Or.inr (by decide)) (Or.inl (by decide)), f3 493 5 (Or.inr (by decide)) (Or.inl (by decide)), h45.1, h45.2]
        refine c_X10_happens r3 (by rw [ew, setU_ne (by decide)]; exact h4) fun μ4 g1 g2 => ⟨rfl, rfl, ?_⟩
        exact this μ4 g1 (PU_fr pu3 (g2 498 a (by decide)) (g2 499 a (by decide))) ((g2 493 11 (by decide)).trans z3) (fun x i h1 h2 h3 => (g2 x i h2).trans (fp μ3 f3 x i h1 h2 h3))
    · intro e1 μ3 r3 z3 f3
      have pu3 : PU μ3 a m' := PU_fr pu (f3 498 a (Or.inl (by decide)) (Or.inl (by decide))) (f3 499 a (Or.inl (by decide)) (Or.inl (by decide)))
      refine ⟨rfl, rfl, fun q => hno e1 μ3 r3 pu3 z3 (fp μ3 f3), fun q => ⟨fun q2 => hno e1 μ3 r3 pu3 z3 (fp μ3 f3), fun q2 => absurd (q2.symm.trans z3) (by decide)⟩⟩
  · intro e
    rw [em] at e
    cases e
theorem c_X10_copies {x y : Int} (kx : isK (L0 n) x (21, 510)) (ky : isK (L0 n) y (21, 510)) (hxy : x ≠ y)
    (h : ∀ μ', (∀ i : Int, 0 ≤ i → i < 510 → μ' y i = μ x i) → (∀ o i, o ≠ y → μ' o i = μ o i) → Q none (L0 n) μ') : TR mX10_copies 0 (0, 0) [(2, x), (2, y)] (L0 n) μ Q := by
  apply t_X10_copies (layOK n) kx ky
  have key : ∀ (d k : Nat), k + d = 510 → ∀ μ1 : Mem, (∀ i : Int, 0 ≤ i → i < k → μ1 y i = μ x i) → (∀ o i, o ≠ y → μ1 o i = μ o i) → WA mX10_copies 0 (0, 0) 2 [(2, x), (2, y), (0, (k : Int))] [] (L0 n) μ1 Q := by
    intro d
    induction d with
    | zero =>
      intro k hk μ1 h1 h2
      apply s_X10_copies_2 (layOK n) kx ky
      exact ⟨fun _ => h μ1 (fun i i0 i1 => h1 i i0 (by omega)) h2, fun q => absurd (show (510 : Int) ≤ k by omega) q⟩
    | succ d ih =>
      intro k hk μ1 h1 h2
      apply s_X10_copies_2 (layOK n) kx ky
      refine ⟨fun q => absurd q (by omega), fun _ => ⟨⟨by omega, by omega⟩, ⟨by omega, by omega⟩, ?_⟩⟩
      refine ih (k + 1) (by omega) _ (fun i i0 i1 => ?_) (fun o i ho => by rw [up_ne (Or.inl ho), h2 o i ho])
      by_cases z : i = (k : Int)
      · rw [z, up_eq, h2 x _ hxy]
      · rw [up_ne (Or.inr z), h1 i i0 (by omega)]
  exact key 510 0 (by omega) μ (fun i i0 i1 => by omega) (fun _ _ _ => rfl)
theorem c_X10_undivided {w : Dv} (hr : RWm μ w) (h : ∀ μ', RWm μ' (hsW (clrW w) 0) → (∀ x i, x ≠ 494 → μ' x i = μ x i) → Q none (L0 n) μ') : TR mX10_undivided 0 (0, 0) [(2, 493)] (L0 n) μ Q := by
  apply t_X10_undivided (layOK n) k493
  rw [rf_ref.1]
  have key : ∀ (d k : Nat), k + d = 5 → ∀ μ1 : Mem, (∀ i : Int, 0 ≤ i → i < 510 → μ1 494 i = if i = 2 then 0 else if i = 3 then 1 else if i = 4 then 0 else if 165 ≤ i ∧ i < 165 + k then 0 else w i) → (∀ x i, x ≠ 494 → μ1 x i = μ x i) → WA mX10_undivided 0 (0, 0) 23 [(2, 493), (0, (k : Int))] [] (L0 n) μ1 Q := by
    intro d
    induction d with
    | zero =>
      intro k hk μ1 h1 h2
      apply s_X10_undivided_23 (layOK n) k493
      refine ⟨fun _ => h μ1 (fun i i0 i1 => ?_) h2, fun q => absurd (show (5 : Int) ≤ k by omega) q⟩
      rw [h1 i i0 i1]
      unfold hsW clrW
      repeat' split
      all_goals first | rfl | omega
    | succ d ih =>
      intro k hk μ1 h1 h2
      apply s_X10_undivided_23 (layOK n) k493
      rw [rf_ref.1]
      refine ⟨fun q => absurd q (by omega), fun _ => ⟨⟨by omega, by omega⟩, ⟨by omega, by omega⟩, ⟨by omega, by omega⟩, ?_⟩⟩
      refine ih (k + 1) (by omega) _ (fun i i0 i1 => ?_) (fun x i hx => by rw [up_ne (Or.inl hx), h2 x i hx])
      by_cases z : i = 165 + (k : Int)
      · rw [z, up_eq, if_neg (by omega), if_neg (by omega), if_neg (by omega), if_pos (by omega)]
      · rw [up_ne (Or.inr z), h1 i i0 i1]
        repeat' split
        all_goals first | rfl | omega
  refine key 5 0 (by omega) _ (fun i i0 i1 => ?_) (fun x i hx => by rw [up_ne (Or.inl hx), up_ne (Or.inl hx), up_ne (Or.inl hx)])
  unfold up
  repeat' split
  all_goals first | rfl | omega | exact hr i i0 i1
theorem ord_ag {E : WEnv} {k : Int} (hE : EnvOK E) (hk : 0 ≤ k ∧ k < E.N) : (E.f + k) % E.N = ag E k := by
  obtain ⟨-, h1, h2, -⟩ := hE
  unfold ag
  generalize E.N = N at *
  generalize E.f = f at *
  rcases (show N = 2 ∨ N = 3 ∨ N = 4 ∨ N = 5 by omega) with rfl | rfl | rfl | rfl <;> split <;> omega
theorem c_X10_ordered {w : Dv} {E : WEnv} {k : Int} (hr : RWm μ w) (hs : SW w) (hE : EnvOK E) (eN : E.N = w 1) (ef : μ 493 12 = E.f) (hk : 0 ≤ k ∧ k < E.N) (h : Q (some (0, ag E k)) (L0 n) μ) : TR mX10_ordered 1 (0, 0) [(2, 493), (0, k)] (L0 n) μ Q := by
  have hN := hE.2.1
  have hf := hE.2.2.1
  apply t_X10_ordered (layOK n) k493
  rw [ef]
  refine ⟨⟨by omega, by omega⟩, c_X10_agents hr hs ⟨_, rfl, rfl, ⟨by omega, by omega⟩, ?_⟩⟩
  rw [← eN, ord_ag hE hk]
  exact h
theorem c_X10_lastOf {w : Dv} {g b : Int} (hr : RWm μ w) (hs : SW w) (hb : 0 ≤ b ∧ b < w 1) (h1 : bt g b) (h2 : ∀ a : Int, 0 ≤ a → a < w 1 → bt g a → a = b) (h : Q (some (0, b)) (L0 n) μ) : TR mX10_lastOf 1 (0, 0) [(2, 493), (0, g)] (L0 n) μ Q := by
  have hN := hs.2.1
  apply t_X10_lastOf (layOK n) k493
  have key : ∀ (d k : Nat), (k : Int) + d = w 1 → WA mX10_lastOf 1 (0, 0) 4 [(2, 493), (0, g), (0, if b < k then b else -1), (0, (k : Int))] [] (L0 n) μ Q := by
    intro d
    induction d with
    | zero =>
      intro k hk
      apply s_X10_lastOf_4 (layOK n) k493
      refine c_X10_agents hr hs ⟨_, rfl, rfl, fun _ => by rw [if_pos (by omega)]; exact h, fun q => absurd (show w 1 ≤ (k : Int) by omega) q⟩
    | succ d ih =>
      intro k hk
      apply s_X10_lastOf_4 (layOK n) k493
      refine c_X10_agents hr hs ⟨_, rfl, rfl, fun q => absurd q (by omega), fun _ => ⟨fun q => ⟨⟨by omega, by omega⟩, ?_⟩, fun q => ⟨⟨by omega, by omega⟩, ?_⟩⟩⟩
      · have ne : (k : Int) ≠ b := fun e => q (by rw [e]; exact h1)
        have := ih (k + 1) (by omega)
        rw [show (if b < ((k + 1 : Nat) : Int) then b else -1) = (if b < (k : Int) then b else -1) by
          by_cases z : b < (k : Int)
          · rw [if_pos z, if_pos (by omega)]
          · rw [if_neg z, if_neg (by omega)]] at this
        exact this
      · have e := h2 k (by omega) (by omega) q
        have := ih (k + 1) (by omega)
        rw [if_pos (by omega)] at this
        rw [show ((k + 1 : Nat) : Int) = b + 1 by omega] at this
        rw [e]
        exact this
  have := key (w 1).toNat 0 (by omega)
  rw [if_neg (by omega)] at this
  exact this
end
