/-! contracts: Division: cuts -/
def seenOK (μ : Mem) (D S u : Int) (l : List Int) : Prop := ∀ i : Nat, i < l.length → ptW S u (μ (D + 113 + i) 0) (μ (D + 113 + i) 1) ∧ l[i]? = some (prt u (μ (D + 113 + i) 0) (μ (D + 113 + i) 1))
theorem ptW_0 {S u y : Int} (h : ptW S u 0 y) : y = 1 := by
  obtain ⟨-, h1, -, -, h2⟩ := h
  unfold gc at h2
  rw [Int.gcd_zero_left] at h2
  omega
theorem ptW_S {S u : Int} (hS : 0 ≤ S) : ptW S u S 1 := ⟨hS, by omega, by omega, Int.one_dvd u, by unfold gc; rw [Int.gcd_one_right]; rfl⟩
theorem ptW_Z {S u : Int} (hS : 0 ≤ S) : ptW S u 0 1 := ⟨by omega, by omega, by omega, Int.one_dvd u, by unfold gc; rw [Int.gcd_one_right]; rfl⟩
theorem prt_0 {u y : Int} : prt u 0 y = 0 := Int.zero_mul _
theorem prt_1 {u x : Int} : prt u x 1 = x * u := by unfold prt; rw [Int.ediv_one]
section
variable {n : Int} {μ : Mem} {Q : Option AV → Lay → Mem → Prop}
theorem c_X1_see {D p S u : Int} {l : List Int} (kD : isK (L0 n) D (1, 0)) (kp : isK (L0 n) p (3, 0)) (hp : p < D + 113 ∨ D + 132 < p) (hS : 2 ≤ S ∧ S ≤ 16) (hu : 1 ≤ u) (hpt : ptW S u (μ p 0) (μ p 1)) (hl : l.length < 20) (hs : seenOK μ D S u l)
    (h : ∀ μ', seenOK μ' D S u (addC S u l (prt u (μ p 0) (μ p 1))) → (∀ x i, x < D + 113 ∨ D + 132 < x → μ' x i = μ x i) → Q (some (0, ((addC S u l (prt u (μ p 0) (μ p 1))).length : Int))) (L0 n) μ') : TR mX1_see 1 (0, 0) [(2, D), (2, p), (0, (l.length : Int)), (0, S)] (L0 n) μ Q := by
  have hD := dv_is kD
  apply t_X1_see (layOK n) kD kp
  have stay : addC S u l (prt u (μ p 0) (μ p 1)) = l → Q (some (0, (l.length : Int))) (L0 n) μ := fun e => by
    have := h μ (by rw [e]; exact hs) (fun _ _ _ => rfl)
    rw [e] at this
    exact this
  refine c_X3_isAt kp ⟨_, rfl, rfl, fun q => ?_, fun q => ?_⟩
  · have : μ p 0 = 0 := by
      by_cases z : μ p 0 = 0 ∧ μ p 1 = 1
      · exact z.1
      · rw [if_neg z] at q; omega
    refine stay ?_
    unfold addC
    rw [if_pos (Or.inl (by rw [this]; exact prt_0))]
  · have n0 : ¬ (μ p 0 = 0 ∧ μ p 1 = 1) := fun z => by rw [if_pos z] at q; omega
    have v0 : prt u (μ p 0) (μ p 1) ≠ 0 := fun z => by
      have := prt_inj hpt (ptW_Z (S := S) (u := u) (by omega)) hu (by omega) (by rw [z, prt_0])
      exact n0 this
    refine c_X3_isAt kp ⟨_, rfl, rfl, fun q2 => ?_, fun q2 => ?_⟩
    · have n1 : ¬ (μ p 0 = S ∧ μ p 1 = 1) := fun z => by rw [if_pos z] at q2; omega
      have v1 : prt u (μ p 0) (μ p 1) ≠ S * u := fun z => by
        have := prt_inj hpt (ptW_S (S := S) (u := u) (by omega)) hu (by omega) (by rw [z, prt_1])
        exact n1 this
      have key : ∀ (d k : Nat), k + d = l.length → (∀ i : Nat, i < k → l[i]? ≠ some (prt u (μ p 0) (μ p 1))) → WA mX1_see 1 (0, 0) 24 [(2, D), (2, p), (0, (l.length : Int)), (9, 0), (0, (k : Int))] [] (L0 n) μ Q := by
        intro d
        induction d with
        | zero =>
          intro k hk hno
          have kN := (dv_K kD).2.2.1 l.length (by omega) (by omega)
          apply s_X1_see_24 (layOK n) kD kp
          rw [(dv_rf hD).2.2.2.1, (dv_all hD).2.2 _ (by omega) (by omega)]
          refine ⟨fun _ => ⟨fun _ => ⟨⟨by omega, by omega⟩, c_X3_copy kN kp ⟨rfl, rfl, ⟨by omega, by omega⟩, ?_⟩⟩, fun z => absurd (show (l.length : Int) < 20 by omega) z⟩, fun z => absurd (show (l.length : Int) ≤ k by omega) z⟩
          have nin : prt u (μ p 0) (μ p 1) ∉ l := fun z => by
            obtain ⟨i, hi⟩ := List.getElem?_of_mem z
            have := (List.getElem?_eq_some_iff.mp hi).1
            exact hno i (by omega) hi
          have e : addC S u l (prt u (μ p 0) (μ p 1)) = l ++ [prt u (μ p 0) (μ p 1)] := by
            unfold addC
            rw [if_neg]
            rintro (z | z | z)
            · exact v0 z
            · exact v1 z
            · exact nin z
          have hp' : p ≠ D + 113 + (l.length : Int) := by omega
          have := h (up (up μ (D + 113 + (l.length : Int)) 0 (μ p 0)) (D + 113 + (l.length : Int)) 1 (μ p 1)) ?_ (fun x i hx => by rw [up_ne (Or.inl (by omega)), up_ne (Or.inl (by omega))])
          · rw [e, List.length_append, List.length_singleton] at this
            rw [show ((l.length : Int) + 1) = ((l.length + 1 : Nat) : Int) by omega]
            exact this
          · rw [e]
            intro i hi
            rw [List.length_append, List.length_singleton] at hi
            by_cases z : i = l.length
            · subst z
              rw [up_ne (k := 1) (i := 0) (Or.inr (by omega)), up_eq, up_eq]
              refine ⟨hpt, ?_⟩
              rw [List.getElem?_append_right (Nat.le_refl _), Nat.sub_self]
              rfl
            · have := hs i (by omega)
              rw [up_ne (Or.inl (by omega)), up_ne (Or.inl (by omega)), up_ne (Or.inl (by omega)), up_ne (Or.inl (by omega)), List.getElem?_append_left (by omega)]
              exact this
        | succ d ih =>
          intro k hk hno
          have kN := (dv_K kD).2.2.1 k (by omega) (by omega)
          obtain ⟨s1, s2⟩ := hs k (by omega)
          apply s_X1_see_24 (layOK n) kD kp
          rw [(dv_rf hD).2.2.2.1, (dv_all hD).2.2 k (by omega) (by omega)]
          refine ⟨fun z => absurd z (by omega), fun _ => ⟨⟨by omega, by omega⟩, c_X3_isAt kN ⟨_, rfl, rfl, fun z => ⟨⟨by omega, by omega⟩, ih (k + 1) (by omega) fun i hi => ?_⟩, fun z => ?_⟩⟩⟩
          · by_cases y : i = k
            · subst y
              rw [s2]
              intro he
              have := prt_inj s1 hpt hu (by omega) (Option.some.inj he)
              rw [if_pos this] at z
              omega
            · exact hno i (by omega)
          · have he : μ (D + 113 + (k : Int)) 0 = μ p 0 ∧ μ (D + 113 + (k : Int)) 1 = μ p 1 := by
              by_cases y : μ (D + 113 + (k : Int)) 0 = μ p 0 ∧ μ (D + 113 + (k : Int)) 1 = μ p 1
              · exact y
              · rw [if_neg y] at z; omega
            refine stay ?_
            unfold addC
            rw [if_pos (Or.inr (Or.inr (List.mem_of_getElem? (i := k) (by rw [s2, he.1, he.2]))))]
      exact key l.length 0 (by omega) (fun i hi => by omega)
    · have : μ p 0 = S ∧ μ p 1 = 1 := by
        by_cases z : μ p 0 = S ∧ μ p 1 = 1
        · exact z
        · rw [if_neg z] at q2; omega
      refine stay ?_
      unfold addC
      rw [if_pos (Or.inr (Or.inl (by rw [this.1, this.2, prt_1])))]
theorem c_X1_countCuts {D S : Int} {w : Int → Int} (kD : isK (L0 n) D (1, 0)) (hS : 2 ≤ S ∧ S ≤ 16) (hr : DR μ D w) (hu : WFu w) (hs : WFs S w)
    (h : ∀ μ', (∀ x i, x < D + 113 ∨ D + 132 < x → μ' x i = μ x i) → Q (some (0, ((cutN S w 5).length : Int))) (L0 n) μ') : TR mX1_countCuts 3 (0, 0) [(2, D), (0, S)] (L0 n) μ Q := by
  have hD := dv_is kD
  obtain ⟨-, -, r4, r5⟩ := hr
  have eH : ∀ b j, hl D b j = D + 83 + 3 * (2 * b + j) := fun _ _ => rfl
  have hu1 := hu.1
  have hu2 := hu.2
  apply t_X1_countCuts (layOK n) kD
  have key : ∀ (d k : Nat), k + d = 5 → ∀ μ', seenOK μ' D S (w 3) (cutN S w k) → (∀ x i, x < D + 113 ∨ D + 132 < x → μ' x i = μ x i) → WA mX1_countCuts 3 (0, 0) 4 [(2, D), (0, S), (0, ((cutN S w k).length : Int)), (0, (k : Int)), (9, 0), (9, 0)] [] (L0 n) μ' Q := by
    intro d
    induction d with
    | zero =>
      intro k hk μ' g1 g2
      have : k = 5 := by omega
      subst this
      apply s_X1_countCuts_4 (layOK n) kD
      exact ⟨fun _ => h μ' g2, fun q => absurd (show (5 : Int) ≤ ((5 : Nat) : Int) by omega) q⟩
    | succ d ih =>
      intro k hk μ' g1 g2
      obtain ⟨hm, hpts⟩ := hs k (by omega) (by omega)
      have hlen := cutN_len (S := S) (w := w) k
      apply s_X1_countCuts_4 (layOK n) kD
      refine ⟨fun q => absurd q (by omega), fun _ => ?_⟩
      -- one span
      have step : ∀ (j : Int) (l : List Int), 0 ≤ j → j < w (165 + (k : Int)) → l.length ≤ 18 → ∀ μ'', seenOK μ'' D S (w 3) l → (∀ x i, x < D + 113 ∨ D + 132 < x → μ'' x i = μ x i) → (∀ μ3, seenOK μ3 D S (w 3) (cutK S w l k j) → (∀ x i, x < D + 113 ∨ D + 132 < x → μ3 x i = μ x i) → WA mX1_countCuts 3 (0, 0) 12 [(2, D), (0, S), (0, ((cutK S w l k j).length : Int)), (0, (k : Int)), (0, j + 1), (9, 0)] [] (L0 n) μ3 Q) → WA mX1_countCuts 3 (0, 0) 12 [(2, D), (0, S), (0, (l.length : Int)), (0, (k : Int)), (0, j), (9, 0)] [] (L0 n) μ'' Q := by
        intro j l j0 j1 hle μ'' p1 p2 hnext
        obtain ⟨w1, w2, w3⟩ := hpts j j0 j1
        obtain ⟨q0, q1, q2, q3⟩ := r5 k j (by omega) (by omega) j0 j1
        have kH := hl_K (a := (k : Int)) (k := j) kD ⟨by omega, by omega⟩ ⟨by omega, by omega⟩
        obtain ⟨f1, f2, f3, f4⟩ := sp_at kH
        have o1 : ∀ i, μ'' (hl D k j + 1) i = μ (hl D k j + 1) i := fun i => p2 _ i (by rw [eH]; omega)
        have o2 : ∀ i, μ'' (hl D k j + 2) i = μ (hl D k j + 2) i := fun i => p2 _ i (by rw [eH]; omega)
        have y1 : w (171 + 8 * (k : Int) + 4 * j) ≤ w 3 := Int.le_of_dvd (by omega) w1.2.2.2.1
        have y2 : w (173 + 8 * (k : Int) + 4 * j) ≤ w 3 := Int.le_of_dvd (by omega) w2.2.2.2.1
        apply s_X1_countCuts_12 (layOK n) kD
        rw [(dv_rf hD).2.1, p2 (D + 2) k (by omega), r4 k (by omega) (by omega)]
        refine ⟨⟨by omega, by omega⟩, fun q => absurd q (by omega), fun _ => ?_⟩
        refine c_X1_held kD ⟨by omega, by omega⟩ ⟨by omega, by omega⟩ ⟨_, rfl, rfl, kH, ?_⟩
        refine c_X7_isEmpty kH ⟨by rw [o1, q0]; exact w1.1, by rw [o1, q1]; exact w1.2.1⟩ ⟨by rw [o2, q2]; exact w2.1, by rw [o2, q3]; exact w2.2.1⟩ (by rw [o1, o2, q1, q3]; exact den_mul ⟨w1.2.1, by omega⟩ ⟨w2.2.1, by omega⟩) fun e he => ⟨e, rfl, rfl, fun q => ?_, fun q => ?_⟩
        · rw [o1, o1, o2, o2, q0, q1, q2, q3] at he
          have e1 : cutK S w l k j = l := by unfold cutK neS; rw [if_neg (by omega)]
          rw [e1] at hnext
          exact ⟨⟨by omega, by omega⟩, hnext μ'' p1 p2⟩
        · rw [o1, o1, o2, o2, q0, q1, q2, q3] at he
          have e1 : cutK S w l k j = addC S (w 3) (addC S (w 3) l (prt (w 3) (w (170 + 8 * (k : Int) + 4 * j)) (w (171 + 8 * (k : Int) + 4 * j)))) (prt (w 3) (w (172 + 8 * (k : Int) + 4 * j)) (w (173 + 8 * (k : Int) + 4 * j))) := by unfold cutK neS; rw [if_pos (by omega)]
          rw [f1, f2]
          have l1 := addC_len (S := S) (u := w 3) (l := l) (v := prt (w 3) (w (170 + 8 * (k : Int) + 4 * j)) (w (171 + 8 * (k : Int) + 4 * j)))
          refine c_X1_see kD f3 (by rw [eH]; omega) hS hu1 (by rw [o1, o1, q0, q1]; exact w1) (by omega) p1 fun μ4 t1 t2 => ⟨_, rfl, rfl, ?_⟩
          rw [o1, o1, q0, q1] at t1 ⊢
          have o3 : ∀ i, μ4 (hl D k j + 2) i = μ (hl D k j + 2) i := fun i => (t2 _ i (by rw [eH]; omega)).trans (o2 i)
          refine c_X1_see kD f4 (by rw [eH]; omega) hS hu1 (by rw [o3, o3, q2, q3]; exact w2) (by omega) t1 fun μ5 t3 t4 => ⟨_, rfl, rfl, ⟨by omega, by omega⟩, ?_⟩
          rw [o3, o3, q2, q3] at t3 ⊢
          rw [← e1] at t3 ⊢
          exact hnext μ5 t3 (fun x i hx => (t4 x i hx).trans ((t2 x i hx).trans (p2 x i hx)))
      have fin : ∀ (j : Int) (μ3 : Mem), 0 ≤ j → w (165 + (k : Int)) ≤ j → seenOK μ3 D S (w 3) (cutN S w (k + 1)) → (∀ x i, x < D + 113 ∨ D + 132 < x → μ3 x i = μ x i) → WA mX1_countCuts 3 (0, 0) 12 [(2, D), (0, S), (0, ((cutN S w (k + 1)).length : Int)), (0, (k : Int)), (0, j), (9, 0)] [] (L0 n) μ3 Q := by
        intro j μ3 j0 j1 t1 t2
        apply s_X1_countCuts_12 (layOK n) kD
        rw [(dv_rf hD).2.1, t2 (D + 2) k (by omega), r4 k (by omega) (by omega)]
        exact ⟨⟨by omega, by omega⟩, fun _ => ⟨⟨by omega, by omega⟩, ih (k + 1) (by omega) μ3 t1 t2⟩, fun q => absurd j1 q⟩
      have e5 : cutN S w (k + 1) = cutA S w (cutN S w k) (k : Int) := rfl
      by_cases h1 : 1 < w (165 + (k : Int))
      · have e6 : cutA S w (cutN S w k) (k : Int) = cutK S w (cutK S w (cutN S w k) k 0) k 1 := by unfold cutA; rw [if_pos h1]
        have lk := cutK_len (S := S) (w := w) (l := cutN S w k) (a := (k : Int)) (k := 0)
        refine step 0 _ (by omega) (by omega) (by omega) μ' g1 g2 fun μ3 t1 t2 => ?_
        refine step (0 + 1) _ (by omega) (by omega) (by omega) μ3 t1 t2 fun μ4 t3 t4 => ?_
        rw [Int.zero_add] at t3 ⊢
        rw [← e6, ← e5] at t3 ⊢
        exact fin _ μ4 (by omega) (by omega) t3 t4
      · by_cases h0 : 0 < w (165 + (k : Int))
        · have e6 : cutA S w (cutN S w k) (k : Int) = cutK S w (cutN S w k) k 0 := by unfold cutA; rw [if_neg h1, if_pos h0]
          refine step 0 _ (by omega) (by omega) (by omega) μ' g1 g2 fun μ3 t1 t2 => ?_
          rw [← e6, ← e5] at t1 ⊢
          exact fin _ μ3 (by omega) (by omega) t1 t2
        · have e6 : cutA S w (cutN S w k) (k : Int) = cutN S w k := by unfold cutA; rw [if_neg h1, if_neg h0]
          have := fin 0 μ' (by omega) (by omega) (by rw [e5, e6]; exact g1) g2
          rw [e5, e6] at this
          exact this
  exact key 5 0 (by omega) μ (fun i hi => by simp [cutN] at hi) (fun _ _ _ => rfl)
end
