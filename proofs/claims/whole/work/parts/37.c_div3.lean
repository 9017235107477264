/-! contracts: Division: copy, overlaps -/
section
variable {n : Int} {μ : Mem} {Q : Option AV → Lay → Mem → Prop}
theorem c_X1_copy {D E : Int} {w : Int → Int} (kD : isK (L0 n) D (1, 0)) (kE : isK (L0 n) E (1, 0)) (hne : D ≠ E) (hr : DR μ E w) (hn : 0 ≤ w 4 ∧ w 4 ≤ 19) (hmany : ∀ a : Int, 0 ≤ a → a < 5 → 0 ≤ w (165 + a) ∧ w (165 + a) ≤ 2) (h0 : μ E 0 = 0 ∨ μ E 0 = 1) (h1 : μ E 1 = 0 ∨ μ E 1 = 1)
    (h : ∀ μ', DR μ' D w → μ' D 0 = μ E 0 → μ' D 1 = μ E 1 → (∀ x i, outD D x → μ' x i = μ x i) → Q none (L0 n) μ') : TR mX1_copy 4 (0, 0) [(2, D), (2, E)] (L0 n) μ Q := by
  have hD := dv_is kD
  have hE := dv_is kE
  obtain ⟨r1, ⟨r2, r3⟩, r4, r5⟩ := hr
  unfold DRu at r1
  have eA : ∀ D j, evA D j = D + 7 + 4 * j := fun _ _ => rfl
  have eH : ∀ D b j, hl D b j = D + 83 + 3 * (2 * b + j) := fun _ _ _ => rfl
  have eO : ∀ x, outD D x ↔ x < D ∨ D + 132 < x := fun _ => Iff.rfl
  apply t_X1_copy (layOK n) kD kE
  have e1 : ∀ i, up μ D 0 (μ E 0) E i = μ E i := fun i => up_ne (Or.inl (Ne.symm hne))
  have e2 : ∀ i, up (up μ D 0 (μ E 0)) D 1 (μ E 1) E i = μ E i := fun i => by rw [up_ne (Or.inl (Ne.symm hne)), e1]
  have e3 : ∀ i, up (up (up μ D 0 (μ E 0)) D 1 (μ E 1)) D 2 (μ E 2) E i = μ E i := fun i => by rw [up_ne (Or.inl (Ne.symm hne)), e2]
  rw [e1, e2, e3]
  refine ⟨h0, h1, ?_⟩
  -- behind the events: the spans
  have spans : ∀ (d k : Nat), k + d = 5 → ∀ μ', μ' D 0 = μ E 0 → μ' D 1 = μ E 1 → DRu μ' D w → DRe μ' D w → (∀ x i, outD D x → μ' x i = μ x i) → (∀ a : Int, 0 ≤ a → a < k → μ' (D + 2) a = w (165 + a)) → (∀ a j : Int, 0 ≤ a → a < k → 0 ≤ j → j < w (165 + a) → μ' (hl D a j + 1) 0 = w (170 + 8 * a + 4 * j) ∧ μ' (hl D a j + 1) 1 = w (171 + 8 * a + 4 * j) ∧ μ' (hl D a j + 2) 0 = w (172 + 8 * a + 4 * j) ∧ μ' (hl D a j + 2) 1 = w (173 + 8 * a + 4 * j)) →
      WA mX1_copy 4 (0, 0) 65 [(2, D), (2, E), (0, (k : Int)), (9, 0)] [] (L0 n) μ' Q := by
    intro d
    induction d with
    | zero =>
      intro k hk μ' g0 g1 g2 g3 g4 g5 g6
      apply s_X1_copy_65 (layOK n) kD kE
      exact ⟨fun _ => h μ' ⟨g2, g3, fun a a0 a1 => g5 a a0 (by omega), fun a j a0 a1 => g6 a j a0 (by omega)⟩ g0 g1 g4, fun q => absurd (show (5 : Int) ≤ k by omega) q⟩
    | succ d ih =>
      intro k hk μ' g0 g1 g2 g3 g4 g5 g6
      have hm := hmany k (by omega) (by omega)
      have old : ∀ x i, E ≤ x → x ≤ E + 132 → μ' x i = μ x i := fun x i x0 x1 => g4 x i ((eO x).mpr (by omega))
      apply s_X1_copy_65 (layOK n) kD kE
      rw [(dv_rf hD).2.1, (dv_rf hE).2.1, old (E + 2) k (by omega) (by omega), r4 k (by omega) (by omega)]
      refine ⟨fun q => absurd q (by omega), fun _ => ⟨⟨by omega, by omega⟩, ?_⟩⟩
      have inner : ∀ (f j : Nat), (j : Int) + f = w (165 + (k : Int)) → ∀ μ'', μ'' D 0 = μ E 0 → μ'' D 1 = μ E 1 → DRu μ'' D w → DRe μ'' D w → (∀ x i, outD D x → μ'' x i = μ x i) → (∀ a : Int, 0 ≤ a → a < k + 1 → μ'' (D + 2) a = w (165 + a)) → (∀ a i : Int, 0 ≤ a → (a < k ∧ i < w (165 + a) ∨ a = k ∧ i < j) → 0 ≤ i → μ'' (hl D a i + 1) 0 = w (170 + 8 * a + 4 * i) ∧ μ'' (hl D a i + 1) 1 = w (171 + 8 * a + 4 * i) ∧ μ'' (hl D a i + 2) 0 = w (172 + 8 * a + 4 * i) ∧ μ'' (hl D a i + 2) 1 = w (173 + 8 * a + 4 * i)) →
          WA mX1_copy 4 (0, 0) 84 [(2, D), (2, E), (0, (k : Int)), (0, (j : Int))] [] (L0 n) μ'' Q := by
        intro f
        induction f with
        | zero =>
          intro j hj μ'' p0 p1 p2 p3 p4 p5 p6
          apply s_X1_copy_84 (layOK n) kD kE
          rw [(dv_rf hD).2.1, p5 k (by omega) (by omega)]
          refine ⟨⟨by omega, by omega⟩, fun _ => ⟨⟨by omega, by omega⟩, ?_⟩, fun q => absurd (show w (165 + (k : Int)) ≤ j by omega) q⟩
          refine ih (k + 1) (by omega) μ'' p0 p1 p2 p3 p4 (fun a a0 a1 => p5 a a0 (by omega)) (fun a i a0 a1 i0 i1 => p6 a i a0 ?_ i0)
          by_cases z : a = k
          · right; refine ⟨z, ?_⟩; rw [z] at i1; omega
          · left; exact ⟨by omega, i1⟩
        | succ f ihf =>
          intro j hj μ'' p0 p1 p2 p3 p4 p5 p6
          have old2 : ∀ x i, E ≤ x → x ≤ E + 132 → μ'' x i = μ x i := fun x i x0 x1 => p4 x i ((eO x).mpr (by omega))
          obtain ⟨q0, q1, q2, q3⟩ := r5 k j (by omega) (by omega) (by omega) (by omega)
          have kH := hl_K (a := (k : Int)) (k := (j : Int)) kD ⟨by omega, by omega⟩ ⟨by omega, by omega⟩
          have kH2 := hl_K (a := (k : Int)) (k := (j : Int)) kE ⟨by omega, by omega⟩ ⟨by omega, by omega⟩
          apply s_X1_copy_84 (layOK n) kD kE
          rw [(dv_rf hD).2.1, p5 k (by omega) (by omega)]
          refine ⟨⟨by omega, by omega⟩, fun q => absurd q (by omega), fun _ => ?_⟩
          refine c_X1_held kD ⟨by omega, by omega⟩ ⟨by omega, by omega⟩ ⟨_, rfl, rfl, kH, ?_⟩
          refine c_X1_held kE ⟨by omega, by omega⟩ ⟨by omega, by omega⟩ ⟨_, rfl, rfl, kH2, ?_⟩
          refine c_X7_copy kH kH2 (by rw [eH, eH]; omega) ⟨rfl, rfl, ⟨by omega, by omega⟩, ?_⟩
          rw [old2 _ _ (by rw [eH]; omega) (by rw [eH]; omega), old2 _ _ (by rw [eH]; omega) (by rw [eH]; omega), old2 _ _ (by rw [eH]; omega) (by rw [eH]; omega), old2 _ _ (by rw [eH]; omega) (by rw [eH]; omega), q0, q1, q2, q3]
          have m1 := spW_in (μ := μ'') (s := hl D k j) (a := w (170 + 8 * (k : Int) + 4 * (j : Int))) (b := w (171 + 8 * (k : Int) + 4 * (j : Int))) (c := w (172 + 8 * (k : Int) + 4 * (j : Int))) (d := w (173 + 8 * (k : Int) + 4 * (j : Int)))
          refine ihf (j + 1) (by omega) _ ?_ ?_ ?_ ⟨?_, fun i i0 i1 => ?_⟩ (fun x i hx => ?_) (fun a a0 a1 => ?_) (fun a i a0 a1 i0 => ?_)
          · rw [spW_ne ⟨by rw [eH]; omega, by rw [eH]; omega⟩]; exact p0
          · rw [spW_ne ⟨by rw [eH]; omega, by rw [eH]; omega⟩]; exact p1
          · unfold DRu; rw [spW_ne ⟨by rw [eH]; omega, by rw [eH]; omega⟩]; exact p2
          · rw [spW_ne ⟨by rw [eH]; omega, by rw [eH]; omega⟩]; exact p3.1
          · have hE2 := p3.2 i i0 i1
            rw [spW_ne ⟨by rw [eH, eA]; omega, by rw [eH, eA]; omega⟩, spW_ne ⟨by rw [eH, eA]; omega, by rw [eH, eA]; omega⟩, spW_ne ⟨by rw [eH, eA]; omega, by rw [eH, eA]; omega⟩, spW_ne ⟨by rw [eH, eA]; omega, by rw [eH, eA]; omega⟩, spW_ne ⟨by rw [eH, eA]; omega, by rw [eH, eA]; omega⟩, spW_ne ⟨by rw [eH, eA]; omega, by rw [eH, eA]; omega⟩]
            exact hE2
          · rw [eO] at hx
            rw [spW_ne ⟨by rw [eH]; omega, by rw [eH]; omega⟩]
            exact p4 x i ((eO x).mpr hx)
          · rw [spW_ne ⟨by rw [eH]; omega, by rw [eH]; omega⟩]; exact p5 a a0 a1
          · by_cases z : a = k ∧ i = j
            · obtain ⟨rfl, rfl⟩ := z
              exact m1
            · have hi2 : i < 2 ∧ a ≤ k := by
                rcases a1 with ⟨b1, b2⟩ | ⟨b1, b2⟩
                · have := hmany a a0 (by omega); omega
                · omega
              have hp := p6 a i a0 (by omega) i0
              rw [spW_ne ⟨by rw [eH, eH]; omega, by rw [eH, eH]; omega⟩, spW_ne ⟨by rw [eH, eH]; omega, by rw [eH, eH]; omega⟩, spW_ne ⟨by rw [eH, eH]; omega, by rw [eH, eH]; omega⟩, spW_ne ⟨by rw [eH, eH]; omega, by rw [eH, eH]; omega⟩]
              exact hp
      refine inner (w (165 + (k : Int))).toNat 0 (by omega) _ ?_ ?_ ?_ ⟨?_, fun i i0 i1 => ?_⟩ (fun x i hx => ?_) (fun a a0 a1 => ?_) (fun a i a0 a1 i0 => ?_)
      · rw [up_ne (Or.inl (by omega))]; exact g0
      · rw [up_ne (Or.inl (by omega))]; exact g1
      · unfold DRu; rw [up_ne (Or.inl (by omega))]; exact g2
      · rw [up_ne (Or.inl (by omega))]; exact g3.1
      · have hE2 := g3.2 i i0 i1
        rw [up_ne (Or.inl (by rw [eA]; omega)), up_ne (Or.inl (by rw [eA]; omega)), up_ne (Or.inl (by rw [eA]; omega)), up_ne (Or.inl (by rw [eA]; omega)), up_ne (Or.inl (by rw [eA]; omega)), up_ne (Or.inl (by rw [eA]; omega))]
        exact hE2
      · rw [eO] at hx
        rw [up_ne (Or.inl (by omega))]
        exact g4 x i ((eO x).mpr hx)
      · by_cases z : a = k
        · rw [z, up_eq]
        · rw [up_ne (Or.inr z)]; exact g5 a a0 (by omega)
      · have hp := g6 a i a0 (by omega) i0 (by omega)
        have hi2 := hmany a a0 (by omega)
        rw [up_ne (Or.inl (by rw [eH]; omega)), up_ne (Or.inl (by rw [eH]; omega)), up_ne (Or.inl (by rw [eH]; omega)), up_ne (Or.inl (by rw [eH]; omega))]
        exact hp
  -- the events
  have evs : ∀ (d k : Nat), (k : Int) + d = w 4 → ∀ μ', μ' D 0 = μ E 0 → μ' D 1 = μ E 1 → DRu μ' D w → μ' D 3 = w 4 → (∀ x i, outD D x → μ' x i = μ x i) → (∀ j : Int, 0 ≤ j → j < k → μ' (evA D j) 0 = w (210 + 6 * j) ∧ μ' (evA D j) 1 = w (211 + 6 * j) ∧ μ' (evA D j + 2) 0 = w (212 + 6 * j) ∧ μ' (evA D j + 2) 1 = w (213 + 6 * j) ∧ μ' (evA D j + 3) 0 = w (214 + 6 * j) ∧ μ' (evA D j + 3) 1 = w (215 + 6 * j)) →
      WA mX1_copy 4 (0, 0) 34 [(2, D), (2, E), (0, (k : Int)), (9, 0)] [] (L0 n) μ' Q := by
    intro d
    induction d with
    | zero =>
      intro k hk μ' g0 g1 g2 g3 g4 g5
      apply s_X1_copy_34 (layOK n) kD kE
      rw [g3]
      refine ⟨fun _ => ?_, fun q => absurd (show w 4 ≤ k by omega) q⟩
      exact spans 5 0 (by omega) μ' g0 g1 g2 ⟨g3, fun j j0 j1 => g5 j j0 (by omega)⟩ g4 (fun a a0 a1 => by omega) (fun a j a0 a1 => by omega)
    | succ d ih =>
      intro k hk μ' g0 g1 g2 g3 g4 g5
      have kV := (dv_K kD).1 k (by omega) (by omega)
      have kV2 := (dv_K kE).1 k (by omega) (by omega)
      have old : ∀ x i, E ≤ x → x ≤ E + 132 → μ' x i = μ x i := fun x i x0 x1 => g4 x i ((eO x).mpr (by omega))
      obtain ⟨q0, q1, q2, q3, q4, q5⟩ := r3 k (by omega) (by omega)
      apply s_X1_copy_34 (layOK n) kD kE
      rw [g3, (dv_rf hD).1, (dv_rf hE).1, (dv_all hD).1 _ (by omega) (by omega), (dv_all hE).1 _ (by omega) (by omega), ← eA, ← eA]
      refine ⟨fun q => absurd q (by omega), fun _ => ⟨⟨by omega, by omega⟩, ?_⟩⟩
      refine c_X2_copy kV kV2 (by rw [eA, eA]; omega) ⟨by rw [eA, eA]; omega, by rw [eA, eA]; omega⟩ ⟨rfl, rfl, ⟨by omega, by omega⟩, ?_⟩
      rw [old _ _ (by rw [eA]; omega) (by rw [eA]; omega), old _ _ (by rw [eA]; omega) (by rw [eA]; omega), old _ _ (by rw [eA]; omega) (by rw [eA]; omega), old _ _ (by rw [eA]; omega) (by rw [eA]; omega), old _ _ (by rw [eA]; omega) (by rw [eA]; omega), old _ _ (by rw [eA]; omega) (by rw [eA]; omega), q0, q1, q2, q3, q4, q5]
      generalize hM : spW (up (up μ' (evA D k) 0 (w (210 + 6 * (k : Int)))) (evA D k) 1 (w (211 + 6 * (k : Int)))) (evA D k + 1) (w (212 + 6 * (k : Int))) (w (213 + 6 * (k : Int))) (w (214 + 6 * (k : Int))) (w (215 + 6 * (k : Int))) = M
      have m0 : M (evA D k) 0 = w (210 + 6 * (k : Int)) ∧ M (evA D k) 1 = w (211 + 6 * (k : Int)) := by
        rw [← hM, spW_ne ⟨by omega, by omega⟩, spW_ne ⟨by omega, by omega⟩, up_ne (Or.inr (by omega)), up_eq, up_eq]
        exact ⟨rfl, rfl⟩
      have m1 := spW_in (μ := up (up μ' (evA D k) 0 (w (210 + 6 * (k : Int)))) (evA D k) 1 (w (211 + 6 * (k : Int)))) (s := evA D k + 1) (a := w (212 + 6 * (k : Int))) (b := w (213 + 6 * (k : Int))) (c := w (214 + 6 * (k : Int))) (d := w (215 + 6 * (k : Int)))
      rw [hM, show evA D k + 1 + 1 = evA D k + 2 by omega, show evA D k + 1 + 2 = evA D k + 3 by omega] at m1
      have m2 : ∀ x i, x ≠ evA D k → x ≠ evA D k + 2 → x ≠ evA D k + 3 → M x i = μ' x i := fun x i x1 x2 x3 => by
        rw [← hM, spW_ne ⟨by omega, by omega⟩, up_ne (Or.inl x1), up_ne (Or.inl x1)]
      have mo : ∀ x i, x < D + 7 ∨ D + 83 ≤ x → M x i = μ' x i := fun x i hx => m2 x i (by rw [eA]; omega) (by rw [eA]; omega) (by rw [eA]; omega)
      refine ih (k + 1) (by omega) M ?_ ?_ ?_ ?_ (fun x i hx => ?_) (fun j j0 j1 => ?_)
      · rw [mo _ _ (by omega)]; exact g0
      · rw [mo _ _ (by omega)]; exact g1
      · unfold DRu; rw [mo _ _ (by omega)]; exact g2
      · rw [mo _ _ (by omega)]; exact g3
      · rw [eO] at hx
        rw [mo _ _ (by omega)]
        exact g4 x i ((eO x).mpr hx)
      · by_cases z : j = k
        · rw [z]
          exact ⟨m0.1, m0.2, m1⟩
        · have hj := g5 j j0 (by omega)
          rw [m2 _ _ (by rw [eA, eA]; omega) (by rw [eA, eA]; omega) (by rw [eA, eA]; omega), m2 _ _ (by rw [eA, eA]; omega) (by rw [eA, eA]; omega) (by rw [eA, eA]; omega), m2 _ _ (by rw [eA, eA]; omega) (by rw [eA, eA]; omega) (by rw [eA, eA]; omega), m2 _ _ (by rw [eA, eA]; omega) (by rw [eA, eA]; omega) (by rw [eA, eA]; omega), m2 _ _ (by rw [eA, eA]; omega) (by rw [eA, eA]; omega) (by rw [eA, eA]; omega), m2 _ _ (by rw [eA, eA]; omega) (by rw [eA, eA]; omega) (by rw [eA, eA]; omega)]
          exact hj
  refine evs (w 4).toNat 0 (by omega) _ ?_ ?_ ?_ ?_ (fun x i hx => ?_) (fun j j0 j1 => by omega)
  · rw [up_ne (Or.inr (by omega)), up_ne (Or.inr (by omega)), up_ne (Or.inr (by omega)), up_eq]
  · rw [up_ne (Or.inr (by omega)), up_ne (Or.inr (by omega)), up_eq]
  · unfold DRu; rw [up_ne (Or.inr (by omega)), up_eq]; exact r1
  · rw [up_eq]; exact r2
  · rw [eO] at hx
    rw [up_ne (Or.inl (by omega)), up_ne (Or.inl (by omega)), up_ne (Or.inl (by omega)), up_ne (Or.inl (by omega))]
end
