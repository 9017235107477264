/-! contracts: Division: overlaps, cuts -/
/-- held points with lines that are not too large -/
def WFb (w : Int → Int) : Prop := ∀ a : Int, 0 ≤ a → a < 5 → (0 ≤ w (165 + a) ∧ w (165 + a) ≤ 2) ∧ ∀ k : Int, 0 ≤ k → k < w (165 + a) → (0 ≤ w (170 + 8 * a + 4 * k) ∧ 1 ≤ w (171 + 8 * a + 4 * k) ∧ w (171 + 8 * a + 4 * k) ≤ 1000000000) ∧ (0 ≤ w (172 + 8 * a + 4 * k) ∧ 1 ≤ w (173 + 8 * a + 4 * k) ∧ w (173 + 8 * a + 4 * k) ≤ 1000000000)
/-- a held span is not empty -/
abbrev neS (w : Int → Int) (a k : Int) : Prop := w (170 + 8 * a + 4 * k) * w (173 + 8 * a + 4 * k) < w (172 + 8 * a + 4 * k) * w (171 + 8 * a + 4 * k)
/-- a held span and the span from x/y to x'/y' meet -/
def meetS (w : Int → Int) (x y x' y' a k : Int) : Prop := neS w a k ∧ x * w (173 + 8 * a + 4 * k) < w (172 + 8 * a + 4 * k) * y ∧ w (170 + 8 * a + 4 * k) * y' < x' * w (171 + 8 * a + 4 * k)
theorem den_mul {y y' : Int} (h : 1 ≤ y ∧ y ≤ 1000000000) (h' : 1 ≤ y' ∧ y' ≤ 1000000000) : y * y' < 9223372036854775808 := by
  have := mulLB (show 0 ≤ y by omega) (show 0 ≤ y' by omega) h.2 h'.2
  omega
section
variable {n : Int} {μ : Mem} {Q : Option AV → Lay → Mem → Prop}
theorem c_X1_overlaps {D s : Int} {w : Int → Int} (kD : isK (L0 n) D (1, 0)) (ks : isK (L0 n) s (7, 0)) (hr : DR μ D w) (hb : WFb w) (h1 : 0 ≤ μ (s + 1) 0 ∧ 1 ≤ μ (s + 1) 1 ∧ μ (s + 1) 1 ≤ 1000000000) (h2 : 0 ≤ μ (s + 2) 0 ∧ 1 ≤ μ (s + 2) 1 ∧ μ (s + 2) 1 ≤ 1000000000)
    (h : ∀ r : Int, (r = 1 ∧ μ (s + 1) 0 * μ (s + 2) 1 < μ (s + 2) 0 * μ (s + 1) 1 ∧ (∃ a k : Int, 0 ≤ a ∧ a < 5 ∧ 0 ≤ k ∧ k < w (165 + a) ∧ meetS w (μ (s + 1) 0) (μ (s + 1) 1) (μ (s + 2) 0) (μ (s + 2) 1) a k) ∨ r = 0 ∧ (μ (s + 2) 0 * μ (s + 1) 1 ≤ μ (s + 1) 0 * μ (s + 2) 1 ∨ ∀ a k : Int, 0 ≤ a → a < 5 → 0 ≤ k → k < w (165 + a) → ¬ meetS w (μ (s + 1) 0) (μ (s + 1) 1) (μ (s + 2) 0) (μ (s + 2) 1) a k)) → Q (some (0, r)) (L0 n) μ) : TR mX1_overlaps 3 (0, 0) [(2, D), (2, s)] (L0 n) μ Q := by
  have hD := dv_is kD
  obtain ⟨-, -, r4, r5⟩ := hr
  obtain ⟨f1, f2, f3, f4⟩ := sp_at ks
  apply t_X1_overlaps (layOK n) kD ks
  refine c_X7_isEmpty ks ⟨h1.1, h1.2.1⟩ ⟨h2.1, h2.2.1⟩ (den_mul h1.2 h2.2) fun e he => ⟨e, rfl, rfl, fun q => ?_, fun q => h 0 (Or.inr ⟨rfl, Or.inl (by omega)⟩)⟩
  have hne : μ (s + 1) 0 * μ (s + 2) 1 < μ (s + 2) 0 * μ (s + 1) 1 := by omega
  have key : ∀ (d k : Nat), k + d = 5 → (∀ a j : Int, 0 ≤ a → a < k → 0 ≤ j → j < w (165 + a) → ¬ meetS w (μ (s + 1) 0) (μ (s + 1) 1) (μ (s + 2) 0) (μ (s + 2) 1) a j) → WA mX1_overlaps 3 (0, 0) 11 [(2, D), (2, s), (0, (k : Int)), (9, 0), (9, 0)] [] (L0 n) μ Q := by
    intro d
    induction d with
    | zero =>
      intro k hk hall
      apply s_X1_overlaps_11 (layOK n) kD ks
      exact ⟨fun _ => h 0 (Or.inr ⟨rfl, Or.inr fun a j a0 a1 => hall a j a0 (by omega)⟩), fun q => absurd (show (5 : Int) ≤ k by omega) q⟩
    | succ d ih =>
      intro k hk hall
      obtain ⟨hm, hpts⟩ := hb k (by omega) (by omega)
      apply s_X1_overlaps_11 (layOK n) kD ks
      refine ⟨fun q => absurd q (by omega), fun _ => ?_⟩
      have inner : ∀ (f j : Nat), (j : Int) + f = w (165 + (k : Int)) → (∀ i : Int, 0 ≤ i → i < j → ¬ meetS w (μ (s + 1) 0) (μ (s + 1) 1) (μ (s + 2) 0) (μ (s + 2) 1) k i) → WA mX1_overlaps 3 (0, 0) 18 [(2, D), (2, s), (0, (k : Int)), (0, (j : Int)), (9, 0)] [] (L0 n) μ Q := by
        intro f
        induction f with
        | zero =>
          intro j hj hno
          apply s_X1_overlaps_18 (layOK n) kD ks
          rw [(dv_rf hD).2.1, r4 k (by omega) (by omega)]
          refine ⟨⟨by omega, by omega⟩, fun _ => ⟨⟨by omega, by omega⟩, ih (k + 1) (by omega) fun a i a0 a1 i0 i1 => ?_⟩, fun q => absurd (show w (165 + (k : Int)) ≤ j by omega) q⟩
          by_cases z : a = k
          · subst z; exact hno i i0 (by omega)
          · exact hall a i a0 (by omega) i0 i1
        | succ f ihf =>
          intro j hj hno
          obtain ⟨p1, p2⟩ := hpts j (by omega) (by omega)
          obtain ⟨q0, q1, q2, q3⟩ := r5 k j (by omega) (by omega) (by omega) (by omega)
          have kH := hl_K (a := (k : Int)) (k := (j : Int)) kD ⟨by omega, by omega⟩ ⟨by omega, by omega⟩
          obtain ⟨g1, g2, g3, g4⟩ := sp_at kH
          have next : ¬ meetS w (μ (s + 1) 0) (μ (s + 1) 1) (μ (s + 2) 0) (μ (s + 2) 1) k j → WA mX1_overlaps 3 (0, 0) 18 [(2, D), (2, s), (0, (k : Int)), (0, ((j : Int) + 1)), (9, 0)] [] (L0 n) μ Q := fun z => ihf (j + 1) (by omega) fun i i0 i1 => by
            by_cases y : i = j
            · rw [y]; exact z
            · exact hno i i0 (by omega)
          apply s_X1_overlaps_18 (layOK n) kD ks
          rw [(dv_rf hD).2.1, r4 k (by omega) (by omega), f1, f2]
          refine ⟨⟨by omega, by omega⟩, fun q => absurd q (by omega), fun _ => ?_⟩
          refine c_X1_held kD ⟨by omega, by omega⟩ ⟨by omega, by omega⟩ ⟨_, rfl, rfl, kH, ?_⟩
          rw [g1, g2]
          refine c_X7_isEmpty kH ⟨by rw [q0]; exact p1.1, by rw [q1]; exact p1.2.1⟩ ⟨by rw [q2]; exact p2.1, by rw [q3]; exact p2.2.1⟩ (by rw [q1, q3]; exact den_mul p1.2 p2.2) fun e2 he2 => ⟨e2, rfl, rfl, fun z => ?_, fun z => ?_⟩
          · rw [q0, q1, q2, q3] at he2
            exact ⟨⟨by omega, by omega⟩, next fun m => by have := m.1; unfold neS at this; omega⟩
          · rw [q0, q1, q2, q3] at he2
            refine c_X3_isBelow f3 g4 ⟨h1.1, h1.2.1⟩ ⟨by rw [q2]; exact p2.1, by rw [q3]; exact p2.2.1⟩ (by rw [q3]; exact den_mul h1.2 p2.2) fun e3 he3 => ⟨e3, rfl, rfl, fun z3 => ?_, fun z3 => ?_⟩
            · rw [q2, q3] at he3
              exact ⟨⟨by omega, by omega⟩, next fun m => by have := m.2.1; omega⟩
            · rw [q2, q3] at he3
              refine c_X3_isBelow g3 f4 ⟨by rw [q0]; exact p1.1, by rw [q1]; exact p1.2.1⟩ ⟨h2.1, h2.2.1⟩ (by rw [q1]; exact den_mul p1.2 h2.2) fun e4 he4 => ⟨e4, rfl, rfl, fun z4 => ?_, fun z4 => ?_⟩
              · rw [q0, q1] at he4
                exact ⟨⟨by omega, by omega⟩, next fun m => by have := m.2.2; omega⟩
              · rw [q0, q1] at he4
                refine h 1 (Or.inl ⟨rfl, hne, k, j, by omega, by omega, by omega, by omega, ?_, by omega, by omega⟩)
                unfold neS
                omega
      exact inner (w (165 + (k : Int))).toNat 0 (by omega) (fun i i0 i1 => by omega)
  exact key 5 0 (by omega) (fun a j a0 a1 => by omega)
end
/-! cuts: the list of places (in parts of the unit) that were found -/
def addC (S u : Int) (l : List Int) (v : Int) : List Int := if v = 0 ∨ v = S * u ∨ v ∈ l then l else l ++ [v]
def cutK (S : Int) (w : Int → Int) (l : List Int) (a k : Int) : List Int :=
  if neS w a k then addC S (w 3) (addC S (w 3) l (prt (w 3) (w (170 + 8 * a + 4 * k)) (w (171 + 8 * a + 4 * k)))) (prt (w 3) (w (172 + 8 * a + 4 * k)) (w (173 + 8 * a + 4 * k))) else l
def cutA (S : Int) (w : Int → Int) (l : List Int) (a : Int) : List Int :=
  if 1 < w (165 + a) then cutK S w (cutK S w l a 0) a 1 else if 0 < w (165 + a) then cutK S w l a 0 else l
def cutN (S : Int) (w : Int → Int) : Nat → List Int
  | 0 => []
  | k + 1 => cutA S w (cutN S w k) (k : Int)
theorem addC_len {S u v : Int} {l : List Int} : l.length ≤ (addC S u l v).length ∧ (addC S u l v).length ≤ l.length + 1 := by
  unfold addC
  split
  · omega
  · simp
theorem cutK_len {S : Int} {w : Int → Int} {l : List Int} {a k : Int} : l.length ≤ (cutK S w l a k).length ∧ (cutK S w l a k).length ≤ l.length + 2 := by
  unfold cutK
  split
  · have h1 := addC_len (S := S) (u := w 3) (l := l) (v := prt (w 3) (w (170 + 8 * a + 4 * k)) (w (171 + 8 * a + 4 * k)))
    have h2 := addC_len (S := S) (u := w 3) (l := addC S (w 3) l (prt (w 3) (w (170 + 8 * a + 4 * k)) (w (171 + 8 * a + 4 * k)))) (v := prt (w 3) (w (172 + 8 * a + 4 * k)) (w (173 + 8 * a + 4 * k)))
    omega
  · omega
theorem cutA_len {S : Int} {w : Int → Int} {l : List Int} {a : Int} : l.length ≤ (cutA S w l a).length ∧ (cutA S w l a).length ≤ l.length + 4 := by
  unfold cutA
  have h1 := cutK_len (S := S) (w := w) (l := l) (a := a) (k := 0)
  have h2 := cutK_len (S := S) (w := w) (l := cutK S w l a 0) (a := a) (k := 1)
  split
  · omega
  · split <;> omega
theorem cutN_len {S : Int} {w : Int → Int} : ∀ k : Nat, (cutN S w k).length ≤ 4 * k
  | 0 => by simp [cutN]
  | k + 1 => by
    have h1 := cutN_len (S := S) (w := w) k
    have h2 := cutA_len (S := S) (w := w) (l := cutN S w k) (a := (k : Int))
    unfold cutN
    omega
theorem prt_inj {S u x y x' y' : Int} (h : ptW S u x y) (h' : ptW S u x' y') (hu : 1 ≤ u) (hS : 0 ≤ S) (he : prt u x y = prt u x' y') : x = x' ∧ y = y' := by
  obtain ⟨-, -, e1⟩ := prt_b h hu hS
  obtain ⟨-, -, e2⟩ := prt_b h' hu hS
  have hy : 0 < y := by have := h.2.1; omega
  have hy' : 0 < y' := by have := h'.2.1; omega
  refine low_eq ⟨h.1, hy, h.2.2.2.2⟩ ⟨h'.1, hy', h'.2.2.2.2⟩ ?_
  have k1 : prt u x y * (y * y') = x * y' * u := by rw [← Int.mul_assoc, e1]; ac_rfl
  have k2 : prt u x' y' * (y * y') = x' * y * u := by rw [Int.mul_comm y y', ← Int.mul_assoc, e2]; ac_rfl
  rw [he, k2] at k1
  exact (Int.eq_of_mul_eq_mul_right (by omega) k1).symm
