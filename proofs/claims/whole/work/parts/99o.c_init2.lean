/-! constructors: Cake, Division -/
def frL (B : Int) (μ μ' : Mem) : Prop := ∀ a i : Int, a ≤ B → μ' a i = μ a i
theorem fl_rf {B : Int} {μ : Mem} : frL B μ μ := fun _ _ _ => rfl
theorem fl_new {B : Int} {L : Lay} {μ μ1 μ2 : Mem} (h : frL B μ μ1) (em : μ2 = nwM L μ1) (hB : B < L.1 + 1) : frL B μ μ2 := fun a i ha => by
  rw [em, nwM_old (by omega)]
  exact h a i ha
theorem fl_up {B o j v : Int} {μ μ1 : Mem} (h : frL B μ μ1) (ho : B < o) : frL B μ (up μ1 o j v) := fun a i ha => by
  rw [up_ne (Or.inl (by omega))]
  exact h a i ha
theorem fl_tr {B : Int} {μ μ1 μ2 : Mem} (h : frL B μ μ1) (h2 : frL B μ1 μ2) : frL B μ μ2 := fun a i ha => (h2 a i ha).trans (h a i ha)
section
variable {n c : Int} {L L1 : Lay} {op op' : Int → Int → Prop}
theorem PL_o {o c' : Int} (h : PL n L c op) (hc : c' = c + 1) (eo : o = L.1 + 1) : o = c' := by rw [eo, hc, h.1]
theorem PL_at {c' : Int} {q : Nat × Int} (h : PL n L c op) (hc : c' = c + 1) (hk : isK (L0 n) c' q) (e : L1 = nwL L q) : PL n L1 c' (fun a k => (a = c' ∧ rf (L0 n) a k ≠ -1) ∨ op a k) := by
  subst hc
  exact PL_new h hk.2.2 e
theorem PL_at0 {c' : Int} {q : Nat × Int} (h : PL n L c op) (hc : c' = c + 1) (hk : isK (L0 n) c' q) (hq : q.1 = 3 ∨ q.1 = 20 ∨ q.1 = 21 ∨ q.1 = 22) (e : L1 = nwL L q) : PL n L1 c' op := by
  subst hc
  exact PL_new0 h hk hq e
theorem PL_c {c' : Int} (h : PL n L c op) (hc : c' = c) : PL n L c' op := hc ▸ h
theorem PL_rf {a k v : Int} (h : PL n L c op) (ha : a ≤ c) (ho : ¬ op a k) (hv : rf (L0 n) a k = v) : rf L a k = v := (h.2.2 a k ha ho).trans hv
end
/-- kinds in a Cake, in a Division -/
theorem ckB2 : [2, 15, 28].all (fun c : Int => decide (kd0 0 (c + 1) = (23, 5)) && decide (kd0 0 (c + 7) = (23, 5)) && (List.range 5).all (fun j => decide (kd0 0 (c + 2 + (j : Int)) = (20, 16)) && decide (kd0 0 (c + 8 + (j : Int)) = (20, 16)))) = true := by decide +kernel
theorem ck_K {n c : Int} (h : c = 2 ∨ c = 15 ∨ c = 28) : isK (L0 n) (c + 1) (23, 5) ∧ isK (L0 n) (c + 7) (23, 5) ∧ ∀ j : Int, 0 ≤ j → j < 5 → isK (L0 n) (c + 2 + j) (20, 16) ∧ isK (L0 n) (c + 8 + j) (20, 16) := by
  have h4 := List.all_eq_true.mp ckB2 c (by rcases h with rfl | rfl | rfl <;> simp)
  simp only [Bool.and_eq_true, decide_eq_true_eq] at h4
  obtain ⟨⟨h1, h2⟩, h3⟩ := h4
  refine ⟨isK0 (by omega) (by omega) h1, isK0 (by omega) (by omega) h2, fun j j0 j1 => ?_⟩
  have h5 := List.all_eq_true.mp h3 j.toNat (List.mem_range.mpr (by omega))
  rw [show ((j.toNat : Nat) : Int) = j by omega] at h5
  simp only [Bool.and_eq_true, decide_eq_true_eq] at h5
  exact ⟨isK0 (by omega) (by omega) h5.1, isK0 (by omega) (by omega) h5.2⟩
theorem dvB2 : [41, 174, 307].all (fun D : Int => decide (kd0 0 (D + 1) = (24, 19)) && decide (kd0 0 (D + 2) = (20, 5)) && decide (kd0 0 (D + 3) = (25, 10)) && decide (kd0 0 (D + 4) = (26, 20)) && decide (kd0 0 (D + 5) = (21, 25)) && decide (kd0 0 (D + 6) = (3, 0))) = true := by decide +kernel
theorem dv_K2 {n D : Int} (h : D = 41 ∨ D = 174 ∨ D = 307) : isK (L0 n) (D + 1) (24, 19) ∧ isK (L0 n) (D + 2) (20, 5) ∧ isK (L0 n) (D + 3) (25, 10) ∧ isK (L0 n) (D + 4) (26, 20) ∧ isK (L0 n) (D + 5) (21, 25) ∧ isK (L0 n) (D + 6) (3, 0) := by
  have h4 := List.all_eq_true.mp dvB2 D (by rcases h with rfl | rfl | rfl <;> simp)
  simp only [Bool.and_eq_true, decide_eq_true_eq] at h4
  obtain ⟨⟨⟨⟨⟨h1, h2⟩, h3⟩, h5⟩, h6⟩, h7⟩ := h4
  exact ⟨isK0 (by omega) (by omega) h1, isK0 (by omega) (by omega) h2, isK0 (by omega) (by omega) h3, isK0 (by omega) (by omega) h5, isK0 (by omega) (by omega) h6, isK0 (by omega) (by omega) h7⟩
section
variable {n : Int} {L : Lay} {μ : Mem} {op : Int → Int → Prop} {Q : Option AV → Lay → Mem → Prop}
theorem i_X0_lay {c C S N : Int} {k : Nat × Nat} (kc : isK (L0 n) c (0, 0)) (hP : PL n L C op) (hC : c + 12 ≤ C) (hop : ∀ a i, c ≤ a → a ≤ c + 12 → ¬ op a i) (h : ∀ μ', μ' c 0 = S → μ' c 1 = N → (∀ a i, inRow c a → 0 ≤ i → i < 16 → μ' a i = 1) → (∀ a i, a ≠ c → ¬ inRow c a → μ' a i = μ a i) → Q none L μ') : TR mX0_lay 0 k [(2, c), (0, S), (0, N)] L μ Q := by
  have hc := ck_is kc
  have e : rf L c 2 = c + 1 ∧ rf L c 3 = c + 7 := ⟨PL_rf hP (by omega) (hop c 2 (by omega) (by omega)) (ck_rf hc).1, PL_rf hP (by omega) (hop c 3 (by omega) (by omega)) (ck_rf hc).2⟩
  have e2 : ∀ a : Int, 0 ≤ a ∧ a < 5 → rf L (c + 1) a = c + 2 + a ∧ rf L (c + 7) a = c + 8 + a := fun a ha => ⟨PL_rf hP (by omega) (hop _ _ (by omega) (by omega)) (ck_rows hc ha).1, PL_rf hP (by omega) (hop _ _ (by omega) (by omega)) (ck_rows hc ha).2⟩
  obtain ⟨K1, K7, KR⟩ := ck_K (n := n) hc
  have kc' := PL_K hP kc (by omega)
  apply o_X0_lay kc'
  have key : ∀ (d k9 : Nat), k9 + d = 5 → ∀ μ', μ' c 0 = S → μ' c 1 = N → (∀ a i : Int, (c + 2 ≤ a ∧ a < c + 2 + k9 ∨ c + 8 ≤ a ∧ a < c + 8 + k9) → 0 ≤ i → i < 16 → μ' a i = 1) → (∀ a i, a ≠ c → ¬ inRow c a → μ' a i = μ a i) → WA mX0_lay 0 k 12 [(2, c), (9, 0), (9, 0), (0, (k9 : Int)), (9, 0)] [] L μ' Q := by
    intro d
    induction d with
    | zero =>
      intro k9 hk μ' h1 h2 h3 h4
      apply p_X0_lay_12 kc'
      refine ⟨fun _ => h μ' h1 h2 (fun a i ha => h3 a i (by unfold inRow at ha; omega)) h4, fun q => absurd (show (5 : Int) ≤ k9 by omega) q⟩
    | succ d ih =>
      intro k9 hk μ' h1 h2 h3 h4
      apply p_X0_lay_12 kc'
      refine ⟨fun q => absurd q (by omega), fun _ => ?_⟩
      have inner : ∀ (f j : Nat), j + f = 16 → ∀ μ'', μ'' c 0 = S → μ'' c 1 = N → (∀ a i : Int, (c + 2 ≤ a ∧ a < c + 2 + k9 ∨ c + 8 ≤ a ∧ a < c + 8 + k9 ∨ (a = c + 2 + k9 ∨ a = c + 8 + k9) ∧ i < j) → 0 ≤ i → i < 16 → μ'' a i = 1) → (∀ a i, a ≠ c → ¬ inRow c a → μ'' a i = μ a i) → WA mX0_lay 0 k 20 [(2, c), (9, 0), (9, 0), (0, (k9 : Int)), (0, (j : Int))] [] L μ'' Q := by
        intro f
        induction f with
        | zero =>
          intro j hj μ'' g1 g2 g3 g4
          apply p_X0_lay_20 kc'
          refine ⟨fun _ => ⟨⟨by omega, by omega⟩, ?_⟩, fun q => absurd (show (16 : Int) ≤ j by omega) q⟩
          exact ih (k9 + 1) (by omega) μ'' g1 g2 (fun a i ha i0 i1 => g3 a i (by omega) i0 i1) g4
        | succ f ihf =>
          intro j hj μ'' g1 g2 g3 g4
          apply p_X0_lay_20 kc'
          rw [e.1, e.2, (e2 k9 ⟨by omega, by omega⟩).1, (e2 k9 ⟨by omega, by omega⟩).2]
          obtain ⟨q1, q2⟩ := KR k9 (by omega) (by omega)
          refine ⟨fun q => absurd q (by omega), fun _ => ⟨PL_K hP K1 (by omega), ⟨by omega, by omega⟩, PL_K hP q1 (by omega), ⟨by omega, by omega⟩, PL_K hP K7 (by omega), PL_K hP q2 (by omega), ⟨by omega, by omega⟩, ?_⟩⟩
          refine ihf (j + 1) (by omega) _ ?_ ?_ (fun a i ha i0 i1 => ?_) (fun a i ha hr => ?_)
          · rw [up_ne (Or.inl (by omega)), up_ne (Or.inl (by omega))]; exact g1
          · rw [up_ne (Or.inl (by omega)), up_ne (Or.inl (by omega))]; exact g2
          · unfold up
            split
            · rfl
            · split
              · rfl
              · exact g3 a i (by omega) i0 i1
          · unfold inRow at hr
            rw [up_ne (Or.inl (by omega)), up_ne (Or.inl (by omega))]
            exact g4 a i ha (by unfold inRow; omega)
      exact inner 16 0 (by omega) μ' h1 h2 (fun a i ha i0 i1 => h3 a i (by omega) i0 i1) h4
  refine key 5 0 (by omega) _ ?_ ?_ (fun a i ha => by omega) (fun a i ha _ => ?_)
  · rw [up_ne (Or.inr (by omega)), up_eq]
  · rw [up_eq]
  · rw [up_ne (Or.inl ha), up_ne (Or.inl ha)]
theorem i_X0 {c : Int} (kc : isK (L0 n) c (0, 0)) (hP : PL n L c (fun a k => (a = c ∧ rf (L0 n) a k ≠ -1) ∨ op a k)) (hop : ∀ a i, c ≤ a → ¬ op a i)
    (h : ∀ L' μ', PL n L' (c + 12) op → (∀ a i, a < c → μ' a i = μ a i) → μ' c 0 = 8 → μ' c 1 = 3 → (∀ a i, inRow c a → 0 ≤ i → i < 16 → μ' a i = 1) → Q none L' μ') : TR mX0_init 1 (12, 170) [(2, c)] L μ Q := by
  have hc := ck_is kc
  obtain ⟨K1, K7, KR⟩ := ck_K (n := n) hc
  have e0 := hP.1
  have r := ck_rf (n := n) hc
  refine o_X0_init (PL_K hP kc (Int.le_refl _)) ⟨(6, 85), rfl, fun o1 L1 μ1 eo eL em => ?_⟩
  rw [e0] at eo
  subst eo
  have P1 := PL_multi (by decide) hP (by omega) (by omega) K1.2.2 (fun j j0 j1 => ⟨((KR j j0 j1).1).2.2, (ck_rows hc ⟨j0, j1⟩).1⟩) eL
  replace P1 := PL_c (c' := c + 6) P1 (by omega)
  refine ⟨PL_K P1 kc (by omega), PL_K P1 K1 (by omega), fun L2 e2 => ?_⟩
  have P2 := PL_put P1 r.1 e2
  refine ⟨PL_K P2 kc (by omega), (0, 0), rfl, fun o3 L3 μ3 eo3 eL3 em3 => ?_⟩
  rw [P2.1, show c + 6 + 1 = c + 7 by omega] at eo3
  subst eo3
  have K7' : kd (L0 n) (c + 6 + 1) = (23, 5) := by rw [show c + 6 + 1 = c + 7 by omega]; exact K7.2.2
  have P3 := PL_multi (by decide) P2 (by omega) (by omega) K7' (fun j j0 j1 => by
    rw [show c + 6 + 2 + j = c + 8 + j by omega, show c + 6 + 1 = c + 7 by omega]
    exact ⟨((KR j j0 j1).2).2.2, (ck_rows hc ⟨j0, j1⟩).2⟩) eL3
  replace P3 := PL_c (c' := c + 12) P3 (by omega)
  refine ⟨PL_K P3 kc (by omega), PL_K P3 K7 (by omega), fun L4 e4 => ?_⟩
  have P4 := PL_put P3 r.2 e4
  have P5 : PL n L4 (c + 12) op := PL_weak P4 (fun a k z => by
    obtain ⟨⟨z1, z2⟩, z3⟩ := z
    rcases z1 with ⟨rfl, z1⟩ | z1
    · obtain ⟨g1, g2⟩ := op_obj kc (by decide) z1
      have g2 : k.toNat = 2 ∨ k.toNat = 3 := by simpa [rsl] using g2
      exact absurd (show (k = 2 ∨ k = 3) by omega) (fun y => y.elim (fun y => z2 ⟨rfl, y⟩) (fun y => z3 ⟨rfl, y⟩))
    · exact z1)
  refine ⟨PL_K P5 kc (by omega), i_X0_lay kc P5 (Int.le_refl _) (fun a i ha _ => hop a i ha) fun μ' g1 g2 g3 g4 => ⟨rfl, rfl, h L4 μ' P5 (fun a i ha => ?_) g1 g2 g3⟩⟩
  rw [g4 a i (by omega) (by unfold inRow; omega), em3, nwRM_old (by rw [P2.1]; omega), em, nwRM_old (by rw [e0]; omega)]
theorem i_X1_clear {D C : Int} {k : Nat × Nat} (kD : isK (L0 n) D (1, 0)) (hP : PL n L C op) (hC : D + 2 ≤ C) (hop : ∀ i, ¬ op D i) (h : ∀ μ', μ' D 0 = 0 → μ' D 1 = 0 → μ' D 2 = 1 → μ' D 3 = 0 → (∀ a : Int, 0 ≤ a → a < 5 → μ' (D + 2) a = 0) → (∀ x i, x ≠ D → x ≠ D + 2 → μ' x i = μ x i) → Q none L μ') : TR mX1_clear 0 k [(2, D)] L μ Q := by
  have hD := dv_is kD
  have kD' := PL_K hP kD (by omega)
  have e5 : rf L D 5 = D + 2 := PL_rf hP (by omega) (hop 5) (dv_rf hD).2.1
  apply o_X1_clear kD'
  have key : ∀ (d k9 : Nat), k9 + d = 5 → ∀ μ', μ' D 0 = 0 → μ' D 1 = 0 → μ' D 2 = 1 → μ' D 3 = 0 → (∀ a : Int, 0 ≤ a → a < k9 → μ' (D + 2) a = 0) → (∀ x i, x ≠ D → x ≠ D + 2 → μ' x i = μ x i) → WA mX1_clear 0 k 22 [(2, D), (0, (k9 : Int))] [] L μ' Q := by
    intro d
    induction d with
    | zero =>
      intro k9 hk μ' h1 h2 h3 h4 h5 h6
      apply p_X1_clear_22 kD'
      exact ⟨fun _ => h μ' h1 h2 h3 h4 (fun a a0 a1 => h5 a a0 (by omega)) h6, fun q => absurd (show (5 : Int) ≤ k9 by omega) q⟩
    | succ d ih =>
      intro k9 hk μ' h1 h2 h3 h4 h5 h6
      apply p_X1_clear_22 kD'
      rw [e5]
      refine ⟨fun q => absurd q (by omega), fun _ => ⟨PL_K hP (dv_K2 hD).2.1 (by omega), ⟨by omega, by omega⟩, ⟨by omega, by omega⟩, ?_⟩⟩
      refine ih (k9 + 1) (by omega) _ ?_ ?_ ?_ ?_ (fun a a0 a1 => ?_) (fun x i x1 x2 => ?_)
      · rw [up_ne (Or.inl (by omega))]; exact h1
      · rw [up_ne (Or.inl (by omega))]; exact h2
      · rw [up_ne (Or.inl (by omega))]; exact h3
      · rw [up_ne (Or.inl (by omega))]; exact h4
      · unfold up
        split
        · rfl
        · exact h5 a a0 (by omega)
      · rw [up_ne (Or.inl x2)]; exact h6 x i x1 x2
  refine key 5 0 (by omega) _ ?_ ?_ ?_ ?_ (fun a a0 a1 => by omega) (fun x i x1 x2 => ?_)
  · rw [up_ne (Or.inr (by omega)), up_ne (Or.inr (by omega)), up_ne (Or.inr (by omega)), up_eq]
  · rw [up_ne (Or.inr (by omega)), up_ne (Or.inr (by omega)), up_eq]
  · rw [up_ne (Or.inr (by omega)), up_eq]
  · rw [up_eq]
  · rw [up_ne (Or.inl x1), up_ne (Or.inl x1), up_ne (Or.inl x1), up_ne (Or.inl x1)]
end
