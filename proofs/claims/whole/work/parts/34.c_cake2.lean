/-! contracts: Cake, what changes it; excess -/
section
variable {n : Int} {μ : Mem} {Q : Option AV → Lay → Mem → Prop}
/-- the rows of a Cake -/
def inRow (c a : Int) : Prop := c + 2 ≤ a ∧ a ≤ c + 6 ∨ c + 8 ≤ a ∧ a ≤ c + 12
theorem c_X0_lay {c S N : Int} (kc : isK (L0 n) c (0, 0)) (h : ∀ μ', μ' c 0 = S → μ' c 1 = N → (∀ a i, inRow c a → 0 ≤ i → i < 16 → μ' a i = 1) → (∀ a i, a ≠ c → ¬ inRow c a → μ' a i = μ a i) → Q none (L0 n) μ') : TR mX0_lay 0 (0, 0) [(2, c), (0, S), (0, N)] (L0 n) μ Q := by
  have hc := ck_is kc
  have e := ck_rf (n := n) hc
  have e2 := fun a => ck_rows (n := n) (a := a) hc
  apply t_X0_lay (layOK n) kc
  have key : ∀ (d k : Nat), k + d = 5 → ∀ μ', μ' c 0 = S → μ' c 1 = N → (∀ a i : Int, (c + 2 ≤ a ∧ a < c + 2 + k ∨ c + 8 ≤ a ∧ a < c + 8 + k) → 0 ≤ i → i < 16 → μ' a i = 1) → (∀ a i, a ≠ c → ¬ inRow c a → μ' a i = μ a i) → WA mX0_lay 0 (0, 0) 12 [(2, c), (9, 0), (9, 0), (0, (k : Int)), (9, 0)] [] (L0 n) μ' Q := by
    intro d
    induction d with
    | zero =>
      intro k hk μ' h1 h2 h3 h4
      apply s_X0_lay_12 (layOK n) kc
      refine ⟨fun _ => h μ' h1 h2 (fun a i ha => h3 a i (by unfold inRow at ha; omega)) h4, fun q => absurd (show (5 : Int) ≤ k by omega) q⟩
    | succ d ih =>
      intro k hk μ' h1 h2 h3 h4
      apply s_X0_lay_12 (layOK n) kc
      refine ⟨fun q => absurd q (by omega), fun _ => ?_⟩
      have inner : ∀ (f j : Nat), j + f = 16 → ∀ μ'', μ'' c 0 = S → μ'' c 1 = N → (∀ a i : Int, (c + 2 ≤ a ∧ a < c + 2 + k ∨ c + 8 ≤ a ∧ a < c + 8 + k ∨ (a = c + 2 + k ∨ a = c + 8 + k) ∧ i < j) → 0 ≤ i → i < 16 → μ'' a i = 1) → (∀ a i, a ≠ c → ¬ inRow c a → μ'' a i = μ a i) → WA mX0_lay 0 (0, 0) 20 [(2, c), (9, 0), (9, 0), (0, (k : Int)), (0, (j : Int))] [] (L0 n) μ'' Q := by
        intro f
        induction f with
        | zero =>
          intro j hj μ'' g1 g2 g3 g4
          apply s_X0_lay_20 (layOK n) kc
          refine ⟨fun _ => ⟨⟨by omega, by omega⟩, ?_⟩, fun q => absurd (show (16 : Int) ≤ j by omega) q⟩
          exact ih (k + 1) (by omega) μ'' g1 g2 (fun a i ha i0 i1 => g3 a i (by omega) i0 i1) g4
        | succ f ihf =>
          intro j hj μ'' g1 g2 g3 g4
          apply s_X0_lay_20 (layOK n) kc
          refine ⟨fun q => absurd q (by omega), fun _ => ⟨⟨by omega, by omega⟩, ⟨by omega, by omega⟩, ⟨by omega, by omega⟩, ?_⟩⟩
          rw [e.1, e.2, (e2 k ⟨by omega, by omega⟩).1, (e2 k ⟨by omega, by omega⟩).2]
          refine ihf (j + 1) (by omega) _ ?_ ?_ (fun a i ha i0 i1 => ?_) (fun a i ha hr => ?_)
          · rw [up_ne (Or.inl (by omega)), up_ne (Or.inl (by omega))]; exact g1
          · rw [up_ne (Or.inl (by omega)), up_ne (Or.inl (by omega))]; exact g2
          · unfold up
            split
            · rfl
            · split
              · rfl
              · exact g3 a i (by omega) i0 i1
          · unfold inRow at hr
            rw [up_ne (Or.inl (by omega)), up_ne (Or.inl (by omega))]
            exact g4 a i ha (by unfold inRow; omega)
      exact inner 16 0 (by omega) μ' h1 h2 (fun a i ha i0 i1 => h3 a i (by omega) i0 i1) h4
  refine key 5 0 (by omega) _ ?_ ?_ (fun a i ha => by omega) (fun a i ha _ => ?_)
  · rw [up_ne (Or.inr (by omega)), up_eq]
  · rw [up_eq]
  · rw [up_ne (Or.inl ha), up_ne (Or.inl ha)]
theorem c_X0_copy {c e : Int} (kc : isK (L0 n) c (0, 0)) (ke : isK (L0 n) e (0, 0)) (hne : c ≠ e) (h : ∀ μ', μ' c 0 = μ e 0 → μ' c 1 = μ e 1 → (∀ a i, inRow c a → 0 ≤ i → i < 16 → μ' a i = μ (a - c + e) i) → (∀ a i, a ≠ c → ¬ inRow c a → μ' a i = μ a i) → Q none (L0 n) μ') : TR mX0_copy 0 (0, 0) [(2, c), (2, e)] (L0 n) μ Q := by
  have hc := ck_is kc
  have he := ck_is ke
  have f := ck_rf (n := n) hc
  have f2 := fun a => ck_rows (n := n) (a := a) hc
  have g := ck_rf (n := n) he
  have g2 := fun a => ck_rows (n := n) (a := a) he
  apply t_X0_copy (layOK n) kc ke
  have key : ∀ (d k : Nat), k + d = 5 → ∀ μ', μ' c 0 = μ e 0 → μ' c 1 = μ e 1 → (∀ a i : Int, (c + 2 ≤ a ∧ a < c + 2 + k ∨ c + 8 ≤ a ∧ a < c + 8 + k) → 0 ≤ i → i < 16 → μ' a i = μ (a - c + e) i) → (∀ a i, a ≠ c → ¬ inRow c a → μ' a i = μ a i) → WA mX0_copy 0 (0, 0) 18 [(2, c), (2, e), (0, (k : Int)), (9, 0)] [] (L0 n) μ' Q := by
    intro d
    induction d with
    | zero =>
      intro k hk μ' h1 h2 h3 h4
      apply s_X0_copy_18 (layOK n) kc ke
      refine ⟨fun _ => h μ' h1 h2 (fun a i ha => h3 a i (by unfold inRow at ha; omega)) h4, fun q => absurd (show (5 : Int) ≤ k by omega) q⟩
    | succ d ih =>
      intro k hk μ' h1 h2 h3 h4
      apply s_X0_copy_18 (layOK n) kc ke
      refine ⟨fun q => absurd q (by omega), fun _ => ?_⟩
      have inner : ∀ (f j : Nat), j + f = 16 → ∀ μ'', μ'' c 0 = μ e 0 → μ'' c 1 = μ e 1 → (∀ a i : Int, (c + 2 ≤ a ∧ a < c + 2 + k ∨ c + 8 ≤ a ∧ a < c + 8 + k ∨ (a = c + 2 + k ∨ a = c + 8 + k) ∧ i < j) → 0 ≤ i → i < 16 → μ'' a i = μ (a - c + e) i) → (∀ a i, a ≠ c → ¬ inRow c a → μ'' a i = μ a i) → WA mX0_copy 0 (0, 0) 25 [(2, c), (2, e), (0, (k : Int)), (0, (j : Int))] [] (L0 n) μ'' Q := by
        intro ff
        induction ff with
        | zero =>
          intro j hj μ'' p1 p2 p3 p4
          apply s_X0_copy_25 (layOK n) kc ke
          refine ⟨fun _ => ⟨⟨by omega, by omega⟩, ?_⟩, fun q => absurd (show (16 : Int) ≤ j by omega) q⟩
          exact ih (k + 1) (by omega) μ'' p1 p2 (fun a i ha i0 i1 => p3 a i (by omega) i0 i1) p4
        | succ ff ihf =>
          intro j hj μ'' p1 p2 p3 p4
          apply s_X0_copy_25 (layOK n) kc ke
          refine ⟨fun q => absurd q (by omega), fun _ => ⟨⟨by omega, by omega⟩, ⟨by omega, by omega⟩, ⟨by omega, by omega⟩, ?_⟩⟩
          rw [f.1, f.2, (f2 k ⟨by omega, by omega⟩).1, (f2 k ⟨by omega, by omega⟩).2, g.1, g.2, (g2 k ⟨by omega, by omega⟩).1, (g2 k ⟨by omega, by omega⟩).2]
          have old : ∀ a i, (a = e + 2 + k ∨ a = e + 8 + k) → μ'' a i = μ a i := fun a i ha => p4 a i (by omega) (by unfold inRow; omega)
          rw [up_ne (a := e + 8 + k) (Or.inl (by omega)), old (e + 2 + k) j (Or.inl rfl), old (e + 8 + k) j (Or.inr rfl)]
          refine ihf (j + 1) (by omega) _ ?_ ?_ (fun a i ha i0 i1 => ?_) (fun a i ha hr => ?_)
          · rw [up_ne (Or.inl (by omega)), up_ne (Or.inl (by omega))]; exact p1
          · rw [up_ne (Or.inl (by omega)), up_ne (Or.inl (by omega))]; exact p2
          · unfold up
            split
            · rename_i z
              rw [z.1, z.2]
              congr 1
              omega
            · split
              · rename_i z
                rw [z.1, z.2]
                congr 1
                omega
              · exact p3 a i (by omega) i0 i1
          · unfold inRow at hr
            rw [up_ne (Or.inl (by omega)), up_ne (Or.inl (by omega))]
            exact p4 a i ha (by unfold inRow; omega)
      exact inner 16 0 (by omega) μ' h1 h2 (fun a i ha i0 i1 => h3 a i (by omega) i0 i1) h4
  refine key 5 0 (by omega) _ ?_ ?_ (fun a i ha => by omega) (fun a i ha _ => ?_)
  · rw [up_ne (Or.inr (by omega)), up_eq]
  · rw [up_eq, up_ne (Or.inl (Ne.symm hne))]
  · rw [up_ne (Or.inl ha), up_ne (Or.inl ha)]
theorem c_X0_moveTold {c a x y : Int} (kc : isK (L0 n) c (0, 0)) (ha : 0 ≤ a ∧ a < 5) (hx : 0 ≤ x ∧ x < 16) (hy : 0 ≤ y ∧ y < 16) (hw : rowOK (μ (c + 8 + a)))
    (h1 : x ≠ y → 1 ≤ μ (c + 8 + a) x → μ (c + 8 + a) y < 9 → Q (some (0, 1)) (L0 n) (up (up μ (c + 8 + a) x (μ (c + 8 + a) x - 1)) (c + 8 + a) y (μ (c + 8 + a) y + 1)))
    (h0 : (x = y ∨ μ (c + 8 + a) x < 1 ∨ 9 ≤ μ (c + 8 + a) y) → Q (some (0, 0)) (L0 n) μ) : TR mX0_moveTold 0 (0, 0) [(2, c), (0, a), (0, x), (0, y)] (L0 n) μ Q := by
  have hc := ck_is kc
  have e := ck_rf (n := n) hc
  have e2 := ck_rows (n := n) hc ha
  have wx := hw x hx.1 hx.2
  have wy := hw y hy.1 hy.2
  apply t_X0_moveTold (layOK n) kc
  rw [e.2, e2.2]
  refine ⟨ha, fun q => h0 (Or.inl q), fun q => ⟨hx, fun q2 => h0 (Or.inr (Or.inl q2)), fun q2 => ⟨hy, fun q3 => ?_, fun q3 => h0 (Or.inr (Or.inr (by omega)))⟩⟩⟩
  rw [up_ne (a := c + 8 + a) (i := y) (Or.inr (Ne.symm q))]
  exact ⟨⟨by omega, by omega⟩, ⟨by omega, by omega⟩, h1 q (by omega) q3⟩
theorem c_X0_hasNoZero {c r : Int} (kc : isK (L0 n) c (0, 0)) (kr : isK (L0 n) r (20, 16)) (hS : 0 ≤ μ c 0 ∧ μ c 0 ≤ 16) (h : ∀ v : Int, (v = 1 ∧ (∀ s : Int, 0 ≤ s → s < μ c 0 → 1 ≤ μ r s) ∨ v = 0 ∧ ∃ s : Int, 0 ≤ s ∧ s < μ c 0 ∧ μ r s < 1) → Q (some (0, v)) (L0 n) μ) : TR mX0_hasNoZero 0 (0, 0) [(2, c), (2, r)] (L0 n) μ Q := by
  apply t_X0_hasNoZero (layOK n) kc kr
  have key : ∀ (d k : Nat), k + d = (μ c 0).toNat → (∀ s : Int, 0 ≤ s → s < k → 1 ≤ μ r s) → WA mX0_hasNoZero 0 (0, 0) 2 [(2, c), (2, r), (0, (k : Int))] [] (L0 n) μ Q := by
    intro d
    induction d with
    | zero =>
      intro k hk hall
      apply s_X0_hasNoZero_2 (layOK n) kc kr
      exact ⟨fun _ => h 1 (Or.inl ⟨rfl, fun s s0 s1 => hall s s0 (by omega)⟩), fun q => absurd (show μ c 0 ≤ (k : Int) by omega) q⟩
    | succ d ih =>
      intro k hk hall
      apply s_X0_hasNoZero_2 (layOK n) kc kr
      refine ⟨fun q => absurd q (by omega), fun _ => ⟨⟨by omega, by omega⟩, fun q => ⟨⟨by omega, by omega⟩, ih (k + 1) (by omega) (fun s s0 s1 => ?_)⟩, fun q => h 0 (Or.inr ⟨rfl, k, by omega, by omega, by omega⟩)⟩⟩
      by_cases z : s = k
      · rw [z]; exact q
      · exact hall s s0 (by omega)
  exact key (μ c 0).toNat 0 (by omega) (fun s s0 s1 => by omega)
theorem c_X0_excess {c r P R : Int} (kc : isK (L0 n) c (0, 0)) (kr : isK (L0 n) r (20, 16)) (hS : 0 ≤ μ c 0 ∧ μ c 0 ≤ 16) (hw : rowOK (μ r)) (hP : 0 ≤ P ∧ P < 9223372036854775808) (hR : 0 ≤ R ∧ R < 9223372036854775808) (h : Q (some (1, 2 * (pw (μ r) R 5040 (μ c 0).toNat - pw (μ r) P 5040 (μ c 0).toNat) - cum (μ r) (μ c 0).toNat * 5040)) (L0 n) μ) : TR mX0_excess 2 (0, 0) [(2, c), (2, r), (1, P), (1, R)] (L0 n) μ Q := by
  have b1 := pw_b144 (P := P) (u := 5040) hw (by omega) (k := (μ c 0).toNat) (by omega)
  have b2 := pw_b144 (P := R) (u := 5040) hw (by omega) (k := (μ c 0).toNat) (by omega)
  have b3 := cum_b hw (μ c 0).toNat (by omega)
  apply t_X0_excess (layOK n) kc kr
  refine c_X0_upTo kc kr hS hw hR.1 ⟨by omega, by omega⟩ hR.2 ⟨_, rfl, rfl, ?_⟩
  refine c_X0_upTo kc kr hS hw hP.1 ⟨by omega, by omega⟩ hP.2 ⟨_, rfl, rfl, ⟨by omega, by omega⟩, ⟨by omega, by omega⟩, ?_⟩
  refine c_X0_total kc kr hS hw ⟨_, rfl, rfl, ⟨by omega, by omega⟩, ⟨by omega, by omega⟩, ?_⟩
  exact h
end
