/-! the least mark; the knife -/
theorem fr_trans {a b c d e f : Int} (hb : 0 < b) (hd : 0 < d) (hf : 0 < f) (h1 : a * d ≤ c * b) (h2 : c * f ≤ e * d) : a * f ≤ e * b := by
  have g1 := Int.mul_le_mul_of_nonneg_right h1 (show 0 ≤ f by omega)
  have g2 := Int.mul_le_mul_of_nonneg_right h2 (show 0 ≤ b by omega)
  have e1 : a * d * f = a * f * d := by ac_rfl
  have e2 : c * b * f = c * f * b := by ac_rfl
  have e3 : e * d * b = e * b * d := by ac_rfl
  exact Int.le_of_mul_le_mul_right (by omega) hd
/-- what lies ahead grows with the point -/
theorem pw_fr {row : Int → Int} {S : Nat} {p q : Pt} (hw : rowOK row) (hS : S ≤ 16) (hp : 0 < p.2) (hq : 0 < q.2) (h : p.1 * q.2 ≤ q.1 * p.2) : pw row p.1 p.2 S * q.2 ≤ pw row q.1 q.2 S * p.2 := by
  have m := pw_mono (u := p.2 * q.2) hw h S hS
  have g1 := pw_scale (w := row) (P := q.1) (u := q.2) (c := p.2) (by omega) S
  have g2 := pw_scale (w := row) (P := p.1) (u := p.2) (c := q.2) (by omega) S
  rw [Int.mul_comm p.2 q.1] at g1
  rw [Int.mul_comm q.2 p.1, Int.mul_comm q.2 p.2] at g2
  rw [g1, g2] at m
  rw [Int.mul_comm _ q.2, Int.mul_comm _ p.2]
  exact m
theorem wv_whole {row : Int → Int} {S : Nat} : wvN row S (0, 1) ((S : Int), 1) = cum row S ∧ wvD (0, 1) ((S : Int), 1) = 1 := by
  refine ⟨?_, rfl⟩
  show pw row ((S : Int) * 1) (1 * 1) S - pw row (0 * 1) (1 * 1) S = _
  rw [pw_all (by decide) S (by omega), pw_stop (by decide) (j := 0) (by omega) S (by omega)]
  show cum row S * (1 * 1) - 0 = _
  omega
/-- where the least mark is -/
theorem lst_ok {mk : Int → Pt} {g : Int} : ∀ k : Nat, (k : Int) ≤ 5 → (∀ p : Int, 0 ≤ p → p < k → bt g p → 0 < (mk p).2) →
    ((∀ p : Int, 0 ≤ p → p < k → ¬ bt g p) ∧ lst mk g k = -1) ∨ (0 ≤ lst mk g k ∧ lst mk g k < k ∧ bt g (lst mk g k) ∧ ∀ p : Int, 0 ≤ p → p < k → bt g p → (mk (lst mk g k)).1 * (mk p).2 ≤ (mk p).1 * (mk (lst mk g k)).2)
  | 0, _, _ => Or.inl ⟨fun p p0 p1 => absurd p1 (by omega), rfl⟩
  | k + 1, hk, hpos => by
    have ih := lst_ok (mk := mk) (g := g) k (by omega) (fun p p0 p1 => hpos p p0 (by omega))
    have e : lst mk g (k + 1) = if bt g k ∧ (lst mk g k < 0 ∨ (mk k).1 * (mk (lst mk g k)).2 < (mk (lst mk g k)).1 * (mk k).2) then (k : Int) else lst mk g k := rfl
    by_cases hb : bt g k
    · right
      have pk := hpos k (by omega) (by omega) hb
      rcases ih with ⟨i1, i2⟩ | ⟨i1, i2, i3, i4⟩
      · rw [e, if_pos ⟨hb, Or.inl (by omega)⟩]
        refine ⟨by omega, by omega, hb, fun p p0 p1 pb => ?_⟩
        by_cases ep : p = (k : Int)
        · rw [ep]; exact Int.le_refl _
        · exact absurd pb (i1 p p0 (by omega))
      · by_cases hc : (mk k).1 * (mk (lst mk g k)).2 < (mk (lst mk g k)).1 * (mk k).2
        · rw [e, if_pos ⟨hb, Or.inr hc⟩]
          refine ⟨by omega, by omega, hb, fun p p0 p1 pb => ?_⟩
          by_cases ep : p = (k : Int)
          · rw [ep]; exact Int.le_refl _
          · exact fr_trans pk (hpos _ i1 (by omega) i3) (hpos p p0 (by omega) pb) (Int.le_of_lt hc) (i4 p p0 (by omega) pb)
        · rw [e, if_neg (fun q => by rcases q.2 with z | z <;> omega)]
          refine ⟨i1, by omega, i3, fun p p0 p1 pb => ?_⟩
          by_cases ep : p = (k : Int)
          · rw [ep]; omega
          · exact i4 p p0 (by omega) pb
    · rw [e, if_neg (fun q => hb q.1)]
      rcases ih with ⟨i1, i2⟩ | ⟨i1, i2, i3, i4⟩
      · refine Or.inl ⟨fun p p0 p1 pb => ?_, i2⟩
        by_cases ep : p = (k : Int)
        · rw [ep] at pb; exact hb pb
        · exact i1 p p0 (by omega) pb
      · refine Or.inr ⟨i1, by omega, i3, fun p p0 p1 pb => ?_⟩
        by_cases ep : p = (k : Int)
        · rw [ep] at pb; exact absurd pb hb
        · exact i4 p p0 (by omega) pb
section
variable {n : Int} {μ : Mem} {Q : Option AV → Lay → Mem → Prop}
theorem c_X5_leastMark {E : WEnv} {g u : Int} {mk : Int → Pt} (hE : EnvOK E) (hr : RT μ E) (hg : 0 < g ∧ g < 32) (hN : ∀ p : Int, 0 ≤ p → p < 5 → bt g p → p < E.N) (hu : 1 ≤ u ∧ u ≤ 1000000000) (hm : MKs μ mk g E.N) (hp : ∀ p : Int, 0 ≤ p → p < E.N → bt g p → ptW E.S u (mk p).1 (mk p).2)
    (h : Q (some (0, lst mk g E.N.toNat)) (L0 n) μ) : TR mX5_leastMark 2 (0, 0) [(2, 440), (0, g)] (L0 n) μ Q := by
  have hNN := hE.2.1
  obtain ⟨f1, f2, f3⟩ := fsO_ok hg
  have fN := hN _ f1.1 f1.2 f2
  have hden : ∀ p : Int, 0 ≤ p → p < E.N → bt g p → 0 ≤ (mk p).1 ∧ 1 ≤ (mk p).2 ∧ (mk p).2 ≤ 1000000000 := fun p p0 p1 pb => by
    have t := hp p p0 p1 pb
    have := Int.le_of_dvd (by omega) t.2.2.2.1
    exact ⟨t.1, t.2.1, by omega⟩
  apply t_X5_leastMark (layOK n) k440
  refine c_X5_firstOf hE hr hg hN ⟨_, rfl, rfl, ⟨by omega, by omega⟩, ?_⟩
  have key : ∀ (d k : Nat), (k : Int) + d = E.N → fsO g < k → WA mX5_leastMark 2 (0, 0) 10 [(2, 440), (0, g), (0, lst mk g k), (0, (k : Int))] [] (L0 n) μ Q := by
    intro d
    induction d with
    | zero =>
      intro k hk hf
      apply s_X5_leastMark_10 (layOK n) k440
      rw [rf_shr.1, hr.2.1]
      refine ⟨fun _ => ?_, fun q => absurd (show E.N ≤ (k : Int) by omega) q⟩
      rw [show k = E.N.toNat by omega]
      exact h
    | succ d ih =>
      intro k hk hf
      have lo := lst_ok (mk := mk) (g := g) k (by omega) (fun p p0 p1 pb => by have := (hden p p0 (by omega) pb).2.1; omega)
      have lo : 0 ≤ lst mk g k ∧ lst mk g k < k ∧ bt g (lst mk g k) := by
        rcases lo with z | z
        · exact absurd f2 (z.1 (fsO g) f1.1 hf)
        · exact ⟨z.1, z.2.1, z.2.2.1⟩
      obtain ⟨l1, l2, l3⟩ := lo
      have e : lst mk g (k + 1) = if bt g k ∧ (lst mk g k < 0 ∨ (mk k).1 * (mk (lst mk g k)).2 < (mk (lst mk g k)).1 * (mk k).2) then (k : Int) else lst mk g k := rfl
      apply s_X5_leastMark_10 (layOK n) k440
      rw [rf_shr.1, hr.2.1, rf_shr.2.2.2.2.1, (sh_el.1 (k : Int) (by omega) (by omega)).1, (sh_el.1 (lst mk g k) l1 (by omega)).1]
      refine ⟨fun q => absurd q (by omega), fun _ => c_X5_isIn fun r hri => ⟨r, rfl, rfl, fun q => ⟨⟨by omega, by omega⟩, ?_⟩, fun q => ⟨⟨by omega, by omega⟩, ⟨by omega, by omega⟩, ?_⟩⟩⟩
      · have nb : ¬ bt g k := by
          rcases hri with z | z
          · omega
          · exact z.2
        have := ih (k + 1) (by omega) (by omega)
        rw [e, if_neg (fun z => nb z.1)] at this
        exact this
      · have yb : bt g k := by
          rcases hri with z | z
          · exact z.2
          · exact absurd z.1 q
        have d1 := hden k (by omega) (by omega) yb
        have d2 := hden _ l1 (by omega) l3
        have m1 := hm k (by omega) (by omega) yb
        have m2 := hm _ l1 (by omega) l3
        refine c_X3_isBelow (kmark ⟨by omega, by omega⟩) (kmark ⟨by omega, by omega⟩) ⟨by rw [m1.1]; exact d1.1, by rw [m1.2]; exact d1.2.1⟩ ⟨by rw [m2.1]; exact d2.1, by rw [m2.2]; exact d2.2.1⟩ (by rw [m1.2, m2.2]; exact den_mul d1.2 d2.2) fun r hr2 => ⟨r, rfl, rfl, fun q => ⟨⟨by omega, by omega⟩, ?_⟩, fun q => ⟨⟨by omega, by omega⟩, ?_⟩⟩
        · rw [m1.1, m1.2, m2.1, m2.2] at hr2
          have := ih (k + 1) (by omega) (by omega)
          rw [e, if_neg (fun z => by rcases z.2 with z | z <;> omega)] at this
          exact this
        · rw [m1.1, m1.2, m2.1, m2.2] at hr2
          have := ih (k + 1) (by omega) (by omega)
          rw [e, if_pos ⟨yb, Or.inr (by omega)⟩] at this
          exact this
  have e0 : ∀ k : Nat, (k : Int) ≤ fsO g → lst mk g k = -1 := by
    intro k
    induction k with
    | zero => intro _; rfl
    | succ k ih =>
      intro hk
      show (if bt g k ∧ _ then (k : Int) else lst mk g k) = -1
      rw [if_neg (fun z => f3 k (by omega) (by omega) z.1)]
      exact ih (by omega)
  have es : (((fsO g).toNat : Nat) : Int) = fsO g := by omega
  have e1 : lst mk g ((fsO g).toNat + 1) = fsO g := by
    show (if bt g ((fsO g).toNat : Int) ∧ _ then ((fsO g).toNat : Int) else _) = _
    rw [es, if_pos ⟨f2, Or.inl (by rw [e0 _ (by omega)]; decide)⟩]
  have := key (E.N - fsO g - 1).toNat ((fsO g).toNat + 1) (by omega) (by omega)
  rw [e1, show (((fsO g).toNat + 1 : Nat) : Int) = fsO g + 1 by omega] at this
  exact this
end
