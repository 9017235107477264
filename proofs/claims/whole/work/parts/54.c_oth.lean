/-! how many a group has; those behind the m least marks -/
def bcC (v0 : Int) : Bool := decide ((inI (v0 - (bAnd ((bUshr v0 1)) 1431655765))) ∧ (inI ((bAnd ((v0 - (bAnd ((bUshr v0 1)) 1431655765))) 858993459) + (bAnd ((bUshr ((v0 - (bAnd ((bUshr v0 1)) 1431655765))) 2)) 858993459))) ∧ (inI (((bAnd ((v0 - (bAnd ((bUshr v0 1)) 1431655765))) 858993459) + (bAnd ((bUshr ((v0 - (bAnd ((bUshr v0 1)) 1431655765))) 2)) 858993459)) + (bUshr (((bAnd ((v0 - (bAnd ((bUshr v0 1)) 1431655765))) 858993459) + (bAnd ((bUshr ((v0 - (bAnd ((bUshr v0 1)) 1431655765))) 2)) 858993459))) 4))) ∧ (inI ((bAnd ((((bAnd ((v0 - (bAnd ((bUshr v0 1)) 1431655765))) 858993459) + (bAnd ((bUshr ((v0 - (bAnd ((bUshr v0 1)) 1431655765))) 2)) 858993459)) + (bUshr (((bAnd ((v0 - (bAnd ((bUshr v0 1)) 1431655765))) 858993459) + (bAnd ((bUshr ((v0 - (bAnd ((bUshr v0 1)) 1431655765))) 2)) 858993459))) 4))) 252645135) + (bUshr ((bAnd ((((bAnd ((v0 - (bAnd ((bUshr v0 1)) 1431655765))) 858993459) + (bAnd ((bUshr ((v0 - (bAnd ((bUshr v0 1)) 1431655765))) 2)) 858993459)) + (bUshr (((bAnd ((v0 - (bAnd ((bUshr v0 1)) 1431655765))) 858993459) + (bAnd ((bUshr ((v0 - (bAnd ((bUshr v0 1)) 1431655765))) 2)) 858993459))) 4))) 252645135)) 8))) ∧ (inI (((bAnd ((((bAnd ((v0 - (bAnd ((bUshr v0 1)) 1431655765))) 858993459) + (bAnd ((bUshr ((v0 - (bAnd ((bUshr v0 1)) 1431655765))) 2)) 858993459)) + (bUshr (((bAnd ((v0 - (bAnd ((bUshr v0 1)) 1431655765))) 858993459) + (bAnd ((bUshr ((v0 - (bAnd ((bUshr v0 1)) 1431655765))) 2)) 858993459))) 4))) 252645135) + (bUshr ((bAnd ((((bAnd ((v0 - (bAnd ((bUshr v0 1)) 1431655765))) 858993459) + (bAnd ((bUshr ((v0 - (bAnd ((bUshr v0 1)) 1431655765))) 2)) 858993459)) + (bUshr (((bAnd ((v0 - (bAnd ((bUshr v0 1)) 1431655765))) 858993459) + (bAnd ((bUshr ((v0 - (bAnd ((bUshr v0 1)) 1431655765))) 2)) 858993459))) 4))) 252645135)) 8)) + (bUshr (((bAnd ((((bAnd ((v0 - (bAnd ((bUshr v0 1)) 1431655765))) 858993459) + (bAnd ((bUshr ((v0 - (bAnd ((bUshr v0 1)) 1431655765))) 2)) 858993459)) + (bUshr (((bAnd ((v0 - (bAnd ((bUshr v0 1)) 1431655765))) 858993459) + (bAnd ((bUshr ((v0 - (bAnd ((bUshr v0 1)) 1431655765))) 2)) 858993459))) 4))) 252645135) + (bUshr ((bAnd ((((bAnd ((v0 - (bAnd ((bUshr v0 1)) 1431655765))) 858993459) + (bAnd ((bUshr ((v0 - (bAnd ((bUshr v0 1)) 1431655765))) 2)) 858993459)) + (bUshr (((bAnd ((v0 - (bAnd ((bUshr v0 1)) 1431655765))) 858993459) + (bAnd ((bUshr ((v0 - (bAnd ((bUshr v0 1)) 1431655765))) 2)) 858993459))) 4))) 252645135)) 8))) 16))))
def bcR (v0 : Int) : Int := (bAnd ((((bAnd ((((bAnd ((v0 - (bAnd ((bUshr v0 1)) 1431655765))) 858993459) + (bAnd ((bUshr ((v0 - (bAnd ((bUshr v0 1)) 1431655765))) 2)) 858993459)) + (bUshr (((bAnd ((v0 - (bAnd ((bUshr v0 1)) 1431655765))) 858993459) + (bAnd ((bUshr ((v0 - (bAnd ((bUshr v0 1)) 1431655765))) 2)) 858993459))) 4))) 252645135) + (bUshr ((bAnd ((((bAnd ((v0 - (bAnd ((bUshr v0 1)) 1431655765))) 858993459) + (bAnd ((bUshr ((v0 - (bAnd ((bUshr v0 1)) 1431655765))) 2)) 858993459)) + (bUshr (((bAnd ((v0 - (bAnd ((bUshr v0 1)) 1431655765))) 858993459) + (bAnd ((bUshr ((v0 - (bAnd ((bUshr v0 1)) 1431655765))) 2)) 858993459))) 4))) 252645135)) 8)) + (bUshr (((bAnd ((((bAnd ((v0 - (bAnd ((bUshr v0 1)) 1431655765))) 858993459) + (bAnd ((bUshr ((v0 - (bAnd ((bUshr v0 1)) 1431655765))) 2)) 858993459)) + (bUshr (((bAnd ((v0 - (bAnd ((bUshr v0 1)) 1431655765))) 858993459) + (bAnd ((bUshr ((v0 - (bAnd ((bUshr v0 1)) 1431655765))) 2)) 858993459))) 4))) 252645135) + (bUshr ((bAnd ((((bAnd ((v0 - (bAnd ((bUshr v0 1)) 1431655765))) 858993459) + (bAnd ((bUshr ((v0 - (bAnd ((bUshr v0 1)) 1431655765))) 2)) 858993459)) + (bUshr (((bAnd ((v0 - (bAnd ((bUshr v0 1)) 1431655765))) 858993459) + (bAnd ((bUshr ((v0 - (bAnd ((bUshr v0 1)) 1431655765))) 2)) 858993459))) 4))) 252645135)) 8))) 16))) 63)
theorem bc_all : (List.range 32).all (fun g => bcC (g : Int) && decide (bcR (g : Int) = cnt (g : Int))) = true := by decide +kernel
theorem bc_at {g : Int} (hg : 0 ≤ g ∧ g < 32) : bcC g = true ∧ bcR g = cnt g := by
  have h := m32 (P := fun g => bcC g && decide (bcR g = cnt g)) bc_all g hg.1 hg.2
  rw [Bool.and_eq_true, decide_eq_true_eq] at h
  exact h
/-- a mark of at most all that a span has lies in it -/
theorem mark_end {E : WEnv} {p over under : Int} {rest e m : Pt} (hE : EnvOK E) (hp : 0 ≤ p ∧ p < E.N) (ho : 0 ≤ over ∧ over ≤ under) (hun : 0 < under) (r1 : 0 ≤ rest.1) (r2 : 0 < rest.2) (e2 : 0 < e.2) (hre : rest.1 * e.2 ≤ e.1 * rest.2) (hM : MP E rest rest e over under p m) : m.1 * e.2 ≤ e.1 * m.2 := by
  have hag := ag_b hE hp
  have hrow := hE.2.2.2 _ hag.1 hag.2.2
  have hS := hE.1
  have n0 := (wv_b hrow hS.2 (show 1 ≤ rest.2 by omega) (show 1 ≤ e.2 by omega) hre).1
  refine markR_least (x := e.1) (y := e.2) hrow ⟨by omega, hS.2⟩ r1 r2 (Int.mul_nonneg n0 ho.1) (Int.mul_pos (Int.mul_pos r2 e2) hun) hM.1 e2 hre ?_
  have em := wv_eq (row := E.T (ag E p)) (S := E.S) (a := rest) (b := e) (by omega) (by omega)
  have k1 := Int.mul_le_mul_of_nonneg_right (Int.mul_le_mul_of_nonneg_left ho.2 n0) (show 0 ≤ rest.2 * e.2 from Int.mul_nonneg (by omega) (by omega))
  rw [em] at k1 ⊢
  generalize pw (E.T (ag E p)) rest.1 rest.2 E.S = R at *
  generalize pw (E.T (ag E p)) e.1 e.2 E.S = M at *
  have f1 : (R * (rest.2 * e.2 * under) + (rest.2 * M - e.2 * R) * over * rest.2) * e.2 = e.2 * R * under * (rest.2 * e.2) + (rest.2 * M - e.2 * R) * over * (rest.2 * e.2) := by
    rw [Int.add_mul]
    congr 1 <;> ac_rfl
  have f2 : (rest.2 * M - e.2 * R) * under * (rest.2 * e.2) = M * (rest.2 * (rest.2 * e.2 * under)) - e.2 * R * under * (rest.2 * e.2) := by
    rw [Int.sub_mul, Int.sub_mul]
    congr 1
    ac_rfl
  rw [f1]
  omega
/-- those behind the m least -/
theorem othS_ok {mk : Int → Pt} {N : Nat} {g : Int} (hN : (N : Int) ≤ 5) (hg : 0 ≤ g ∧ g < 32) (hb : ∀ p : Int, 0 ≤ p → p < 5 → bt g p → p < N) (hpos : ∀ p : Int, 0 ≤ p → p < N → bt g p → 0 < (mk p).2) : ∀ m : Nat, (m : Int) ≤ cnt g →
    (0 ≤ (othS mk N g m).1 ∧ (othS mk N g m).1 < 32) ∧ cnt (othS mk N g m).1 = cnt g - m ∧ (∀ p : Int, 0 ≤ p → p < 5 → bt (othS mk N g m).1 p → bt g p) ∧ (0 < m → 0 ≤ (othS mk N g m).2 ∧ (othS mk N g m).2 < N ∧ bt g (othS mk N g m).2)
  | 0, _ => ⟨hg, by show cnt g = cnt g - ((0 : Nat) : Int); omega, fun _ _ _ h => h, fun h => absurd h (by decide)⟩
  | m + 1, hm => by
    obtain ⟨i1, i2, i3, -⟩ := othS_ok hN hg hb hpos m (by omega)
    show (0 ≤ off1 (othS mk N g m).1 (lst mk (othS mk N g m).1 N) ∧ off1 (othS mk N g m).1 (lst mk (othS mk N g m).1 N) < 32) ∧ cnt (off1 (othS mk N g m).1 (lst mk (othS mk N g m).1 N)) = cnt g - ((m + 1 : Nat) : Int) ∧ (∀ p : Int, 0 ≤ p → p < 5 → bt (off1 (othS mk N g m).1 (lst mk (othS mk N g m).1 N)) p → bt g p) ∧ (0 < m + 1 → 0 ≤ lst mk (othS mk N g m).1 N ∧ lst mk (othS mk N g m).1 N < N ∧ bt g (lst mk (othS mk N g m).1 N))
    generalize (othS mk N g m).1 = o at *
    have o0 : 0 < o := (cnt_b i1).2.2.1.mpr (by omega)
    obtain ⟨f1, f2, f3⟩ := fsO_ok (g := o) ⟨o0, i1.2⟩
    have lo := lst_ok (mk := mk) (g := o) N hN (fun p p0 p1 pb => hpos p p0 p1 (i3 p p0 (by omega) pb))
    obtain ⟨l1, l2, l3, -⟩ := lo.resolve_left (fun z => z.1 _ f1.1 (hb _ f1.1 f1.2 (i3 _ f1.1 f1.2 f2)) f2)
    have ob := off1_b (g := o) (p := lst mk o N) i1 ⟨l1, by omega⟩
    rw [if_pos l3] at ob
    exact ⟨⟨ob.1, by omega⟩, by omega, fun p p0 p1 pb => i3 p p0 p1 ((off1_bt i1 ⟨l1, by omega⟩ ⟨p0, p1⟩).mp pb).1, fun _ => ⟨l1, l2, i3 _ l1 (by omega) l3⟩⟩
section
variable {n : Int} {μ : Mem} {Q : Option AV → Lay → Mem → Prop}
theorem c_bitCount {g : Int} (hg : 0 ≤ g ∧ g < 32) (h : Q (some (0, cnt g)) (L0 n) μ) : TR mJ6_bitCount_0f7a4 0 (0, 0) [(0, g)] (L0 n) μ Q := by
  obtain ⟨e1, e2⟩ := bc_at hg
  have e1 := of_decide_eq_true e1
  rw [← e2] at h
  apply t_J6_bitCount_0f7a4 (layOK n)
  exact ⟨e1.1, e1.2.1, e1.2.2.1, e1.2.2.2.1, e1.2.2.2.2, h⟩
theorem c_X5_othersBehind {E : WEnv} {g m u o : Int} {mk : Int → Pt} {M : Nat} (hE : EnvOK E) (hr : RT μ E) (hg : 0 < g ∧ g < 32) (hN : ∀ p : Int, 0 ≤ p → p < 5 → bt g p → p < E.N) (hu : 1 ≤ u ∧ u ≤ 1000000000) (hm : MKs μ mk g E.N) (hp : ∀ p : Int, 0 ≤ p → p < E.N → bt g p → ptW E.S u (mk p).1 (mk p).2) (hM : (M : Int) < cnt g) (em : m = (M : Int)) (hM0 : 0 < M)
    (ko : isK (L0 n) o (3, 0)) (ho : ∀ j : Int, 0 ≤ j → j < 5 → o ≠ 454 + 2 * j) (ho2 : 443 < o)
    (h : ∀ μ', PA μ' o (mk (othS mk E.N.toNat g M).2) → (∀ x i, x ≠ o → μ' x i = μ x i) → Q (some (0, (othS mk E.N.toNat g M).1)) (L0 n) μ') : TR mX5_othersBehind 3 (0, 0) [(2, 440), (0, g), (0, m), (2, o)] (L0 n) μ Q := by
  have hNN := hE.2.1
  have eN : ((E.N.toNat : Nat) : Int) = E.N := by omega
  subst em
  have ok := othS_ok (mk := mk) (N := E.N.toNat) (g := g) (by omega) ⟨by omega, hg.2⟩ (by rw [eN]; exact hN) (by rw [eN]; exact fun p p0 p1 pb => by have := (hp p p0 p1 pb).2.1; omega)
  have c5 := (cnt_b (g := g) ⟨by omega, hg.2⟩).2.1
  apply t_X5_othersBehind (layOK n) k440 ko
  have key : ∀ (d k : Nat), k + d = M → ∀ μ1, (0 < k → PA μ1 o (mk (othS mk E.N.toNat g k).2)) → (∀ x i, x ≠ o → μ1 x i = μ x i) → WA mX5_othersBehind 3 (0, 0) 6 [(2, 440), (9, 0), (0, (M : Int)), (2, o), (0, (othS mk E.N.toNat g k).1), (0, (k : Int)), (9, 0)] [] (L0 n) μ1 Q := by
    intro d
    induction d with
    | zero =>
      intro k hk μ1 g1 g2
      have : k = M := by omega
      subst this
      apply s_X5_othersBehind_6 (layOK n) k440 ko
      exact ⟨fun _ => h μ1 (g1 hM0) g2, fun q => absurd (Int.le_refl _) q⟩
    | succ d ih =>
      intro k hk μ1 g1 g2
      obtain ⟨i1, i2, i3, -⟩ := ok k (by omega)
      obtain ⟨-, -, -, j4⟩ := ok (k + 1) (by omega)
      obtain ⟨l1, l2, l3⟩ := j4 (by omega)
      have el : (othS mk E.N.toNat g (k + 1)).2 = lst mk (othS mk E.N.toNat g k).1 E.N.toNat := rfl
      have eo : (othS mk E.N.toNat g (k + 1)).1 = off1 (othS mk E.N.toNat g k).1 (lst mk (othS mk E.N.toNat g k).1 E.N.toNat) := rfl
      have hr1 : RT μ1 E := RT_fr hr (fun x i hx => g2 x i (by omega))
      have hm1 : MKs μ1 mk g E.N := fun p p0 p1 pb => PA_fr (hm p p0 p1 pb) (fun i => g2 _ i (fun q => ho p p0 (by omega) q.symm))
      have o0 : 0 < (othS mk E.N.toNat g k).1 := (cnt_b i1).2.2.1.mpr (by omega)
      rw [el] at l1 l2 l3
      apply s_X5_othersBehind_6 (layOK n) k440 ko
      refine ⟨fun q => absurd q (by omega), fun _ => ?_⟩
      refine c_X5_leastMark hE hr1 ⟨o0, i1.2⟩ (fun p p0 p1 pb => hN p p0 p1 (i3 p p0 p1 pb)) hu (fun p p0 p1 pb => hm1 p p0 p1 (i3 p p0 (by omega) pb)) (fun p p0 p1 pb => hp p p0 p1 (i3 p p0 (by omega) pb)) ⟨_, rfl, rfl, ⟨l1, by omega⟩, ?_⟩
      rw [rf_shr.2.2.2.2.1, (sh_el.1 _ l1 (by omega)).1]
      refine c_X3_copy ko (kmark ⟨l1, by omega⟩) ⟨rfl, rfl, ⟨by omega, by omega⟩, ?_⟩
      have pl := hm1 _ l1 (by omega) l3
      have f1 : ∀ x i, x ≠ o → up (up μ1 o 0 (μ1 (454 + 2 * lst mk (othS mk E.N.toNat g k).1 E.N.toNat) 0)) o 1 (μ1 (454 + 2 * lst mk (othS mk E.N.toNat g k).1 E.N.toNat) 1) x i = μ1 x i := fun x i hx => by rw [up_ne (Or.inl hx), up_ne (Or.inl hx)]
      have := ih (k + 1) (by omega) _ (fun _ => by
        rw [el]
        exact ⟨by rw [up_ne (Or.inr (by decide)), up_eq]; exact pl.1, by rw [up_eq]; exact pl.2⟩) (fun x i hx => (f1 x i hx).trans (g2 x i hx))
      rw [eo] at this
      exact this
  exact key M 0 (by omega) μ (fun z => absurd z (by decide)) (fun _ _ _ => rfl)
end
