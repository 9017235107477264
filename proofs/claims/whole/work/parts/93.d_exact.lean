/-! exact (the class) -/
def exN (r : Pt × Pt) (what : Int) : Int := if what = 0 then r.1.1 else if what = 1 then r.1.2 else if what = 2 then r.2.1 else r.2.2
theorem exc_b {B : Int → Int} {S : Nat} {p q : Int} (rB : rowOK B) (hS : S ≤ 16) : -2177280 ≤ exc B S p q ∧ exc B S p q ≤ 2177280 := by
  have b1 := pw_b144 (P := p) (u := 5040) rB (by decide) hS
  have b2 := pw_b144 (P := q) (u := 5040) rB (by decide) hS
  have cb := cum_b rB S hS
  unfold exc
  omega
section
variable {n : Int} {μ : Mem} {Q : Option AV → Lay → Mem → Prop}
theorem k490 : isK (L0 n) 490 (7, 0) := isK0 (by decide) (by decide) (by decide +kernel)
theorem k491 : isK (L0 n) 491 (3, 0) := isK0 (by decide) (by decide) (by decide +kernel)
theorem k492 : isK (L0 n) 492 (3, 0) := isK0 (by decide) (by decide) (by decide +kernel)
theorem rf_half : rf (L0 n) 490 0 = 491 ∧ rf (L0 n) 490 1 = 492 := ⟨rf0_eq (by decide +kernel), rf0_eq (by decide +kernel)⟩
theorem c_excess {B : Int → Int} {S : Nat} {r l q : Int} (kr : isK (L0 n) r (20, 16)) (hc : μ 2 0 = S) (hS : S ≤ 16) (rB : rowOK B) (hrow : rowOK (μ r)) (er : ∀ s : Int, 0 ≤ s → s < 16 → μ r s = B s) (hl : 0 ≤ l ∧ l ≤ 80640) (hq : 0 ≤ q ∧ q ≤ 80640)
    (h : Q (some (1, exc B S l q)) (L0 n) μ) : TR mX0_excess 2 (0, 0) [(2, 2), (2, r), (1, l), (1, q)] (L0 n) μ Q := by
  have eS : (μ 2 0).toNat = S := by omega
  have e1 : ∀ P, pw (μ r) P 5040 S = pw B P 5040 S := fun P => pw_congr S (fun t t0 t1 => er t t0 (by omega))
  have e2 : cum (μ r) S = cum B S := cum_congr S (fun t t0 t1 => er t t0 (by omega))
  have b1 := pw_b144 (P := l) (u := 5040) rB (by decide) hS
  have b2 := pw_b144 (P := q) (u := 5040) rB (by decide) hS
  have cb := cum_b rB S hS
  apply t_X0_excess (layOK n) k2 kr
  refine c_X0_upTo k2 kr ⟨by omega, by omega⟩ hrow hq.1 ⟨by decide, by decide⟩ (by omega) ⟨_, rfl, rfl, c_X0_upTo k2 kr ⟨by omega, by omega⟩ hrow hl.1 ⟨by decide, by decide⟩ (by omega) ⟨_, rfl, rfl, ?_⟩⟩
  rw [eS, e1, e1]
  refine ⟨⟨by omega, by omega⟩, ⟨by omega, by omega⟩, c_X0_total k2 kr ⟨by omega, by omega⟩ hrow ⟨_, rfl, rfl, ?_⟩⟩
  rw [eS, e2]
  exact ⟨⟨by omega, by omega⟩, ⟨by omega, by omega⟩, h⟩
theorem c_noZero {A : Int → Int} {S : Nat} {r : Int} (kr : isK (L0 n) r (20, 16)) (hc : μ 2 0 = S) (hS : S ≤ 16) (er : ∀ s : Int, 0 ≤ s → s < 16 → μ r s = A s)
    (hy : noZ A S → Q (some (0, 1)) (L0 n) μ) (hn : ¬ noZ A S → Q (some (0, 0)) (L0 n) μ) : TR mX0_hasNoZero 0 (0, 0) [(2, 2), (2, r)] (L0 n) μ Q := by
  apply t_X0_hasNoZero (layOK n) k2 kr
  have key : ∀ (d k : Nat), k + d = S → noZ A k → WA mX0_hasNoZero 0 (0, 0) 2 [(2, 2), (2, r), (0, (k : Int))] [] (L0 n) μ Q := by
    intro d
    induction d with
    | zero =>
      intro k hk hz
      have hk : k = S := by omega
      subst hk
      apply s_X0_hasNoZero_2 (layOK n) k2 kr
      exact ⟨fun _ => hy hz, fun z => absurd (show μ 2 0 ≤ (k : Int) by omega) z⟩
    | succ d ih =>
      intro k hk hz
      apply s_X0_hasNoZero_2 (layOK n) k2 kr
      rw [er k (by omega) (by omega)]
      refine ⟨fun z => absurd z (by omega), fun _ => ⟨⟨by omega, by omega⟩, fun z => ⟨⟨by omega, by omega⟩, ih (k + 1) (by omega) (fun s s0 s1 => ?_)⟩, fun z => hn (fun y => z (y k (by omega) (by omega)))⟩⟩
      by_cases y : s = k
      · rw [y]; exact z
      · exact hz s s0 (by omega)
  exact key S 0 (by omega) (fun s s0 s1 => absurd s1 (by omega))
/-- only what was half is the desk's own -/
def frH (μ μ' : Mem) : Prop := ∀ x i : Int, x ≠ 491 → x ≠ 492 → μ' x i = μ x i
theorem frH_tr {μ μ' μ'' : Mem} (h : frH μ μ') (h' : frH μ' μ'') : frH μ μ'' := fun x i h1 h2 => (h' x i h1 h2).trans (h x i h1 h2)
theorem frH_up {μ : Mem} {x i v : Int} (hx : x = 491 ∨ x = 492) : frH μ (up μ x i v) := fun y j h1 h2 => up_ne (Or.inl (by omega))
theorem c_half {A B : Int → Int} {S : Nat} {r1 r2 : Int} (kr1 : isK (L0 n) r1 (20, 16)) (kr2 : isK (L0 n) r2 (20, 16)) (hr1 : r1 ≤ 14) (hr2 : r2 ≤ 14) (hc : μ 2 0 = S) (hS : 2 ≤ S ∧ S ≤ 16) (rA : rowOK A) (rB : rowOK B) (ra : rowOK (μ r1)) (rb : rowOK (μ r2)) (ea : ∀ s : Int, 0 ≤ s → s < 16 → μ r1 s = A s) (eb : ∀ s : Int, 0 ≤ s → s < 16 → μ r2 s = B s)
    (hy : noZ A S → noZ B S → ∀ μ', frH μ μ' → PA μ' 491 (exR A B S 48 0 (exQ A S)).1 → PA μ' 492 (exR A B S 48 0 (exQ A S)).2 → Q (some (0, 1)) (L0 n) μ')
    (hn : ¬ (noZ A S ∧ noZ B S) → Q (some (0, 0)) (L0 n) μ) : TR mX0_halfForBoth 3 (0, 0) [(2, 2), (2, 490), (2, r1), (2, r2)] (L0 n) μ Q := by
  have eS : (μ 2 0).toNat = S := by omega
  apply t_X0_halfForBoth (layOK n) k2 k490 kr1 kr2
  rw [rf_half.2]
  refine c_noZero kr1 hc hS.2 ea (fun hA => ⟨_, rfl, rfl, fun z => absurd z (by decide), fun _ => c_noZero kr2 hc hS.2 eb (fun hB => ⟨_, rfl, rfl, fun z => absurd z (by decide), fun _ => ?_⟩) (fun hB => ⟨_, rfl, rfl, fun _ => hn (fun z => hB z.2), fun z => absurd rfl z⟩)⟩) (fun hA => ⟨_, rfl, rfl, fun _ => hn (fun z => hA z.1), fun z => absurd rfl z⟩)
  have hy := hy hA hB
  have cb := cum_b rA S hS.2
  have eT : cum (μ r1) S = cum A S := cum_congr S (fun t t0 t1 => ea t t0 (by omega))
  obtain ⟨m, em, -, dv, m2, m1, eq, q01, -⟩ := exQ_ok hA rA hS
  have h01 : 1 ≤ A 0 := hA 0 (by decide) (by omega)
  have c1 : 1 ≤ cum A S := by
    have := cum_mono rA (j := 1) S (by omega) hS.2
    have e1 : cum A 1 = A 0 := by show 0 + A ((0 : Nat) : Int) = _; rw [Int.zero_add]; rfl
    omega
  have mc := markR_class (row := A) (S := S) (u := 5040) (px := 0) (py := 1) (need := cum A S * 5040) (K := 2) (Int.one_dvd _) (by decide) (by decide) (by decide)
  rw [markR_any (row := A) (S := S) (px := 0) (py := 1) (vx := cum A S * 5040) (vy := 5040 * 2) (vx' := cum A S) (vy' := 2) (by decide) (by decide) (by decide) (by rw [Int.mul_assoc]), em, if_neg (by omega), prt_0] at mc
  have epw : pw (μ r1) 0 5040 S = pw A 0 5040 S := pw_congr S (fun t t0 t1 => ea t t0 (by omega))
  refine c_X0_total k2 kr1 ⟨by omega, by omega⟩ ra ⟨_, rfl, rfl, ?_⟩
  rw [eS, eT]
  refine ⟨⟨by omega, by omega⟩, c_X0_reach k2 k492 kr1 ⟨by omega, by omega⟩ ra ⟨by decide, by decide⟩ ⟨by decide, by decide⟩ ⟨by decide, by decide⟩ ⟨by omega, by omega⟩ (fun z => absurd z (by omega)) (fun s _ hf => ?_) (fun _ hf => ?_)⟩
  rotate_left
  · rw [eS, epw, fnd_congr ea _ 0 (by omega)] at hf
    rw [hf] at mc
    cases mc
  rw [eS, epw] at hf ⊢
  rw [fnd_congr ea _ 0 (by omega)] at hf
  have s16 := (fnd_spec _ _ _ hf).2.1
  rw [hf] at mc
  have mP : m = mkP A (2 * pw A 0 5040 S + cum A S * 5040) (5040 * 2) s := Option.some.inj mc
  have mg := mkP_congr (w := μ r1) (w' := A) (due := 2 * pw A 0 5040 S + cum A S * 5040) (all := 5040 * 2) ea (s := s) (by omega)
  rw [← mP] at mg
  have g1 := congrArg Prod.fst mg
  have g2 := congrArg Prod.snd mg
  unfold mkP at g1 g2
  simp only at g1 g2
  rw [g1, g2]
  generalize hμ1 : up (up μ 492 0 m.1) 492 1 m.2 = μ1
  have fr1 : frH μ μ1 := by rw [← hμ1]; exact frH_tr (frH_up (Or.inr rfl)) (frH_up (Or.inr rfl))
  have a0 : μ1 492 0 = m.1 := by rw [← hμ1, up_ne (Or.inr (by decide)), up_eq]
  have a1 : μ1 492 1 = m.2 := by rw [← hμ1, up_eq]
  refine ⟨_, rfl, rfl, fun _ => ?_, fun z => absurd z (by decide)⟩
  refine c_X3_parts k492 (by rw [a1]; omega) (by decide) (by rw [a0, a1, ← eq]; exact ⟨by omega, by omega⟩) ?_
  rw [a0, a1, ← eq]
  have rows : ∀ μ', frH μ μ' → μ' 2 0 = S ∧ rowOK (μ' r2) ∧ (∀ s : Int, 0 ≤ s → s < 16 → μ' r1 s = A s) ∧ (∀ s : Int, 0 ≤ s → s < 16 → μ' r2 s = B s) := fun μ' f => by
    refine ⟨(f 2 0 (by decide) (by decide)).trans hc, fun s s0 s1 => ?_, fun s s0 s1 => ?_, fun s s0 s1 => ?_⟩
    · rw [f r2 s (by omega) (by omega)]; exact rb s s0 s1
    · rw [f r1 s (by omega) (by omega)]; exact ea s s0 s1
    · rw [f r2 s (by omega) (by omega)]; exact eb s s0 s1
  obtain ⟨v1, v2, -, v3⟩ := rows μ1 fr1
  refine ⟨_, rfl, rfl, c_excess kr2 v1 hS.2 rB v2 v3 ⟨by decide, by decide⟩ ⟨by omega, by omega⟩ ⟨_, rfl, rfl, ?_⟩⟩
  -- the ends are put
  have out : ∀ (μ2 : Mem) (p q e : Int), frH μ μ2 → 0 ≤ p → 0 ≤ q → e = 0 → exR A B S 48 0 (exQ A S) = ((rdN p 5040, rdD p 5040), (rdN q 5040, rdD q 5040)) → WA mX0_halfForBoth 3 (0, 0) 344 [(9, 0), (2, 490), (9, 0), (9, 0), (1, p), (9, 0), (1, q), (9, 0), (1, e), (9, 0), (9, 0), (9, 0), (9, 0), (9, 0), (9, 0), (9, 0), (9, 0), (9, 0), (9, 0), (9, 0), (9, 0), (9, 0), (9, 0)] [] (L0 n) μ2 Q := by
    intro μ2 p q e f p0 q0 e0 er
    have hy := hy
    rw [er] at hy
    apply s_X0_halfForBoth_344 (layOK n) k490
    rw [rf_half.1, rf_half.2]
    refine c_X3_put k491 p0 (by decide) (by decide) ⟨rfl, rfl, c_X3_put k492 q0 (by decide) (by decide) ⟨rfl, rfl, fun z => absurd e0 z, fun _ => hy _ (frH_tr f (frH_tr (frH_tr (frH_up (Or.inl rfl)) (frH_up (Or.inl rfl))) (frH_tr (frH_up (Or.inr rfl)) (frH_up (Or.inr rfl))))) ⟨?_, ?_⟩ ⟨?_, ?_⟩⟩⟩
    · rw [up_ne (Or.inl (by decide)), up_ne (Or.inl (by decide)), up_ne (Or.inr (by decide)), up_eq]
    · rw [up_ne (Or.inl (by decide)), up_ne (Or.inl (by decide)), up_eq]
    · rw [up_ne (Or.inr (by decide)), up_eq]
    · rw [up_eq]
  have key : ∀ (f c : Nat) (p q : Int) (μ2 : Mem), c + f = 48 → JJ A B S p q → (c : Int) ≤ p / 5040 + q / 5040 → frH μ μ2 → exR A B S 48 0 (exQ A S) = exR A B S f p q → WA mX0_halfForBoth 3 (0, 0) 76 [(2, 2), (2, 490), (2, r1), (2, r2), (1, p), (9, 0), (1, q), (9, 0), (1, exc B S p q), (9, 0), (0, (c : Int)), (9, 0), (9, 0), (9, 0), (9, 0), (9, 0), (9, 0), (9, 0), (9, 0), (9, 0), (9, 0), (9, 0), (9, 0)] [] (L0 n) μ2 Q := by
    intro f
    induction f with
    | zero =>
      intro c p q μ2 hcf hJ hm
      obtain ⟨⟨p0, p1⟩, ⟨q0, q1⟩, -⟩ := hJ
      omega
    | succ f ih =>
      intro c p q μ2 hcf hJ hm fr er
      have hJ' := hJ
      obtain ⟨⟨p0, p1⟩, ⟨q0, q1⟩, -⟩ := hJ'
      obtain ⟨w1, w2, w3, w4⟩ := rows μ2 fr
      have eb1 := exc_b (p := p) (q := q) rB hS.2
      apply s_X0_halfForBoth_76 (layOK n) k2 k490 kr1 kr2
      refine ⟨fun z => absurd z (by omega), fun _ => ⟨p0, ⟨by omega, by omega⟩, q0, ⟨by omega, by omega⟩, fun z => ?_, fun z => ?_⟩⟩
      · refine out μ2 p q _ fr p0 q0 z ?_
        rw [er]
        unfold exR
        rw [if_pos z]
      obtain ⟨hp, hq⟩ := JJ_in hA rA hS hJ z
      have st := stp_ok hA rA hS.2 hJ hp hq
      have nx := JJ_go hA rA hS hJ z
      obtain ⟨x0, xl, y0, yl, xy, xo⟩ := st
      have ls : stL p = (p / 5040 + 1) * 5040 - p := rfl
      have lt : stL q = (q / 5040 + 1) * 5040 - q := rfl
      have a1 := hA (p / 5040) (by omega) (by omega)
      have a2 := (rA (p / 5040) (by omega) (by omega)).2
      have b1 := hA (q / 5040) (by omega) (by omega)
      have b2 := (rA (q / 5040) (by omega) (by omega)).2
      have mp := mulLB (show 0 ≤ stL p by omega) (show 0 ≤ A (p / 5040) by omega) (show stL p ≤ 5040 by omega) a2
      have mq := mulLB (show 0 ≤ stL q by omega) (show 0 ≤ A (q / 5040) by omega) (show stL q ≤ 5040 by omega) b2
      -- the step
      have go : ∀ x y : Int, x = stX A p q → y = stY A p q → WA mX0_halfForBoth 3 (0, 0) 212 [(2, 2), (2, 490), (2, r1), (2, r2), (1, p), (9, 0), (1, q), (9, 0), (1, exc B S p q), (9, 0), (0, (c : Int)), (9, 0), (9, 0), (1, x), (9, 0), (1, y), (9, 0), (9, 0), (9, 0), (9, 0), (9, 0), (9, 0), (9, 0)] [] (L0 n) μ2 Q := by
        intro x y hx hy'
        have er2 : exR A B S 48 0 (exQ A S) = if crs (exc B S p q) (exc B S (p + x) (q + y)) then (exP p x (exc B S p q) (exc B S (p + x) (q + y)), exP q y (exc B S p q) (exc B S (p + x) (q + y))) else exR A B S f (p + x) (q + y) := by
          rw [er]
          conv => lhs; unfold exR
          rw [if_neg z, ← hx, ← hy']
        rw [← hx] at x0 xl xy xo nx
        rw [← hy'] at y0 yl xy xo nx
        have eb2 := exc_b (p := p + x) (q := q + y) rB hS.2
        apply s_X0_halfForBoth_212 (layOK n) k2 k490 kr1 kr2
        refine ⟨⟨by omega, by omega⟩, ⟨by omega, by omega⟩, c_excess kr2 w1 hS.2 rB w2 w4 ⟨by omega, by omega⟩ ⟨by omega, by omega⟩ ⟨_, rfl, rfl, ?_⟩⟩
        have next : ¬ crs (exc B S p q) (exc B S (p + x) (q + y)) → WA mX0_halfForBoth 3 (0, 0) 76 [(2, 2), (2, 490), (2, r1), (2, r2), (1, p + x), (9, 0), (1, q + y), (9, 0), (1, exc B S (p + x) (q + y)), (9, 0), (0, (c : Int) + 1), (9, 0), (9, 0), (9, 0), (9, 0), (9, 0), (9, 0), (9, 0), (9, 0), (9, 0), (9, 0), (9, 0), (9, 0)] [] (L0 n) μ2 Q := fun nc => by
          rw [if_neg nc] at er2
          exact ih (c + 1) (p + x) (q + y) μ2 (by omega) (nx nc) (by omega) fr er2
        have cross : crs (exc B S p q) (exc B S (p + x) (q + y)) → WA mX0_halfForBoth 3 (0, 0) 253 [(9, 0), (2, 490), (9, 0), (9, 0), (1, p), (9, 0), (1, q), (9, 0), (1, exc B S p q), (9, 0), (9, 0), (9, 0), (9, 0), (1, x), (9, 0), (1, y), (9, 0), (1, exc B S (p + x) (q + y)), (9, 0), (9, 0), (9, 0), (9, 0), (9, 0)] [] (L0 n) μ2 Q := fun yc => by
          rw [if_pos yc] at er2
          have hy := hy
          rw [er2] at hy
          unfold exP at hy
          generalize exc B S p q = e at *
          generalize exc B S (p + x) (q + y) = e2 at *
          have w0 : 0 < max e (-e) + max e2 (-e2) := by omega
          have v0 : 0 ≤ max e (-e) := by omega
          have mw := mulLB p0 (show 0 ≤ max e (-e) + max e2 (-e2) by omega) (show p ≤ 80640 by omega) (show max e (-e) + max e2 (-e2) ≤ 5000000 by omega)
          have mv := mulLB (show 0 ≤ x by omega) v0 (show x ≤ 5040 by omega) (show max e (-e) ≤ 5000000 by omega)
          have nw := mulLB q0 (show 0 ≤ max e (-e) + max e2 (-e2) by omega) (show q ≤ 80640 by omega) (show max e (-e) + max e2 (-e2) ≤ 5000000 by omega)
          have nv := mulLB (show 0 ≤ y by omega) v0 (show y ≤ 5040 by omega) (show max e (-e) ≤ 5000000 by omega)
          apply s_X0_halfForBoth_253 (layOK n) k490
          rw [rf_half.1, rf_half.2]
          refine ⟨⟨by omega, by omega⟩, ⟨by omega, by omega⟩, ⟨by omega, by omega⟩, ⟨by omega, by omega⟩, ⟨by omega, by omega⟩, ⟨by omega, by omega⟩, ⟨by omega, by omega⟩, c_X3_put k491 (by omega) (by omega) (by omega) ⟨rfl, rfl, ⟨by omega, by omega⟩, ⟨by omega, by omega⟩, ⟨by omega, by omega⟩, c_X3_put k492 (by omega) (by omega) (by omega) ⟨rfl, rfl, hy _ (frH_tr fr (frH_tr (frH_tr (frH_up (Or.inl rfl)) (frH_up (Or.inl rfl))) (frH_tr (frH_up (Or.inr rfl)) (frH_up (Or.inr rfl))))) ⟨?_, ?_⟩ ⟨?_, ?_⟩⟩⟩⟩
          · rw [up_ne (Or.inl (by decide)), up_ne (Or.inl (by decide)), up_ne (Or.inr (by decide)), up_eq]
          · rw [up_ne (Or.inl (by decide)), up_ne (Or.inl (by decide)), up_eq]
          · rw [up_ne (Or.inr (by decide)), up_eq]
          · rw [up_eq]
        refine ⟨fun y1 => ⟨fun y2 => ⟨⟨by omega, by omega⟩, next ?_⟩, fun y2 => cross ?_⟩, fun y1 => ⟨fun y2 => ⟨⟨by omega, by omega⟩, next ?_⟩, fun y2 => cross ?_⟩⟩
        · unfold crs; omega
        · unfold crs; omega
        · unfold crs; omega
        · unfold crs; omega
      refine c_X0_hasStrip k2 ?_
      rw [w1, if_pos ⟨by omega, by omega⟩]
      refine ⟨_, rfl, rfl, fun y => absurd y (by decide), fun _ => c_X0_hasStrip k2 ?_⟩
      rw [w1, if_pos ⟨by omega, by omega⟩]
      refine ⟨_, rfl, rfl, fun _ => ?_, fun y => absurd y (by decide)⟩
      rw [w3 _ (by omega) (by omega), w3 _ (by omega) (by omega), ← ls, ← lt]
      refine ⟨⟨by omega, by omega⟩, ⟨by omega, by omega⟩, ⟨by omega, by omega⟩, ⟨by omega, by omega⟩, ⟨by omega, by omega⟩, ⟨by omega, by omega⟩, ⟨by omega, by omega⟩, ⟨by omega, by omega⟩, ⟨by omega, by omega⟩, ⟨by omega, by omega⟩, fun y => ⟨⟨by omega, by omega⟩, go _ _ ?_ ?_⟩, fun y => ⟨⟨by omega, by omega⟩, go _ _ ?_ ?_⟩⟩
      · unfold stX; rw [if_neg (by omega)]
      · unfold stY; rw [if_neg (by omega)]
      · unfold stX; rw [if_pos (by omega)]
      · unfold stY; rw [if_pos (by omega)]
  exact key 48 0 0 (exQ A S) μ1 (by omega) (JJ_0 hA rA hS) (by omega) fr1 rfl
theorem C_exact {σ : Sg} {i j what : Int} (hC : CSt μ σ) (ho : OKs σ)
    (hy : (0 ≤ i ∧ i < σ.w 1) ∧ (0 ≤ j ∧ j < σ.w 1) ∧ i ≠ j ∧ (0 ≤ what ∧ what ≤ 3) ∧ noZ (rowW σ.w i 1) (σ.w 0).toNat ∧ noZ (rowW σ.w j 1) (σ.w 0).toNat → ∀ μ', CSt μ' σ → frC μ μ' → Q (some (1, exN (exR (rowW σ.w i 1) (rowW σ.w j 1) (σ.w 0).toNat 48 0 (exQ (rowW σ.w i 1) (σ.w 0).toNat)) what)) (L0 n) μ')
    (hn : ¬ ((0 ≤ i ∧ i < σ.w 1) ∧ (0 ≤ j ∧ j < σ.w 1) ∧ i ≠ j ∧ (0 ≤ what ∧ what ≤ 3) ∧ noZ (rowW σ.w i 1) (σ.w 0).toNat ∧ noZ (rowW σ.w j 1) (σ.w 0).toNat) → Q (some (1, NOv)) (L0 n) μ) : TR mX9_exact 4 (0, 0) [(2, 1), (0, i), (0, j), (0, what)] (L0 n) μ Q := by
  have hN := ho.1.1.2.1
  have hS := ho.1.1.1
  apply t_X9_exact (layOK n) k1
  rw [rf_desk.1, rf_desk.2.2.2.2.2.2.2.2.2.2.2.2]
  refine c_hasA k2 hC.1 fun r1 h1 => ⟨r1, rfl, rfl, fun q => hn (fun z => by omega), fun q => c_hasA k2 hC.1 fun r2 h2 => ⟨r2, rfl, rfl, fun q2 => hn (fun z => by omega), fun q2 => ⟨fun q3 => hn (fun z => z.2.2.1 q3), fun q3 => ⟨fun q4 => hn (fun z => by omega), fun q4 => ⟨fun q5 => ?_, fun q5 => hn (fun z => by omega)⟩⟩⟩⟩⟩
  have hi : 0 ≤ i ∧ i < 5 := by omega
  have hj : 0 ≤ j ∧ j < 5 := by omega
  have er : ∀ a : Int, 0 ≤ a ∧ a < 5 → ∀ s : Int, 0 ≤ s → s < 16 → μ (10 + a) s = rowW σ.w a 1 s := fun a ha s s0 s1 => by
    have := CKr_row hC.1 ha (how := 1) (Or.inr rfl) s s0 s1
    have e : rowA 2 a 1 = 10 + a := by unfold rowA; rw [if_pos rfl]; omega
    rw [e] at this
    exact this
  have ok : ∀ a : Int, 0 ≤ a ∧ a < 5 → rowOK (μ (10 + a)) := fun a ha s s0 s1 => by rw [er a ha s s0 s1]; exact ho.1.1.2.2 a 1 ha.1 ha.2 s s0 s1
  rw [told_rf hi, told_rf hj]
  refine ⟨hi, hj, c_half (told_K hi) (told_K hj) (by omega) (by omega) (by rw [hC.1.1]; omega) ⟨by omega, by omega⟩ (ho.1.1.2.2 i 1 hi.1 hi.2) (ho.1.1.2.2 j 1 hj.1 hj.2) (ok i hi) (ok j hj) (er i hi) (er j hj) (fun z1 z2 μ1 f1 p1 p2 => ⟨_, rfl, rfl, fun _ => c_X7_part k490 ⟨by omega, by omega⟩ ⟨_, rfl, rfl, ?_⟩, fun z => absurd z (by decide)⟩) (fun z => ⟨_, rfl, rfl, fun y => absurd rfl y, fun _ => hn (fun y => z y.2.2.2.2)⟩)⟩
  have hy := hy ⟨by omega, by omega, q3, by omega, z1, z2⟩ μ1 (CSt_fr hC ho (fun x s hx => f1 x s (by omega) (by omega))) (fun x s hx => f1 x s (by omega) (by omega))
  unfold exN at hy
  rw [show (490 : Int) + 1 = 491 by decide, show (490 : Int) + 2 = 492 by decide, p1.1, p1.2, p2.1, p2.2]
  exact hy
end
