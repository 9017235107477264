/-! the reference's answers: off, exchange, cuts -/
/-- the table of the exchanges and the list of the cuts may be new too -/
def frE (μ μ' : Mem) : Prop := ∀ x i : Int, (x ≠ 493 ∨ (i ≠ 4 ∧ i ≠ 5)) → x ≠ 505 → x ≠ 506 → μ' x i = μ x i
theorem frE_rf {μ : Mem} : frE μ μ := fun _ _ _ _ _ => rfl
theorem frE_tr {μ μ' μ'' : Mem} (h : frE μ μ') (h' : frE μ' μ'') : frE μ μ'' := fun x i h1 h2 h3 => (h' x i h1 h2 h3).trans (h x i h1 h2 h3)
theorem frQ_E {μ μ' : Mem} (h : frQ μ μ') : frE μ μ' := fun x i hx _ _ => h x i hx
theorem frE_Y {μ μ' : Mem} (h : frE μ μ') : frY μ μ' := fun x i hx => h x i (by omega) (by omega) (by omega)
theorem frE_up {μ : Mem} {x i v : Int} (hx : x = 505 ∨ x = 506) : frE μ (up μ x i v) := fun y j _ h2 h3 => up_ne (Or.inl (by omega))
theorem RWm_E {μ μ' : Mem} {w : Dv} (h : RWm μ w) (hf : frE μ μ') : RWm μ' w := RWm_fr h (fun i => hf 494 i (Or.inl (by decide)) (by decide) (by decide))
theorem sumH_cut {row : Int → Int} {S : Nat} {w : Dv} {N : Nat} (h : ∀ a : Int, (N : Int) ≤ a → a < 5 → w (165 + a) = 0) : ∀ d : Nat, N + d ≤ 5 → sumH row S w (N + d) = sumH row S w N
  | 0, _ => rfl
  | d + 1, hd => by
    show sumH row S w (N + d) + hld row S w ((N + d : Nat) : Int) = _
    rw [sumH_cut h d (by omega)]
    have e := h ((N + d : Nat) : Int) (by omega) (by omega)
    unfold hld
    rw [e, if_neg (by decide), if_neg (by decide)]
    omega
theorem cutN_cut {S : Int} {w : Dv} {N : Nat} (h : ∀ a : Int, (N : Int) ≤ a → a < 5 → w (165 + a) = 0) : ∀ d : Nat, N + d ≤ 5 → cutN S w (N + d) = cutN S w N
  | 0, _ => rfl
  | d + 1, hd => by
    show cutA S w (cutN S w (N + d)) ((N + d : Nat) : Int) = _
    rw [cutN_cut h d (by omega)]
    have e := h ((N + d : Nat) : Int) (by omega) (by omega)
    unfold cutA
    rw [e, if_neg (by decide), if_neg (by decide)]
/-- one end of a span taken in -/
def endC (S : Int) (w : Dv) (l : List Int) (a e : Int) : List Int := if neS w a (e / 2) then addC S (w 3) l (prt (w 3) (w (170 + 8 * a + 2 * e)) (w (171 + 8 * a + 2 * e))) else l
theorem endC_len {S : Int} {w : Dv} {l : List Int} {a e : Int} : l.length ≤ (endC S w l a e).length ∧ (endC S w l a e).length ≤ l.length + 1 := by
  unfold endC
  split
  · exact addC_len
  · omega
theorem endC_two {S : Int} {w : Dv} {l : List Int} {a k : Int} (hk : 0 ≤ k) : endC S w (endC S w l a (2 * k)) a (2 * k + 1) = cutK S w l a k := by
  unfold endC cutK
  rw [show 2 * k / 2 = k by omega, show (2 * k + 1) / 2 = k by omega, show 170 + 8 * a + 2 * (2 * k) = 170 + 8 * a + 4 * k by omega, show 171 + 8 * a + 2 * (2 * k) = 171 + 8 * a + 4 * k by omega, show 170 + 8 * a + 2 * (2 * k + 1) = 172 + 8 * a + 4 * k by omega, show 171 + 8 * a + 2 * (2 * k + 1) = 173 + 8 * a + 4 * k by omega]
  by_cases z : neS w a k
  · rw [if_pos z, if_pos z, if_pos z]
  · rw [if_neg z, if_neg z, if_neg z]
theorem pt_same {S u x y x' y' : Int} (h : ptW S u x y) (h' : ptW S u x' y') (hc : x * y' ≤ x' * y) : (x = x' ∧ y = y') ↔ ¬ x * y' < x' * y := by
  constructor
  · rintro ⟨rfl, rfl⟩
    omega
  · intro z
    have hy := h.2.1
    have hy' := h'.2.1
    have r := rd_eq (x := x) (y := y) (x' := x') (y' := y') (by omega) (by omega) (by omega)
    have a1 := rdN_mul x y
    have a2 := rdD_mul x y
    have b1 := rdN_mul x' y'
    have b2 := rdD_mul x' y'
    rw [h.2.2.2.2, Int.mul_one] at a1 a2
    rw [h'.2.2.2.2, Int.mul_one] at b1 b2
    exact ⟨by rw [← a1, ← b1]; exact r.1, by rw [← a2, ← b2]; exact r.2⟩
section
variable {n : Int} {μ : Mem} {Q : Option AV → Lay → Mem → Prop}
theorem R_off {σ : Sg} {a what part : Int} (hR : RSt μ σ) (ho : OKs σ)
    (hy : (0 ≤ a ∧ a < σ.w 1) ∧ (what = 0 ∨ what = 1) ∧ (part = 0 ∨ part = 1) ∧ σ.w 2 = 1 → ∀ μ', RSt μ' σ → frR' μ μ' → Q (some (1, frac (if what = 0 then trm (rowW σ.w a 0) (σ.w 0).toNat σ.w (σ.w 4).toNat else cum (rowW σ.w a 0) (σ.w 0).toNat * σ.w 3 - sumH (rowW σ.w a 0) (σ.w 0).toNat σ.w 5) (σ.w 3) part)) (L0 n) μ')
    (hn : ¬ ((0 ≤ a ∧ a < σ.w 1) ∧ (what = 0 ∨ what = 1) ∧ (part = 0 ∨ part = 1) ∧ σ.w 2 = 1) → Q (some (1, NOv)) (L0 n) μ) : TR mX10_off 5 (0, 0) [(2, 493), (0, a), (0, what), (0, part)] (L0 n) μ Q := by
  have hN := ho.1.1.2.1
  have hS := ho.1.1.1
  have hu := ho.1.2.2.1.1
  have u1 := hu.1
  have u2 := hu.2
  have eS : (((σ.w 0).toNat : Nat) : Int) = σ.w 0 := by omega
  have cn := WK_cn ho.1
  have c41 := cn.1.1
  have c42 := cn.1.2
  have e4 := hR.1 4 (by decide) (by decide)
  have e3 := hR.1 3 (by decide) (by decide)
  apply t_X10_off (layOK n) k493
  rw [rf_ref.1]
  refine c_X10_isAgent hR.1 ho.1.1 fun r1 h1 => ⟨r1, rfl, rfl, fun q => hn (by omega), fun q => c_X10_in fun r3 h3 => ⟨r3, rfl, rfl, fun q3 => hn (by omega), fun q3 => c_X10_in fun r4 h4 => ⟨r4, rfl, rfl, fun q4 => hn (by omega), fun q4 => c_isDiv hR.1 fun r5 h5 => ⟨r5, rfl, rfl, fun q5 => ?_, fun q5 => hn (by omega)⟩⟩⟩⟩
  have ha : 0 ≤ a ∧ a < 5 := by omega
  have hy := hy (by omega)
  have hrow := ho.1.1.2.2 a 0 ha.1 ha.2
  have cb := cum_b hrow (σ.w 0).toNat (by omega)
  have cu := mulLB cb.1 (show 0 ≤ σ.w 3 by omega) (show cum (rowW σ.w a 0) (σ.w 0).toNat ≤ 144 by omega) u2
  -- the answer
  have tell : ∀ (μ1 : Mem) (v : Int), frQ μ μ1 → 0 ≤ v → v = (if what = 0 then trm (rowW σ.w a 0) (σ.w 0).toNat σ.w (σ.w 4).toNat else cum (rowW σ.w a 0) (σ.w 0).toNat * σ.w 3 - sumH (rowW σ.w a 0) (σ.w 0).toNat σ.w 5) → TR mX10_becomes 1 (0, 0) [(2, 493), (1, v), (1, (μ1 494 3))] (L0 n) μ1 (fun r6 L7 μ8 => r6 = none ∧ (L0 n) = L7 ∧ TR mX10_partOf 0 (0, 0) [(2, 493), (0, part)] (L0 n) μ8 (fun r9 L10 μ11 => ∃ w12, r9 = some (1, w12) ∧ (L0 n) = L10 ∧ Q (some (1, w12)) (L0 n) μ11)) := by
    intro μ1 v f v0 e
    rw [RWm_Q hR.1 f 3 (by decide) (by decide)]
    rw [← e] at hy
    refine c_X10_becomes v0 (by omega) fun μ2 f2 fr2 => ⟨rfl, rfl, c_X10_partOf fr2 ⟨_, rfl, rfl, ?_⟩⟩
    have F := frY_tr (frQ_Y f) (frQ_Y f2)
    exact hy μ2 (RSt_fr hR F) (frY_R F)
  refine ⟨fun q6 => ?_, fun q6 => ?_⟩
  · refine c_X10_allOf hR.1 ho.1.1 ha ⟨_, rfl, rfl, ?_⟩
    rw [e3]
    refine ⟨⟨by omega, by omega⟩, ?_⟩
    have sh := ho.1.2.2.2.1 (rowW σ.w a 0) hrow
    have cut := sumH_cut (row := rowW σ.w a 0) (S := (σ.w 0).toNat) (w := σ.w) (N := (σ.w 1).toNat) (fun b b0 b1 => ho.1.2.2.2.2.1 b (by omega) b1) (5 - (σ.w 1).toNat) (by omega)
    rw [show (σ.w 1).toNat + (5 - (σ.w 1).toNat) = 5 by omega] at cut
    have mono : ∀ d k : Nat, k + d = (σ.w 1).toNat → 0 ≤ sumH (rowW σ.w a 0) (σ.w 0).toNat σ.w k ∧ sumH (rowW σ.w a 0) (σ.w 0).toNat σ.w k ≤ sumH (rowW σ.w a 0) (σ.w 0).toNat σ.w (σ.w 1).toNat := by
      have nn : ∀ k : Nat, k ≤ 5 → 0 ≤ sumH (rowW σ.w a 0) (σ.w 0).toNat σ.w k := fun k => by
        induction k with
        | zero => intro _; exact Int.le_refl _
        | succ k ih =>
          intro hk
          have := (hld_pos (how := 0) ho.1.1 ho.1.2.2.1 (show 0 ≤ (k : Int) ∧ (k : Int) < 5 by omega) ha).1
          have := ih (by omega)
          show 0 ≤ sumH (rowW σ.w a 0) (σ.w 0).toNat σ.w k + hld (rowW σ.w a 0) (σ.w 0).toNat σ.w k
          omega
      intro d
      induction d with
      | zero => intro k hk; rw [show (σ.w 1).toNat = k by omega]; exact ⟨nn k (by omega), Int.le_refl _⟩
      | succ d ih =>
        intro k hk
        have := ih (k + 1) (by omega)
        have e : sumH (rowW σ.w a 0) (σ.w 0).toNat σ.w (k + 1) = sumH (rowW σ.w a 0) (σ.w 0).toNat σ.w k + hld (rowW σ.w a 0) (σ.w 0).toNat σ.w k := rfl
        have := (hld_pos (how := 0) ho.1.1 ho.1.2.2.1 (show 0 ≤ (k : Int) ∧ (k : Int) < 5 by omega) ha).1
        exact ⟨nn k (by omega), by omega⟩
    have left : ∀ (d k : Nat), k + d = (σ.w 1).toNat → ∀ μ1, frQ μ μ1 → WA mX10_off 5 (0, 0) 136 [(2, 493), (0, a), (0, what), (0, part), (1, cum (rowW σ.w a 0) (σ.w 0).toNat * σ.w 3 - sumH (rowW σ.w a 0) (σ.w 0).toNat σ.w k), (9, 0), (0, (k : Int))] [] (L0 n) μ1 Q := by
      intro d
      induction d with
      | zero =>
        intro k hk μ1 f1
        have hk : k = (σ.w 1).toNat := by omega
        subst hk
        apply s_X10_off_136 (layOK n) k493
        rw [rf_ref.1]
        refine c_X10_agents (RWm_Q hR.1 f1) ho.1.1 ⟨_, rfl, rfl, fun _ => ?_, fun z => absurd (show σ.w 1 ≤ (((σ.w 1).toNat : Nat) : Int) by omega) z⟩
        exact tell μ1 _ f1 (by omega) (by rw [if_neg q6, cut])
      | succ d ih =>
        intro k hk μ1 f1
        have m1 := mono (d + 1) k hk
        have m2 := mono d (k + 1) (by omega)
        have e : sumH (rowW σ.w a 0) (σ.w 0).toNat σ.w (k + 1) = sumH (rowW σ.w a 0) (σ.w 0).toNat σ.w k + hld (rowW σ.w a 0) (σ.w 0).toNat σ.w k := rfl
        apply s_X10_off_136 (layOK n) k493
        rw [rf_ref.1]
        refine c_X10_agents (RWm_Q hR.1 f1) ho.1.1 ⟨_, rfl, rfl, fun z => absurd z (by omega), fun _ => ⟨fun z => absurd (show what = 1 by omega) z, fun _ => c_wos (RWm_Q hR.1 f1) ho.1.1 ho.1.2.2.1 ha ⟨by omega, by omega⟩ fun μ2 f2 => ⟨_, rfl, rfl, ⟨by omega, by omega⟩, ⟨by omega, by omega⟩, ?_⟩⟩⟩
        rw [show cum (rowW σ.w a 0) (σ.w 0).toNat * σ.w 3 - sumH (rowW σ.w a 0) (σ.w 0).toNat σ.w k - hld (rowW σ.w a 0) (σ.w 0).toNat σ.w k = cum (rowW σ.w a 0) (σ.w 0).toNat * σ.w 3 - sumH (rowW σ.w a 0) (σ.w 0).toNat σ.w (k + 1) by omega]
        exact ih (k + 1) (by omega) μ2 (frQ_tr f1 f2)
    have start := left (σ.w 1).toNat 0 (by omega) μ frQ_rf
    rw [show sumH (rowW σ.w a 0) (σ.w 0).toNat σ.w 0 = 0 from rfl, Int.sub_zero] at start
    apply s_X10_off_65 (layOK n) k493
    exact ⟨fun _ => start, fun _ => ⟨fun _ => start, fun z => absurd z q6⟩⟩
  · have key : ∀ (d k : Nat), k + d = (σ.w 4).toNat → ∀ μ1, frQ μ μ1 → WA mX10_off 5 (0, 0) 65 [(2, 493), (0, a), (0, what), (0, part), (1, trm (rowW σ.w a 0) (σ.w 0).toNat σ.w k), (9, 0), (0, (k : Int))] [] (L0 n) μ1 Q := by
      intro d
      induction d with
      | zero =>
        intro k hk μ1 f1
        have hk : k = (σ.w 4).toNat := by omega
        subst hk
        have tb := trm_b (S := (σ.w 0).toNat) hrow (by omega) hu (by rw [eS]; exact ho.1.2.2.1.2.1) (σ.w 4).toNat (by omega)
        apply s_X10_off_65 (layOK n) k493
        rw [rf_ref.1, RWm_Q hR.1 f1 4 (by decide) (by decide)]
        refine ⟨fun _ => ?_, fun z => absurd (show σ.w 4 ≤ (((σ.w 4).toNat : Nat) : Int) by omega) z⟩
        apply s_X10_off_136 (layOK n) k493
        rw [rf_ref.1]
        exact c_X10_agents (RWm_Q hR.1 f1) ho.1.1 ⟨_, rfl, rfl, fun z => absurd z (by omega), fun _ => ⟨fun _ => tell μ1 _ f1 tb.1 (by rw [if_pos q6]), fun z => absurd (q6.symm.trans z) (by decide)⟩⟩
      | succ d ih =>
        intro k hk μ1 f1
        have tb := trm_b (S := (σ.w 0).toNat) hrow (by omega) hu (by rw [eS]; exact ho.1.2.2.1.2.1) k (by omega)
        have tb2 := trm_b (S := (σ.w 0).toNat) hrow (by omega) hu (by rw [eS]; exact ho.1.2.2.1.2.1) (k + 1) (by omega)
        have kk : (k : Int) < σ.w 4 := by omega
        obtain ⟨-, -, p1, p2, p3⟩ := ho.1.2.2.1.2.1.2.2 k (by omega) kk
        have e : trm (rowW σ.w a 0) (σ.w 0).toNat σ.w (k + 1) = trm (rowW σ.w a 0) (σ.w 0).toNat σ.w k + if σ.w (210 + 6 * (k : Int)) = 1 then spn (rowW σ.w a 0) (σ.w 0).toNat (σ.w 3) (σ.w (212 + 6 * (k : Int))) (σ.w (213 + 6 * (k : Int))) (σ.w (214 + 6 * (k : Int))) (σ.w (215 + 6 * (k : Int))) else 0 := rfl
        have next := ih (k + 1) (by omega)
        have bb := mulLB (show 0 ≤ 144 * σ.w 3 by omega) (show (0 : Int) ≤ ((k + 1 : Nat) : Int) by omega) (show 144 * σ.w 3 ≤ 144000000000 by omega) (show ((k + 1 : Nat) : Int) ≤ 19 by omega)
        have bb0 := mulLB (show 0 ≤ 144 * σ.w 3 by omega) (show (0 : Int) ≤ (k : Int) by omega) (show 144 * σ.w 3 ≤ 144000000000 by omega) (show (k : Int) ≤ 19 by omega)
        apply s_X10_off_65 (layOK n) k493
        rw [rf_ref.1, RWm_Q hR.1 f1 4 (by decide) (by decide), RWm_Q hR.1 f1 (210 + 6 * (k : Int)) (by omega) (by omega)]
        refine ⟨fun z => absurd z (by omega), fun _ => ⟨fun z => absurd q6 z, fun _ => ⟨⟨by omega, by omega⟩, ⟨by omega, by omega⟩, ⟨by omega, by omega⟩, fun z => ?_, fun z => ?_⟩⟩⟩
        · rw [if_neg z] at e
          rw [show trm (rowW σ.w a 0) (σ.w 0).toNat σ.w k + 0 = trm (rowW σ.w a 0) (σ.w 0).toNat σ.w (k + 1) by omega]
          exact ⟨⟨by omega, by omega⟩, ⟨by omega, by omega⟩, next μ1 f1⟩
        · rw [if_pos z] at e
          have i1 : (210 : Int) + 6 * (k : Int) + 2 = 212 + 6 * (k : Int) := by omega
          have i2 : (212 : Int) + 6 * (k : Int) + 1 = 213 + 6 * (k : Int) := by omega
          have i3 : (212 : Int) + 6 * (k : Int) + 2 = 214 + 6 * (k : Int) := by omega
          have i4 : (212 : Int) + 6 * (k : Int) + 3 = 215 + 6 * (k : Int) := by omega
          rw [i1]
          refine ⟨⟨by omega, by omega⟩, c_X10_scaled (RWm_Q hR.1 f1) ho.1.1 ha hu ⟨by omega, by omega⟩ (by rw [i2]; exact p1) (by rw [i3, i4]; exact p2) (by rw [i2, i3, i4]; exact p3 z) fun μ2 f2 => ⟨_, rfl, rfl, ?_⟩⟩
          rw [i2, i3, i4, ← e]
          exact ⟨⟨by omega, by omega⟩, ⟨by omega, by omega⟩, next μ2 (frQ_tr f1 f2)⟩
    exact key (σ.w 4).toNat 0 (by omega) μ frQ_rf
theorem c_byF {w : Dv} {code : Int} {tb : Int → Int → Int} (hr : RWm μ w) (hs : SW w) (hc : 0 ≤ code ∧ code ≤ 3125) (ht : tbOK tb) (hv : ∀ a b : Int, 0 ≤ a → a < w 1 → 0 ≤ b → b < w 1 → μ 505 (5 * a + b) = tb a b)
    (h : Q (some (1, exV tb (w 1) code)) (L0 n) μ) : TR mX10_byFigures 1 (0, 0) [(2, 493), (0, code)] (L0 n) μ Q := by
  have hN := hs.2.1
  apply t_X10_byFigures (layOK n) k493
  refine c_X10_agents hr hs ⟨_, rfl, rfl, ⟨by omega, by omega⟩, ?_⟩
  have key : ∀ (i : Nat), (i : Int) ≤ w 1 → ∀ left given sum : Int, 0 ≤ left → left ≤ 3125 → 0 ≤ sum → sum ≤ 288000000000 * (5 - i) → (exV tb (w 1) code = if dupI (w 1) i left given then -1 else sum + sumT tb (w 1) i left) → WA mX10_byFigures 1 (0, 0) 15 [(2, 493), (9, 0), (0, left), (0, given), (1, sum), (9, 0), (0, (i : Int) - 1), (9, 0)] [] (L0 n) μ Q := by
    intro i
    induction i with
    | zero =>
      intro hi left given sum l0 l1 s0 s1 e
      unfold dupI sumT at e
      rw [if_neg (by simp), Int.add_zero] at e
      apply s_X10_byFigures_15 (layOK n) k493
      exact ⟨fun _ => by rw [← e]; exact h, fun z => absurd (show ((0 : Nat) : Int) - 1 < 0 by omega) z⟩
    | succ i ih =>
      intro hi left given sum l0 l1 s0 s1 e
      have hm := mod_b (x := left) hN
      have hd := div_b (x := left) (show 2 ≤ w 1 by omega) l0
      have tbb := ht i (left % w 1) (by omega) (by omega) hm.1 (by omega)
      unfold dupI sumT at e
      apply s_X10_byFigures_15 (layOK n) k493
      rw [rf_ref.2.2.2.2.2.2.2.2.2.2.2.1]
      rw [show ((i + 1 : Nat) : Int) - 1 = (i : Int) by omega]
      refine ⟨fun z => absurd z (by omega), fun _ => c_X10_agents hr hs ⟨_, rfl, rfl, ⟨by omega, by omega⟩, c_X10_agents hr hs ⟨_, rfl, rfl, ⟨by omega, by omega⟩, fun z => ?_, fun z => ?_⟩⟩⟩
      · rw [if_neg z] at e
        rw [hv i (left % w 1) (by omega) (by omega) hm.1 hm.2, show (i : Int) + -1 = (i : Int) - 1 by omega]
        exact ⟨⟨by omega, by omega⟩, ⟨by omega, by omega⟩, ⟨by omega, by omega⟩, ⟨by omega, by omega⟩, ⟨by omega, by omega⟩, ih (by omega) _ _ _ hd.1 (by omega) (by omega) (by omega) (by rw [e, Int.add_assoc])⟩
      · rw [if_pos z, if_pos rfl] at e
        rw [← e]
        exact h
  have e : ((((w 1).toNat : Nat)) : Int) = w 1 := by omega
  have := key (w 1).toNat (by omega) code 0 0 hc.1 hc.2 (by omega) (by omega) (by unfold exV; rw [Int.zero_add])
  rw [e] at this
  exact this
theorem R_exchange {σ : Sg} (hR : RSt μ σ) (ho : OKs σ)
    (hy : σ.w 2 = 1 → ∀ μ', RSt μ' σ → frR' μ μ' → Q (some (0, exF (fun a b => hld (rowW σ.w a 0) (σ.w 0).toNat σ.w b) (σ.w 1))) (L0 n) μ')
    (hs : ¬ σ.w 2 = 1 → Q (some (0, -5)) (L0 n) μ) : TR mX10_exchange 5 (0, 0) [(2, 493)] (L0 n) μ Q := by
  have hN := ho.1.1.2.1
  have hS := ho.1.1.1
  have u1 := ho.1.2.2.1.1.1
  have u2 := ho.1.2.2.1.1.2
  apply t_X10_exchange (layOK n) k493
  refine c_isDiv hR.1 fun r1 h1 => ⟨r1, rfl, rfl, fun q => ?_, fun q => hs (by omega)⟩
  have hy := hy (by omega)
  generalize hTb : (fun a b => hld (rowW σ.w a 0) (σ.w 0).toNat σ.w b : Int → Int → Int) = tb at hy
  have htb : ∀ a b, tb a b = hld (rowW σ.w a 0) (σ.w 0).toNat σ.w b := fun a b => by rw [← hTb]
  have ht : tbOK tb := fun a b a0 a1 b0 b1 => by
    have := hld_pos (how := 0) ho.1.1 ho.1.2.2.1 (show 0 ≤ b ∧ b < 5 from ⟨b0, b1⟩) (show 0 ≤ a ∧ a < 5 from ⟨a0, a1⟩)
    rw [htb]
    omega
  have PB := pwr_b hN (show (σ.w 1).toNat ≤ 5 by omega)
  -- the figures
  have figs : ∀ μ1, frE μ μ1 → ∀ (code : Int), 0 ≤ code → code ≤ 3125 → (exD (σ.w 1) (σ.w 1).toNat code 1 0 = exF tb (σ.w 1)) → WA mX10_exchange 5 (0, 0) 134 [(2, 493), (9, 0), (0, code), (9, 0), (9, 0), (0, 1), (0, 0), (0, 0)] [] (L0 n) μ1 Q := by
    intro μ1 f1 code c0 c1 ec
    have key : ∀ (d k : Nat), (k : Int) + d = σ.w 1 → ∀ left place number : Int, 0 ≤ left → left ≤ 3125 → 0 ≤ place → place * 10 ^ d ≤ 100000 → 0 ≤ number → number ≤ 100000 * k → exD (σ.w 1) d left place number = exF tb (σ.w 1) → WA mX10_exchange 5 (0, 0) 134 [(2, 493), (9, 0), (0, left), (9, 0), (9, 0), (0, place), (0, number), (0, (k : Int))] [] (L0 n) μ1 Q := by
      intro d
      induction d with
      | zero =>
        intro k hk left place number _ _ _ _ _ _ he
        apply s_X10_exchange_134 (layOK n) k493
        refine c_X10_agents (RWm_E hR.1 f1) ho.1.1 ⟨_, rfl, rfl, fun _ => ?_, fun z => absurd (show σ.w 1 ≤ (k : Int) by omega) z⟩
        have he : number = exF tb (σ.w 1) := he
        rw [he]
        exact hy μ1 (RSt_fr hR (frE_Y f1)) (frY_R (frE_Y f1))
      | succ d ih =>
        intro k hk left place number l0 l1 p0 p1 n0 n1 he
        have hm := mod_b (x := left) hN
        have hd := div_b (x := left) (show 2 ≤ σ.w 1 by omega) l0
        have e10 : place * 10 ^ (d + 1) = place * 10 * 10 ^ d := by rw [Int.pow_succ]; ac_rfl
        have one : 1 ≤ (10 : Int) ^ d := Int.pow_pos (by decide)
        have pl : place * 10 ≤ 100000 := by
          have := Int.mul_le_mul_of_nonneg_left one (show 0 ≤ place * 10 by omega)
          omega
        have m := mulLB p0 hm.1 (show place ≤ 10000 by omega) (show left % σ.w 1 ≤ 4 by omega)
        have he' : exD (σ.w 1) d (left / σ.w 1) (place * 10) (number + left % σ.w 1 * place) = exF tb (σ.w 1) := he
        apply s_X10_exchange_134 (layOK n) k493
        refine c_X10_agents (RWm_E hR.1 f1) ho.1.1 ⟨_, rfl, rfl, fun z => absurd z (by omega), fun _ => c_X10_agents (RWm_E hR.1 f1) ho.1.1 ⟨_, rfl, rfl, ⟨by omega, by omega⟩, ⟨by omega, by omega⟩, ⟨by omega, by omega⟩, c_X10_agents (RWm_E hR.1 f1) ho.1.1 ⟨_, rfl, rfl, ⟨by omega, by omega⟩, ⟨by omega, by omega⟩, ⟨by omega, by omega⟩, ?_⟩⟩⟩
        rw [Int.mul_comm (left % σ.w 1) place, Int.mul_comm place 10] at he'
        exact ih (k + 1) (by omega) _ _ _ hd.1 (by omega) (by omega) (by rw [Int.mul_comm 10 place, ← e10]; exact p1) (by omega) (by omega) he'
    refine key (σ.w 1).toNat 0 (by omega) code 1 0 c0 c1 (by omega) ?_ (by omega) (by omega) ec
    have : (σ.w 1).toNat = 2 ∨ (σ.w 1).toNat = 3 ∨ (σ.w 1).toNat = 4 ∨ (σ.w 1).toNat = 5 := by omega
    rcases this with e | e | e | e <;> rw [e] <;> decide
  -- the scan
  have scan : ∀ μ', frE μ μ' → (∀ a b : Int, 0 ≤ a → a < σ.w 1 → 0 ≤ b → b < σ.w 1 → μ' 505 (5 * a + b) = tb a b) → ∀ (d k : Nat), (k : Int) + d = pwr (σ.w 1) (σ.w 1).toNat → WA mX10_exchange 5 (0, 0) 77 [(2, 493), (0, pwr (σ.w 1) (σ.w 1).toNat), (0, (exB tb (σ.w 1) k).2), (1, (exB tb (σ.w 1) k).1), (9, 0), (0, (k : Int)), (9, 0), (9, 0)] [] (L0 n) μ' Q := by
    intro μ' hf hv d
    induction d with
    | zero =>
      intro k hk
      have hb := exB_b (tb := tb) (N := σ.w 1) k
      apply s_X10_exchange_77 (layOK n) k493
      refine ⟨fun _ => figs μ' hf _ hb.1 (by omega) ?_, fun q => absurd (show pwr (σ.w 1) (σ.w 1).toNat ≤ (k : Int) by omega) q⟩
      unfold exF
      rw [show (pwr (σ.w 1) (σ.w 1).toNat).toNat = k by omega]
    | succ d ih =>
      intro k hk
      have next := ih (k + 1) (by omega)
      apply s_X10_exchange_77 (layOK n) k493
      refine ⟨fun q => absurd q (by omega), fun _ => c_byF (RWm_E hR.1 hf) ho.1.1 ⟨by omega, by omega⟩ ht hv ⟨_, rfl, rfl, fun z => ⟨fun _ => ⟨⟨by omega, by omega⟩, ?_⟩, fun z2 => absurd z z2⟩, fun z => ⟨fun z2 => absurd z2 z, fun _ => ⟨⟨by omega, by omega⟩, ?_⟩⟩⟩⟩
      · have e : exB tb (σ.w 1) (k + 1) = exB tb (σ.w 1) k := by conv => lhs; unfold exB; rw [if_neg (by omega)]
        rw [e] at next
        exact next
      · have e : exB tb (σ.w 1) (k + 1) = (exV tb (σ.w 1) k, (k : Int)) := by conv => lhs; unfold exB; rw [if_pos (by omega)]
        rw [e] at next
        exact next
  -- the table
  have fill : ∀ (d k : Nat), (k : Int) + d = σ.w 1 → ∀ μ', frE μ μ' → (∀ a b : Int, 0 ≤ a → a < k → 0 ≤ b → b < σ.w 1 → μ' 505 (5 * a + b) = tb a b) → WA mX10_exchange 5 (0, 0) 14 [(2, 493), (0, pwr (σ.w 1) k), (0, (k : Int)), (9, 0), (9, 0), (9, 0), (9, 0), (9, 0)] [] (L0 n) μ' Q := by
    intro d
    induction d with
    | zero =>
      intro k hk μ' hf hv
      apply s_X10_exchange_14 (layOK n) k493
      refine c_X10_agents (RWm_E hR.1 hf) ho.1.1 ⟨_, rfl, rfl, fun _ => ?_, fun q => absurd (show σ.w 1 ≤ (k : Int) by omega) q⟩
      rw [show k = (σ.w 1).toNat by omega]
      exact scan μ' hf (fun a b a0 a1 b0 b1 => hv a b a0 (by omega) b0 b1) (pwr (σ.w 1) (σ.w 1).toNat).toNat 0 (by omega)
    | succ d ih =>
      intro k hk μ' hf hv
      have p1' : 1 ≤ pwr (σ.w 1) k * σ.w 1 ∧ pwr (σ.w 1) k * σ.w 1 ≤ 3125 := pwr_b hN (show k + 1 ≤ 5 by omega)
      have row : ∀ (e b : Nat), (b : Int) + e = σ.w 1 → ∀ μ'', frE μ μ'' → (∀ a b' : Int, 0 ≤ a → 0 ≤ b' → b' < σ.w 1 → a < k ∨ a = k ∧ b' < b → μ'' 505 (5 * a + b') = tb a b') → WA mX10_exchange 5 (0, 0) 31 [(2, 493), (0, pwr (σ.w 1) k * σ.w 1), (0, (k : Int)), (0, (b : Int)), (9, 0), (9, 0), (9, 0), (9, 0)] [] (L0 n) μ'' Q := by
        intro e
        induction e with
        | zero =>
          intro b hb μ'' gf gv
          apply s_X10_exchange_31 (layOK n) k493
          refine c_X10_agents (RWm_E hR.1 gf) ho.1.1 ⟨_, rfl, rfl, fun _ => ⟨⟨by omega, by omega⟩, ?_⟩, fun q => absurd (show σ.w 1 ≤ (b : Int) by omega) q⟩
          exact ih (k + 1) (by omega) μ'' gf (fun a b' a0 a1 b0 b1 => gv a b' a0 b0 b1 (by omega))
        | succ e ihe =>
          intro b hb μ'' gf gv
          apply s_X10_exchange_31 (layOK n) k493
          rw [rf_ref.2.2.2.2.2.2.2.2.2.2.2.1]
          refine c_X10_agents (RWm_E hR.1 gf) ho.1.1 ⟨_, rfl, rfl, fun q => absurd q (by omega), fun _ => ⟨⟨by omega, by omega⟩, ⟨by omega, by omega⟩, c_wos (RWm_E hR.1 gf) ho.1.1 ho.1.2.2.1 ⟨by omega, by omega⟩ ⟨by omega, by omega⟩ fun μ2 f2 => ⟨_, rfl, rfl, ⟨by omega, by omega⟩, ⟨by omega, by omega⟩, ?_⟩⟩⟩
          refine ihe (b + 1) (by omega) _ (frE_tr (frE_tr gf (frQ_E f2)) (frE_up (Or.inl rfl))) fun a b' a0 b0 b1 hab => ?_
          by_cases z : a = k ∧ b' = b
          · obtain ⟨rfl, rfl⟩ := z
            rw [up_eq, htb]
          · rw [up_ne (Or.inr (by omega)), f2 505 _ (Or.inl (by decide)), gv a b' a0 b0 b1 (by omega)]
      apply s_X10_exchange_14 (layOK n) k493
      exact c_X10_agents (RWm_E hR.1 hf) ho.1.1 ⟨_, rfl, rfl, fun q => absurd q (by omega), fun _ => c_X10_agents (RWm_E hR.1 hf) ho.1.1 ⟨_, rfl, rfl, ⟨by omega, by omega⟩, row (σ.w 1).toNat 0 (by omega) μ' hf (fun a b' a0 b0 b1 hab => hv a b' a0 (by omega) b0 b1)⟩⟩
  exact fill (σ.w 1).toNat 0 (by omega) μ frE_rf (fun a b a0 a1 => absurd a1 (by omega))
/-- the list of the cuts that are counted -/
def SEEN (μ : Mem) (l : List Int) : Prop := ∀ i : Nat, i < l.length → l[i]? = some (μ 506 i)
theorem R_cuts {σ : Sg} (hR : RSt μ σ) (ho : OKs σ)
    (hy : σ.w 2 = 1 → ∀ μ', RSt μ' σ → frR' μ μ' → Q (some (0, ((cutN (σ.w 0) σ.w 5).length : Int))) (L0 n) μ')
    (hs : ¬ σ.w 2 = 1 → Q (some (0, -5)) (L0 n) μ) : TR mX10_cuts 1 (0, 0) [(2, 493)] (L0 n) μ Q := by
  have hN := ho.1.1.2.1
  have hS := ho.1.1.1
  have hw := ho.1.2.2.1
  have u1 := hw.1.1
  have u2 := hw.1.2
  apply t_X10_cuts (layOK n) k493
  refine c_isDiv hR.1 fun r1 h1 => ⟨r1, rfl, rfl, fun q => ?_, fun q => hs (by omega)⟩
  have hy := hy (by omega)
  have cut := cutN_cut (S := σ.w 0) (w := σ.w) (N := (σ.w 1).toNat) (fun b b0 b1 => ho.1.2.2.2.2.1 b (by omega) b1) (5 - (σ.w 1).toNat) (by omega)
  rw [show (σ.w 1).toNat + (5 - (σ.w 1).toNat) = 5 by omega] at cut
  rw [cut] at hy
  -- one value
  have look : ∀ (a e v : Int) (l : List Int) (μ1 : Mem) (fresh : Int), frE μ μ1 → SEEN μ1 l → l.length ≤ 19 → 0 ≤ e → e ≤ 3 → (fresh = 0 ∨ fresh = 1) → (∀ μ2, frE μ μ2 → SEEN μ2 (if fresh = 1 ∧ v ∉ l then l ++ [v] else l) → WA mX10_cuts 1 (0, 0) 24 [(2, 493), (0, ((if fresh = 1 ∧ v ∉ l then l ++ [v] else l).length : Int)), (0, a), (0, e + 1), (9, 0), (9, 0), (9, 0), (9, 0), (9, 0), (9, 0), (9, 0)] [] (L0 n) μ2 Q) → WA mX10_cuts 1 (0, 0) 190 [(2, 493), (0, (l.length : Int)), (0, a), (0, e), (9, 0), (9, 0), (9, 0), (1, v), (9, 0), (0, fresh), (0, 0)] [] (L0 n) μ1 Q := by
    intro a e v l μ1 fresh f1 s1 hl e0 e3 hfr next
    have put : SEEN (up μ1 506 (l.length : Int) v) (l ++ [v]) ∧ SEEN (up μ1 506 (l.length : Int) v) l := by
      constructor
      · intro i hi
        rw [List.length_append, List.length_singleton] at hi
        by_cases z : i = l.length
        · rw [z, up_eq, List.getElem?_append_right (Nat.le_refl _), Nat.sub_self]
          rfl
        · rw [up_ne (Or.inr (by omega)), List.getElem?_append_left (by omega)]
          exact s1 i (by omega)
      · intro i hi
        rw [up_ne (Or.inr (by omega))]
        exact s1 i hi
    have F : frE μ (up μ1 506 (l.length : Int) v) := frE_tr f1 (frE_up (Or.inr rfl))
    have stop : ∀ g : Int, (g = 1 ↔ fresh = 1 ∧ v ∉ l) → (g = 0 ∨ g = 1) → WA mX10_cuts 1 (0, 0) 190 [(2, 493), (0, (l.length : Int)), (0, a), (0, e), (9, 0), (9, 0), (9, 0), (1, v), (9, 0), (0, g), (0, (l.length : Int))] [] (L0 n) μ1 Q := by
      intro g hg hg2
      apply s_X10_cuts_190 (layOK n) k493
      rw [rf_ref.2.2.2.2.2.2.2.2.2.2.2.2.1]
      refine ⟨fun _ => ⟨⟨by omega, by omega⟩, fun z => ?_, fun z => ?_⟩, fun z => absurd (Int.le_refl _) z⟩
      · have nn : ¬ (fresh = 1 ∧ v ∉ l) := fun y => by have := hg.mpr y; omega
        rw [if_neg nn] at next
        rw [show (l.length : Int) + 0 = l.length by omega]
        exact ⟨⟨by omega, by omega⟩, ⟨by omega, by omega⟩, next _ F put.2⟩
      · have yy : fresh = 1 ∧ v ∉ l := hg.mp (by omega)
        rw [if_pos yy, List.length_append, List.length_singleton] at next
        exact ⟨⟨by omega, by omega⟩, ⟨by omega, by omega⟩, next _ F put.1⟩
    have off : ∀ (d k : Nat), k + d = l.length → (¬ (fresh = 1 ∧ v ∉ l)) → WA mX10_cuts 1 (0, 0) 190 [(2, 493), (0, (l.length : Int)), (0, a), (0, e), (9, 0), (9, 0), (9, 0), (1, v), (9, 0), (0, 0), (0, (k : Int))] [] (L0 n) μ1 Q := by
      intro d
      induction d with
      | zero => intro k hk nn; rw [show k = l.length by omega]; exact stop 0 ⟨fun z => absurd z (by decide), fun z => absurd z nn⟩ (Or.inl rfl)
      | succ d ih =>
        intro k hk nn
        apply s_X10_cuts_190 (layOK n) k493
        exact ⟨fun z => absurd z (by omega), fun _ => ⟨fun _ => ⟨⟨by omega, by omega⟩, ih (k + 1) (by omega) nn⟩, fun z => absurd rfl z⟩⟩
    rcases hfr with rfl | rfl
    · exact off l.length 0 (by omega) (fun z => absurd z.1 (by decide))
    · have on : ∀ (d k : Nat), k + d = l.length → (∀ i : Nat, i < k → l[i]? ≠ some v) → WA mX10_cuts 1 (0, 0) 190 [(2, 493), (0, (l.length : Int)), (0, a), (0, e), (9, 0), (9, 0), (9, 0), (1, v), (9, 0), (0, 1), (0, (k : Int))] [] (L0 n) μ1 Q := by
        intro d
        induction d with
        | zero =>
          intro k hk hno
          rw [show k = l.length by omega]
          refine stop 1 ⟨fun _ => ⟨rfl, fun hm => ?_⟩, fun _ => rfl⟩ (Or.inr rfl)
          obtain ⟨i, hi⟩ := List.getElem?_of_mem hm
          have : i < l.length := by
            by_cases z : i < l.length
            · exact z
            · rw [List.getElem?_eq_none (by omega)] at hi; cases hi
          exact hno i (by omega) hi
        | succ d ih =>
          intro k hk hno
          have sk := s1 k (by omega)
          apply s_X10_cuts_190 (layOK n) k493
          rw [rf_ref.2.2.2.2.2.2.2.2.2.2.2.2.1]
          refine ⟨fun z => absurd z (by omega), fun _ => ⟨fun z => absurd z (by decide), fun _ => ⟨⟨by omega, by omega⟩, fun z => ⟨⟨by omega, by omega⟩, ?_⟩, fun z => ⟨⟨by omega, by omega⟩, ?_⟩⟩⟩⟩
          · refine off d (k + 1) (by omega) (fun y => y.2 ?_)
            rw [z] at sk
            exact List.mem_of_getElem? sk
          · refine ih (k + 1) (by omega) fun i hi => ?_
            by_cases y : i = k
            · subst y
              rw [sk]
              exact fun h => z (Option.some.inj h)
            · exact hno i (by omega)
      exact on l.length 0 (by omega) (fun i hi => absurd hi (by omega))
  -- one end
  have one : ∀ (a e : Int) (l : List Int) (μ1 : Mem), 0 ≤ a → a < σ.w 1 → 0 ≤ e → e < 2 * σ.w (165 + a) → frE μ μ1 → SEEN μ1 l → l.length ≤ 19 → (∀ μ2, frE μ μ2 → SEEN μ2 (endC (σ.w 0) σ.w l a e) → WA mX10_cuts 1 (0, 0) 24 [(2, 493), (0, ((endC (σ.w 0) σ.w l a e).length : Int)), (0, a), (0, e + 1), (9, 0), (9, 0), (9, 0), (9, 0), (9, 0), (9, 0), (9, 0)] [] (L0 n) μ2 Q) → WA mX10_cuts 1 (0, 0) 24 [(2, 493), (0, (l.length : Int)), (0, a), (0, e), (9, 0), (9, 0), (9, 0), (9, 0), (9, 0), (9, 0), (9, 0)] [] (L0 n) μ1 Q := by
    intro a e l μ1 a0 a1 e0 e1 f1 s1 hl next
    have mm := (hw.2.2 a a0 (by omega)).1
    obtain ⟨p1, p2, p3⟩ := (hw.2.2 a a0 (by omega)).2 (e / 2) (by omega) (by omega)
    have same := pt_same p1 p2 p3
    have R1 := RWm_E hR.1 f1
    have pe : ptW (σ.w 0) (σ.w 3) (σ.w (170 + 8 * a + 2 * e)) (σ.w (171 + 8 * a + 2 * e)) := by
      have : e = 2 * (e / 2) ∨ e = 2 * (e / 2) + 1 := by omega
      rcases this with z | z
      · rw [show 170 + 8 * a + 2 * e = 170 + 8 * a + 4 * (e / 2) by omega, show 171 + 8 * a + 2 * e = 171 + 8 * a + 4 * (e / 2) by omega]; exact p1
      · rw [show 170 + 8 * a + 2 * e = 172 + 8 * a + 4 * (e / 2) by omega, show 171 + 8 * a + 2 * e = 173 + 8 * a + 4 * (e / 2) by omega]; exact p2
    have pb := prt_b pe u1 (by omega)
    have su := mulLB (show 0 ≤ σ.w 0 by omega) (show 0 ≤ σ.w 3 by omega) hS.2 u2
    have pd := pe.2.1
    -- what the value becomes
    have val : ∀ s0 : Int, (s0 = 0 ↔ neS σ.w a (e / 2)) → (s0 = 0 ∨ s0 = 1) → WA mX10_cuts 1 (0, 0) 121 [(2, 493), (0, (l.length : Int)), (0, a), (0, e), (9, 0), (0, 170 + 8 * a + 2 * e), (9, 0), (9, 0), (9, 0), (9, 0), (9, 0)] [(0, s0)] (L0 n) μ1 Q := by
      intro s0 hs0 hs01
      apply s_X10_cuts_121 (layOK n) k493
      rw [rf_ref.1, R1 (170 + 8 * a + 2 * e) (by omega) (by omega), R1 (170 + 8 * a + 2 * e + 1) (by omega) (by omega), R1 3 (by decide) (by decide), R1 0 (by decide) (by decide), show 170 + 8 * a + 2 * e + 1 = 171 + 8 * a + 2 * e by omega]
      have ev : σ.w (170 + 8 * a + 2 * e) * (σ.w 3 / σ.w (171 + 8 * a + 2 * e)) = prt (σ.w 3) (σ.w (170 + 8 * a + 2 * e)) (σ.w (171 + 8 * a + 2 * e)) := rfl
      rw [ev]
      generalize hv : prt (σ.w 3) (σ.w (170 + 8 * a + 2 * e)) (σ.w (171 + 8 * a + 2 * e)) = v at *
      have stay : (¬ neS σ.w a (e / 2) ∨ v = 0 ∨ v = σ.w 0 * σ.w 3) → endC (σ.w 0) σ.w l a e = l := by
        intro z
        unfold endC
        by_cases y : neS σ.w a (e / 2)
        · rw [if_pos y, hv]
          unfold addC
          rw [if_pos (by rcases z with z | z | z; exact absurd y z; exact Or.inl z; exact Or.inr (Or.inl z))]
        · rw [if_neg y]
      have quiet : (¬ neS σ.w a (e / 2) ∨ v = 0 ∨ v = σ.w 0 * σ.w 3) → WA mX10_cuts 1 (0, 0) 190 [(2, 493), (0, (l.length : Int)), (0, a), (0, e), (9, 0), (9, 0), (9, 0), (1, v), (9, 0), (0, 0), (0, 0)] [] (L0 n) μ1 Q := by
        intro z
        refine look a e v l μ1 0 f1 s1 hl e0 (by omega) (Or.inl rfl) ?_
        rw [if_neg (fun y => absurd y.1 (by decide))]
        rw [stay z] at next
        exact next
      refine ⟨⟨by omega, by omega⟩, ⟨by omega, by omega⟩, ⟨by omega, by omega⟩, ⟨by omega, by omega⟩, ⟨by omega, by omega⟩, fun z => quiet (Or.inl (fun y => z (hs0.mpr y))), fun z => ⟨fun z2 => quiet (Or.inr (Or.inl z2)), fun z2 => ⟨⟨by omega, by omega⟩, fun z3 => quiet (Or.inr (Or.inr z3)), fun z3 => ?_⟩⟩⟩
      refine look a e v l μ1 1 f1 s1 hl e0 (by omega) (Or.inr rfl) ?_
      have ee : endC (σ.w 0) σ.w l a e = if (1 : Int) = 1 ∧ v ∉ l then l ++ [v] else l := by
        unfold endC
        rw [if_pos (hs0.mp z), hv]
        unfold addC
        by_cases y : v ∈ l
        · rw [if_pos (Or.inr (Or.inr y)), if_neg (fun x => x.2 y)]
        · rw [if_neg (by rintro (x | x | x); exact z2 x; exact z3 x; exact y x), if_pos ⟨rfl, y⟩]
      rw [← ee]
      exact next
    apply s_X10_cuts_24 (layOK n) k493
    rw [rf_ref.1, R1 (165 + a) (by omega) (by omega), R1 (170 + 8 * a + 4 * (e / 2)) (by omega) (by omega), R1 (170 + 8 * a + 4 * (e / 2) + 2) (by omega) (by omega), R1 (170 + 8 * a + 4 * (e / 2) + 1) (by omega) (by omega), R1 (170 + 8 * a + 4 * (e / 2) + 3) (by omega) (by omega), show 170 + 8 * a + 4 * (e / 2) + 1 = 171 + 8 * a + 4 * (e / 2) by omega, show 170 + 8 * a + 4 * (e / 2) + 2 = 172 + 8 * a + 4 * (e / 2) by omega, show 170 + 8 * a + 4 * (e / 2) + 3 = 173 + 8 * a + 4 * (e / 2) by omega]
    refine ⟨⟨by omega, by omega⟩, ⟨by omega, by omega⟩, ⟨by omega, by omega⟩, fun z => absurd z (by omega), fun _ => ⟨⟨by omega, by omega⟩, ⟨by omega, by omega⟩, by omega, ⟨by omega, by omega⟩, ⟨by omega, by omega⟩, ⟨by omega, by omega⟩, ⟨by omega, by omega⟩, ⟨by omega, by omega⟩, ⟨by omega, by omega⟩, ⟨by omega, by omega⟩, fun z => ?_, fun z => ⟨⟨by omega, by omega⟩, ⟨by omega, by omega⟩, ⟨by omega, by omega⟩, ⟨by omega, by omega⟩, fun z2 => ?_, fun z2 => ?_⟩⟩⟩
    · refine val 0 ⟨fun _ => ?_, fun _ => rfl⟩ (Or.inl rfl)
      by_cases y : neS σ.w a (e / 2)
      · exact y
      · exact absurd (same.mpr y).1 z
    · refine val 0 ⟨fun _ => ?_, fun _ => rfl⟩ (Or.inl rfl)
      by_cases y : neS σ.w a (e / 2)
      · exact y
      · exact absurd (same.mpr y).2 z2
    · exact val 1 ⟨fun y => absurd y (by decide), fun y => absurd y (same.mp ⟨z, z2⟩)⟩ (Or.inr rfl)
  have key : ∀ (d k : Nat), k + d = (σ.w 1).toNat → ∀ μ1, frE μ μ1 → SEEN μ1 (cutN (σ.w 0) σ.w k) → WA mX10_cuts 1 (0, 0) 14 [(2, 493), (0, ((cutN (σ.w 0) σ.w k).length : Int)), (0, (k : Int)), (9, 0), (9, 0), (9, 0), (9, 0), (9, 0), (9, 0), (9, 0), (9, 0)] [] (L0 n) μ1 Q := by
    intro d
    induction d with
    | zero =>
      intro k hk μ1 f1 s1
      have hk : k = (σ.w 1).toNat := by omega
      subst hk
      apply s_X10_cuts_14 (layOK n) k493
      exact c_X10_agents (RWm_E hR.1 f1) ho.1.1 ⟨_, rfl, rfl, fun _ => hy μ1 (RSt_fr hR (frE_Y f1)) (frY_R (frE_Y f1)), fun z => absurd (show σ.w 1 ≤ (((σ.w 1).toNat : Nat) : Int) by omega) z⟩
    | succ d ih =>
      intro k hk μ1 f1 s1
      have hlen := cutN_len (S := σ.w 0) (w := σ.w) k
      have mm := (hw.2.2 k (by omega) (by omega)).1
      have fin : ∀ (μ2 : Mem) (e : Int) (l : List Int), frE μ μ2 → SEEN μ2 l → 2 * σ.w (165 + (k : Int)) = e → l = cutN (σ.w 0) σ.w (k + 1) → WA mX10_cuts 1 (0, 0) 24 [(2, 493), (0, (l.length : Int)), (0, (k : Int)), (0, e), (9, 0), (9, 0), (9, 0), (9, 0), (9, 0), (9, 0), (9, 0)] [] (L0 n) μ2 Q := by
        intro μ2 e l f2 s2 he hl
        subst hl
        apply s_X10_cuts_24 (layOK n) k493
        rw [rf_ref.1, RWm_E hR.1 f2 (165 + (k : Int)) (by omega) (by omega)]
        exact ⟨⟨by omega, by omega⟩, ⟨by omega, by omega⟩, ⟨by omega, by omega⟩, fun _ => ⟨⟨by omega, by omega⟩, ih (k + 1) (by omega) μ2 f2 s2⟩, fun z => absurd (show 2 * σ.w (165 + (k : Int)) ≤ e by omega) z⟩
      have e5 : cutN (σ.w 0) σ.w (k + 1) = cutA (σ.w 0) σ.w (cutN (σ.w 0) σ.w k) (k : Int) := rfl
      apply s_X10_cuts_14 (layOK n) k493
      refine c_X10_agents (RWm_E hR.1 f1) ho.1.1 ⟨_, rfl, rfl, fun z => absurd z (by omega), fun _ => ?_⟩
      have span : ∀ (μ2 : Mem) (j : Int) (l : List Int), 0 ≤ j → j < σ.w (165 + (k : Int)) → frE μ μ2 → SEEN μ2 l → l.length ≤ 18 → (∀ μ3, frE μ μ3 → SEEN μ3 (cutK (σ.w 0) σ.w l k j) → WA mX10_cuts 1 (0, 0) 24 [(2, 493), (0, ((cutK (σ.w 0) σ.w l k j).length : Int)), (0, (k : Int)), (0, 2 * j + 1 + 1), (9, 0), (9, 0), (9, 0), (9, 0), (9, 0), (9, 0), (9, 0)] [] (L0 n) μ3 Q) → WA mX10_cuts 1 (0, 0) 24 [(2, 493), (0, (l.length : Int)), (0, (k : Int)), (0, 2 * j), (9, 0), (9, 0), (9, 0), (9, 0), (9, 0), (9, 0), (9, 0)] [] (L0 n) μ2 Q := by
        intro μ2 j l j0 j1 f2 s2 hl next
        have el := endC_len (S := σ.w 0) (w := σ.w) (l := l) (a := (k : Int)) (e := 2 * j)
        refine one k (2 * j) l μ2 (by omega) (by omega) (by omega) (by omega) f2 s2 (by omega) fun μ3 f3 s3 => ?_
        refine one k (2 * j + 1) _ μ3 (by omega) (by omega) (by omega) (by omega) f3 s3 (by omega) ?_
        rw [endC_two j0]
        exact next
      by_cases h1 : 1 < σ.w (165 + (k : Int))
      · have e6 : cutA (σ.w 0) σ.w (cutN (σ.w 0) σ.w k) (k : Int) = cutK (σ.w 0) σ.w (cutK (σ.w 0) σ.w (cutN (σ.w 0) σ.w k) k 0) k 1 := by unfold cutA; rw [if_pos h1]
        have lk := cutK_len (S := σ.w 0) (w := σ.w) (l := cutN (σ.w 0) σ.w k) (a := (k : Int)) (k := 0)
        refine span μ1 0 _ (by omega) (by omega) f1 s1 (by omega) fun μ2 f2 s2 => ?_
        refine span μ2 1 _ (by omega) (by omega) f2 s2 (by omega) fun μ3 f3 s3 => ?_
        exact fin μ3 _ _ f3 s3 (by omega) (by rw [e5, e6])
      · by_cases h0 : 0 < σ.w (165 + (k : Int))
        · have e6 : cutA (σ.w 0) σ.w (cutN (σ.w 0) σ.w k) (k : Int) = cutK (σ.w 0) σ.w (cutN (σ.w 0) σ.w k) k 0 := by unfold cutA; rw [if_neg h1, if_pos h0]
          refine span μ1 0 _ (by omega) (by omega) f1 s1 (by omega) fun μ2 f2 s2 => ?_
          exact fin μ2 _ _ f2 s2 (by omega) (by rw [e5, e6])
        · have e6 : cutA (σ.w 0) σ.w (cutN (σ.w 0) σ.w k) (k : Int) = cutN (σ.w 0) σ.w k := by unfold cutA; rw [if_neg h1, if_neg h0]
          exact fin μ1 0 _ f1 s1 (by omega) (by rw [e5, e6])
  exact key (σ.w 1).toNat 0 (by omega) μ frE_rf (fun i hi => absurd hi (by show ¬ i < 0; omega))
end
