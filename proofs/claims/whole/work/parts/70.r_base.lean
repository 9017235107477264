/-! the reference: its state in one row of numbers, and what it reckons with -/
/-- the row of an agent: truly (0), as it tells (else) -/
def rowW (w : Dv) (a how : Int) : Int → Int := fun s => if how = 0 then w (5 + 16 * a + s) else w (85 + 16 * a + s)
/-- strips, agents, worths -/
def SW (w : Dv) : Prop := (2 ≤ w 0 ∧ w 0 ≤ 16) ∧ (2 ≤ w 1 ∧ w 1 ≤ 5) ∧ ∀ a how : Int, 0 ≤ a → a < 5 → rowOK (rowW w a how)
/-- the reference's row stands in the memory -/
def RWm (μ : Mem) (w : Dv) : Prop := ∀ i : Int, 0 ≤ i → i < 510 → μ 494 i = w i
/-- only the two numbers above and below the line are new -/
def frQ (μ μ' : Mem) : Prop := ∀ x i : Int, (x ≠ 493 ∨ (i ≠ 4 ∧ i ≠ 5)) → μ' x i = μ x i
theorem frQ_rf {μ : Mem} : frQ μ μ := fun _ _ _ => rfl
theorem frQ_tr {μ μ' μ'' : Mem} (h : frQ μ μ') (h' : frQ μ' μ'') : frQ μ μ'' := fun x i hx => (h' x i hx).trans (h x i hx)
theorem RWm_fr {μ μ' : Mem} {w : Dv} (h : RWm μ w) (hf : ∀ i, μ' 494 i = μ 494 i) : RWm μ' w := fun i i0 i1 => (hf i).trans (h i i0 i1)
theorem RWm_Q {μ μ' : Mem} {w : Dv} (h : RWm μ w) (hf : frQ μ μ') : RWm μ' w := RWm_fr h (fun i => hf 494 i (Or.inl (by decide)))
/-- the fraction that was reckoned last -/
def FR (μ : Mem) (x y : Int) : Prop := μ 493 4 = x ∧ μ 493 5 = y
theorem bec_fr {μ : Mem} {x y : Int} : frQ μ (up (up μ 493 4 x) 493 5 y) ∧ FR (up (up μ 493 4 x) 493 5 y) x y :=
  ⟨fun a i h => by rw [up_ne (by omega), up_ne (by omega)], by rw [up_ne (Or.inr (by decide)), up_eq], by rw [up_eq]⟩
section
variable {n : Int} {μ : Mem} {Q : Option AV → Lay → Mem → Prop}
theorem k493 : isK (L0 n) 493 (10, 0) := isK0 (by decide) (by decide) (by decide +kernel)
theorem c_X10_in {v lo hi : Int} (h : ∀ r : Int, (r = 1 ∧ (lo ≤ v ∧ v ≤ hi) ∨ r = 0 ∧ ¬ (lo ≤ v ∧ v ≤ hi)) → Q (some (0, r)) (L0 n) μ) : TR mX10_in 0 (0, 0) [(1, v), (1, lo), (1, hi)] (L0 n) μ Q := by
  apply t_X10_in (layOK n)
  exact ⟨fun q => h 0 (Or.inr ⟨rfl, by omega⟩), fun q => ⟨fun q2 => h 0 (Or.inr ⟨rfl, by omega⟩), fun q2 => h 1 (Or.inl ⟨rfl, by omega⟩)⟩⟩
theorem c_X10_isAgent {w : Dv} {a : Int} (hr : RWm μ w) (hs : SW w) (h : ∀ r : Int, (r = 1 ∧ (0 ≤ a ∧ a < w 1) ∨ r = 0 ∧ ¬ (0 ≤ a ∧ a < w 1)) → Q (some (0, r)) (L0 n) μ) : TR mX10_isAgent 1 (0, 0) [(2, 493), (0, a)] (L0 n) μ Q := by
  have h1 := hs.2.1
  apply t_X10_isAgent (layOK n) k493
  rw [rf_ref.1, hr 1 (by decide) (by decide)]
  exact ⟨⟨by omega, by omega⟩, c_X10_in fun r hr => ⟨r, rfl, rfl, by omega, h r (by omega)⟩⟩
theorem c_X10_isStrip {w : Dv} {a : Int} (hr : RWm μ w) (hs : SW w) (h : ∀ r : Int, (r = 1 ∧ (0 ≤ a ∧ a < w 0) ∨ r = 0 ∧ ¬ (0 ≤ a ∧ a < w 0)) → Q (some (0, r)) (L0 n) μ) : TR mX10_isStrip 1 (0, 0) [(2, 493), (0, a)] (L0 n) μ Q := by
  have h1 := hs.1
  apply t_X10_isStrip (layOK n) k493
  rw [rf_ref.1, hr 0 (by decide) (by decide)]
  exact ⟨⟨by omega, by omega⟩, c_X10_in fun r hr => ⟨r, rfl, rfl, by omega, h r (by omega)⟩⟩
theorem c_X10_strips {w : Dv} (hr : RWm μ w) (hs : SW w) (h : Q (some (0, w 0)) (L0 n) μ) : TR mX10_strips 0 (0, 0) [(2, 493)] (L0 n) μ Q := by
  have h1 := hs.1
  apply t_X10_strips (layOK n) k493
  rw [rf_ref.1, hr 0 (by decide) (by decide)]
  exact ⟨⟨by omega, by omega⟩, h⟩
theorem c_X10_agents {w : Dv} (hr : RWm μ w) (hs : SW w) (h : Q (some (0, w 1)) (L0 n) μ) : TR mX10_agents 0 (0, 0) [(2, 493)] (L0 n) μ Q := by
  have h1 := hs.2.1
  apply t_X10_agents (layOK n) k493
  rw [rf_ref.1, hr 1 (by decide) (by decide)]
  exact ⟨⟨by omega, by omega⟩, h⟩
theorem c_X10_ends {w : Dv} (hr : RWm μ w) (h : Q (some (1, w 0)) (L0 n) μ) : TR mX10_ends 0 (0, 0) [(2, 493)] (L0 n) μ Q := by
  apply t_X10_ends (layOK n) k493
  rw [rf_ref.1, hr 0 (by decide) (by decide)]
  exact h
theorem c_X10_worthOf {w : Dv} {a s how : Int} (hr : RWm μ w) (ha : 0 ≤ a ∧ a < 5) (hs : 0 ≤ s ∧ s ≤ 16) (h : Q (some (1, rowW w a how s)) (L0 n) μ) : TR mX10_worthOf 0 (0, 0) [(2, 493), (0, a), (0, s), (0, how)] (L0 n) μ Q := by
  apply t_X10_worthOf (layOK n) k493
  rw [rf_ref.1, hr (85 + 16 * a + s) (by omega) (by omega), hr (5 + 16 * a + s) (by omega) (by omega)]
  unfold rowW at h
  refine ⟨fun q => ?_, fun q => ?_⟩
  · rw [if_neg q] at h
    exact ⟨⟨by omega, by omega⟩, ⟨by omega, by omega⟩, ⟨by omega, by omega⟩, ⟨by omega, by omega⟩, h⟩
  · rw [if_pos q] at h
    exact ⟨⟨by omega, by omega⟩, ⟨by omega, by omega⟩, ⟨by omega, by omega⟩, ⟨by omega, by omega⟩, h⟩
theorem c_X10_divisor {a b : Int} (ha : 0 ≤ a) (hb : 0 ≤ b) (h : Q (some (1, gc a b)) (L0 n) μ) : TR mX10_divisor 0 (0, 0) [(1, a), (1, b)] (L0 n) μ Q := by
  have key : ∀ (m : Nat) (x y : Int), 0 ≤ x → 0 ≤ y → y < m → gc x y = gc a b → WA mX10_divisor 0 (0, 0) 17 [(9, 0), (9, 0), (9, 0), (9, 0), (1, x), (9, 0), (1, y), (9, 0), (9, 0), (9, 0)] [] (L0 n) μ Q := by
    intro m
    induction m with
    | zero => intro x y x0 y0 y1; omega
    | succ m ih =>
      intro x y x0 y0 y1 e
      apply s_X10_divisor_17 (layOK n)
      refine ⟨fun q => ?_, fun q => ⟨⟨x0, by omega⟩, ?_⟩⟩
      · rw [q, gc_zero x0] at e
        rw [e]
        exact h
      · have := Int.emod_lt_of_pos x (show 0 < y by omega)
        exact ih y (x % y) y0 (Int.emod_nonneg x q) (by omega) (by rw [gc_step x0 y0, e])
  apply t_X10_divisor (layOK n)
  exact ⟨fun _ => key (b.toNat + 1) a b ha hb (by omega) rfl, fun q => absurd ha q⟩
theorem c_X10_becomes {x y : Int} (hx : 0 ≤ x) (hy : 0 < y) (h : ∀ μ', frQ μ μ' → FR μ' (rdN x y) (rdD x y) → Q none (L0 n) μ') : TR mX10_becomes 1 (0, 0) [(2, 493), (1, x), (1, y)] (L0 n) μ Q := by
  have g := gc_pos (x := x) hy
  apply t_X10_becomes (layOK n) k493
  refine c_X10_divisor hx (by omega) ⟨_, rfl, rfl, ⟨hx, g⟩, ⟨by omega, g⟩, ?_⟩
  obtain ⟨b1, b2⟩ := bec_fr (μ := μ) (x := x / gc x y) (y := y / gc x y)
  exact h _ b1 b2
theorem c_X10_partOf {x y p : Int} (hf : FR μ x y) (h : Q (some (1, if p = 0 then x else y)) (L0 n) μ) : TR mX10_partOf 0 (0, 0) [(2, 493), (0, p)] (L0 n) μ Q := by
  apply t_X10_partOf (layOK n) k493
  rw [hf.1, hf.2]
  exact ⟨fun q => by rw [if_neg q] at h; exact h, fun q => by rw [if_pos q] at h; exact h⟩
theorem c_X10_isLess {a b c d : Int} (ha : 0 ≤ a) (hb : 0 < b) (hc : 0 ≤ c) (hd : 0 < d) (hbd : b * d < 9223372036854775808) (h : ∀ r : Int, (r = 1 ∧ a * d < c * b ∨ r = 0 ∧ c * b ≤ a * d) → Q (some (0, r)) (L0 n) μ) : TR mX10_isLess 0 (0, 0) [(1, a), (1, b), (1, c), (1, d)] (L0 n) μ Q := by
  have hl := ltB_iff (a := a) (c := c) hb hd
  unfold ltB at hl
  have e1 := emod_mul_lt (a := a) hb hd
  have e2 := emod_mul_lt (a := c) hd hb
  rw [Int.mul_comm d b] at e2
  apply t_X10_isLess (layOK n)
  refine ⟨⟨ha, hb⟩, ⟨hc, hd⟩, fun q => ⟨⟨by omega, by omega⟩, ⟨by omega, by omega⟩, fun q2 => ?_, fun q2 => ?_⟩, fun q => ⟨fun q2 => ?_, fun q2 => ?_⟩⟩
  · rw [if_pos q] at hl; exact h 0 (Or.inr ⟨rfl, by omega⟩)
  · rw [if_pos q] at hl; exact h 1 (Or.inl ⟨rfl, by omega⟩)
  · rw [if_neg q] at hl; exact h 0 (Or.inr ⟨rfl, by omega⟩)
  · rw [if_neg q] at hl; exact h 1 (Or.inl ⟨rfl, by omega⟩)
theorem c_X10_aheadOf {w : Dv} {a how x y : Int} (hr : RWm μ w) (hs : SW w) (ha : 0 ≤ a ∧ a < 5) (hx : 0 ≤ x) (hy : 0 < y ∧ y ≤ 1000000000000) (hxy : x ≤ w 0 * y) (h : Q (some (1, pw (rowW w a how) x y (w 0).toNat)) (L0 n) μ) : TR mX10_aheadOf 1 (0, 0) [(2, 493), (0, a), (0, how), (1, x), (1, y)] (L0 n) μ Q := by
  have hrow := hs.2.2 a how ha.1 ha.2
  have hS := hs.1
  have d0 := Int.ediv_nonneg hx (show 0 ≤ y by omega)
  have em := Int.emod_add_mul_ediv x y
  have m0 := Int.emod_nonneg x (show y ≠ 0 by omega)
  have m1 := Int.emod_lt_of_pos x hy.1
  have dS : x / y ≤ w 0 := by
    rcases Int.lt_or_le (w 0) (x / y) with z | z
    · have := Int.mul_le_mul_of_nonneg_left (show w 0 + 1 ≤ x / y by omega) (show 0 ≤ y by omega)
      rw [Int.mul_add, Int.mul_one, Int.mul_comm y (w 0)] at this
      omega
    · exact z
  apply t_X10_aheadOf (layOK n) k493
  refine ⟨⟨hx, hy.1⟩, ⟨by omega, by omega⟩, ?_⟩
  generalize hq : x / y = d at *
  have key : ∀ (m k : Nat), (k : Int) + m = d → WA mX10_aheadOf 1 (0, 0) 13 [(2, 493), (0, a), (0, how), (1, x), (9, 0), (1, y), (9, 0), (0, d), (1, cum (rowW w a how) k * y), (9, 0), (0, (k : Int))] [] (L0 n) μ Q := by
    intro m
    induction m with
    | zero =>
      intro k hk
      have ck := cum_b hrow k (by omega)
      have cb := mulLB ck.1 (show 0 ≤ y by omega) (show cum (rowW w a how) k ≤ 144 by omega) hy.2
      have kd : (k : Int) * y = y * d := by rw [show (k : Int) = d by omega]; exact Int.mul_comm _ _
      apply s_X10_aheadOf_13 (layOK n) k493
      refine ⟨fun _ => c_X10_strips hr hs ⟨_, rfl, rfl, fun q => ?_, fun q => ?_⟩, fun q => absurd (show d ≤ (k : Int) by omega) q⟩
      · rw [Int.add_zero]
        refine ⟨⟨by omega, by omega⟩, ?_⟩
        have e : pw (rowW w a how) x y (w 0).toNat = cum (rowW w a how) k * y := by
          have : (w 0).toNat = k := by omega
          rw [this]
          exact pw_all (by omega) k (by omega)
        rw [e] at h
        exact h
      · refine c_X10_worthOf hr ha ⟨by omega, by omega⟩ ⟨_, rfl, rfl, ⟨hx, hy.1⟩, ?_⟩
        have rk := hrow d (by omega) (by omega)
        have pb := mulLB rk.1 m0 rk.2 (show x % y ≤ 1000000000000 by omega)
        refine ⟨⟨by omega, by omega⟩, ⟨by omega, by omega⟩, ?_⟩
        have e : pw (rowW w a how) x y (w 0).toNat = cum (rowW w a how) k * y + rowW w a how d * (x % y) := by
          rw [pw_stop (w := rowW w a how) (show 0 ≤ y by omega) (j := k + 1) (by rw [succ_mul']; omega) (w 0).toNat (by omega)]
          show pw (rowW w a how) x y k + rowW w a how (k : Int) * cl x y (k : Int) = _
          rw [pw_all (by omega) k (by omega), cl_mid (by omega) (by omega), show (k : Int) = d by omega, show x - d * y = x % y by rw [Int.mul_comm d y]; omega]
        rw [e] at h
        exact h
    | succ m ih =>
      intro k hk
      have ck := cum_b hrow k (by omega)
      have ck1 := cum_b hrow (k + 1) (by omega)
      have rk := hrow k (by omega) (by omega)
      have cb := mulLB ck.1 (show 0 ≤ y by omega) (show cum (rowW w a how) k ≤ 144 by omega) hy.2
      have rb := mulLB rk.1 (show 0 ≤ y by omega) rk.2 hy.2
      apply s_X10_aheadOf_13 (layOK n) k493
      refine ⟨fun q => absurd q (by omega), fun _ => c_X10_worthOf hr ha ⟨by omega, by omega⟩ ⟨_, rfl, rfl, ⟨by omega, by omega⟩, ⟨by omega, by omega⟩, ⟨by omega, by omega⟩, ?_⟩⟩
      have e : cum (rowW w a how) k * y + rowW w a how k * y = cum (rowW w a how) (k + 1) * y := by
        show _ = (cum (rowW w a how) k + rowW w a how k) * y
        rw [Int.add_mul]
      rw [e]
      exact ih (k + 1) (by omega)
  have := key d.toNat 0 (by omega)
  rw [show cum (rowW w a how) 0 * y = 0 from Int.zero_mul y] at this
  exact this
theorem c_X10_allOf {w : Dv} {a how : Int} (hr : RWm μ w) (hs : SW w) (ha : 0 ≤ a ∧ a < 5) (h : Q (some (1, cum (rowW w a how) (w 0).toNat)) (L0 n) μ) : TR mX10_allOf 2 (0, 0) [(2, 493), (0, a), (0, how)] (L0 n) μ Q := by
  have hS := hs.1
  apply t_X10_allOf (layOK n) k493
  refine c_X10_strips hr hs ⟨_, rfl, rfl, c_X10_aheadOf hr hs ha (by omega) ⟨by decide, by decide⟩ (by omega) ⟨_, rfl, rfl, ?_⟩⟩
  rw [pw_all (by decide) (w 0).toNat (by omega), Int.mul_one]
  exact h
end
/-- two lines' numbers brought to one -/
theorem two_all {u x y : Int} (hx : 0 < x) (hy : 0 < y) (dx : x ∣ u) (dy : y ∣ u) (hu : 0 < u) : 0 < rdN x y * y ∧ rdN x y * y ≤ u ∧ rdN x y * y / y = rdN x y ∧ rdN x y * y / x = rdD x y ∧ 0 < rdN x y ∧ 0 < rdD x y := by
  have g := gc_pos (x := x) hy
  have h1 := rdN_mul x y
  have h2 := rdD_mul x y
  have dp := rdD_pos (x := x) hy
  have np : 0 < rdN x y := by
    have := rdN_nn (y := y) (show 0 ≤ x by omega)
    rcases Int.lt_or_le 0 (rdN x y) with z | z
    · exact z
    · have : rdN x y = 0 := by omega
      rw [this, Int.zero_mul] at h1
      omega
  have lp := Int.mul_pos np hy
  refine ⟨lp, ?_, Int.mul_ediv_cancel _ (by omega), ?_, np, dp⟩
  · refine Int.le_of_dvd hu ?_
    have e : rdN x y * y = (Int.lcm x y : Int) := by
      have k1 : (Int.gcd x y : Int) * (Int.lcm x y : Int) = x * y := by
        have := Int.gcd_mul_lcm x y
        have h3 : ((Int.gcd x y * Int.lcm x y : Nat) : Int) = (((x * y).natAbs : Nat) : Int) := by rw [this, Int.natAbs_mul]
        rw [Int.natCast_mul] at h3
        rw [h3]
        have := Int.mul_pos hx hy
        omega
      have k2 : gc x y * (rdN x y * y) = gc x y * (Int.lcm x y : Int) := by
        show _ = (Int.gcd x y : Int) * (Int.lcm x y : Int)
        rw [k1, ← Int.mul_assoc, Int.mul_comm (gc x y), h1]
      exact Int.eq_of_mul_eq_mul_left (by omega) k2
    rw [e]
    obtain ⟨U, rfl⟩ := Int.eq_ofNat_of_zero_le (show 0 ≤ u by omega)
    exact Int.ofNat_dvd.mpr (Int.lcm_dvd dx dy)
  · rw [rd_cross x y]
    exact Int.mul_ediv_cancel_left _ (by omega)
theorem wb_eq {row : Int → Int} {S : Nat} {p q : Pt} (hp : 0 < p.2) (hq : 0 < q.2) : rdN (pw row q.1 q.2 S * rdN p.2 q.2 - pw row p.1 p.2 S * rdD p.2 q.2) (rdN p.2 q.2 * q.2) = rdN (wvN row S p q) (wvD p q) ∧ rdD (pw row q.1 q.2 S * rdN p.2 q.2 - pw row p.1 p.2 S * rdD p.2 q.2) (rdN p.2 q.2 * q.2) = rdD (wvN row S p q) (wvD p q) ∧ wvN row S p q = gc p.2 q.2 * (pw row q.1 q.2 S * rdN p.2 q.2 - pw row p.1 p.2 S * rdD p.2 q.2) := by
  have g := gc_pos (x := p.2) hq
  have h1 := rdN_mul p.2 q.2
  have h2 := rdD_mul p.2 q.2
  have ew := wv_eq (row := row) (S := S) (a := p) (b := q) (by omega) (by omega)
  have e1 : wvN row S p q = gc p.2 q.2 * (pw row q.1 q.2 S * rdN p.2 q.2 - pw row p.1 p.2 S * rdD p.2 q.2) := by
    rw [ew, Int.mul_sub]
    congr 1
    · conv => lhs; rw [← h1]
      ac_rfl
    · conv => lhs; rw [← h2]
      ac_rfl
  have e2 : wvD p q = gc p.2 q.2 * (rdN p.2 q.2 * q.2) := by
    unfold wvD
    conv => lhs; rw [← h1]
    ac_rfl
  rw [e1, e2]
  exact ⟨(rdN_scale g).symm, (rdD_scale g).symm, rfl⟩
