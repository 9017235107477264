/-! contracts: Cake (all but halfForBoth) -/
section
variable {n : Int} {μ : Mem} {Q : Option AV → Lay → Mem → Prop}
theorem c_X0_hasAgent {c a : Int} (kc : isK (L0 n) c (0, 0)) (h : Q (some (0, if 0 ≤ a ∧ a < μ c 1 then 1 else 0)) (L0 n) μ) : TR mX0_hasAgent 0 (0, 0) [(2, c), (0, a)] (L0 n) μ Q := by
  apply t_X0_hasAgent (layOK n) kc
  refine ⟨fun q => ?_, fun q => ⟨fun q2 => ?_, fun q2 => ?_⟩⟩
  · rw [if_neg (by omega)] at h; exact h
  · rw [if_neg (by omega)] at h; exact h
  · rw [if_pos (by omega)] at h; exact h
theorem c_X0_hasStrip {c a : Int} (kc : isK (L0 n) c (0, 0)) (h : Q (some (0, if 0 ≤ a ∧ a < μ c 0 then 1 else 0)) (L0 n) μ) : TR mX0_hasStrip 0 (0, 0) [(2, c), (0, a)] (L0 n) μ Q := by
  apply t_X0_hasStrip (layOK n) kc
  refine ⟨fun q => ?_, fun q => ⟨fun q2 => ?_, fun q2 => ?_⟩⟩
  · rw [if_neg (by omega)] at h; exact h
  · rw [if_neg (by omega)] at h; exact h
  · rw [if_pos (by omega)] at h; exact h
/-- the row of an agent: own (0) or told (1) -/
def rowA (c a how : Int) : Int := if how = 1 then c + 8 + a else c + 2 + a
theorem rowA_K {c a how : Int} (kc : isK (L0 n) c (0, 0)) (ha : 0 ≤ a ∧ a < 5) : isK (L0 n) (rowA c a how) (20, 16) := by
  have hc := ck_is kc
  have e := ck_rf (n := n) hc
  have e2 := ck_rows (n := n) hc ha
  have f2 := lay_e (layOK n) kc 2 rfl (i := a) ha
  have f3 := lay_e (layOK n) kc 3 rfl (i := a) ha
  rw [show ((2 : Nat) : Int) = 2 from rfl, e.1, e2.1] at f2
  rw [show ((3 : Nat) : Int) = 3 from rfl, e.2, e2.2] at f3
  unfold rowA
  split
  · exact f3
  · exact f2
theorem c_X0_row {c a how : Int} (kc : isK (L0 n) c (0, 0)) (ha : 0 ≤ a ∧ a < 5) (h : Q (some (2, rowA c a how)) (L0 n) μ) : TR mX0_row 0 (0, 0) [(2, c), (0, a), (0, how)] (L0 n) μ Q := by
  have hc := ck_is kc
  have e := ck_rf (n := n) hc
  have e2 := ck_rows (n := n) hc ha
  apply t_X0_row (layOK n) kc
  rw [e.1, e.2, e2.1, e2.2]
  unfold rowA at h
  refine ⟨fun q => ⟨ha, ?_⟩, fun q => ⟨ha, ?_⟩⟩
  · rw [if_neg q] at h; exact h
  · rw [if_pos q] at h; exact h
theorem c_X0_total {c r : Int} (kc : isK (L0 n) c (0, 0)) (kr : isK (L0 n) r (20, 16)) (hS : 0 ≤ μ c 0 ∧ μ c 0 ≤ 16) (hw : rowOK (μ r)) (h : Q (some (0, cum (μ r) (μ c 0).toNat)) (L0 n) μ) : TR mX0_total 0 (0, 0) [(2, c), (2, r)] (L0 n) μ Q := by
  apply t_X0_total (layOK n) kc kr
  have key : ∀ (d k : Nat), k + d = (μ c 0).toNat → WA mX0_total 0 (0, 0) 4 [(2, c), (2, r), (0, cum (μ r) k), (0, (k : Int))] [] (L0 n) μ Q := by
    intro d
    induction d with
    | zero =>
      intro k hk
      apply s_X0_total_4 (layOK n) kc kr
      refine ⟨fun _ => ?_, fun q => absurd (show μ c 0 ≤ (k : Int) by omega) q⟩
      rw [Nat.add_zero] at hk
      rw [hk]
      exact h
    | succ d ih =>
      intro k hk
      apply s_X0_total_4 (layOK n) kc kr
      have hb := cum_b hw k (by omega)
      have hb2 := hw k (by omega) (by omega)
      refine ⟨fun q => absurd q (by omega), fun _ => ⟨⟨by omega, by omega⟩, ⟨by omega, by omega⟩, ⟨by omega, by omega⟩, ?_⟩⟩
      exact ih (k + 1) (by omega)
  exact key (μ c 0).toNat 0 (by omega)
theorem c_X0_upTo {c r P u : Int} (kc : isK (L0 n) c (0, 0)) (kr : isK (L0 n) r (20, 16)) (hS : 0 ≤ μ c 0 ∧ μ c 0 ≤ 16) (hw : rowOK (μ r)) (hP : 0 ≤ P) (hu : 0 ≤ u ∧ u ≤ 1000000000000000) (hPL : P < 9223372036854775808) (h : Q (some (1, pw (μ r) P u (μ c 0).toNat)) (L0 n) μ) : TR mX0_upTo 1 (0, 0) [(2, c), (2, r), (1, P), (1, u)] (L0 n) μ Q := by
  apply t_X0_upTo (layOK n) kc kr
  have key : ∀ (d k : Nat), k + d = (μ c 0).toNat → WA mX0_upTo 1 (0, 0) 9 [(2, c), (2, r), (9, 0), (9, 0), (1, u), (9, 0), (1, pw (μ r) P u k), (9, 0), (1, max 0 (P - k * u)), (9, 0), (0, (k : Int)), (9, 0), (9, 0)] [] (L0 n) μ Q := by
    intro d
    induction d with
    | zero =>
      intro k hk
      apply s_X0_upTo_9 (layOK n) kc kr
      refine ⟨fun _ => ?_, fun q => absurd (show μ c 0 ≤ (k : Int) by omega) q⟩
      rw [Nat.add_zero] at hk
      rw [hk]
      exact h
    | succ d ih =>
      intro k hk
      apply s_X0_upTo_9 (layOK n) kc kr
      have hb2 := hw k (by omega) (by omega)
      have hb := pw_b144 (P := P) hw hu.1 (k := k) (by omega)
      have hb3 := pw_b144 (P := P) hw hu.1 (k := k + 1) (by omega)
      refine ⟨fun q => absurd q (by omega), fun _ => ⟨fun q => ?_, fun q => ?_⟩⟩
      · rw [pw_stop hu.1 (show P ≤ (k : Int) * u by omega) (μ c 0).toNat (by omega)] at h
        exact h
      · have e1 : min (max 0 (P - k * u)) u = cl P u k := by unfold cl; omega
        have e2 : pw (μ r) P u (k + 1) = pw (μ r) P u k + μ r k * cl P u k := rfl
        have e3 : max 0 (P - k * u) - cl P u k = max 0 (P - ((k + 1 : Nat) : Int) * u) := by
          rw [succ_mul']
          unfold cl
          omega
        have c0 := cl_nn (P := P) (u := u) (s := (k : Int))
        have c1 := cl_le (P := P) (s := (k : Int)) hu.1
        have m0 := Int.mul_nonneg hb2.1 c0
        have ku := Int.mul_nonneg (show 0 ≤ (k : Int) by omega) hu.1
        rw [e1]
        refine ⟨⟨by omega, by omega⟩, ⟨by omega, by omega⟩, ⟨by omega, by omega⟩, ⟨by omega, by omega⟩, ⟨by omega, by omega⟩, ?_⟩
        rw [← e2, e3]
        exact ih (k + 1) (by omega)
  have := key (μ c 0).toNat 0 (by omega)
  rw [show max 0 (P - ((0 : Nat) : Int) * u) = P by simp; omega] at this
  exact this
/-- a point in parts of the unit -/
def ptP (μ : Mem) (p u : Int) : Int := μ p 0 * (u / μ p 1)
theorem c_X0_between {c r p q u : Int} (kc : isK (L0 n) c (0, 0)) (kr : isK (L0 n) r (20, 16)) (kp : isK (L0 n) p (3, 0)) (kq : isK (L0 n) q (3, 0)) (hS : 0 ≤ μ c 0 ∧ μ c 0 ≤ 16) (hw : rowOK (μ r)) (hu : 0 ≤ u ∧ u ≤ 1000000000000000) (hp : 1 ≤ μ p 1) (hq : 1 ≤ μ q 1) (hp2 : 0 ≤ ptP μ p u ∧ ptP μ p u < 9223372036854775808) (hq2 : 0 ≤ ptP μ q u ∧ ptP μ q u < 9223372036854775808)
    (h : Q (some (1, pw (μ r) (ptP μ q u) u (μ c 0).toNat - pw (μ r) (ptP μ p u) u (μ c 0).toNat)) (L0 n) μ) : TR mX0_between 2 (0, 0) [(2, c), (2, r), (2, p), (2, q), (1, u)] (L0 n) μ Q := by
  have b1 := pw_b144 (P := ptP μ p u) hw hu.1 (k := (μ c 0).toNat) (by omega)
  have b2 := pw_b144 (P := ptP μ q u) hw hu.1 (k := (μ c 0).toNat) (by omega)
  apply t_X0_between (layOK n) kc kr kp kq
  refine c_X3_parts kq hq hu.1 ⟨by have := hq2.1; unfold ptP at this; omega, hq2.2⟩ ⟨_, rfl, rfl, ?_⟩
  refine c_X0_upTo kc kr hS hw hq2.1 hu hq2.2 ⟨_, rfl, rfl, ?_⟩
  refine c_X3_parts kp hp hu.1 ⟨by have := hp2.1; unfold ptP at this; omega, hp2.2⟩ ⟨_, rfl, rfl, ?_⟩
  have fin : inL (pw (μ r) (ptP μ q u) u (μ c 0).toNat - pw (μ r) (ptP μ p u) u (μ c 0).toNat) := ⟨by omega, by omega⟩
  refine c_X0_upTo kc kr hS hw hp2.1 hu hp2.2 ⟨_, rfl, rfl, fin, ?_⟩
  exact h
theorem mulLB {a b A B : Int} (ha : 0 ≤ a) (hb : 0 ≤ b) (h1 : a ≤ A) (h2 : b ≤ B) : 0 ≤ a * b ∧ a * b ≤ A * B := ⟨Int.mul_nonneg ha hb, Int.mul_le_mul h1 h2 hb (by omega)⟩
/-- reach: the mark, or that there is not as much -/
theorem c_X0_reach {c o r P u need K : Int} (kc : isK (L0 n) c (0, 0)) (ko : isK (L0 n) o (3, 0)) (kr : isK (L0 n) r (20, 16)) (hS : 0 ≤ μ c 0 ∧ μ c 0 ≤ 16) (hw : rowOK (μ r)) (hu : 0 < u ∧ u ≤ 1000000000) (hP : 0 ≤ P ∧ P ≤ 16 * u) (hK : 0 < K ∧ K ≤ 100) (hn : 0 ≤ need ∧ need ≤ 1000000000000000000)
    (hz : need = 0 → Q (some (0, 1)) (L0 n) (up (up μ o 0 (rdN P u)) o 1 (rdD P u)))
    (hs : ∀ s : Nat, need ≠ 0 → fnd (μ r) (K * pw (μ r) P u (μ c 0).toNat + need) (u * K) (μ c 0).toNat 0 = some s → Q (some (0, 1)) (L0 n) (up (up μ o 0 (rdN (mkX (μ r) (K * pw (μ r) P u (μ c 0).toNat + need) (u * K) s) (mkY (μ r) (u * K) s))) o 1 (rdD (mkX (μ r) (K * pw (μ r) P u (μ c 0).toNat + need) (u * K) s) (mkY (μ r) (u * K) s))))
    (hf : need ≠ 0 → fnd (μ r) (K * pw (μ r) P u (μ c 0).toNat + need) (u * K) (μ c 0).toNat 0 = none → Q (some (0, 0)) (L0 n) μ) : TR mX0_reach 2 (0, 0) [(2, c), (2, o), (2, r), (1, P), (1, u), (1, need), (1, K)] (L0 n) μ Q := by
  apply t_X0_reach (layOK n) kc ko kr
  refine ⟨fun q => ?_, fun q => c_X3_put ko hP.1 (by omega) (by omega) ⟨rfl, rfl, hz q⟩⟩
  have hs := fun s => hs s q
  have hf := hf q
  generalize hT : K * pw (μ r) P u (μ c 0).toNat + need = T at hs hf
  have key : ∀ (d k : Nat), k + d = (μ c 0).toNat → (∀ s, fnd (μ r) T (u * K) (μ c 0).toNat 0 = some s ↔ fnd (μ r) T (u * K) d k = some s) → (fnd (μ r) T (u * K) d k = none → fnd (μ r) T (u * K) (μ c 0).toNat 0 = none) → 0 < need + K * pw (μ r) P u k - K * (u * cum (μ r) k) →
      WA mX0_reach 2 (0, 0) 23 [(2, c), (2, o), (2, r), (1, P), (9, 0), (1, u), (9, 0), (9, 0), (9, 0), (1, K), (9, 0), (1, need + K * pw (μ r) P u k - K * (u * cum (μ r) k)), (9, 0), (0, (k : Int)), (9, 0), (9, 0), (9, 0), (9, 0), (9, 0), (9, 0)] [] (L0 n) μ Q := by
    intro d
    induction d with
    | zero =>
      intro k hk hiff hnone _
      apply s_X0_reach_23 (layOK n) kc ko kr
      refine ⟨fun _ => hf (hnone rfl), fun q => absurd (show μ c 0 ≤ (k : Int) by omega) q⟩
    | succ d ih =>
      intro k hk hiff hnone hpos
      have wk := hw k (by omega) (by omega)
      have ku : 0 ≤ (k : Int) * u ∧ (k : Int) * u ≤ 16 * u := ⟨Int.mul_nonneg (by omega) (by omega), mul_mono_l (by omega) (by omega)⟩
      have k1u : ((k : Int) + 1) * u = (k : Int) * u + u := by rw [Int.add_mul, Int.one_mul]
      have hb := pw_b144 (P := P) hw (show 0 ≤ u by omega) (k := k) (by omega)
      have hbS := pw_b144 (P := P) hw (show 0 ≤ u by omega) (k := (μ c 0).toNat) (by omega)
      have hc := cum_b hw k (by omega)
      have hc1 := cum_b hw (k + 1) (by omega)
      have uK := mulLB (show 0 ≤ u by omega) (show 0 ≤ K by omega) hu.2 hK.2
      have Kb : 0 ≤ K * pw (μ r) P u k ∧ K * pw (μ r) P u k ≤ 100 * 144000000000 := mulLB (by omega) hb.1 hK.2 (by omega)
      have uc : 0 ≤ u * cum (μ r) k ∧ u * cum (μ r) k ≤ 1000000000 * 144 := mulLB (by omega) hc.1 hu.2 (by omega)
      have Kuc := mulLB (show 0 ≤ K by omega) uc.1 hK.2 uc.2
      have rise : 0 ≤ μ r k * K ∧ μ r k * K ≤ 9 * 100 := mulLB wk.1 (by omega) wk.2 hK.2
      have hmx : max 0 (((k : Int) * u + u) - max P ((k : Int) * u)) = u - cl P u k := by unfold cl; omega
      have c0 := cl_nn (P := P) (u := u) (s := (k : Int))
      have c1 := cl_le (P := P) (s := (k : Int)) (show 0 ≤ u by omega)
      have has : 0 ≤ μ r k * K * (u - cl P u k) ∧ μ r k * K * (u - cl P u k) ≤ 900 * 1000000000 := mulLB rise.1 (by omega) rise.2 (by omega)
      -- what is left behind this strip
      have e1 : need + K * pw (μ r) P u k - K * (u * cum (μ r) k) - μ r k * K * (u - cl P u k) = need + K * pw (μ r) P u (k + 1) - K * (u * cum (μ r) (k + 1)) := by
        show _ = need + K * (pw (μ r) P u k + μ r k * cl P u k) - K * (u * (cum (μ r) k + μ r k))
        rw [Int.mul_add K, Int.mul_add u, Int.mul_add K, Int.mul_sub, show μ r k * K * u = K * (u * μ r k) by ac_rfl, show μ r k * K * cl P u k = K * (μ r k * cl P u k) by ac_rfl]
        omega
      -- the strip's condition
      have cond : T ≤ cum (μ r) (k + 1) * (u * K) ↔ need + K * pw (μ r) P u (k + 1) - K * (u * cum (μ r) (k + 1)) ≤ 0 := by
        have e2 : cum (μ r) (k + 1) * (u * K) = K * (u * cum (μ r) (k + 1)) := by ac_rfl
        rw [e2, ← hT]
        by_cases z : P ≤ ((k + 1 : Nat) : Int) * u
        · rw [pw_stop (by omega) z (μ c 0).toNat (by omega)]
          omega
        · have e3 := pw_all (w := μ r) (P := P) (show 0 ≤ u by omega) (k + 1) (by omega)
          have e4 : pw (μ r) P u (k + 1) ≤ pw (μ r) P u (μ c 0).toNat := by
            have key2 : ∀ j : Nat, k + 1 + j ≤ (μ c 0).toNat → pw (μ r) P u (k + 1) ≤ pw (μ r) P u (k + 1 + j) := by
              intro j
              induction j with
              | zero => intro _; exact Int.le_refl _
              | succ j ihj =>
                intro hj
                have h1 := ihj (by omega)
                have h2 := hw ((k + 1 + j : Nat) : Int) (by omega) (by omega)
                have h3 := Int.mul_nonneg h2.1 (cl_nn (P := P) (u := u) (s := ((k + 1 + j : Nat) : Int)))
                show _ ≤ pw (μ r) P u (k + 1 + j) + μ r ((k + 1 + j : Nat) : Int) * cl P u ((k + 1 + j : Nat) : Int)
                omega
            have := key2 ((μ c 0).toNat - (k + 1)) (by omega)
            rw [show k + 1 + ((μ c 0).toNat - (k + 1)) = (μ c 0).toNat by omega] at this
            exact this
          have e5 := Int.mul_le_mul_of_nonneg_left e4 (show 0 ≤ K by omega)
          rw [e3, Int.mul_comm (cum (μ r) (k + 1)) u] at e5 ⊢
          omega
      apply s_X0_reach_23 (layOK n) kc ko kr
      rw [k1u, hmx]
      refine ⟨fun q => absurd q (by omega), fun _ => ⟨⟨by omega, by omega⟩, ⟨by omega, by omega⟩, ⟨by omega, by omega⟩, ⟨by omega, by omega⟩, ⟨by omega, by omega⟩, ⟨by omega, by omega⟩, ⟨by omega, by omega⟩, fun q1 => ⟨⟨by omega, by omega⟩, ?_⟩, fun q1 => ?_⟩⟩
      · -- not as much here
        have ncond : ¬ T ≤ cum (μ r) (k + 1) * (u * K) := fun z => by
          have := cond.mp z
          omega
        have hstep : fnd (μ r) T (u * K) (d + 1) k = fnd (μ r) T (u * K) d (k + 1) := by
          show (if _ then _ else _) = _
          rw [if_neg ncond]
        rw [e1]
        exact ih (k + 1) (by omega) (fun s => by rw [hiff s, hstep]) (fun z => hnone (by rw [hstep]; exact z)) (by omega)
      · have ycond : T ≤ cum (μ r) (k + 1) * (u * K) := cond.mpr (by omega)
        have hstep : fnd (μ r) T (u * K) (d + 1) k = some k := by
          show (if _ then _ else _) = _
          rw [if_pos ycond]
        have hfound := (hiff k).mpr hstep
        have hPk : P ≤ ((k + 1 : Nat) : Int) * u := by
          rcases Int.lt_or_le (((k + 1 : Nat) : Int) * u) P with z | z
          · have e3 := pw_all (w := μ r) (P := P) (show 0 ≤ u by omega) (k + 1) (by omega)
            have := cond.mp ycond
            rw [e3, Int.mul_comm (cum (μ r) (k + 1)) u] at this
            omega
          · exact z
        have wpos : 0 < μ r k := by
          rcases Int.lt_or_le 0 (μ r k) with z | z
          · exact z
          · have : μ r k = 0 := by omega
            rw [this, Int.zero_mul, Int.zero_mul] at q1
            omega
        have rpos : 0 < μ r k * K := Int.mul_pos wpos (by omega)
        have hmaxP : max P ((k : Int) * u) = (k : Int) * u + cl P u k := by
          rw [succ_mul'] at hPk
          unfold cl
          omega
        have mb : 0 ≤ max P ((k : Int) * u) * (μ r k * K) ∧ max P ((k : Int) * u) * (μ r k * K) ≤ 16000000000 * 900 := mulLB (by omega) rise.1 (by omega) rise.2
        have ub : 0 < u * (μ r k * K) ∧ u * (μ r k * K) ≤ 1000000000 * 900 := ⟨Int.mul_pos hu.1 rpos, (mulLB (by omega) rise.1 hu.2 rise.2).2⟩
        have eY : u * (μ r k * K) = mkY (μ r) (u * K) k := by unfold mkY; ac_rfl
        have eX : max P ((k : Int) * u) * (μ r k * K) + (need + K * pw (μ r) P u k - K * (u * cum (μ r) k)) = mkX (μ r) T (u * K) k := by
          unfold mkX
          have e6 : pw (μ r) P u (μ c 0).toNat = pw (μ r) P u k + μ r k * cl P u k := pw_stop (w := μ r) (by omega) hPk (μ c 0).toNat (by omega)
          rw [← hT, e6, hmaxP, Int.add_mul, Int.mul_add K, show (k : Int) * u * (μ r k * K) = (k : Int) * (μ r k * (u * K)) by ac_rfl, show cl P u k * (μ r k * K) = K * (μ r k * cl P u k) by ac_rfl, show cum (μ r) k * (u * K) = K * (u * cum (μ r) k) by ac_rfl]
          omega
        refine ⟨⟨by omega, by omega⟩, ⟨by omega, by omega⟩, ⟨by omega, by omega⟩, ?_⟩
        rw [eX, eY]
        refine c_X3_put ko (by rw [← eX]; omega) (by rw [← eY]; exact ub.1) (by rw [← eY]; omega) ⟨rfl, rfl, hs k hfound⟩
  have := key (μ c 0).toNat 0 (by omega) (fun s => Iff.rfl) (fun z => z) (by simp [pw, cum]; omega)
  rw [show need + K * pw (μ r) P u 0 - K * (u * cum (μ r) 0) = need by simp [pw, cum]] at this
  exact this
end
