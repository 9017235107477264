/-! contracts: Division: exchange -/
theorem DR_frame {μ μ' : Mem} {D : Int} {w : Int → Int} (h : DR μ D w) (h4 : w 4 ≤ 19) (hm : ∀ a : Int, 0 ≤ a → a < 5 → w (165 + a) ≤ 2)
    (hf : ∀ x i, (x = D ∧ (i = 2 ∨ i = 3)) ∨ x = D + 2 ∨ (D + 7 ≤ x ∧ x ≤ D + 112) → μ' x i = μ x i) : DR μ' D w := by
  obtain ⟨r1, ⟨r2, r3⟩, r4, r5⟩ := h
  unfold DRu at r1
  refine ⟨by unfold DRu; rw [hf D 2 (by omega), r1], ⟨by rw [hf D 3 (by omega), r2], fun k k0 k1 => ?_⟩, fun a a0 a1 => by rw [hf (D + 2) a (by omega), r4 a a0 a1], fun a k a0 a1 k0 k1 => ?_⟩
  · have e := r3 k k0 k1
    unfold evA at *
    rw [hf _ 0 (by omega), hf _ 1 (by omega), hf (D + 7 + 4 * k + 2) 0 (by omega), hf (D + 7 + 4 * k + 2) 1 (by omega), hf (D + 7 + 4 * k + 3) 0 (by omega), hf (D + 7 + 4 * k + 3) 1 (by omega)]
    exact e
  · have e := r5 a k a0 a1 k0 k1
    have := hm a a0 a1
    unfold hl at *
    rw [hf _ 0 (by omega), hf _ 1 (by omega), hf (D + 83 + 3 * (2 * a + k) + 2) 0 (by omega), hf (D + 83 + 3 * (2 * a + k) + 2) 1 (by omega)]
    exact e
def pwr (N : Int) : Nat → Int
  | 0 => 1
  | k + 1 => pwr N k * N
theorem pwr_b {N : Int} (hN : 2 ≤ N ∧ N ≤ 5) {k : Nat} (hk : k ≤ 5) : 1 ≤ pwr N k ∧ pwr N k ≤ 3125 := by
  have h1 : k = 0 ∨ k = 1 ∨ k = 2 ∨ k = 3 ∨ k = 4 ∨ k = 5 := by omega
  have h2 : N = 2 ∨ N = 3 ∨ N = 4 ∨ N = 5 := by omega
  rcases h2 with rfl | rfl | rfl | rfl <;> rcases h1 with rfl | rfl | rfl | rfl | rfl | rfl <;> decide
/-- the group of all figures -/
def mskI (N : Int) : Nat → Int → Int → Int
  | 0, _, g => g
  | i + 1, left, g => mskI N i (left / N) (bOr g (bShl 1 (left % N)))
/-- whether a figure is there twice -/
def dupI (N : Int) : Nat → Int → Int → Bool
  | 0, _, _ => false
  | i + 1, left, g => if bAnd (bShr g (left % N)) 1 = 1 then true else dupI N i (left / N) (bOr g (bShl 1 (left % N)))
def sumT (tb : Int → Int → Int) (N : Int) : Nat → Int → Int
  | 0, _ => 0
  | i + 1, left => tb i (left % N) + sumT tb N i (left / N)
def dmOK (N : Nat) : Bool := (List.range (N ^ N)).all fun c => (mskI N N c 0 == bShl 1 N - 1) == !dupI N N c 0
theorem dm2 : dmOK 2 = true := by decide +kernel
theorem dm3 : dmOK 3 = true := by decide +kernel
theorem dm4 : dmOK 4 = true := by decide +kernel
theorem dm5 : dmOK 5 = true := by decide +kernel
theorem dm_all {N code : Int} (hN : 2 ≤ N ∧ N ≤ 5) (hc : 0 ≤ code ∧ code < pwr N N.toNat) : (mskI N N.toNat code 0 = bShl 1 N - 1) ↔ dupI N N.toNat code 0 = false := by
  have key : ∀ m : Nat, dmOK m = true → pwr (m : Int) m = (m ^ m : Nat) → N = (m : Int) → ((mskI N N.toNat code 0 = bShl 1 N - 1) ↔ dupI N N.toNat code 0 = false) := by
    intro m hm hp he
    subst he
    rw [Int.toNat_natCast, hp] at hc
    have h := List.all_eq_true.mp hm code.toNat (List.mem_range.mpr (by omega))
    rw [show ((code.toNat : Nat) : Int) = code by omega] at h
    rw [Int.toNat_natCast]
    revert h
    cases dupI (m : Int) m code 0 <;> simp
  have : N = 2 ∨ N = 3 ∨ N = 4 ∨ N = 5 := by omega
  rcases this with h | h | h | h
  · exact key 2 dm2 (by decide) h
  · exact key 3 dm3 (by decide) h
  · exact key 4 dm4 (by decide) h
  · exact key 5 dm5 (by decide) h
/-- what all have by an exchange; -1: it is none -/
def exV (tb : Int → Int → Int) (N code : Int) : Int := if dupI N N.toNat code 0 then -1 else sumT tb N N.toNat code
/-- the best of the first k: what it brings, and which it is -/
def exB (tb : Int → Int → Int) (N : Int) : Nat → Int × Int
  | 0 => (-1, 0)
  | k + 1 => if (exB tb N k).1 < exV tb N k then (exV tb N k, (k : Int)) else exB tb N k
def exD (N : Int) : Nat → Int → Int → Int → Int
  | 0, _, _, number => number
  | k + 1, left, place, number => exD N k (left / N) (place * 10) (number + left % N * place)
/-- the best exchange, as figures -/
def exF (tb : Int → Int → Int) (N : Int) : Int := exD N N.toNat (exB tb N (pwr N N.toNat).toNat).2 1 0
def tbOK (tb : Int → Int → Int) : Prop := ∀ a b : Int, 0 ≤ a → a < 5 → 0 ≤ b → b < 5 → 0 ≤ tb a b ∧ tb a b ≤ 288000000000
theorem mod_b {x N : Int} (hN : 2 ≤ N ∧ N ≤ 5) : 0 ≤ x % N ∧ x % N < N := ⟨Int.emod_nonneg _ (by omega), Int.emod_lt_of_pos _ (by omega)⟩
theorem div_b {x N : Int} (hN : 2 ≤ N) (hx : 0 ≤ x) : 0 ≤ x / N ∧ x / N ≤ x := ⟨Int.ediv_nonneg hx (by omega), Int.ediv_le_self _ hx⟩
theorem sumT_b {tb : Int → Int → Int} {N : Int} (ht : tbOK tb) (hN : 2 ≤ N ∧ N ≤ 5) : ∀ (i : Nat) (left : Int), i ≤ 5 → 0 ≤ sumT tb N i left ∧ sumT tb N i left ≤ 288000000000 * i
  | 0, _, _ => by simp [sumT]
  | i + 1, left, h => by
    have ih := sumT_b ht hN i (left / N) (by omega)
    have hm := mod_b (x := left) hN
    have := ht i (left % N) (by omega) (by omega) hm.1 (by omega)
    unfold sumT
    omega
theorem exB_b {tb : Int → Int → Int} {N : Int} : ∀ k : Nat, 0 ≤ (exB tb N k).2 ∧ (exB tb N k).2 ≤ k
  | 0 => by simp [exB]
  | k + 1 => by
    have ih := exB_b (tb := tb) (N := N) k
    unfold exB
    split <;> constructor <;> (try simp only []) <;> omega
section
variable {n : Int} {μ : Mem} {Q : Option AV → Lay → Mem → Prop}
theorem c_X1_figures {code N : Int} (hN : 2 ≤ N ∧ N ≤ 5) (hc : 0 ≤ code ∧ code ≤ 3125) (h : Q (some (0, exD N N.toNat code 1 0)) (L0 n) μ) : TR mX1_figures 0 (0, 0) [(0, code), (0, N)] (L0 n) μ Q := by
  apply t_X1_figures (layOK n)
  have key : ∀ (d k : Nat), (k : Int) + d = N → ∀ left place number : Int, 0 ≤ left → left ≤ 3125 → 0 ≤ place → place * 10 ^ d ≤ 100000 → 0 ≤ number → number ≤ 100000 * k → exD N d left place number = exD N N.toNat code 1 0 → WA mX1_figures 0 (0, 0) 10 [(9, 0), (0, N), (0, number), (0, place), (0, left), (0, (k : Int))] [] (L0 n) μ Q := by
    intro d
    induction d with
    | zero =>
      intro k hk left place number _ _ _ _ _ _ he
      apply s_X1_figures_10 (layOK n)
      refine ⟨fun _ => ?_, fun q => absurd (show N ≤ (k : Int) by omega) q⟩
      have he : number = exD N N.toNat code 1 0 := he
      rw [he]
      exact h
    | succ d ih =>
      intro k hk left place number l0 l1 p0 p1 n0 n1 he
      have hm := mod_b (x := left) hN
      have hd := div_b (x := left) (show 2 ≤ N by omega) l0
      have e10 : place * 10 ^ (d + 1) = place * 10 * 10 ^ d := by rw [Int.pow_succ]; ac_rfl
      have one : 1 ≤ (10 : Int) ^ d := Int.pow_pos (by decide)
      have pl : place * 10 ≤ 100000 := by
        have := Int.mul_le_mul_of_nonneg_left one (show 0 ≤ place * 10 by omega)
        omega
      have m := mulLB hm.1 p0 (show left % N ≤ 4 by omega) (show place ≤ 10000 by omega)
      apply s_X1_figures_10 (layOK n)
      refine ⟨fun q => absurd q (by omega), fun _ => ⟨⟨l0, by omega⟩, ⟨by omega, by omega⟩, ⟨by omega, by omega⟩, ⟨by omega, by omega⟩, ⟨by omega, by omega⟩, ?_⟩⟩
      have he' : exD N d (left / N) (place * 10) (number + left % N * place) = exD N N.toNat code 1 0 := he
      exact ih (k + 1) (by omega) _ _ _ hd.1 (by omega) (by omega) (by rw [← e10]; exact p1) (by omega) (by omega) he'
  have e : ((N.toNat : Nat) : Int) = N := by omega
  refine key N.toNat 0 (by omega) code 1 0 hc.1 hc.2 (by omega) ?_ (by omega) (by omega) rfl
  have : N = 2 ∨ N = 3 ∨ N = 4 ∨ N = 5 := by omega
  rcases this with rfl | rfl | rfl | rfl <;> decide
theorem c_X1_together {D code N : Int} {tb : Int → Int → Int} (kD : isK (L0 n) D (1, 0)) (hN : 2 ≤ N ∧ N ≤ 5) (hc : 0 ≤ code ∧ code < pwr N N.toNat) (ht : tbOK tb) (hv : ∀ a b : Int, 0 ≤ a → a < N → 0 ≤ b → b < N → μ (D + 5) (a * 5 + b) = tb a b)
    (h : Q (some (1, exV tb N code)) (L0 n) μ) : TR mX1_together 0 (0, 0) [(2, D), (0, code), (0, N)] (L0 n) μ Q := by
  have hD := dv_is kD
  apply t_X1_together (layOK n) kD
  refine ⟨⟨by omega, by omega⟩, ?_⟩
  have key : ∀ (i : Nat), (i : Int) ≤ N → ∀ left given sum : Int, 0 ≤ left → 0 ≤ sum → sum ≤ 288000000000 * (5 - i) → mskI N i left given = mskI N N.toNat code 0 → sum + sumT tb N i left = sumT tb N N.toNat code → WA mX1_together 0 (0, 0) 13 [(2, D), (9, 0), (0, N), (0, given), (1, sum), (9, 0), (0, left), (0, (i : Int) - 1), (9, 0)] [] (L0 n) μ Q := by
    intro i
    induction i with
    | zero =>
      intro hi left given sum l0 s0 s1 e1 e2
      have hs : inI (bShl 1 N - 1) := by
        have : N = 2 ∨ N = 3 ∨ N = 4 ∨ N = 5 := by omega
        rcases this with rfl | rfl | rfl | rfl <;> decide
      have e1 : given = mskI N N.toNat code 0 := e1
      have e2 : sum + 0 = sumT tb N N.toNat code := e2
      apply s_X1_together_13 (layOK n) kD
      refine ⟨fun _ => ⟨hs, fun q => ?_, fun q => ?_⟩, fun q => absurd (show ((0 : Nat) : Int) - 1 < 0 by omega) q⟩
      · have : dupI N N.toNat code 0 ≠ false := fun z => q (e1.trans ((dm_all hN hc).mpr z))
        unfold exV at h
        rw [if_pos (by simpa using this)] at h
        exact h
      · have : dupI N N.toNat code 0 = false := (dm_all hN hc).mp (e1.symm.trans q)
        unfold exV at h
        rw [if_neg (by simp [this])] at h
        rw [show sum = sumT tb N N.toNat code by omega]
        exact h
    | succ i ih =>
      intro hi left given sum l0 s0 s1 e1 e2
      have hm := mod_b (x := left) hN
      have hd := div_b (x := left) (show 2 ≤ N by omega) l0
      have tbb := ht i (left % N) (by omega) (by omega) hm.1 (by omega)
      apply s_X1_together_13 (layOK n) kD
      rw [show ((i + 1 : Nat) : Int) - 1 = (i : Int) by omega, (dv_rf hD).2.2.2.2.1, hv i (left % N) (by omega) (by omega) hm.1 hm.2]
      refine ⟨fun q => absurd q (by omega), fun _ => ⟨⟨l0, by omega⟩, ⟨by omega, by omega⟩, ⟨by omega, by omega⟩, ⟨by omega, by omega⟩, ⟨by omega, by omega⟩, ⟨by omega, by omega⟩, ?_⟩⟩
      rw [show (i : Int) + -1 = (i : Int) - 1 by omega]
      refine ih (by omega) _ _ _ hd.1 (by omega) (by omega) ?_ ?_
      · rw [← e1]; rfl
      · rw [← e2]
        show _ = sum + (tb i (left % N) + sumT tb N i (left / N))
        omega
  have e : ((N.toNat : Nat) : Int) = N := by omega
  have := key N.toNat (by omega) code 0 0 hc.1 (by omega) (by omega) rfl (by omega)
  rw [e] at this
  exact this
theorem c_X1_bestExchange {D c : Int} {w : Int → Int} (kD : isK (L0 n) D (1, 0)) (kc : isK (L0 n) c (0, 0)) (hN : 2 ≤ μ c 1 ∧ μ c 1 ≤ 5) (hS : 2 ≤ μ c 0 ∧ μ c 0 ≤ 16) (hw : ∀ a : Int, 0 ≤ a → a < 5 → rowOK (μ (c + 2 + a))) (hr : DR μ D w) (hu : WFu w) (hs : WFs (μ c 0) w) (h4 : w 4 ≤ 19)
    (h : ∀ μ', (∀ x i, x ≠ D + 5 → μ' x i = μ x i) → Q (some (0, exF (fun a b => hld (μ (c + 2 + a)) (μ c 0).toNat w b) (μ c 1))) (L0 n) μ') : TR mX1_bestExchange 4 (0, 0) [(2, D), (2, c)] (L0 n) μ Q := by
  have hD := dv_is kD
  have hcc := ck_is kc
  have hSn : (((μ c 0).toNat : Nat) : Int) = μ c 0 := by omega
  have hSs : (μ c 0).toNat ≤ 16 := by omega
  have hu1 := hu.1
  have hu2 := hu.2
  generalize hTb : (fun a b => hld (μ (c + 2 + a)) (μ c 0).toNat w b : Int → Int → Int) = tb at h
  have htb : ∀ a b, tb a b = hld (μ (c + 2 + a)) (μ c 0).toNat w b := fun a b => by rw [← hTb]
  have ht : tbOK tb := fun a b a0 a1 b0 b1 => by
    have := hld_b (hw a a0 a1) hSs hu (by rw [hSn]; exact hs) ⟨b0, b1⟩
    rw [htb]
    omega
  have hNn : (((μ c 1).toNat : Nat) : Int) = μ c 1 := by omega
  have PB := pwr_b hN (show (μ c 1).toNat ≤ 5 by omega)
  apply t_X1_bestExchange (layOK n) kD kc
  -- the scan
  have scan : ∀ μ', (∀ x i, x ≠ D + 5 → μ' x i = μ x i) → (∀ a b : Int, 0 ≤ a → a < μ c 1 → 0 ≤ b → b < μ c 1 → μ' (D + 5) (a * 5 + b) = tb a b) → ∀ (d k : Nat), (k : Int) + d = pwr (μ c 1) (μ c 1).toNat → WA mX1_bestExchange 4 (0, 0) 78 [(2, D), (9, 0), (0, μ c 1), (0, pwr (μ c 1) (μ c 1).toNat), (1, (exB tb (μ c 1) k).1), (9, 0), (0, (exB tb (μ c 1) k).2), (0, (k : Int)), (9, 0), (9, 0)] [] (L0 n) μ' Q := by
    intro μ' hf hv d
    induction d with
    | zero =>
      intro k hk
      have hb := exB_b (tb := tb) (N := μ c 1) k
      apply s_X1_bestExchange_78 (layOK n) kD
      refine ⟨fun _ => c_X1_figures hN ⟨hb.1, by omega⟩ ⟨_, rfl, rfl, ?_⟩, fun q => absurd (show pwr (μ c 1) (μ c 1).toNat ≤ (k : Int) by omega) q⟩
      have := h μ' hf
      unfold exF at this
      rw [show (pwr (μ c 1) (μ c 1).toNat).toNat = k by omega] at this
      exact this
    | succ d ih =>
      intro k hk
      apply s_X1_bestExchange_78 (layOK n) kD
      refine ⟨fun q => absurd q (by omega), fun _ => c_X1_together kD hN ⟨by omega, by omega⟩ ht hv ⟨_, rfl, rfl, fun q => ⟨⟨by omega, by omega⟩, ?_⟩, fun q => ⟨⟨by omega, by omega⟩, ?_⟩⟩⟩
      · have e : exB tb (μ c 1) (k + 1) = exB tb (μ c 1) k := by conv => lhs; unfold exB; rw [if_neg (by omega)]
        have := ih (k + 1) (by omega)
        rw [e] at this
        exact this
      · have e : exB tb (μ c 1) (k + 1) = (exV tb (μ c 1) k, (k : Int)) := by conv => lhs; unfold exB; rw [if_pos (by omega)]
        have := ih (k + 1) (by omega)
        rw [e] at this
        exact this
  -- the table
  have fill : ∀ (d k : Nat), (k : Int) + d = μ c 1 → ∀ μ', (∀ x i, x ≠ D + 5 → μ' x i = μ x i) → (∀ a b : Int, 0 ≤ a → a < k → 0 ≤ b → b < μ c 1 → μ' (D + 5) (a * 5 + b) = tb a b) → WA mX1_bestExchange 4 (0, 0) 10 [(2, D), (2, c), (0, μ c 1), (0, pwr (μ c 1) k), (0, (k : Int)), (9, 0), (9, 0), (9, 0), (9, 0), (9, 0)] [] (L0 n) μ' Q := by
    intro d
    induction d with
    | zero =>
      intro k hk μ' hf hv
      apply s_X1_bestExchange_10 (layOK n) kD kc
      refine ⟨fun _ => ?_, fun q => absurd (show μ c 1 ≤ (k : Int) by omega) q⟩
      rw [show k = (μ c 1).toNat by omega]
      exact scan μ' hf (fun a b a0 a1 b0 b1 => hv a b a0 (by omega) b0 b1) (pwr (μ c 1) (μ c 1).toNat).toNat 0 (by omega)
    | succ d ih =>
      intro k hk μ' hf hv
      have p1 := pwr_b hN (show k + 1 ≤ 5 by omega)
      have p1' : 1 ≤ pwr (μ c 1) k * μ c 1 ∧ pwr (μ c 1) k * μ c 1 ≤ 3125 := p1
      apply s_X1_bestExchange_10 (layOK n) kD kc
      refine ⟨fun q => absurd q (by omega), fun _ => ⟨⟨by omega, by omega⟩, ?_⟩⟩
      have row : ∀ (e b : Nat), (b : Int) + e = μ c 1 → ∀ μ'', (∀ x i, x ≠ D + 5 → μ'' x i = μ x i) → (∀ a b' : Int, 0 ≤ a → 0 ≤ b' → b' < μ c 1 → a < k ∨ a = k ∧ b' < b → μ'' (D + 5) (a * 5 + b') = tb a b') → WA mX1_bestExchange 4 (0, 0) 23 [(2, D), (2, c), (0, μ c 1), (0, pwr (μ c 1) k * μ c 1), (0, (k : Int)), (0, (b : Int)), (9, 0), (9, 0), (9, 0), (9, 0)] [] (L0 n) μ'' Q := by
        intro e
        induction e with
        | zero =>
          intro b hb μ'' gf gv
          apply s_X1_bestExchange_23 (layOK n) kD kc
          refine ⟨fun _ => ⟨⟨by omega, by omega⟩, ?_⟩, fun q => absurd (show μ c 1 ≤ (b : Int) by omega) q⟩
          exact ih (k + 1) (by omega) μ'' gf (fun a b' a0 a1 b0 b1 => gv a b' a0 b0 b1 (by omega))
        | succ e ihe =>
          intro b hb μ'' gf gv
          have e0 : μ'' c 0 = μ c 0 := gf c 0 (by omega)
          have er : μ'' (c + 2 + (k : Int)) = μ (c + 2 + (k : Int)) := funext fun i => gf _ i (by omega)
          apply s_X1_bestExchange_23 (layOK n) kD kc
          rw [(ck_rf hcc).1, (ck_rows hcc ⟨by omega, by omega⟩).1, (dv_rf hD).2.2.2.2.1]
          refine ⟨fun q => absurd q (by omega), fun _ => ⟨⟨by omega, by omega⟩, ⟨by omega, by omega⟩, ⟨by omega, by omega⟩, ?_⟩⟩
          refine c_X1_holds kD kc (by have := rowA_K (how := 0) kc (a := (k : Int)) ⟨by omega, by omega⟩; exact this) ⟨by omega, by omega⟩ (by rw [e0]; exact hS) (by rw [er]; exact hw _ (by omega) (by omega)) (DR_frame hr h4 (fun a a0 a1 => (hs a a0 a1).1.2) (fun x i hx => gf x i (by omega))) hu (by rw [e0]; exact hs) ⟨_, rfl, rfl, ⟨by omega, by omega⟩, ⟨by omega, by omega⟩, ?_⟩
          rw [er, e0, ← htb]
          refine ihe (b + 1) (by omega) _ (fun x i hx => by rw [up_ne (Or.inl hx)]; exact gf x i hx) (fun a b' a0 b0 b1 hab => ?_)
          by_cases hq : a = (k : Int) ∧ b' = (b : Int)
          · rw [hq.1, hq.2, up_eq]
          · rw [up_ne (Or.inr (by omega))]
            exact gv a b' a0 b0 b1 (by omega)
      exact row (μ c 1).toNat 0 (by omega) μ' hf (fun a b' a0 b0 b1 hab => hv a b' a0 (by omega) b0 b1)
  have := fill (μ c 1).toNat 0 (by omega) μ (fun _ _ _ => rfl) (fun a b a0 a1 => absurd a1 (by omega))
  exact this
end
