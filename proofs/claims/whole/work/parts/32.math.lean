/-! numbers: sums of a row, worth up to a place, marks, fractions -/
def cum (w : Int → Int) : Nat → Int
  | 0 => 0
  | k + 1 => cum w k + w (k : Int)
/-- how much of strip s lies ahead of a place; place and answer in parts, of which a strip has u -/
def cl (P u s : Int) : Int := max 0 (min (P - s * u) u)
/-- what a row has ahead of a place -/
def pw (w : Int → Int) (P u : Int) : Nat → Int
  | 0 => 0
  | k + 1 => pw w P u k + w (k : Int) * cl P u (k : Int)
theorem cl_nn {P u s : Int} : 0 ≤ cl P u s := by unfold cl; omega
theorem cl_le {P u s : Int} (hu : 0 ≤ u) : cl P u s ≤ u := by unfold cl; omega
theorem cl_0 {P u s : Int} (h : P ≤ s * u) : cl P u s = 0 := by unfold cl; omega
theorem cl_u {P u s : Int} (hu : 0 ≤ u) (h : s * u + u ≤ P) : cl P u s = u := by unfold cl; omega
theorem cl_mid {P u s : Int} (h : s * u ≤ P) (h2 : P ≤ s * u + u) : cl P u s = P - s * u := by unfold cl; omega
theorem cl_scale {P u s c : Int} (hc : 0 ≤ c) : cl (c * P) (c * u) s = c * cl P u s := by
  have e : s * (c * u) = c * (s * u) := by ac_rfl
  unfold cl
  rw [e, ← Int.mul_sub]
  by_cases h : P - s * u ≤ u
  · have h1 := Int.mul_le_mul_of_nonneg_left h hc
    by_cases h2 : 0 ≤ P - s * u
    · have h3 := Int.mul_nonneg hc h2
      rw [show min (P - s * u) u = P - s * u by omega, show max 0 (P - s * u) = P - s * u by omega]
      omega
    · have h3 := Int.mul_le_mul_of_nonneg_left (show P - s * u ≤ 0 by omega) hc
      rw [Int.mul_zero] at h3
      rw [show max 0 (min (P - s * u) u) = 0 by omega, Int.mul_zero]
      omega
  · have h1 := Int.mul_le_mul_of_nonneg_left (show u ≤ P - s * u by omega) hc
    by_cases h2 : 0 ≤ u
    · have h3 := Int.mul_nonneg hc h2
      rw [show max 0 (min (P - s * u) u) = u by omega]
      omega
    · have h3 := Int.mul_le_mul_of_nonneg_left (show u ≤ 0 by omega) hc
      rw [Int.mul_zero] at h3
      rw [show max 0 (min (P - s * u) u) = 0 by omega, Int.mul_zero]
      omega
theorem pw_scale {w : Int → Int} {P u c : Int} (hc : 0 ≤ c) : ∀ k, pw w (c * P) (c * u) k = c * pw w P u k
  | 0 => by simp [pw]
  | k + 1 => by
    show pw w (c * P) (c * u) k + w k * cl (c * P) (c * u) k = c * (pw w P u k + w k * cl P u k)
    rw [pw_scale hc k, cl_scale hc, Int.mul_add]
    congr 1
    ac_rfl
theorem succ_mul' (k : Nat) (u : Int) : ((k + 1 : Nat) : Int) * u = (k : Int) * u + u := by
  rw [show ((k + 1 : Nat) : Int) = (k : Int) + 1 by omega, Int.add_mul, Int.one_mul]
theorem mul_mono_l {a b u : Int} (hu : 0 ≤ u) (h : a ≤ b) : a * u ≤ b * u := Int.mul_le_mul_of_nonneg_right h hu
/-- a place at or behind the end of k strips -/
theorem pw_all {w : Int → Int} {P u : Int} (hu : 0 ≤ u) : ∀ k : Nat, (k : Int) * u ≤ P → pw w P u k = cum w k * u
  | 0, _ => by simp [pw, cum]
  | k + 1, h => by
    rw [succ_mul'] at h
    show pw w P u k + w k * cl P u k = (cum w k + w k) * u
    rw [pw_all hu k (by omega), cl_u hu h, Int.add_mul]
theorem pw_stop {w : Int → Int} {P u : Int} (hu : 0 ≤ u) {j : Nat} (hP : P ≤ (j : Int) * u) : ∀ k : Nat, j ≤ k → pw w P u k = pw w P u j
  | 0, h => by
    have : j = 0 := by omega
    subst this; rfl
  | k + 1, h => by
    rcases Nat.lt_or_ge k j with q | q
    · have : j = k + 1 := by omega
      subst this; rfl
    · show pw w P u k + w k * cl P u k = _
      rw [pw_stop hu hP k q, cl_0 (by have := mul_mono_l hu (show (j : Int) ≤ k by omega); omega), Int.mul_zero, Int.add_zero]
def rowOK (w : Int → Int) : Prop := ∀ s : Int, 0 ≤ s → s < 16 → 0 ≤ w s ∧ w s ≤ 9
theorem cum_b {w : Int → Int} (hw : rowOK w) : ∀ k : Nat, k ≤ 16 → 0 ≤ cum w k ∧ cum w k ≤ 9 * k
  | 0, _ => by simp [cum]
  | k + 1, h => by
    have h1 := cum_b hw k (by omega)
    have h2 := hw k (by omega) (by omega)
    show 0 ≤ cum w k + w k ∧ cum w k + w k ≤ 9 * ((k + 1 : Nat) : Int)
    omega
theorem cum_mono {w : Int → Int} (hw : rowOK w) {j : Nat} : ∀ k : Nat, j ≤ k → k ≤ 16 → cum w j ≤ cum w k
  | 0, h, _ => by
    have : j = 0 := by omega
    subst this; omega
  | k + 1, h, h16 => by
    rcases Nat.lt_or_ge k j with q | q
    · have : j = k + 1 := by omega
      subst this; omega
    · have h1 := cum_mono hw k q (by omega)
      have h2 := hw k (by omega) (by omega)
      show cum w j ≤ cum w k + w k
      omega
theorem pw_b {w : Int → Int} {P u : Int} (hw : rowOK w) (hu : 0 ≤ u) : ∀ k : Nat, k ≤ 16 → 0 ≤ pw w P u k ∧ pw w P u k ≤ cum w k * u
  | 0, _ => by simp [pw, cum]
  | k + 1, h => by
    have h1 := pw_b (P := P) hw hu k (by omega)
    have h2 := hw k (by omega) (by omega)
    have h3 := Int.mul_nonneg h2.1 (cl_nn (P := P) (u := u) (s := k))
    have h4 := Int.mul_le_mul_of_nonneg_left (cl_le (P := P) (s := (k : Int)) hu) h2.1
    show 0 ≤ pw w P u k + w k * cl P u k ∧ pw w P u k + w k * cl P u k ≤ (cum w k + w k) * u
    rw [Int.add_mul]
    omega
theorem cl_mono {P P' u s : Int} (h : P ≤ P') : cl P u s ≤ cl P' u s := by unfold cl; omega
theorem pw_mono {w : Int → Int} {P P' u : Int} (hw : rowOK w) (h : P ≤ P') : ∀ k : Nat, k ≤ 16 → pw w P u k ≤ pw w P' u k
  | 0, _ => by simp [pw]
  | k + 1, hk => by
    have h1 := pw_mono (u := u) hw h k (by omega)
    have h2 := hw k (by omega) (by omega)
    have h3 := Int.mul_le_mul_of_nonneg_left (cl_mono (u := u) (s := (k : Int)) h) h2.1
    show pw w P u k + w k * cl P u k ≤ pw w P' u k + w k * cl P' u k
    omega
theorem pw_b144 {w : Int → Int} {P u : Int} (hw : rowOK w) (hu : 0 ≤ u) {k : Nat} (hk : k ≤ 16) : 0 ≤ pw w P u k ∧ pw w P u k ≤ 144 * u := by
  have h1 := pw_b (P := P) hw hu k hk
  have h2 := cum_b hw k hk
  have h3 := mul_mono_l hu (show cum w k ≤ 144 by omega)
  omega
theorem cum_congr {w w' : Int → Int} : ∀ k : Nat, (∀ s : Int, 0 ≤ s → s < k → w s = w' s) → cum w k = cum w' k
  | 0, _ => rfl
  | k + 1, h => by
    show cum w k + w k = cum w' k + w' k
    rw [cum_congr k (fun s h1 h2 => h s h1 (by omega)), h k (by omega) (by omega)]
theorem pw_congr {w w' : Int → Int} {P u : Int} : ∀ k : Nat, (∀ s : Int, 0 ≤ s → s < k → w s = w' s) → pw w P u k = pw w' P u k
  | 0, _ => rfl
  | k + 1, h => by
    show pw w P u k + w k * _ = pw w' P u k + w' k * _
    rw [pw_congr k (fun s h1 h2 => h s h1 (by omega)), h k (by omega) (by omega)]
/-! fractions -/
theorem gc_scale {x y c : Int} (hc : 0 < c) : gc (c * x) (c * y) = c * gc x y := by
  unfold gc
  rw [Int.gcd_mul_left]
  have : ((c.natAbs : Nat) : Int) = c := by omega
  rw [Int.natCast_mul, this]
theorem rdN_scale {x y c : Int} (hc : 0 < c) : rdN (c * x) (c * y) = rdN x y := by
  unfold rdN
  rw [gc_scale hc, Int.mul_ediv_mul_of_pos _ _ hc]
theorem rdD_scale {x y c : Int} (hc : 0 < c) : rdD (c * x) (c * y) = rdD x y := by
  unfold rdD
  rw [gc_scale hc, Int.mul_ediv_mul_of_pos _ _ hc]
theorem rd_eq {x y x' y' : Int} (hy : 0 < y) (hy' : 0 < y') (h : x * y' = x' * y) : rdN x y = rdN x' y' ∧ rdD x y = rdD x' y' := by
  constructor
  · rw [← rdN_scale (x := x) (y := y) hy', ← rdN_scale (x := x') (y := y') hy, Int.mul_comm y' x, h, Int.mul_comm x' y, Int.mul_comm y' y]
  · rw [← rdD_scale (x := x) (y := y) hy', ← rdD_scale (x := x') (y := y') hy, Int.mul_comm y' x, h, Int.mul_comm x' y, Int.mul_comm y' y]
/-- in lowest terms -/
def lowT (a b : Int) : Prop := 0 ≤ a ∧ 0 < b ∧ gc a b = 1
theorem rd_low {x y : Int} (hx : 0 ≤ x) (hy : 0 < y) : lowT (rdN x y) (rdD x y) := by
  refine ⟨rdN_nn hx, rdD_pos hy, ?_⟩
  have h1 := gc_scale (x := rdN x y) (y := rdD x y) (gc_pos (x := x) hy)
  rw [Int.mul_comm _ (rdN x y), rdN_mul, Int.mul_comm _ (rdD x y), rdD_mul] at h1
  have h2 := gc_pos (x := x) hy
  have h3 : gc x y * gc (rdN x y) (rdD x y) = gc x y * 1 := by rw [Int.mul_one]; exact h1.symm
  exact Int.eq_of_mul_eq_mul_left (by omega) h3
theorem rd_of_low {a b : Int} (h : lowT a b) : rdN a b = a ∧ rdD a b = b := by
  obtain ⟨-, -, h3⟩ := h
  unfold rdN rdD
  rw [h3, Int.ediv_one, Int.ediv_one]
  exact ⟨rfl, rfl⟩
theorem low_eq {a b c d : Int} (h1 : lowT a b) (h2 : lowT c d) (h : a * d = c * b) : a = c ∧ b = d := by
  have e := rd_eq h1.2.1 h2.2.1 h
  rw [(rd_of_low h1).1, (rd_of_low h1).2, (rd_of_low h2).1, (rd_of_low h2).2] at e
  exact e
/-! marks -/
/-- the first strip s with due at most what is there up to its end -/
def fnd (w : Int → Int) (due all : Int) : Nat → Nat → Option Nat
  | 0, _ => none
  | f + 1, s => if due ≤ cum w (s + 1) * all then some s else fnd w due all f (s + 1)
def mkX (w : Int → Int) (due all : Int) (s : Nat) : Int := (s : Int) * (w s * all) + (due - cum w s * all)
def mkY (w : Int → Int) (all : Int) (s : Nat) : Int := w s * all
theorem fnd_scale {w : Int → Int} {due all c : Int} (hc : 0 < c) : ∀ f s, fnd w (c * due) (c * all) f s = fnd w due all f s
  | 0, _ => rfl
  | f + 1, s => by
    have e : cum w (s + 1) * (c * all) = c * (cum w (s + 1) * all) := by ac_rfl
    unfold fnd
    rw [e, fnd_scale hc f (s + 1)]
    have : c * due ≤ c * (cum w (s + 1) * all) ↔ due ≤ cum w (s + 1) * all := ⟨fun h => Int.le_of_mul_le_mul_left h hc, fun h => Int.mul_le_mul_of_nonneg_left h (by omega)⟩
    simp only [this]
theorem mk_scale {w : Int → Int} {due all c : Int} (s : Nat) : mkX w (c * due) (c * all) s = c * mkX w due all s ∧ mkY w (c * all) s = c * mkY w all s := by
  unfold mkX mkY
  constructor
  · rw [Int.mul_add, Int.mul_sub]
    congr 1
    · ac_rfl
    · congr 1
      ac_rfl
  · ac_rfl
theorem fnd_spec {w : Int → Int} {due all : Int} : ∀ f s j, fnd w due all f s = some j → s ≤ j ∧ j < s + f ∧ due ≤ cum w (j + 1) * all ∧ (s < j → cum w j * all < due)
  | 0, s, j, h => by cases h
  | f + 1, s, j, h => by
    unfold fnd at h
    split at h
    · cases h
      rename_i q
      exact ⟨Nat.le_refl _, by omega, q, fun z => absurd z (Nat.lt_irrefl _)⟩
    · rename_i q
      obtain ⟨h1, h2, h3, h4⟩ := fnd_spec f (s + 1) j h
      refine ⟨by omega, by omega, h3, fun _ => ?_⟩
      by_cases z : s + 1 < j
      · exact h4 z
      · have : j = s + 1 := by omega
        subst this
        omega
