/-! contracts: Point, Span, Event -/
/-- a fraction in lowest terms -/
def gc (x y : Int) : Int := (Int.gcd x y : Int)
def rdN (x y : Int) : Int := x / gc x y
def rdD (x y : Int) : Int := y / gc x y
theorem gc_pos {x y : Int} (hy : 0 < y) : 0 < gc x y := by
  have := Int.gcd_pos_of_ne_zero_right x (show y ≠ 0 by omega)
  unfold gc
  omega
theorem gc_dvd_l (x y : Int) : gc x y ∣ x := Int.gcd_dvd_left x y
theorem gc_dvd_r (x y : Int) : gc x y ∣ y := Int.gcd_dvd_right x y
theorem rdN_mul (x y : Int) : rdN x y * gc x y = x := Int.ediv_mul_cancel (gc_dvd_l x y)
theorem rdD_mul (x y : Int) : rdD x y * gc x y = y := Int.ediv_mul_cancel (gc_dvd_r x y)
theorem rdN_nn {x y : Int} (hx : 0 ≤ x) : 0 ≤ rdN x y := Int.ediv_nonneg hx (by unfold gc; omega)
theorem rdD_pos {x y : Int} (hy : 0 < y) : 0 < rdD x y := by
  have h := rdD_mul x y
  have g := gc_pos (x := x) hy
  rcases Int.lt_or_le 0 (rdD x y) with q | q
  · exact q
  · have := Int.mul_nonneg (show 0 ≤ -rdD x y by omega) (Int.le_of_lt g)
    rw [Int.neg_mul] at this
    omega
theorem rdN_le {x y : Int} (hx : 0 ≤ x) : rdN x y ≤ x := Int.ediv_le_self _ hx
theorem rdD_le {x y : Int} (hy : 0 ≤ y) : rdD x y ≤ y := Int.ediv_le_self _ hy
theorem rd_cross (x y : Int) : rdN x y * y = x * rdD x y := by
  have h1 := rdN_mul x y
  have h2 := rdD_mul x y
  calc rdN x y * y = rdN x y * (rdD x y * gc x y) := by rw [h2]
    _ = (rdN x y * gc x y) * rdD x y := by ac_rfl
    _ = x * rdD x y := by rw [h1]
section
variable {n : Int} {μ : Mem} {Q : Option AV → Lay → Mem → Prop}
theorem emod_half {a b : Int} (hb : 0 < b) (r : 0 < a % b) : 2 * (b % (a % b)) < b := by
  have h1 := Int.emod_lt_of_pos a hb
  have h2 := Int.emod_lt_of_pos b r
  have h3 := Int.emod_nonneg b (show a % b ≠ 0 by omega)
  by_cases h : 2 * (a % b) ≤ b
  · omega
  · have h5 := Int.emod_add_mul_ediv b (a % b)
    generalize a % b = r' at *
    generalize b / r' = q at *
    have h6 : 1 ≤ q := by
      rcases Int.lt_or_le 0 q with z | z
      · omega
      · have := Int.mul_le_mul_of_nonneg_left z (show 0 ≤ r' by omega)
        rw [Int.mul_zero] at this
        omega
    have h7 := Int.mul_le_mul_of_nonneg_left h6 (show 0 ≤ r' by omega)
    rw [Int.mul_one] at h7
    omega
theorem gc_step {a b : Int} (ha : 0 ≤ a) (hb : 0 ≤ b) : gc b (a % b) = gc a b := by
  obtain ⟨x, rfl⟩ := Int.eq_ofNat_of_zero_le ha
  obtain ⟨y, rfl⟩ := Int.eq_ofNat_of_zero_le hb
  show ((Nat.gcd y (x % y) : Nat) : Int) = ((Nat.gcd x y : Nat) : Int)
  rw [Nat.gcd_comm y, ← Nat.gcd_rec, Nat.gcd_comm]
theorem gc_zero {a : Int} (ha : 0 ≤ a) : gc a 0 = a := by
  unfold gc
  rw [Int.gcd_zero_right]
  omega
theorem put_loop {o x y : Int} (ko : isK (L0 n) o (3, 0)) (hx : 0 ≤ x) (hy : 0 < y) (h : Q none (L0 n) (up (up μ o 0 (rdN x y)) o 1 (rdD x y))) :
    ∀ (m : Nat) (a b i : Int), 0 ≤ a → 0 ≤ b → b < 2 ^ m → 0 ≤ i → i + 2 * m + 2 ≤ 100 → gc a b = gc x y →
      WA mX3_put 1 (0, 0) 9 [(2, o), (1, x), (9, 0), (1, y), (9, 0), (1, a), (9, 0), (1, b), (9, 0), (0, i), (9, 0), (9, 0)] [] (L0 n) μ Q := by
  have fin : ∀ (a i : Int), 0 ≤ a → i ≤ 99 → gc a 0 = gc x y → WA mX3_put 1 (0, 0) 9 [(2, o), (1, x), (9, 0), (1, y), (9, 0), (1, a), (9, 0), (1, 0), (9, 0), (0, i), (9, 0), (9, 0)] [] (L0 n) μ Q := by
    intro a i ha hi hg
    rw [gc_zero ha] at hg
    have hp := gc_pos (x := x) hy
    apply s_X3_put_9 (layOK n) ko
    refine ⟨fun q => by omega, fun _ => ⟨fun _ => ?_, fun q => by omega⟩⟩
    rw [show max 1 a = gc x y by omega]
    exact ⟨⟨hx, hp⟩, ⟨by omega, hp⟩, h⟩
  intro m
  induction m with
  | zero =>
    intro a b i ha hb hb2 hi hi2 hg
    have : b = 0 := by simp at hb2; omega
    subst this
    exact fin a i ha (by omega) hg
  | succ m ih =>
    intro a b i ha hb hb2 hi hi2 hg
    by_cases h0 : b = 0
    · subst h0
      exact fin a i ha (by omega) hg
    · have hbp : 0 < b := by omega
      have r0 := Int.emod_nonneg a h0
      have r1 := Int.emod_lt_of_pos a hbp
      apply s_X3_put_9 (layOK n) ko
      refine ⟨fun q => by omega, fun _ => ⟨fun q => by omega, fun _ => ⟨⟨ha, hbp⟩, ⟨by omega, by omega⟩, ?_⟩⟩⟩
      by_cases h1 : a % b = 0
      · rw [h1]
        exact fin b (i + 1) hb (by omega) (by rw [← hg, ← gc_step ha hb, h1])
      · have h2 : 0 < a % b := by omega
        have s0 := Int.emod_nonneg b (show a % b ≠ 0 by omega)
        have s1 := emod_half hbp h2
        apply s_X3_put_9 (layOK n) ko
        refine ⟨fun q => by omega, fun _ => ⟨fun q => by omega, fun _ => ⟨⟨hb, h2⟩, ⟨by omega, by omega⟩, ?_⟩⟩⟩
        rw [Int.pow_succ] at hb2
        exact ih (a % b) (b % (a % b)) (i + 1 + 1) r0 s0 (by omega) (by omega) (by omega) (by rw [gc_step hb r0, gc_step ha hb, hg])
theorem c_X3_put {o x y : Int} (ko : isK (L0 n) o (3, 0)) (hx : 0 ≤ x) (hy : 0 < y) (hy2 : y < 281474976710656) (h : Q none (L0 n) (up (up μ o 0 (rdN x y)) o 1 (rdD x y))) : TR mX3_put 1 (0, 0) [(2, o), (1, x), (1, y)] (L0 n) μ Q :=
  t_X3_put (layOK n) ko (put_loop ko hx hy h 48 x y 0 hx (by omega) (by simpa using hy2) (by omega) (by omega) rfl)
theorem c_X3_copy {o p : Int} (ko : isK (L0 n) o (3, 0)) (kp : isK (L0 n) p (3, 0)) (h : Q none (L0 n) (up (up μ o 0 (μ p 0)) o 1 (μ p 1))) : TR mX3_copy 0 (0, 0) [(2, o), (2, p)] (L0 n) μ Q := by
  apply t_X3_copy (layOK n) ko kp
  rw [show up μ o 0 (μ p 0) p 1 = μ p 1 from up_ne (Or.inr (by omega))]
  exact h
/-- one point below another: by wholes, then by what is left -/
def ltB (a b c d : Int) : Prop := if a / b = c / d then a % b * d < c % d * b else a / b < c / d
theorem ltB_iff {a b c d : Int} (hb : 0 < b) (hd : 0 < d) : ltB a b c d ↔ a * d < c * b := by
  have ha := Int.emod_add_mul_ediv a b
  have hc := Int.emod_add_mul_ediv c d
  have a0 := Int.emod_nonneg a (show b ≠ 0 by omega)
  have a1 := Int.emod_lt_of_pos a hb
  have c0 := Int.emod_nonneg c (show d ≠ 0 by omega)
  have c1 := Int.emod_lt_of_pos c hd
  unfold ltB
  generalize a / b = qa at *
  generalize c / d = qc at *
  generalize a % b = ra at *
  generalize c % d = rc at *
  subst ha
  subst hc
  have e1 : (ra + b * qa) * d = ra * d + b * d * qa := by rw [Int.add_mul, Int.mul_assoc, Int.mul_comm qa d, ← Int.mul_assoc]
  have e2 : (rc + d * qc) * b = rc * b + b * d * qc := by rw [Int.add_mul, Int.mul_comm d qc, Int.mul_assoc, Int.mul_comm d b, Int.mul_comm qc]
  rw [e1, e2]
  have bd : 0 < b * d := Int.mul_pos hb hd
  have f1 : ra * d ≤ (b - 1) * d := Int.mul_le_mul_of_nonneg_right (by omega) (by omega)
  have f2 : rc * b ≤ (d - 1) * b := Int.mul_le_mul_of_nonneg_right (by omega) (by omega)
  have f3 : 0 ≤ ra * d := Int.mul_nonneg a0 (by omega)
  have f4 : 0 ≤ rc * b := Int.mul_nonneg c0 (by omega)
  rw [Int.sub_mul, Int.one_mul] at f1 f2
  rw [Int.mul_comm d b] at f2
  by_cases h : qa = qc
  · subst h
    rw [if_pos rfl]
    omega
  · rw [if_neg h]
    rcases Int.lt_or_lt_of_ne h with q | q
    · have : b * d * qa + b * d ≤ b * d * qc := by
        have := Int.mul_le_mul_of_nonneg_left (show qa + 1 ≤ qc by omega) (Int.le_of_lt bd)
        rw [Int.mul_add, Int.mul_one] at this
        exact this
      constructor
      · intro _; omega
      · intro _; exact q
    · have : b * d * qc + b * d ≤ b * d * qa := by
        have := Int.mul_le_mul_of_nonneg_left (show qc + 1 ≤ qa by omega) (Int.le_of_lt bd)
        rw [Int.mul_add, Int.mul_one] at this
        exact this
      constructor
      · intro h2; omega
      · intro h2; omega
theorem emod_mul_lt {a b d : Int} (hb : 0 < b) (hd : 0 < d) : 0 ≤ a % b * d ∧ a % b * d < b * d := by
  have a0 := Int.emod_nonneg a (show b ≠ 0 by omega)
  have a1 := Int.emod_lt_of_pos a hb
  exact ⟨Int.mul_nonneg a0 (by omega), Int.mul_lt_mul_of_pos_right a1 hd⟩
theorem mul_le_B {b d B D : Int} (hb : 0 ≤ b) (hd : 0 ≤ d) (h1 : b ≤ B) (h2 : d ≤ D) : b * d ≤ B * D := Int.mul_le_mul h1 h2 hd (by omega)
/-- a point that is held: not below 0, its line a number from 1 on -/
def ptOK (μ : Mem) (o : Int) : Prop := 0 ≤ μ o 0 ∧ 1 ≤ μ o 1
theorem c_X3_isBelow {o p : Int} (ko : isK (L0 n) o (3, 0)) (kp : isK (L0 n) p (3, 0)) (ho : ptOK μ o) (hp : ptOK μ p) (hb : μ o 1 * μ p 1 < 9223372036854775808) (h : ∀ r : Int, (r = 1 ∧ μ o 0 * μ p 1 < μ p 0 * μ o 1 ∨ r = 0 ∧ μ p 0 * μ o 1 ≤ μ o 0 * μ p 1) → Q (some (0, r)) (L0 n) μ) : TR mX3_isBelow 1 (0, 0) [(2, o), (2, p)] (L0 n) μ Q := by
  obtain ⟨o0, o1⟩ := ho
  obtain ⟨p0, p1⟩ := hp
  have hl := ltB_iff (a := μ o 0) (c := μ p 0) (show 0 < μ o 1 by omega) (show 0 < μ p 1 by omega)
  unfold ltB at hl
  have e1 := emod_mul_lt (a := μ o 0) (show 0 < μ o 1 by omega) (show 0 < μ p 1 by omega)
  have e2 := emod_mul_lt (a := μ p 0) (show 0 < μ p 1 by omega) (show 0 < μ o 1 by omega)
  rw [Int.mul_comm (μ p 1) (μ o 1)] at e2
  apply t_X3_isBelow (layOK n) ko kp
  rw [show max 1 (μ o 1) = μ o 1 by omega, show max 1 (μ p 1) = μ p 1 by omega]
  refine ⟨⟨o0, by omega⟩, ⟨p0, by omega⟩, fun q => ⟨⟨by omega, by omega⟩, ⟨by omega, by omega⟩, fun q2 => ?_, fun q2 => ?_⟩, fun q => ⟨fun q2 => ?_, fun q2 => ?_⟩⟩
  · rw [if_pos q] at hl
    exact h 0 (Or.inr ⟨rfl, by omega⟩)
  · rw [if_pos q] at hl
    exact h 1 (Or.inl ⟨rfl, by omega⟩)
  · rw [if_neg q] at hl
    exact h 0 (Or.inr ⟨rfl, by omega⟩)
  · rw [if_neg q] at hl
    exact h 1 (Or.inl ⟨rfl, by omega⟩)
theorem c_X3_part {o j : Int} (ko : isK (L0 n) o (3, 0)) (h : Q (some (1, if j = 0 then μ o 0 else μ o 1)) (L0 n) μ) : TR mX3_part 0 (0, 0) [(2, o), (0, j)] (L0 n) μ Q := by
  apply t_X3_part (layOK n) ko
  refine ⟨fun q => ?_, fun q => ?_⟩
  · rw [if_neg q] at h; exact h
  · rw [if_pos q] at h; exact h
theorem c_X3_isAt {o x y : Int} (ko : isK (L0 n) o (3, 0)) (h : Q (some (0, if μ o 0 = x ∧ μ o 1 = y then 1 else 0)) (L0 n) μ) : TR mX3_isAt 0 (0, 0) [(2, o), (1, x), (1, y)] (L0 n) μ Q := by
  apply t_X3_isAt (layOK n) ko
  refine ⟨fun q => ?_, fun q => ⟨fun q2 => ?_, fun q2 => ?_⟩⟩
  · rw [if_neg (by omega)] at h; exact h
  · rw [if_neg (by omega)] at h; exact h
  · rw [if_pos ⟨q, q2⟩] at h; exact h
theorem c_X3_parts {o u : Int} (ko : isK (L0 n) o (3, 0)) (h1 : 1 ≤ μ o 1) (hu : 0 ≤ u) (hb : inL (μ o 0 * (u / μ o 1))) (h : Q (some (1, μ o 0 * (u / μ o 1))) (L0 n) μ) : TR mX3_parts 0 (0, 0) [(2, o), (1, u)] (L0 n) μ Q := by
  apply t_X3_parts (layOK n) ko
  exact ⟨fun _ => ⟨⟨hu, by omega⟩, hb, h⟩, fun q => by omega⟩
/-- a span's four numbers -/
def spW (μ : Mem) (s a b c d : Int) : Mem := up (up (up (up μ (s + 1) 0 a) (s + 1) 1 b) (s + 2) 0 c) (s + 2) 1 d
theorem spW_at {μ : Mem} {s a b c d o k : Int} : spW μ s a b c d o k = if o = s + 1 ∧ k = 0 then a else if o = s + 1 ∧ k = 1 then b else if o = s + 2 ∧ k = 0 then c else if o = s + 2 ∧ k = 1 then d else μ o k := by
  unfold spW up
  repeat' split
  all_goals first | rfl | omega
theorem c_X7_put {s p q : Int} (ks : isK (L0 n) s (7, 0)) (kp : isK (L0 n) p (3, 0)) (kq : isK (L0 n) q (3, 0)) (hq : q ≠ s + 1) (h : Q none (L0 n) (spW μ s (μ p 0) (μ p 1) (μ q 0) (μ q 1))) : TR mX7_put 1 (0, 0) [(2, s), (2, p), (2, q)] (L0 n) μ Q := by
  obtain ⟨e1, e2, e3, e4⟩ := sp_at ks
  apply t_X7_put (layOK n) ks kp kq
  rw [e1, e2]
  refine c_X3_copy e3 kp ⟨rfl, rfl, c_X3_copy e4 kq ⟨rfl, rfl, ?_⟩⟩
  have h1 : ∀ i, up (up μ (s + 1) 0 (μ p 0)) (s + 1) 1 (μ p 1) q i = μ q i := fun i => by rw [up_ne (Or.inl hq), up_ne (Or.inl hq)]
  rw [h1, h1]
  exact h
theorem c_X7_copy {s t : Int} (ks : isK (L0 n) s (7, 0)) (kt : isK (L0 n) t (7, 0)) (hst : t + 2 ≠ s + 1) (h : Q none (L0 n) (spW μ s (μ (t + 1) 0) (μ (t + 1) 1) (μ (t + 2) 0) (μ (t + 2) 1))) : TR mX7_copy 2 (0, 0) [(2, s), (2, t)] (L0 n) μ Q := by
  obtain ⟨e1, e2, e3, e4⟩ := sp_at kt
  apply t_X7_copy (layOK n) ks kt
  rw [e1, e2]
  exact c_X7_put ks e3 e4 hst ⟨rfl, rfl, h⟩
theorem c_X7_part {s j : Int} (ks : isK (L0 n) s (7, 0)) (hj : 0 ≤ j ∧ j < 4) (h : Q (some (1, if j = 0 then μ (s + 1) 0 else if j = 1 then μ (s + 1) 1 else if j = 2 then μ (s + 2) 0 else μ (s + 2) 1)) (L0 n) μ) : TR mX7_part 1 (0, 0) [(2, s), (0, j)] (L0 n) μ Q := by
  obtain ⟨e1, e2, e3, e4⟩ := sp_at ks
  apply t_X7_part (layOK n) ks
  rw [e1, e2]
  refine ⟨fun q => ⟨⟨by omega, by omega⟩, c_X3_part e4 ⟨_, rfl, rfl, ?_⟩⟩, fun q => c_X3_part e3 ⟨_, rfl, rfl, ?_⟩⟩
  · rw [if_neg (by omega), if_neg (by omega)] at h
    by_cases z : j = 2
    · rw [if_pos z] at h; rw [if_pos (by omega)]; exact h
    · rw [if_neg z] at h; rw [if_neg (by omega)]; exact h
  · by_cases z : j = 0
    · rw [if_pos z] at h; rw [if_pos z]; exact h
    · rw [if_neg z, if_pos (by omega)] at h; rw [if_neg z]; exact h
theorem c_X7_isEmpty {s : Int} (ks : isK (L0 n) s (7, 0)) (h1 : ptOK μ (s + 1)) (h2 : ptOK μ (s + 2)) (hb : μ (s + 1) 1 * μ (s + 2) 1 < 9223372036854775808) (h : ∀ r : Int, (r = 0 ∧ μ (s + 1) 0 * μ (s + 2) 1 < μ (s + 2) 0 * μ (s + 1) 1 ∨ r = 1 ∧ μ (s + 2) 0 * μ (s + 1) 1 ≤ μ (s + 1) 0 * μ (s + 2) 1) → Q (some (0, r)) (L0 n) μ) : TR mX7_isEmpty 2 (0, 0) [(2, s)] (L0 n) μ Q := by
  obtain ⟨e1, e2, e3, e4⟩ := sp_at ks
  apply t_X7_isEmpty (layOK n) ks
  rw [e1, e2]
  refine c_X3_isBelow e3 e4 h1 h2 hb fun r hr => ⟨r, rfl, rfl, fun q => ?_, fun q => ?_⟩
  · exact h 0 (by omega)
  · exact h 1 (by omega)
theorem c_X2_copy {s t : Int} (ks : isK (L0 n) s (2, 0)) (kt : isK (L0 n) t (2, 0)) (hst : t + 3 ≠ s + 2) (hst2 : s ≠ t + 2 ∧ s ≠ t + 3) (h : Q none (L0 n) (spW (up (up μ s 0 (μ t 0)) s 1 (μ t 1)) (s + 1) (μ (t + 2) 0) (μ (t + 2) 1) (μ (t + 3) 0) (μ (t + 3) 1))) : TR mX2_copy 3 (0, 0) [(2, s), (2, t)] (L0 n) μ Q := by
  obtain ⟨e1, e2⟩ := ev_at ks
  obtain ⟨e3, e4⟩ := ev_at kt
  apply t_X2_copy (layOK n) ks kt
  rw [e1, e3]
  refine c_X7_copy e2 e4 (by omega) ⟨rfl, rfl, ?_⟩
  rw [show t + 1 + 1 = t + 2 by omega, show t + 1 + 2 = t + 3 by omega]
  have h1 : ∀ a i, a = t + 2 ∨ a = t + 3 → up (up μ s 0 (μ t 0)) s 1 (up μ s 0 (μ t 0) t 1) a i = μ a i := fun a i ha => by
    rw [up_ne (Or.inl (by omega)), up_ne (Or.inl (by omega))]
  rw [h1 _ _ (Or.inl rfl), h1 _ _ (Or.inl rfl), h1 _ _ (Or.inr rfl), h1 _ _ (Or.inr rfl), show up μ s 0 (μ t 0) t 1 = μ t 1 from up_ne (Or.inr (by omega))]
  exact h
theorem c_X2_part {s j : Int} (ks : isK (L0 n) s (2, 0)) (hj : 0 ≤ j ∧ j < 6) (h : Q (some (1, if j = 0 then μ s 0 else if j = 1 then μ s 1 else if j = 2 then μ (s + 2) 0 else if j = 3 then μ (s + 2) 1 else if j = 4 then μ (s + 3) 0 else μ (s + 3) 1)) (L0 n) μ) : TR mX2_part 2 (0, 0) [(2, s), (0, j)] (L0 n) μ Q := by
  obtain ⟨e1, e2⟩ := ev_at ks
  apply t_X2_part (layOK n) ks
  rw [e1]
  refine ⟨fun q => ⟨fun q2 => ⟨⟨by omega, by omega⟩, c_X7_part e2 ⟨by omega, by omega⟩ ⟨_, rfl, rfl, ?_⟩⟩, fun q2 => ?_⟩, fun q => ?_⟩
  · rw [if_neg q, if_neg q2] at h
    rw [show s + 1 + 1 = s + 2 by omega, show s + 1 + 2 = s + 3 by omega]
    rw [show (if j - 2 = 0 then μ (s + 2) 0 else if j - 2 = 1 then μ (s + 2) 1 else if j - 2 = 2 then μ (s + 3) 0 else μ (s + 3) 1) = (if j = 2 then μ (s + 2) 0 else if j = 3 then μ (s + 2) 1 else if j = 4 then μ (s + 3) 0 else μ (s + 3) 1) by
      repeat' split
      all_goals first | rfl | omega]
    exact h
  · rw [if_neg q, if_pos q2] at h; exact h
  · rw [if_pos q] at h; exact h
end
