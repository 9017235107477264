/-! masks of places -/
theorem m5 (P : Int → Prop) (h : P 0 ∧ P 1 ∧ P 2 ∧ P 3 ∧ P 4) : ∀ p : Int, 0 ≤ p → p < 5 → P p := by
  intro p p0 p1
  have : p = 0 ∨ p = 1 ∨ p = 2 ∨ p = 3 ∨ p = 4 := by omega
  obtain ⟨h0, h1, h2, h3, h4⟩ := h
  rcases this with rfl | rfl | rfl | rfl | rfl <;> assumption
/-- for all masks below 32 -/
theorem m32 {P : Int → Bool} (h : (List.range 32).all (fun g => P (g : Int)) = true) : ∀ g : Int, 0 ≤ g → g < 32 → P g = true := by
  intro g g0 g1
  have := List.all_eq_true.mp h g.toNat (List.mem_range.mpr (by omega))
  rw [show ((g.toNat : Nat) : Int) = g by omega] at this
  exact this
theorem mk325 {P : Int → Int → Bool} (h : (List.range 32).all (fun g => (List.range 5).all fun p => P (g : Int) (p : Int)) = true) : ∀ g p : Int, 0 ≤ g → g < 32 → 0 ≤ p → p < 5 → P g p = true := by
  intro g p g0 g1 p0 p1
  have := List.all_eq_true.mp (List.all_eq_true.mp h g.toNat (List.mem_range.mpr (by omega))) p.toNat (List.mem_range.mpr (by omega))
  rw [show ((g.toNat : Nat) : Int) = g by omega, show ((p.toNat : Nat) : Int) = p by omega] at this
  exact this
theorem mk3255 {P : Int → Int → Int → Bool} (h : (List.range 32).all (fun g => (List.range 5).all fun p => (List.range 5).all fun q => P (g : Int) (p : Int) (q : Int)) = true) : ∀ g p q : Int, 0 ≤ g → g < 32 → 0 ≤ p → p < 5 → 0 ≤ q → q < 5 → P g p q = true := by
  intro g p q g0 g1 p0 p1 q0 q1
  have := List.all_eq_true.mp (List.all_eq_true.mp (List.all_eq_true.mp h g.toNat (List.mem_range.mpr (by omega))) p.toNat (List.mem_range.mpr (by omega))) q.toNat (List.mem_range.mpr (by omega))
  rw [show ((g.toNat : Nat) : Int) = g by omega, show ((p.toNat : Nat) : Int) = p by omega, show ((q.toNat : Nat) : Int) = q by omega] at this
  exact this
theorem off1_bt {g p q : Int} (hg : 0 ≤ g ∧ g < 32) (hp : 0 ≤ p ∧ p < 5) (hq : 0 ≤ q ∧ q < 5) : bt (off1 g p) q ↔ bt g q ∧ q ≠ p := by
  have := mk3255 (P := fun g p q => decide (bt (off1 g p) q ↔ bt g q ∧ q ≠ p)) (by decide +kernel) g p q hg.1 hg.2 hp.1 hp.2 hq.1 hq.2
  exact of_decide_eq_true this
theorem off1_b {g p : Int} (hg : 0 ≤ g ∧ g < 32) (hp : 0 ≤ p ∧ p < 5) : 0 ≤ off1 g p ∧ off1 g p ≤ g ∧ cnt (off1 g p) = cnt g - (if bt g p then 1 else 0) := by
  have := mk325 (P := fun g p => decide (0 ≤ off1 g p ∧ off1 g p ≤ g ∧ cnt (off1 g p) = cnt g - (if bt g p then 1 else 0))) (by decide +kernel) g p hg.1 hg.2 hp.1 hp.2
  exact of_decide_eq_true this
theorem fsO_ok {g : Int} (hg : 0 < g ∧ g < 32) : (0 ≤ fsO g ∧ fsO g < 5) ∧ bt g (fsO g) ∧ ∀ p : Int, 0 ≤ p → p < fsO g → ¬ bt g p := by
  have h1 := m32 (P := fun g => decide (0 < g → (0 ≤ fsO g ∧ fsO g < 5) ∧ bt g (fsO g))) (by decide +kernel) g (by omega) hg.2
  obtain ⟨h1, h2⟩ := of_decide_eq_true h1 hg.1
  refine ⟨h1, h2, fun p p0 p1 => ?_⟩
  have h3 := mk325 (P := fun g p => decide (p < fsO g → ¬ bt g p)) (by decide +kernel) g p (by omega) hg.2 p0 (by omega)
  exact of_decide_eq_true h3 p1
theorem cnt_b {g : Int} (hg : 0 ≤ g ∧ g < 32) : 0 ≤ cnt g ∧ cnt g ≤ 5 ∧ (0 < g ↔ 0 < cnt g) ∧ (cnt g = 1 → ∀ p : Int, 0 ≤ p → p < 5 → bt g p → p = fsO g) := by
  have h1 := m32 (P := fun g => decide (0 ≤ cnt g ∧ cnt g ≤ 5 ∧ (0 < g ↔ 0 < cnt g))) (by decide +kernel) g hg.1 hg.2
  obtain ⟨a, b, c⟩ := of_decide_eq_true h1
  refine ⟨a, b, c, fun h p p0 p1 hb => ?_⟩
  have h3 := mk325 (P := fun g p => decide (cnt g = 1 → bt g p → p = fsO g)) (by decide +kernel) g p hg.1 hg.2 p0 p1
  exact of_decide_eq_true h3 h hb
theorem full_b {N : Int} (hN : 2 ≤ N ∧ N ≤ 5) : 0 < full N ∧ full N < 32 ∧ cnt (full N) = N ∧ ∀ p : Int, 0 ≤ p → p < 5 → (bt (full N) p ↔ p < N) := by
  have : N = 2 ∨ N = 3 ∨ N = 4 ∨ N = 5 := by omega
  have key : ∀ N : Int, (0 < full N ∧ full N < 32 ∧ cnt (full N) = N ∧ (bt (full N) 0 ↔ 0 < N) ∧ (bt (full N) 1 ↔ 1 < N) ∧ (bt (full N) 2 ↔ 2 < N) ∧ (bt (full N) 3 ↔ 3 < N) ∧ (bt (full N) 4 ↔ 4 < N)) → 0 < full N ∧ full N < 32 ∧ cnt (full N) = N ∧ ∀ p : Int, 0 ≤ p → p < 5 → (bt (full N) p ↔ p < N) := fun N h => ⟨h.1, h.2.1, h.2.2.1, m5 (fun p => bt (full N) p ↔ p < N) h.2.2.2⟩
  rcases this with rfl | rfl | rfl | rfl <;> exact key _ (by decide +kernel)
/-- the rest of a group -/
abbrev dif (g o : Int) : Int := bAnd g (bXor o (-1))
theorem dif_bt {g o p : Int} (hg : 0 ≤ g ∧ g < 32) (ho : 0 ≤ o ∧ o < 32) (hp : 0 ≤ p ∧ p < 5) : (0 ≤ dif g o ∧ dif g o < 32) ∧ (bt (dif g o) p ↔ bt g p ∧ ¬ bt o p) := by
  have h := List.all_eq_true.mp (List.all_eq_true.mp (List.all_eq_true.mp (show (List.range 32).all (fun g => (List.range 32).all fun o => (List.range 5).all fun p => decide ((0 ≤ dif (g : Int) (o : Int) ∧ dif (g : Int) (o : Int) < 32) ∧ (bt (dif (g : Int) (o : Int)) (p : Int) ↔ bt (g : Int) (p : Int) ∧ ¬ bt (o : Int) (p : Int)))) = true by decide +kernel) g.toNat (List.mem_range.mpr (by omega))) o.toNat (List.mem_range.mpr (by omega))) p.toNat (List.mem_range.mpr (by omega))
  rw [show ((g.toNat : Nat) : Int) = g by omega, show ((o.toNat : Nat) : Int) = o by omega, show ((p.toNat : Nat) : Int) = p by omega] at h
  exact of_decide_eq_true h
/-! the worth of spans -/
theorem wv_b {row : Int → Int} {S : Nat} {a b : Pt} (hw : rowOK row) (hS : S ≤ 16) (ha : 1 ≤ a.2) (hb : 1 ≤ b.2) (hc : a.1 * b.2 ≤ b.1 * a.2) : 0 ≤ wvN row S a b ∧ wvN row S a b ≤ cum row S * wvD a b := by
  have h1 := pw_mono (u := a.2 * b.2) hw hc S hS
  have h2 := pw_b (P := b.1 * a.2) (u := a.2 * b.2) hw (Int.mul_nonneg (by omega) (by omega)) S hS
  have h3 := pw_b (P := a.1 * b.2) (u := a.2 * b.2) hw (Int.mul_nonneg (by omega) (by omega)) S hS
  unfold wvN wvD
  omega
/-- in parts of a unit that makes the points whole -/
theorem spn_wv {row : Int → Int} {S : Nat} {u : Int} {a b : Pt} (hu : 0 < u) (ha : 1 ≤ a.2) (hb : 1 ≤ b.2) (da : a.2 ∣ u) (db : b.2 ∣ u) : spn row S u a.1 a.2 b.1 b.2 * wvD a b = wvN row S a b * u := by
  have e1 := pw_cross (row := row) (px := b.1) db (by omega) hu S
  have e2 := pw_cross (row := row) (px := a.1) da (by omega) hu S
  have g1 := pw_scale (w := row) (P := b.1) (u := b.2) (c := a.2) (by omega) S
  have g2 := pw_scale (w := row) (P := a.1) (u := a.2) (c := b.2) (by omega) S
  rw [Int.mul_comm a.2 b.1] at g1
  rw [Int.mul_comm b.2 a.1, Int.mul_comm b.2 a.2] at g2
  unfold spn wvN wvD
  rw [g1, g2, Int.sub_mul, Int.sub_mul]
  congr 1
  · calc pw row (prt u b.1 b.2) u S * (a.2 * b.2) = (pw row (prt u b.1 b.2) u S * b.2) * a.2 := by ac_rfl
      _ = (u * pw row b.1 b.2 S) * a.2 := by rw [e1]
      _ = _ := by ac_rfl
  · calc pw row (prt u a.1 a.2) u S * (a.2 * b.2) = (pw row (prt u a.1 a.2) u S * a.2) * b.2 := by ac_rfl
      _ = (u * pw row a.1 a.2 S) * b.2 := by rw [e2]
      _ = _ := by ac_rfl
/-! the unit -/
theorem lcm_dvd {u y : Int} (hy : 0 < y) : u ∣ rdN u y * y ∧ y ∣ rdN u y * y ∧ (0 < u → 0 < rdN u y * y) := by
  refine ⟨?_, ⟨rdN u y, Int.mul_comm _ _⟩, fun hu => ?_⟩
  · rw [rd_cross u y]
    exact ⟨rdD u y, rfl⟩
  · rw [rd_cross u y]
    exact Int.mul_pos hu (rdD_pos hy)
/-- what grows only -/
def upW (w w' : Dv) : Prop := w 3 ∣ w' 3
theorem ptW_up {S : Int} {w w' : Dv} {p : Pt} (h : ptW S (w 3) p.1 p.2) (hd : upW w w') : ptW S (w' 3) p.1 p.2 := ptW_un h hd
theorem setU_3 {w : Dv} {u : Int} : setU w u 3 = u := if_pos rfl
theorem setU_ne {w : Dv} {u i : Int} (h : i ≠ 3) : setU w u i = w i := if_neg h
theorem WFs_un {S : Int} {w w' : Dv} (h : WFs S w) (hd : upW w w') (he : ∀ i, 165 ≤ i → i < 210 → w' i = w i) : WFs S w' := by
  intro a a0 a1
  obtain ⟨h1, h2⟩ := h a a0 a1
  rw [he (165 + a) (by omega) (by omega)]
  refine ⟨h1, fun k k0 k1 => ?_⟩
  have h3 := h2 k k0 k1
  rw [he (170 + 8 * a + 4 * k) (by omega) (by omega), he (171 + 8 * a + 4 * k) (by omega) (by omega), he (172 + 8 * a + 4 * k) (by omega) (by omega), he (173 + 8 * a + 4 * k) (by omega) (by omega)]
  exact ⟨ptW_un h3.1 hd, ptW_un h3.2.1 hd, h3.2.2⟩
theorem WFe_un {S : Int} {w w' : Dv} (h : WFe S w) (hd : upW w w') (he : ∀ i, i = 4 ∨ 210 ≤ i → w' i = w i) : WFe S w' := by
  unfold WFe at *
  rw [he 4 (Or.inl rfl)]
  refine ⟨h.1, h.2.1, fun k k0 k1 => ?_⟩
  have h3 := h.2.2 k k0 k1
  rw [he (210 + 6 * k) (by omega), he (211 + 6 * k) (by omega), he (212 + 6 * k) (by omega), he (213 + 6 * k) (by omega), he (214 + 6 * k) (by omega), he (215 + 6 * k) (by omega)]
  exact ⟨h3.1, h3.2.1, ptW_un h3.2.2.1 hd, ptW_un h3.2.2.2.1 hd, h3.2.2.2.2⟩
theorem unS_ok {S : Int} {w w' : Dv} {y : Int} (hu : WFu w) (hy : 0 < y) (h : unS w y = some w') : w' = setU w (rdN (w 3) y * y) ∧ WFu w' ∧ upW w w' ∧ y ∣ w' 3 := by
  unfold unS at h
  split at h
  · cases h
  · rename_i q
    cases h
    have d := lcm_dvd (u := w 3) hy
    refine ⟨rfl, ⟨?_, ?_⟩, ?_, ?_⟩
    · rw [setU_3]
      have := d.2.2 (by have := hu.1; omega)
      omega
    · rw [setU_3]; omega
    · unfold upW; rw [setU_3]; exact d.1
    · rw [setU_3]; exact d.2.1
