/-! the knife -/
theorem ag_inj {E : WEnv} (hE : EnvOK E) {p q : Int} (hp : 0 ≤ p ∧ p < E.N) (hq : 0 ≤ q ∧ q < E.N) (h : ag E p = ag E q) : p = q := by
  obtain ⟨-, h1, h2, -⟩ := hE
  unfold ag at h
  split at h <;> split at h <;> omega
def ev (N : Int) : Nat → Int
  | 0 => 0
  | j + 1 => ev N j + (N - j) + 1
theorem ev_b {N : Int} (hN : 2 ≤ N ∧ N ≤ 5) : ∀ j : Nat, (j : Int) + 1 ≤ N → 0 ≤ ev N j ∧ (j = N - 1 → ev N j ≤ 18) ∧ ((j : Int) + 2 ≤ N → ev N j + (N - j) ≤ 18) := by
  intro j hj
  have : j = 0 ∨ j = 1 ∨ j = 2 ∨ j = 3 ∨ j = 4 := by omega
  rcases this with rfl | rfl | rfl | rfl | rfl <;> simp only [ev] <;> refine ⟨by omega, fun q => by omega, fun q => by omega⟩
/-- behind j takes: the group, the rest, the division -/
def KI (E : WEnv) (j : Nat) (x : KSt) : Prop := (0 < x.1 ∧ x.1 < 32) ∧ (∀ p : Int, 0 ≤ p → p < 5 → bt x.1 p → p < E.N) ∧ cnt x.1 = E.N - j ∧ ptW E.S (x.2.2 3) x.2.1.1 x.2.1.2 ∧ WF E.S x.2.2 ∧ x.2.2 4 ≤ ev E.N j ∧ ∀ p : Int, 0 ≤ p → p < E.N → bt x.1 p → x.2.2 (165 + ag E p) = 0
/-- one of the group takes from the rest up to a point -/
theorem KI_step {E : WEnv} {j : Nat} {g : Int} {rest m : Pt} {w w' : Dv} {l : Int} (hE : EnvOK E) (hj : (j : Int) + 2 ≤ E.N) (h : KI E j (g, rest, w)) (hw : WF E.S w') (hup : upW w w') (h4 : w' 4 ≤ w 4 + cntN g E.N.toNat) (hB : sameB w w') (hl : 0 ≤ l ∧ l < E.N) (hb : bt g l) (hm : ptW E.S (w' 3) m.1 m.2) (ho : rest.1 * m.2 ≤ m.1 * rest.2) :
    KI E (j + 1) (off1 g l, m, takeS w' (ag E l) rest m) ∧ takeS w' (ag E l) rest m 3 = w' 3 ∧ w' (165 + ag E l) = 0 ∧ w' 4 ≤ 18 := by
  obtain ⟨k1, k2, k3, k4, k5, k6, k7⟩ := h
  have hN := hE.2.1
  have hag := ag_b hE hl
  have eb := ev_b hN j (by omega)
  have k3 : cnt g = E.N - j := k3
  have k6 : w 4 ≤ ev E.N j := k6
  have c5 : cntN g E.N.toNat ≤ cnt g := cntN_le (by omega)
  have z : w' (165 + ag E l) = 0 := by rw [hB _ (by omega) (by omega) (by omega)]; exact k7 l hl.1 hl.2 hb
  have w4 : w' 4 ≤ 18 := by
    have := eb.2.2 hj
    omega
  obtain ⟨t1, t2, t3⟩ := take_lo (w := w') (a := ag E l) (p := rest) (q := m) hw.2.1.1 ⟨hag.1, hag.2.2⟩ ⟨by omega, by omega⟩
  have t33 := t3 3 (by decide) (by omega) (by decide)
  have ob := off1_b (g := g) (p := l) ⟨by have := k1.1; exact Int.le_of_lt this, k1.2⟩ ⟨hl.1, by omega⟩
  rw [if_pos hb] at ob
  have g0 : 0 < off1 g l := (cnt_b ⟨ob.1, by have := k1.2; have := ob.2.1; have : g < 32 := k1.2; omega⟩).2.2.1.mpr (by omega)
  have k12 : g < 32 := k1.2
  have k11 : 0 < g := k1.1
  have obt := fun q (hq : 0 ≤ q ∧ q < 5) => off1_bt (g := g) (p := l) (q := q) ⟨by omega, k12⟩ ⟨hl.1, by omega⟩ hq
  refine ⟨⟨⟨g0, by show off1 g l < 32; omega⟩, fun p p0 p1 pb => k2 p p0 p1 ((obt p ⟨p0, p1⟩).mp pb).1, ?_, ?_, ?_, ?_, ?_⟩, t33, z, w4⟩
  · show cnt (off1 g l) = E.N - ((j + 1 : Nat) : Int)
    omega
  · show ptW E.S (takeS w' (ag E l) rest m 3) m.1 m.2
    rw [t33]; exact hm
  · exact take_WF hw ⟨hag.1, hag.2.2⟩ (ptW_up k4 hup) hm ho (by omega) (by omega)
  · show takeS w' (ag E l) rest m 4 ≤ ev E.N j + (E.N - j) + 1
    omega
  · intro p p0 p1 pb
    have q := (obt p ⟨p0, by omega⟩).mp pb
    show takeS w' (ag E l) rest m (165 + ag E p) = 0
    have hp := ag_b hE (p := p) ⟨p0, p1⟩
    rw [t3 _ (by omega) (fun e => q.2 (ag_inj hE ⟨p0, p1⟩ hl (by omega))) (by omega), hB _ (by omega) (by omega) (by omega)]
    exact k7 p p0 p1 q.1
theorem KI_0 {E : WEnv} {w : Dv} (hE : EnvOK E) (hw : WF E.S w) (h4 : w 4 = 0) (hm : ∀ a : Int, 0 ≤ a → a < 5 → w (165 + a) = 0) : KI E 0 (full E.N, (0, 1), w) := by
  obtain ⟨f1, f2, f3, f4⟩ := full_b hE.2.1
  refine ⟨⟨f1, f2⟩, fun p p0 p1 pb => (f4 p p0 p1).mp pb, ?_, ptW_Zu (by omega), hw, ?_, fun p p0 p1 _ => hm _ (ag_b hE ⟨p0, p1⟩).1 (ag_b hE ⟨p0, p1⟩).2.2⟩
  · show cnt (full E.N) = E.N - ((0 : Nat) : Int)
    omega
  · show w 4 ≤ 0
    omega
/-- what lies ahead of the rest is at most j shares for all that are left -/
def KX (E : WEnv) (j : Nat) (x : KSt) : Prop := ∀ p : Int, 0 ≤ p → p < E.N → bt x.1 p → E.N * pw (E.T (ag E p)) x.2.1.1 x.2.1.2 E.S ≤ j * cum (E.T (ag E p)) E.S * x.2.1.2
theorem KX_due {E : WEnv} {j : Nat} {g : Int} {rest : Pt} {w : Dv} (hE : EnvOK E) (hj : (j : Int) + 2 ≤ E.N) (hr2 : 1 ≤ rest.2) (hx : KX E j (g, rest, w)) : ∀ p : Int, 0 ≤ p → p < E.N → bt g p → DUE E rest (0, 1) ((E.S : Int), 1) 1 E.N p := by
  intro p p0 p1 pb
  have h : E.N * pw (E.T (ag E p)) rest.1 rest.2 E.S ≤ j * cum (E.T (ag E p)) E.S * rest.2 := hx p p0 p1 pb
  have hag := ag_b hE (p := p) ⟨p0, p1⟩
  have hrow := hE.2.2.2 _ hag.1 hag.2.2
  have c0 := (cum_b hrow E.S hE.1.2).1
  unfold DUE
  obtain ⟨e1, e2⟩ := wv_whole (row := E.T (ag E p)) (S := E.S)
  rw [e1, e2]
  generalize pw (E.T (ag E p)) rest.1 rest.2 E.S = P at *
  generalize cum (E.T (ag E p)) E.S = C at *
  generalize rest.2 = d at *
  have cd : 0 ≤ C * d := Int.mul_nonneg c0 (by omega)
  have m := Int.mul_le_mul_of_nonneg_right (show (j : Int) + 1 ≤ E.N by omega) cd
  have f1 : ((j : Int) + 1) * (C * d) = j * C * d + C * d := by rw [Int.add_mul, Int.one_mul, Int.mul_assoc]
  have f2 : E.N * (C * d) = C * (d * (1 * E.N)) := by rw [Int.one_mul]; ac_rfl
  have f3 : P * (1 * E.N) = E.N * P := by rw [Int.one_mul, Int.mul_comm]
  rw [f3, Int.mul_one]
  omega
/-- the knife's steps stay in bounds -/
theorem knS_ok {E : WEnv} {w : Dv} (hE : EnvOK E) (hw : WF E.S w) (h4 : w 4 = 0) (hm : ∀ a : Int, 0 ≤ a → a < 5 → w (165 + a) = 0) : ∀ (j : Nat) (x : KSt), (j : Int) + 1 ≤ E.N → knS E w j = some x → KI E j x ∧ KX E j x
  | 0, x, _, h => by
    cases h
    refine ⟨KI_0 hE hw h4 hm, fun p p0 p1 pb => ?_⟩
    show E.N * pw _ 0 1 E.S ≤ ((0 : Nat) : Int) * _ * 1
    rw [pw_stop (by decide) (j := 0) (by omega) E.S (by omega)]
    show E.N * 0 ≤ _
    rw [Int.mul_zero]
    simp
  | j + 1, x, hj, h => by
    have hN := hE.2.1
    unfold knS at h
    cases hx : knS E w j with
    | none => rw [hx] at h; cases h
    | some x0 =>
      obtain ⟨g, rest, w0⟩ := x0
      rw [hx] at h
      obtain ⟨i1, i2⟩ := knS_ok hE hw h4 hm j (g, rest, w0) (by omega) hx
      have h : ((mkA E g rest (0, 1) (E.S, 1) 1 E.N mk0 w0 E.N.toNat).map fun y => (off1 g (lst y.1 g E.N.toNat), y.1 (lst y.1 g E.N.toNat), takeS y.2 (ag E (lst y.1 g E.N.toNat)) rest (y.1 (lst y.1 g E.N.toNat)))) = some x := h
      cases hy : mkA E g rest (0, 1) (E.S, 1) 1 E.N mk0 w0 E.N.toNat with
      | none => rw [hy] at h; cases h
      | some y =>
        obtain ⟨mk, w1⟩ := y
        rw [hy] at h
        have h : (off1 g (lst mk g E.N.toNat), mk (lst mk g E.N.toNat), takeS w1 (ag E (lst mk g E.N.toNat)) rest (mk (lst mk g E.N.toNat))) = x := Option.some.inj h
        rw [← h]
        clear h
        obtain ⟨k1, k2, k3, k4, k5, k6, k7⟩ := i1
        have k11 : 0 < g := k1.1
        have k12 : g < 32 := k1.2
        have k2 : ∀ p : Int, 0 ≤ p → p < 5 → bt g p → p < E.N := k2
        have k3 : cnt g = E.N - j := k3
        have k4 : ptW E.S (w0 3) rest.1 rest.2 := k4
        have k5 : WF E.S w0 := k5
        have k7 : ∀ p : Int, 0 ≤ p → p < E.N → bt g p → w0 (165 + ag E p) = 0 := k7
        have hdue := KX_due (g := g) (rest := rest) (w := w0) hE (by omega) k4.2.1 i2
        have k6 : w0 4 ≤ ev E.N j := k6
        have eb := (ev_b hN j (by omega)).2.2 (by omega)
        have c5 : cntN g E.N.toNat ≤ cnt g := cntN_le (by omega)
        obtain ⟨a1, a2, a3, a4, a5⟩ := mkA_ok hE k5 k4 (show 0 < ((0, 1) : Pt).2 by decide) (show 0 < (((E.S : Int), 1) : Pt).2 by show (0 : Int) < 1; omega) (show (0 : Int) * 1 ≤ E.S * 1 by omega) (by decide) (show 0 < E.N by omega) hdue E.N.toNat mk w1 (by omega) (by omega) hy
        have eN : ((E.N.toNat : Nat) : Int) = E.N := by omega
        rw [eN] at a5
        obtain ⟨f1, f2, f3⟩ := fsO_ok (g := g) ⟨k11, k12⟩
        have lo := lst_ok (mk := mk) (g := g) E.N.toNat (by omega) (fun p p0 p1 pb => by have := (a5 p p0 (by omega) pb).2.2.1; omega)
        rw [eN] at lo
        have lo := lo.resolve_left (fun z => z.1 _ f1.1 (k2 _ f1.1 f1.2 f2) f2)
        obtain ⟨l1, l2, l3, l4⟩ := lo
        generalize lst mk g E.N.toNat = l at *
        obtain ⟨m1, m2⟩ := a5 l l1 l2 l3
        obtain ⟨s1, s2, s3, s4⟩ := KI_step hE (by omega) ⟨k1, k2, k3, k4, k5, k6, k7⟩ a1 a2 (by omega) a4 ⟨l1, l2⟩ l3 m2 m1.2.2.2.1
        refine ⟨s1, fun p p0 p1 pb => ?_⟩
        have q := (off1_bt (g := g) (p := l) (q := p) ⟨by omega, k12⟩ ⟨l1, by omega⟩ ⟨p0, by omega⟩).mp pb
        have hag := ag_b hE (p := p) ⟨p0, p1⟩
        have hrow := hE.2.2.2 _ hag.1 hag.2.2
        obtain ⟨b1, b2⟩ := a5 p p0 p1 q.1
        have r0 := i2 p p0 p1 q.1
        have fm := pw_fr hrow hE.1.2 (show 0 < (mk l).2 by have := m2.2.1; omega) (show 0 < (mk p).2 by have := b2.2.1; omega) (l4 p p0 p1 q.1)
        have due := b1.2.2.2.2
        obtain ⟨e1, e2⟩ := wv_whole (row := E.T (ag E p)) (S := E.S)
        rw [e1, e2, Int.one_mul, Int.mul_one] at due
        show E.N * pw (E.T (ag E p)) (mk l).1 (mk l).2 E.S ≤ ((j + 1 : Nat) : Int) * cum (E.T (ag E p)) E.S * (mk l).2
        have r0 : E.N * pw (E.T (ag E p)) rest.1 rest.2 E.S ≤ j * cum (E.T (ag E p)) E.S * rest.2 := r0
        have d1 : 0 < (mk p).2 := by have := b2.2.1; omega
        have d2 : 0 < (mk l).2 := by have := m2.2.1; omega
        have d3 : 0 < rest.2 := by have := k4.2.1; exact this
        generalize pw (E.T (ag E p)) (mk l).1 (mk l).2 E.S = A at *
        generalize pw (E.T (ag E p)) (mk p).1 (mk p).2 E.S = B at *
        generalize pw (E.T (ag E p)) rest.1 rest.2 E.S = R at *
        generalize cum (E.T (ag E p)) E.S = C at *
        generalize (mk l).2 = dl at *
        generalize (mk p).2 = dp at *
        generalize rest.2 = dr at *
        -- fm: A * dp ≤ B * dl; due: B * (dr * N) = (R * N + C * dr) * dp; r0: N * R ≤ j * C * dr
        have g1 := Int.mul_le_mul_of_nonneg_right fm (show 0 ≤ dr * E.N from Int.mul_nonneg (by omega) (by omega))
        have g2 : B * dl * (dr * E.N) = (R * E.N + C * dr) * dp * dl := by
          calc B * dl * (dr * E.N) = B * (dr * E.N) * dl := by ac_rfl
            _ = _ := by rw [due]
        have g3 : R * E.N + C * dr ≤ ((j + 1 : Nat) : Int) * C * dr := by
          have : ((j + 1 : Nat) : Int) * C * dr = j * C * dr + C * dr := by rw [show ((j + 1 : Nat) : Int) = (j : Int) + 1 by omega, Int.add_mul, Int.add_mul, Int.one_mul]
          rw [this, Int.mul_comm R]
          omega
        have g4 := Int.mul_le_mul_of_nonneg_right g3 (show 0 ≤ dp * dl from Int.mul_nonneg (by omega) (by omega))
        have g5 : (R * E.N + C * dr) * dp * dl = (R * E.N + C * dr) * (dp * dl) := Int.mul_assoc _ _ _
        have g6 : E.N * A * (dp * dr) = A * dp * (dr * E.N) := by ac_rfl
        have g7 : ((j + 1 : Nat) : Int) * C * dl * (dp * dr) = ((j + 1 : Nat) : Int) * C * dr * (dp * dl) := by ac_rfl
        exact Int.le_of_mul_le_mul_right (by rw [g6, g7]; omega) (Int.mul_pos d1 d3)
