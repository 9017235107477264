/-! diminishing -/
theorem wv_eq {row : Int → Int} {S : Nat} {a b : Pt} (ha : 0 ≤ a.2) (hb : 0 ≤ b.2) : wvN row S a b = a.2 * pw row b.1 b.2 S - b.2 * pw row a.1 a.2 S := by
  have g1 := pw_scale (w := row) (P := b.1) (u := b.2) (c := a.2) ha S
  have g2 := pw_scale (w := row) (P := a.1) (u := a.2) (c := b.2) hb S
  rw [Int.mul_comm a.2 b.1] at g1
  rw [Int.mul_comm b.2 a.1, Int.mul_comm b.2 a.2] at g2
  unfold wvN
  rw [g1, g2]
/-- a mark of less than what a span has lies in it -/
theorem mark_in {E : WEnv} {p k : Int} {rest e m m' : Pt} (hE : EnvOK E) (hp : 0 ≤ p ∧ p < E.N) (hk : 0 < k) (r1 : 0 ≤ rest.1) (r2 : 0 < rest.2) (e2 : 0 < e.2) (m2 : 0 < m.2) (hre : rest.1 * e.2 ≤ e.1 * rest.2) (hrm : rest.1 * m.2 ≤ m.1 * rest.2) (hM : MP E rest rest e 1 k p m')
    (hc : wvN (E.T (ag E p)) E.S rest e * wvD rest m ≤ wvN (E.T (ag E p)) E.S rest m * k * wvD rest e) : m'.1 * m.2 ≤ m.1 * m'.2 := by
  have hag := ag_b hE hp
  have hrow := hE.2.2.2 _ hag.1 hag.2.2
  have hS := hE.1
  refine markR_least (x := m.1) (y := m.2) hrow ⟨by omega, hS.2⟩ r1 r2 ?_ ?_ hM.1 m2 hrm ?_
  · rw [Int.mul_one]
    exact (wv_b hrow hS.2 (by omega) (by omega) hre).1
  · exact Int.mul_pos (Int.mul_pos r2 e2) hk
  · rw [Int.mul_one]
    have em := wv_eq (row := E.T (ag E p)) (S := E.S) (a := rest) (b := m) (by omega) (by omega)
    generalize wvN (E.T (ag E p)) E.S rest e = We at *
    generalize wvD rest e = De at *
    rw [em] at hc
    generalize pw (E.T (ag E p)) rest.1 rest.2 E.S = R at *
    generalize pw (E.T (ag E p)) m.1 m.2 E.S = M at *
    have f1 : (R * (De * k) + We * rest.2) * m.2 = m.2 * R * k * De + We * (rest.2 * m.2) := by
      rw [Int.add_mul]
      congr 1 <;> ac_rfl
    have f2 : (rest.2 * M - m.2 * R) * k * De = M * (rest.2 * (De * k)) - m.2 * R * k * De := by
      rw [Int.sub_mul, Int.sub_mul]
      congr 1
      ac_rfl
    rw [f2] at hc
    have hc : We * (rest.2 * m.2) ≤ M * (rest.2 * (De * k)) - m.2 * R * k * De := hc
    rw [f1]
    omega
theorem due_rest {E : WEnv} (hE : EnvOK E) {p k : Int} {rest e : Pt} (hp : 0 ≤ p ∧ p < E.N) (r2 : 0 < rest.2) (e2 : 0 < e.2) (hre : rest.1 * e.2 ≤ e.1 * rest.2) (hk : 1 ≤ k) : DUE E rest rest e 1 k p := by
  have hag := ag_b hE hp
  exact due_in (hE.2.2.2 _ hag.1 hag.2.2) hE.1.2 r2 e2 hre (by decide) hk
theorem sameB_tr {w w' w'' : Dv} (h : sameB w w') (h' : sameB w' w'') : sameB w w'' := fun i h1 h2 h3 => (h' i h1 h2 h3).trans (h i h1 h2 h3)
theorem sameB_set {w : Dv} {u : Int} : sameB w (setU w u) := fun _ h _ _ => setU_ne h
theorem sameB_note {w : Dv} {kind a : Int} {p q : Pt} (h : 0 ≤ w 4) : sameB w (noteS w kind a p q) := fun i _ h2 h3 => (note_lo h).2 i h2 h3
abbrev eE (E : WEnv) : Pt := ((E.S : Int), 1)
theorem lookS_ok {E : WEnv} {rest m m' : Pt} {k q last l' : Int} {w w' : Dv} (hE : EnvOK E) (hq : 0 ≤ q ∧ q < E.N) (hk : 1 ≤ k) (hw : WF E.S w) (hr : ptW E.S (w 3) rest.1 rest.2) (hm : ptW E.S (w 3) m.1 m.2) (ho : rest.1 * m.2 ≤ m.1 * rest.2) (h4 : w 4 < 19) (h : lookS E rest k q last m w = some (l', m', w')) :
    ((l' = last ∧ m' = m) ∨ l' = q) ∧ ptW E.S (w' 3) m'.1 m'.2 ∧ rest.1 * m'.2 ≤ m'.1 * rest.2 ∧ WF E.S w' ∧ upW w w' ∧ w' 4 = w 4 + 1 ∧ sameB w w' := by
  have hag := ag_b hE hq
  have re : rest.1 * 1 ≤ (E.S : Int) * rest.2 := by have := hr.2.2.1; omega
  unfold lookS at h
  simp only at h
  split at h
  · cases h
    obtain ⟨n1, n2⟩ := note_lo (w := w) (kind := 2) (a := ag E q) (p := m) (q := (0, 1)) hw.2.1.1
    have n3 := n2 3 (by decide) (by decide)
    refine ⟨Or.inl ⟨rfl, rfl⟩, by rw [n3]; exact hm, ho, note_WF hw ⟨by decide, by decide⟩ ⟨hag.1, hag.2.2⟩ hm (ptW_Zu (by omega)) (fun q => absurd q (by decide)) h4, by unfold upW; rw [n3]; exact Int.dvd_refl _, n1, sameB_note hw.2.1.1⟩
  · rename_i hc
    cases hy : pmS E w q rest rest (E.S, 1) 1 k with
    | none => rw [hy] at h; cases h
    | some y =>
      obtain ⟨m1, w1⟩ := y
      rw [hy] at h
      cases h
      obtain ⟨j1, j2, j3, j4, j5⟩ := pm_step hE hq hw hr (show 0 < rest.2 by have := hr.2.1; omega) (show (0 : Int) < 1 by decide) re (by decide) (show 0 < k by omega) (due_rest hE hq (by have := hr.2.1; omega) (show (0 : Int) < 1 by decide) re hk) hy
      have ord := mark_in (k := k) hE hq (by omega) hr.1 (by have := hr.2.1; omega) (show (0 : Int) < 1 by decide) (by have := hm.2.1; omega) re ho j1 (Int.le_of_lt (Int.lt_of_not_ge hc))
      have e4 : w1 4 = w 4 := by rw [j5, setU_ne (by decide)]
      obtain ⟨n1, n2⟩ := note_lo (w := w1) (kind := 1) (a := ag E q) (p := m1) (q := m) j3.2.1.1
      have n3 := n2 3 (by decide) (by decide)
      refine ⟨Or.inr rfl, ?_, j1.2.2.2.1, note_WF j3 ⟨by decide, by decide⟩ ⟨hag.1, hag.2.2⟩ j2 (ptW_up hm j4) (fun _ => ord) (show w1 4 < 19 by omega), ?_, ?_, ?_⟩
      · show ptW E.S (noteS w1 1 (ag E q) m1 m 3) m1.1 m1.2
        rw [n3]; exact j2
      · show w 3 ∣ noteS w1 1 (ag E q) m1 m 3
        rw [n3]; exact j4
      · show noteS w1 1 (ag E q) m1 m 4 = w 4 + 1
        rw [n1, e4]
      · exact sameB_tr (by rw [j5]; exact sameB_set) (sameB_note j3.2.1.1)
/-- behind the first q places -/
def DI (E : WEnv) (g : Int) (rest : Pt) (w : Dv) (q : Nat) (x : Int × Pt × Dv) : Prop := WF E.S x.2.2 ∧ upW w x.2.2 ∧ x.2.2 4 = w 4 + cntN g q ∧ sameB w x.2.2 ∧ ((x = (-1, (0, 1), w) ∧ ∀ p : Int, 0 ≤ p → p < q → ¬ bt g p) ∨ (0 ≤ x.1 ∧ x.1 < q ∧ bt g x.1 ∧ ptW E.S (x.2.2 3) x.2.1.1 x.2.1.2 ∧ rest.1 * x.2.1.2 ≤ x.2.1.1 * rest.2))
theorem dmI_ok {E : WEnv} {g k : Int} {rest : Pt} {w : Dv} (hE : EnvOK E) (hk : 1 ≤ k) (hw : WF E.S w) (hr : ptW E.S (w 3) rest.1 rest.2) : ∀ (q : Nat) (x : Int × Pt × Dv), (q : Int) ≤ E.N → w 4 + cntN g q ≤ 19 → dmI E g rest k w q = some x → DI E g rest w q x
  | 0, x, _, _, h => by
    cases h
    exact ⟨hw, Int.dvd_refl _, by show w 4 = w 4 + 0; omega, fun i _ _ _ => rfl, Or.inl ⟨rfl, fun p p0 p1 => absurd p1 (by omega)⟩⟩
  | q + 1, x, hq, h4, h => by
    have cs : cntN g (q + 1) = cntN g q + if bt g q then 1 else 0 := rfl
    have mono : cntN g q ≤ cntN g (q + 1) := cntN_mono q (q + 1) (by omega)
    unfold dmI at h
    cases hx : dmI E g rest k w q with
    | none => rw [hx] at h; cases h
    | some x0 =>
      obtain ⟨l, m, w0⟩ := x0
      obtain ⟨i1, i2, i3, i4, i5⟩ := dmI_ok hE hk hw hr q (l, m, w0) (by omega) (by omega) hx
      have i1 : WF E.S w0 := i1
      have i2 : upW w w0 := i2
      have i3 : w0 4 = w 4 + cntN g q := i3
      have i4 : sameB w w0 := i4
      rw [hx] at h
      have h : (if bt g q then (if l < 0 then (pmS E w0 q rest rest (E.S, 1) 1 k).map fun y => ((q : Int), y.1, noteS y.2 0 (ag E q) y.1 (0, 1)) else lookS E rest k q l m w0) else some (l, m, w0)) = some x := h
      have re : rest.1 * 1 ≤ (E.S : Int) * rest.2 := by have := hr.2.2.1; omega
      have hag := ag_b hE (p := (q : Int)) ⟨by omega, by omega⟩
      by_cases hb : bt g q
      · rw [if_pos hb] at h cs
        rcases i5 with ⟨z, nb⟩ | ⟨z1, z2, z3, z4, z5⟩
        · have zl : l = -1 := congrArg Prod.fst z
          rw [if_pos (by omega)] at h
          cases hy : pmS E w0 q rest rest (E.S, 1) 1 k with
          | none => rw [hy] at h; cases h
          | some y =>
            obtain ⟨m1, w1⟩ := y
            rw [hy] at h
            cases h
            obtain ⟨j1, j2, j3, j4, j5⟩ := pm_step hE ⟨by omega, by omega⟩ i1 (ptW_up hr i2) (show 0 < rest.2 by have := hr.2.1; omega) (show (0 : Int) < 1 by decide) re (by decide) (show 0 < k by omega) (due_rest hE ⟨by omega, by omega⟩ (by have := hr.2.1; omega) (show (0 : Int) < 1 by decide) re hk) hy
            have e4 : w1 4 = w0 4 := by rw [j5, setU_ne (by decide)]
            obtain ⟨n1, n2⟩ := note_lo (w := w1) (kind := 0) (a := ag E q) (p := m1) (q := (0, 1)) j3.2.1.1
            have n3 := n2 3 (by decide) (by decide)
            refine ⟨note_WF j3 ⟨by decide, by decide⟩ ⟨hag.1, hag.2.2⟩ j2 (ptW_Zu (by omega)) (fun q => absurd q (by decide)) (show w1 4 < 19 by omega), ?_, ?_, ?_, Or.inr ⟨?_, ?_, hb, ?_, j1.2.2.2.1⟩⟩
            · show w 3 ∣ noteS w1 0 (ag E q) m1 (0, 1) 3
              rw [n3]; exact Int.dvd_trans i2 j4
            · show noteS w1 0 (ag E q) m1 (0, 1) 4 = _
              rw [n1, e4]; omega
            · exact sameB_tr i4 (sameB_tr (by rw [j5]; exact sameB_set) (sameB_note j3.2.1.1))
            · show 0 ≤ (q : Int); omega
            · show (q : Int) < ((q + 1 : Nat) : Int); omega
            · show ptW E.S (noteS w1 0 (ag E q) m1 (0, 1) 3) m1.1 m1.2
              rw [n3]; exact j2
        · have z1 : 0 ≤ l := z1
          have z2 : l < q := z2
          rw [if_neg (by omega)] at h
          obtain ⟨l', m', w'⟩ := x
          obtain ⟨j1, j2, j3, j4, j5, j6, j7⟩ := lookS_ok hE ⟨by omega, by omega⟩ hk i1 (ptW_up hr i2) z4 z5 (by omega) h
          refine ⟨j4, Int.dvd_trans i2 j5, ?_, sameB_tr i4 j7, Or.inr ⟨?_, ?_, ?_, j2, j3⟩⟩
          · show w' 4 = _
            omega
          · show 0 ≤ l'
            rcases j1 with ⟨a, _⟩ | a <;> omega
          · show l' < ((q + 1 : Nat) : Int)
            rcases j1 with ⟨a, _⟩ | a <;> omega
          · show bt g l'
            rcases j1 with ⟨a, _⟩ | a
            · rw [a]; exact z3
            · rw [a]; exact hb
      · rw [if_neg hb] at h cs
        cases h
        refine ⟨i1, i2, by show w0 4 = _; omega, i4, ?_⟩
        rcases i5 with ⟨z, nb⟩ | ⟨z1, z2, z3, z4, z5⟩
        · refine Or.inl ⟨z, fun p p0 p1 pb => ?_⟩
          by_cases e : p = (q : Int)
          · rw [e] at pb; exact hb pb
          · exact nb p p0 (by omega) pb
        · have z2 : l < q := z2
          exact Or.inr ⟨z1, by show l < ((q + 1 : Nat) : Int); omega, z3, z4, z5⟩
theorem dmI_none {E : WEnv} {g k : Int} {rest : Pt} {w : Dv} {j : Nat} (h : dmI E g rest k w j = none) : ∀ q : Nat, j ≤ q → dmI E g rest k w q = none
  | 0, hk => by
    have : j = 0 := by omega
    subst this
    exact h
  | q + 1, hk => by
    by_cases e : j = q + 1
    · subst e; exact h
    · unfold dmI
      rw [dmI_none h q (by omega)]
      rfl
theorem dmS_none {E : WEnv} {w : Dv} {j : Nat} (h : dmS E w j = none) : ∀ k : Nat, j ≤ k → dmS E w k = none
  | 0, hk => by
    have : j = 0 := by omega
    subst this
    exact h
  | k + 1, hk => by
    by_cases e : j = k + 1
    · subst e; exact h
    · unfold dmS
      rw [dmS_none h k (by omega)]
      rfl
theorem dmS_ok {E : WEnv} {w : Dv} (hE : EnvOK E) (hw : WF E.S w) (h4 : w 4 = 0) (hm : ∀ a : Int, 0 ≤ a → a < 5 → w (165 + a) = 0) : ∀ (j : Nat) (x : KSt), (j : Int) + 1 ≤ E.N → dmS E w j = some x → KI E j x
  | 0, x, _, h => by
    cases h
    exact KI_0 hE hw h4 hm
  | j + 1, x, hj, h => by
    have hN := hE.2.1
    unfold dmS at h
    cases hx : dmS E w j with
    | none => rw [hx] at h; cases h
    | some x0 =>
      obtain ⟨g, rest, w0⟩ := x0
      rw [hx] at h
      have i1 := dmS_ok hE hw h4 hm j (g, rest, w0) (by omega) hx
      have i1' := i1
      obtain ⟨k1, k2, k3, k4, k5, k6, k7⟩ := i1
      have k11 : 0 < g := k1.1
      have k12 : g < 32 := k1.2
      have k2 : ∀ p : Int, 0 ≤ p → p < 5 → bt g p → p < E.N := k2
      have k3 : cnt g = E.N - j := k3
      have k6 : w0 4 ≤ ev E.N j := k6
      have eb := (ev_b hN j (by omega)).2.2 (by omega)
      have c5 : cntN g E.N.toNat ≤ cnt g := cntN_le (by omega)
      have h : ((dmI E g rest (E.N - j) w0 E.N.toNat).map fun y => (off1 g y.1, y.2.1, takeS y.2.2 (ag E y.1) rest y.2.1)) = some x := h
      cases hy : dmI E g rest (E.N - j) w0 E.N.toNat with
      | none => rw [hy] at h; cases h
      | some y =>
        obtain ⟨l, m, w1⟩ := y
        rw [hy] at h
        cases h
        obtain ⟨d1, d2, d3, d4, d5⟩ := dmI_ok hE (by omega) k5 k4 E.N.toNat _ (by omega) (by omega) hy
        obtain ⟨f1, f2, f3⟩ := fsO_ok (g := g) ⟨k11, k12⟩
        have eN : ((E.N.toNat : Nat) : Int) = E.N := by omega
        rw [eN] at d5
        obtain ⟨z1, z2, z3, z4, z5⟩ := d5.resolve_left (fun z => z.2 _ f1.1 (k2 _ f1.1 f1.2 f2) f2)
        exact (KI_step hE (by omega) i1' d1 d2 (Int.le_of_eq d3) d4 ⟨z1, z2⟩ z3 z4 z5).1
