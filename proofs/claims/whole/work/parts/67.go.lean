/-! what comes of a way is a division, and never more than the whole -/
theorem spn_whole {row : Int → Int} {S : Nat} {u : Int} (hrow : rowOK row) (hS : S ≤ 16) (hu : 1 ≤ u) : spn row S u 0 1 S 1 ≤ cum row S * u := by
  unfold spn
  have e : prt u 0 1 = 0 := by unfold prt; exact Int.zero_mul _
  rw [e, pw_stop (P := 0) (by omega) (j := 0) (by omega) S (by omega)]
  have := (pw_b (P := prt u S 1) hrow (show 0 ≤ u by omega) S hS).2
  show pw row (prt u S 1) u S - 0 ≤ _
  omega
theorem two_GK {E : WEnv} {w0 w : Dv} {s1 e1 s0 e0 : Pt} (hE : EnvOK E) (hw : WF E.S w) (h4 : w 4 ≤ 17) (hm : ∀ a : Int, 0 ≤ a → a < 5 → w (165 + a) = 0) (hlow : ∀ i : Int, i < 165 → i ≠ 3 → i ≠ 4 → w i = w0 i)
    (p1 : ptW E.S (w 3) s1.1 s1.2) (p2 : ptW E.S (w 3) e1.1 e1.2) (o1 : s1.1 * e1.2 ≤ e1.1 * s1.2) (p3 : ptW E.S (w 3) s0.1 s0.2) (p4 : ptW E.S (w 3) e0.1 e0.2) (o0 : s0.1 * e0.2 ≤ e0.1 * s0.2)
    (hs : ∀ row, spn row E.S (w 3) s1.1 s1.2 e1.1 e1.2 + spn row E.S (w 3) s0.1 s0.2 e0.1 e0.2 = spn row E.S (w 3) 0 1 E.S 1) : GK E w0 (takeS (takeS w (ag E 1) s1 e1) (ag E 0) s0 e0) := by
  have hN := hE.2.1
  have g0 := ag_b hE (p := 0) ⟨by decide, by omega⟩
  have g1 := ag_b hE (p := 1) ⟨by decide, by omega⟩
  have gne : ag E 0 ≠ ag E 1 := fun e => absurd (ag_inj hE ⟨by decide, by omega⟩ ⟨by decide, by omega⟩ e) (by decide)
  have m1 := hm _ g1.1 g1.2.2
  have m0 := hm _ g0.1 g0.2.2
  have a1 := take_WF hw ⟨g1.1, g1.2.2⟩ p1 p2 o1 (by omega) (by omega)
  obtain ⟨l1, l2, l3⟩ := take_lo (w := w) (a := ag E 1) (p := s1) (q := e1) hw.2.1.1 ⟨g1.1, g1.2.2⟩ (by omega)
  have s1' := fun row => sumH_take (S := E.S) (row := row) (p := s1) (q := e1) hw ⟨g1.1, g1.2.2⟩ (show w (165 + ag E 1) < 2 by omega)
  generalize takeS w (ag E 1) s1 e1 = w1 at *
  have e3 : w1 3 = w 3 := l3 3 (by decide) (by omega) (by decide)
  have em : w1 (165 + ag E 0) = 0 := by rw [l3 _ (by omega) (by omega) (by omega), m0]
  have a2 := take_WF a1 ⟨g0.1, g0.2.2⟩ (by rw [e3]; exact p3) (by rw [e3]; exact p4) o0 (by omega) (by omega)
  obtain ⟨k1, k2, k3⟩ := take_lo (w := w1) (a := ag E 0) (p := s0) (q := e0) a1.2.1.1 ⟨g0.1, g0.2.2⟩ (by omega)
  have s2' := fun row => sumH_take (S := E.S) (row := row) (p := s0) (q := e0) a1 ⟨g0.1, g0.2.2⟩ (show w1 (165 + ag E 0) < 2 by omega)
  refine ⟨a2, fun row hrow => ?_, fun i i1 i2 i3 => ?_, fun a a0 a1' => ?_⟩
  · have h1 := s1' row
    have h2 := s2' row
    have h3 := hs row
    rw [sumH_none hm 5 (by omega)] at h1
    rw [e3] at h2
    rw [k3 3 (by decide) (by omega) (by decide), e3]
    have := spn_whole (S := E.S) hrow hE.1.2 hw.1.1
    omega
  · rw [k3 i i3 (by omega) (by omega), l3 i i3 (by omega) (by omega), hlow i i1 i2 i3]
  · rw [k3 _ (by omega) (by omega) (by omega), l3 _ (by omega) (by omega) (by omega), hm a (by omega) a1']
theorem spn_two {row : Int → Int} {S : Nat} {u a b c d e f : Int} : spn row S u a b c d + spn row S u c d e f = spn row S u a b e f := by
  unfold spn
  omega
theorem wayC_GK {E : WEnv} {w w' : Dv} (hE : EnvOK E) (hw : WF E.S w) (h4 : w 4 = 0) (hm : ∀ a : Int, 0 ≤ a → a < 5 → w (165 + a) = 0) (h : wayC E w = some w') : GK E w w' := by
  have hN := hE.2.1
  have g0 := ag_b hE (p := 0) ⟨by decide, by omega⟩
  unfold wayC at h
  cases hx : pmS E w 0 (0, 1) (0, 1) (E.S, 1) 1 2 with
  | none => rw [hx] at h; cases h
  | some x =>
    obtain ⟨m, w1⟩ := x
    rw [hx] at h
    obtain ⟨b1, b2, b3, b4, b5⟩ := wayC_mark hE hw hx
    have h : some (if wvN (E.T (ag E 1)) E.S (0, 1) m * wvD m ((E.S : Int), 1) < wvN (E.T (ag E 1)) E.S m ((E.S : Int), 1) * wvD (0, 1) m then takeS (takeS (noteS w1 0 (ag E 0) m (0, 1)) (ag E 1) m ((E.S : Int), 1)) (ag E 0) (0, 1) m else takeS (takeS (noteS w1 0 (ag E 0) m (0, 1)) (ag E 1) (0, 1) m) (ag E 0) m ((E.S : Int), 1)) = some w' := h
    have h := Option.some.inj h
    have e14 : w1 4 = 0 := by rw [b5, setU_ne (by decide), h4]
    obtain ⟨n1, n2⟩ := note_lo (w := w1) (kind := 0) (a := ag E 0) (p := m) (q := (0, 1)) (by omega)
    have wn : WF E.S (noteS w1 0 (ag E 0) m (0, 1)) := note_WF b3 ⟨by decide, by decide⟩ ⟨g0.1, g0.2.2⟩ b2 (ptW_Zu (by omega)) (fun q => absurd q (by decide)) (by omega)
    generalize noteS w1 0 (ag E 0) m (0, 1) = w2 at *
    have e3 : w2 3 = w1 3 := n2 3 (by decide) (by decide)
    have em : ∀ a : Int, 0 ≤ a → a < 5 → w2 (165 + a) = 0 := fun a a0 a1 => by rw [n2 _ (by omega) (by omega), b5, setU_ne (by omega), hm a a0 a1]
    have el : ∀ i : Int, i < 165 → i ≠ 3 → i ≠ 4 → w2 i = w i := fun i i1 i2 i3 => by rw [n2 i i3 (by omega), b5, setU_ne i2]
    have ws : ptW E.S (w2 3) m.1 m.2 := by rw [e3]; exact b2
    have wz : ptW E.S (w2 3) ((0, 1) : Pt).1 ((0, 1) : Pt).2 := ptW_Zu (by omega)
    have we : ptW E.S (w2 3) (((E.S : Int), 1) : Pt).1 (((E.S : Int), 1) : Pt).2 := ptW_S (by omega)
    have oL : ((0, 1) : Pt).1 * m.2 ≤ m.1 * ((0, 1) : Pt).2 := by show (0 : Int) * m.2 ≤ m.1 * 1; have := b2.1; omega
    have oR : m.1 * (((E.S : Int), 1) : Pt).2 ≤ (((E.S : Int), 1) : Pt).1 * m.2 := by show m.1 * 1 ≤ (E.S : Int) * m.2; have := b2.2.2.1; omega
    rw [← h]
    split
    · exact two_GK hE wn (by omega) em el ws we oR wz ws oL (fun row => by rw [Int.add_comm]; exact spn_two)
    · exact two_GK hE wn (by omega) em el wz ws oL ws we oR (fun row => spn_two)
theorem last_GK {E : WEnv} {w0 : Dv} {j : Nat} {x : KSt} (hE : EnvOK E) (hj : (j : Int) + 1 = E.N) (h : KI E j x) (hg : GJ E w0 x.2.2 x.2.1) : GK E w0 (lastTake E x) := by
  have hN := hE.2.1
  obtain ⟨⟨k11, k12⟩, k2, k3, k4, k5, k6, k7⟩ := h
  have eb := (ev_b hN j (by omega)).2.1 (by omega)
  obtain ⟨f1, f2, f3⟩ := fsO_ok (g := x.1) ⟨k11, k12⟩
  have fN : fsO x.1 < E.N := k2 _ f1.1 f1.2 f2
  have hag := ag_b hE ⟨f1.1, fN⟩
  have z : x.2.2 (165 + ag E (fsO x.1)) = 0 := k7 _ f1.1 fN f2
  unfold lastTake
  refine GK_of hE (take_WF k5 ⟨hag.1, hag.2.2⟩ k4 (ptW_S (by omega)) (by show x.2.1.1 * 1 ≤ (E.S : Int) * x.2.1.2; have := k4.2.2.1; omega) (by omega) (by omega)) (GJ_take hg k5 ⟨hag.1, hag.2.1⟩ hN.2 (by omega))
theorem knS_GJ {E : WEnv} {w : Dv} (hE : EnvOK E) (hw : WF E.S w) (h4 : w 4 = 0) (hm : ∀ a : Int, 0 ≤ a → a < 5 → w (165 + a) = 0) : ∀ (j : Nat) (x : KSt), (j : Int) + 1 ≤ E.N → knS E w j = some x → GJ E w x.2.2 x.2.1
  | 0, x, _, h => by
    cases h
    exact GJ_0 hE hw.1.1 hm
  | j + 1, x, hj, h => by
    have hN := hE.2.1
    unfold knS at h
    cases hx : knS E w j with
    | none => rw [hx] at h; cases h
    | some x0 =>
      obtain ⟨g, rest, w0⟩ := x0
      rw [hx] at h
      obtain ⟨i1, i2⟩ := knS_ok hE hw h4 hm j (g, rest, w0) (by omega) hx
      have ig : GJ E w w0 rest := knS_GJ hE hw h4 hm j (g, rest, w0) (by omega) hx
      have h : ((mkA E g rest (0, 1) (E.S, 1) 1 E.N mk0 w0 E.N.toNat).map fun y => (off1 g (lst y.1 g E.N.toNat), y.1 (lst y.1 g E.N.toNat), takeS y.2 (ag E (lst y.1 g E.N.toNat)) rest (y.1 (lst y.1 g E.N.toNat)))) = some x := h
      cases hy : mkA E g rest (0, 1) (E.S, 1) 1 E.N mk0 w0 E.N.toNat with
      | none => rw [hy] at h; cases h
      | some y =>
        obtain ⟨mk, w1⟩ := y
        rw [hy] at h
        have h : (off1 g (lst mk g E.N.toNat), mk (lst mk g E.N.toNat), takeS w1 (ag E (lst mk g E.N.toNat)) rest (mk (lst mk g E.N.toNat))) = x := Option.some.inj h
        rw [← h]
        clear h
        obtain ⟨k1, k2, k3, k4, k5, k6, k7⟩ := i1
        have k11 : 0 < g := k1.1
        have k12 : g < 32 := k1.2
        have k2 : ∀ p : Int, 0 ≤ p → p < 5 → bt g p → p < E.N := k2
        have k3 : cnt g = E.N - j := k3
        have k4 : ptW E.S (w0 3) rest.1 rest.2 := k4
        have k5 : WF E.S w0 := k5
        have k7 : ∀ p : Int, 0 ≤ p → p < E.N → bt g p → w0 (165 + ag E p) = 0 := k7
        have hdue := KX_due (g := g) (rest := rest) (w := w0) hE (by omega) k4.2.1 i2
        have k6 : w0 4 ≤ ev E.N j := k6
        have eb := (ev_b hN j (by omega)).2.2 (by omega)
        have c5 : cntN g E.N.toNat ≤ cnt g := cntN_le (by omega)
        obtain ⟨a1, a2, a3, a4, a5⟩ := mkA_ok hE k5 k4 (show 0 < ((0, 1) : Pt).2 by decide) (show 0 < (((E.S : Int), 1) : Pt).2 by show (0 : Int) < 1; omega) (show (0 : Int) * 1 ≤ E.S * 1 by omega) (by decide) (show 0 < E.N by omega) hdue E.N.toNat mk w1 (by omega) (by omega) hy
        have eN : ((E.N.toNat : Nat) : Int) = E.N := by omega
        rw [eN] at a5
        obtain ⟨f1, f2, f3⟩ := fsO_ok (g := g) ⟨k11, k12⟩
        have lo := lst_ok (mk := mk) (g := g) E.N.toNat (by omega) (fun p p0 p1 pb => by have := (a5 p p0 (by omega) pb).2.2.1; omega)
        rw [eN] at lo
        have lo := lo.resolve_left (fun z => z.1 _ f1.1 (k2 _ f1.1 f1.2 f2) f2)
        obtain ⟨l1, l2, l3, l4⟩ := lo
        generalize lst mk g E.N.toNat = l at *
        have hag := ag_b hE (p := l) ⟨l1, l2⟩
        have z : w1 (165 + ag E l) = 0 := by rw [a4 _ (by omega) (by omega) (by omega)]; exact k7 l l1 l2 l3
        exact GJ_take (GJ_up ig k5 a1 k4 a4 a2 (by omega)) a1 ⟨hag.1, hag.2.1⟩ hN.2 (by omega)
theorem wayK_GK {E : WEnv} {w w' : Dv} (hE : EnvOK E) (hw : WF E.S w) (h4 : w 4 = 0) (hm : ∀ a : Int, 0 ≤ a → a < 5 → w (165 + a) = 0) (h : wayK E w = some w') : GK E w w' := by
  have hN := hE.2.1
  unfold wayK at h
  cases hx : knS E w (E.N.toNat - 1) with
  | none => rw [hx] at h; cases h
  | some x =>
    rw [hx] at h
    cases h
    exact last_GK hE (j := E.N.toNat - 1) (by omega) (knS_ok hE hw h4 hm _ _ (by omega) hx).1 (knS_GJ hE hw h4 hm _ _ (by omega) hx)
theorem dmS_GJ {E : WEnv} {w : Dv} (hE : EnvOK E) (hw : WF E.S w) (h4 : w 4 = 0) (hm : ∀ a : Int, 0 ≤ a → a < 5 → w (165 + a) = 0) : ∀ (j : Nat) (x : KSt), (j : Int) + 1 ≤ E.N → dmS E w j = some x → GJ E w x.2.2 x.2.1
  | 0, x, _, h => by
    cases h
    exact GJ_0 hE hw.1.1 hm
  | j + 1, x, hj, h => by
    have hN := hE.2.1
    unfold dmS at h
    cases hx : dmS E w j with
    | none => rw [hx] at h; cases h
    | some x0 =>
      obtain ⟨g, rest, w0⟩ := x0
      rw [hx] at h
      have i1 := dmS_ok hE hw h4 hm j (g, rest, w0) (by omega) hx
      have ig : GJ E w w0 rest := dmS_GJ hE hw h4 hm j (g, rest, w0) (by omega) hx
      obtain ⟨k1, k2, k3, k4, k5, k6, k7⟩ := i1
      have k11 : 0 < g := k1.1
      have k12 : g < 32 := k1.2
      have k2 : ∀ p : Int, 0 ≤ p → p < 5 → bt g p → p < E.N := k2
      have k3 : cnt g = E.N - j := k3
      have k6 : w0 4 ≤ ev E.N j := k6
      have k7 : ∀ p : Int, 0 ≤ p → p < E.N → bt g p → w0 (165 + ag E p) = 0 := k7
      have eb := (ev_b hN j (by omega)).2.2 (by omega)
      have c5 : cntN g E.N.toNat ≤ cnt g := cntN_le (by omega)
      have h : ((dmI E g rest (E.N - j) w0 E.N.toNat).map fun y => (off1 g y.1, y.2.1, takeS y.2.2 (ag E y.1) rest y.2.1)) = some x := h
      cases hy : dmI E g rest (E.N - j) w0 E.N.toNat with
      | none => rw [hy] at h; cases h
      | some y =>
        obtain ⟨l, m, w1⟩ := y
        rw [hy] at h
        cases h
        obtain ⟨d1, d2, d3, d4, d5⟩ := dmI_ok hE (by omega) k5 k4 E.N.toNat _ (by omega) (by omega) hy
        obtain ⟨f1, f2, f3⟩ := fsO_ok (g := g) ⟨k11, k12⟩
        have eN : ((E.N.toNat : Nat) : Int) = E.N := by omega
        rw [eN] at d5
        obtain ⟨z1, z2, z3, z4, z5⟩ := d5.resolve_left (fun z => z.2 _ f1.1 (k2 _ f1.1 f1.2 f2) f2)
        have z1 : 0 ≤ l := z1
        have z2 : l < E.N := z2
        have hag := ag_b hE (p := l) ⟨z1, z2⟩
        have d4 : sameB w0 w1 := d4
        have z : w1 (165 + ag E l) = 0 := by rw [d4 _ (by omega) (by omega) (by omega)]; exact k7 l z1 z2 z3
        have d1 : WF E.S w1 := d1
        show GJ E w (takeS w1 (ag E l) rest m) m
        exact GJ_take (GJ_up ig k5 d1 k4 d4 d2 (by omega)) d1 ⟨hag.1, hag.2.1⟩ hN.2 (by omega)
theorem wayD_GK {E : WEnv} {w w' : Dv} (hE : EnvOK E) (hw : WF E.S w) (h4 : w 4 = 0) (hm : ∀ a : Int, 0 ≤ a → a < 5 → w (165 + a) = 0) (h : wayD E w = some w') : GK E w w' := by
  have hN := hE.2.1
  unfold wayD at h
  cases hx : dmS E w (E.N.toNat - 1) with
  | none => rw [hx] at h; cases h
  | some x =>
    rw [hx] at h
    cases h
    exact last_GK hE (j := E.N.toNat - 1) (by omega) (dmS_ok hE hw h4 hm _ _ (by omega) hx) (dmS_GJ hE hw h4 hm _ _ (by omega) hx)
/-- where a pile ends -/
def pend : Pt → Pile → Pt
  | r, [] => r
  | _, y :: t => pend y.2 t
theorem hvS_GJ {E : WEnv} {w : Dv} (hE : EnvOK E) (hw : WF E.S w) (h4 : w 4 = 0) (hm : ∀ a : Int, 0 ≤ a → a < 5 → w (165 + a) = 0) : ∀ (t : Nat) (x : HSt), hvS E w t = some x → GJ E w x.2.2 x.2.1 ∧ pend x.2.1 x.1 = ((E.S : Int), 1)
  | 0, x, h => by
    cases h
    exact ⟨GJ_0 hE hw.1.1 hm, rfl⟩
  | t + 1, x, h => by
    have hN := hE.2.1
    unfold hvS at h
    cases hx : hvS E w t with
    | none => rw [hx] at h; cases h
    | some x0 =>
      obtain ⟨pl, r, w0⟩ := x0
      have i := hvS_ok hE hw h4 hm t _ hx
      obtain ⟨ig, ip⟩ := hvS_GJ hE hw h4 hm t _ hx
      rw [hx] at h
      have h : hvT E (pl, r, w0) = some x := h
      cases pl with
      | nil =>
        cases h
        exact ⟨ig, ip⟩
      | cons y tl =>
        obtain ⟨g, e⟩ := y
        have ip : pend e tl = ((E.S : Int), 1) := ip
        have ig : GJ E w w0 r := ig
        have h : (if cnt g < 2 then some (tl, e, takeS w0 (ag E (fsO g)) r e) else (mkA E g r r e (cnt g / 2) (cnt g) mk0 w0 E.N.toNat).map fun y => ((dif g (othS y.1 E.N.toNat g (cnt g / 2).toNat).1, y.1 (othS y.1 E.N.toNat g (cnt g / 2).toNat).2) :: ((othS y.1 E.N.toNat g (cnt g / 2).toNat).1, e) :: tl, r, y.2)) = some x := h
        by_cases hc : cnt g < 2
        · rw [if_pos hc] at h
          cases h
          obtain ⟨f1, f2, f3, f4, f5, f6⟩ := hv_take hE i hc
          have hag := ag_b hE (p := fsO g) f1
          exact ⟨GJ_take ig i.2.2.1 ⟨hag.1, hag.2.1⟩ hN.2 (by omega), ip⟩
        · rw [if_neg hc] at h
          cases hy : mkA E g r r e (cnt g / 2) (cnt g) mk0 w0 E.N.toNat with
          | none => rw [hy] at h; cases h
          | some y =>
            obtain ⟨mk, w1⟩ := y
            rw [hy] at h
            have h := Option.some.inj h
            rw [← h]
            obtain ⟨f1, f2, f3, -, -⟩ := (hv_part hE i hc).2.2 hy
            exact ⟨GJ_up ig i.2.2.1 f1 i.2.1 f3 f2 (by omega), ip⟩
theorem wayH_GK {E : WEnv} {w w' : Dv} (hE : EnvOK E) (hw : WF E.S w) (h4 : w 4 = 0) (hm : ∀ a : Int, 0 ≤ a → a < 5 → w (165 + a) = 0) (h : wayH E w = some w') : GK E w w' := by
  have hN := hE.2.1
  unfold wayH at h
  cases hx : hvS E w 10 with
  | none => rw [hx] at h; cases h
  | some x =>
    obtain ⟨pl, r, w1⟩ := x
    rw [hx] at h
    cases h
    obtain ⟨i1, i2, i3, i4, i5, i6, i7⟩ := hvS_ok hE hw h4 hm 10 _ hx
    obtain ⟨ig, ip⟩ := hvS_GJ hE hw h4 hm 10 _ hx
    have i1 : pOK E (w1 3) r pl := i1
    have len := pC_len pl r i1
    have i7 : pl = [] ∨ 2 * pC pl - pl.length + ((10 : Nat) : Int) = 2 * E.N - 1 := i7
    have e : pl = [] := i7.resolve_right (fun z => by omega)
    rw [e] at ip
    have ip : r = ((E.S : Int), 1) := ip
    have ig : GJ E w w1 r := ig
    rw [ip] at ig
    exact GK_of hE i3 ig
