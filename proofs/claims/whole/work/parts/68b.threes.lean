/-! how often something is taken: events of kind 3 -/
def cnt3 (w : Dv) : Nat → Int
  | 0 => 0
  | k + 1 => cnt3 w k + if w (210 + 6 * (k : Int)) = 3 then 1 else 0
def C3 (w : Dv) (m : Int) : Prop := 0 ≤ w 4 ∧ cnt3 w (w 4).toNat ≤ m
theorem cnt3_congr {w w' : Dv} : ∀ k : Nat, (∀ i : Int, 210 ≤ i → i < 210 + 6 * k → w' i = w i) → cnt3 w' k = cnt3 w k
  | 0, _ => rfl
  | k + 1, h => by
    show cnt3 w' k + _ = cnt3 w k + _
    rw [cnt3_congr k (fun i i0 i1 => h i i0 (by omega)), h (210 + 6 * (k : Int)) (by omega) (by omega)]
theorem C3_of {w w' : Dv} {m : Int} (h : C3 w m) (h4 : w' 4 = w 4) (he : ∀ i : Int, 210 ≤ i → w' i = w i) : C3 w' m := by
  refine ⟨by rw [h4]; exact h.1, ?_⟩
  rw [h4, cnt3_congr _ (fun i i0 _ => he i i0)]
  exact h.2
theorem C3_setU {w : Dv} {u m : Int} (h : C3 w m) : C3 (setU w u) m := C3_of h (setU_ne (by decide)) (fun i i0 => setU_ne (by omega))
theorem C3_happ {w : Dv} {m e0 e1 e2 e3 e4 e5 v : Int} (h : C3 w m) (hv : (if e0 = 3 then 1 else 0) ≤ v) : C3 (happ w e0 e1 e2 e3 e4 e5) (m + v) := by
  have e := happ_4 (w := w) (e0 := e0) (e1 := e1) (e2 := e2) (e3 := e3) (e4 := e4) (e5 := e5) h.1
  have h1 := h.1
  have h2 := h.2
  refine ⟨by omega, ?_⟩
  rw [e, show (w 4 + 1).toNat = (w 4).toNat + 1 by omega]
  show cnt3 _ (w 4).toNat + _ ≤ _
  rw [cnt3_congr (w := w) _ (fun i i0 i1 => happ_ne (by omega) (Or.inl (by omega))), show (((w 4).toNat : Nat) : Int) = w 4 by omega, happ_at.1]
  omega
theorem C3_note {w : Dv} {m kind a : Int} {p q : Pt} (h : C3 w m) (hk : kind ≠ 3) : C3 (noteS w kind a p q) m := by
  have := C3_happ (e0 := kind) (e1 := a) (e2 := p.1) (e3 := p.2) (e4 := q.1) (e5 := q.2) (v := 0) h (by rw [if_neg hk]; exact Int.le_refl _)
  rw [Int.add_zero] at this
  exact this
theorem C3_take {w : Dv} {m a : Int} {p q : Pt} (h : C3 w m) (ha : 0 ≤ a ∧ a < 5) (hm : 0 ≤ w (165 + a) ∧ w (165 + a) < 2) : C3 (takeS w a p q) (m + 1) := by
  have h1 := C3_happ (e0 := 3) (e1 := a) (e2 := p.1) (e3 := p.2) (e4 := q.1) (e5 := q.2) (v := 1) h (by rw [if_pos rfl]; exact Int.le_refl _)
  have e : noteS w 3 a p q (165 + a) = w (165 + a) := (note_lo h.1).2 _ (by omega) (by omega)
  refine C3_of (w := noteS w 3 a p q) h1 ?_ (fun i i0 => ?_)
  · show addS _ _ _ _ _ _ 4 = _
    unfold addS
    rw [e, if_neg (by omega), if_neg (by omega), if_neg (by omega), if_neg (by omega), if_neg (by omega)]
  · show addS _ _ _ _ _ _ i = _
    unfold addS
    rw [e, if_neg (by omega), if_neg (by omega), if_neg (by omega), if_neg (by omega), if_neg (by omega)]
theorem C3_un {w w' : Dv} {y m : Int} (h : C3 w m) (e : unS w y = some w') : C3 w' m := by
  unfold unS at e
  split at e
  · cases e
  · cases e
    exact C3_setU h
theorem C3_pm {E : WEnv} {w : Dv} {p over under m : Int} {st a b : Pt} {y : Pt × Dv} (h : C3 w m) (e : pmS E w p st a b over under = some y) : C3 y.2 m := by
  unfold pmS at e
  cases hm : markR (E.T (ag E p)) E.S st.1 st.2 (wvN (E.T (ag E p)) E.S a b * over) (wvD a b * under) with
  | none => rw [hm] at e; cases e
  | some z =>
    rw [hm] at e
    have e : (unS w z.2).map (fun w' => (z, w')) = some y := e
    cases hu : unS w z.2 with
    | none => rw [hu] at e; cases e
    | some w1 =>
      rw [hu] at e
      cases e
      exact C3_un h hu
theorem C3_mkA {E : WEnv} {g over under m : Int} {st a b : Pt} {mk : Int → Pt} {w : Dv} (h : C3 w m) : ∀ (k : Nat) (y : (Int → Pt) × Dv), mkA E g st a b over under mk w k = some y → C3 y.2 m
  | 0, y, e => by
    cases e
    exact h
  | k + 1, y, e => by
    unfold mkA at e
    cases hx : mkA E g st a b over under mk w k with
    | none => rw [hx] at e; cases e
    | some x =>
      have ih := C3_mkA h k x hx
      rw [hx] at e
      have e : (if bt g k then (pmS E x.2 k st a b over under).map fun y => (updM x.1 k y.1, noteS y.2 0 (ag E k) y.1 (0, 1)) else some x) = some y := e
      split at e
      · cases hp : pmS E x.2 k st a b over under with
        | none => rw [hp] at e; cases e
        | some z =>
          rw [hp] at e
          cases e
          exact C3_note (C3_pm ih hp) (by decide)
      · cases e
        exact ih
theorem C3_look {E : WEnv} {rest mp : Pt} {k q last m : Int} {w : Dv} {y : Int × Pt × Dv} (h : C3 w m) (e : lookS E rest k q last mp w = some y) : C3 y.2.2 m := by
  unfold lookS at e
  dsimp only at e
  split at e
  · cases e
    exact C3_note h (by decide)
  · cases hp : pmS E w q rest rest ((E.S : Int), 1) 1 k with
    | none => rw [hp] at e; cases e
    | some z =>
      rw [hp] at e
      cases e
      exact C3_note (C3_pm h hp) (by decide)
theorem C3_dmI {E : WEnv} {g k m : Int} {rest : Pt} {w : Dv} (h : C3 w m) : ∀ (q : Nat) (y : Int × Pt × Dv), dmI E g rest k w q = some y → C3 y.2.2 m
  | 0, y, e => by
    cases e
    exact h
  | q + 1, y, e => by
    unfold dmI at e
    cases hx : dmI E g rest k w q with
    | none => rw [hx] at e; cases e
    | some x =>
      have ih := C3_dmI h q x hx
      rw [hx] at e
      have e : (if bt g q then (if x.1 < 0 then (pmS E x.2.2 q rest rest (E.S, 1) 1 k).map fun y => ((q : Int), y.1, noteS y.2 0 (ag E q) y.1 (0, 1)) else lookS E rest k q x.1 x.2.1 x.2.2) else some x) = some y := e
      split at e
      · split at e
        · cases hp : pmS E x.2.2 q rest rest ((E.S : Int), 1) 1 k with
          | none => rw [hp] at e; cases e
          | some z =>
            rw [hp] at e
            cases e
            exact C3_note (C3_pm ih hp) (by decide)
        · exact C3_look ih e
      · cases e
        exact ih
theorem C3_thr {E : WEnv} {w : Dv} {p m : Int} {s : Pt × Pt} {y : Pcs × Dv} (h : C3 w m) (e : thrS E w p s = some y) : C3 y.2 m := by
  unfold thrS at e
  cases hx : pmS E w p s.1 s.1 s.2 1 3 with
  | none => rw [hx] at e; cases e
  | some x =>
    rw [hx] at e
    have e : ((pmS E x.2 p s.1 s.1 s.2 2 3).map fun y => ((fun i => if i = 0 then (s.1, x.1) else if i = 1 then (x.1, y.1) else (y.1, s.2) : Pcs), noteS (noteS y.2 0 (ag E p) x.1 (0, 1)) 0 (ag E p) y.1 (0, 1))) = some y := e
    cases hz : pmS E x.2 p s.1 s.1 s.2 2 3 with
    | none => rw [hz] at e; cases e
    | some z =>
      rw [hz] at e
      cases e
      exact C3_note (C3_note (C3_pm (C3_pm h hx) hz) (by decide)) (by decide)
theorem C3_le {w : Dv} {m m' : Int} (h : C3 w m) (hm : m ≤ m') : C3 w m' := ⟨h.1, by have := h.2; omega⟩
theorem C3_0 {w : Dv} (h : w 4 = 0) : C3 w 0 := by
  refine ⟨by omega, ?_⟩
  rw [h]
  exact Int.le_refl _
theorem wayC_C3 {E : WEnv} {w w' : Dv} (hE : EnvOK E) (hw : WF E.S w) (h4 : w 4 = 0) (hm : ∀ a : Int, 0 ≤ a → a < 5 → w (165 + a) = 0) (h : wayC E w = some w') : C3 w' 6 := by
  have hN := hE.2.1
  have g0 := ag_b hE (p := 0) ⟨by decide, by omega⟩
  have g1 := ag_b hE (p := 1) ⟨by decide, by omega⟩
  have gne : ag E 0 ≠ ag E 1 := fun e => absurd (ag_inj hE ⟨by decide, by omega⟩ ⟨by decide, by omega⟩ e) (by decide)
  unfold wayC at h
  cases hx : pmS E w 0 (0, 1) (0, 1) (E.S, 1) 1 2 with
  | none => rw [hx] at h; cases h
  | some x =>
    obtain ⟨m, w1⟩ := x
    rw [hx] at h
    have c1 : C3 w1 0 := C3_pm (C3_0 h4) hx
    obtain ⟨b1, b2, b3, b4, b5⟩ := wayC_mark hE hw hx
    have h : some (if wvN (E.T (ag E 1)) E.S (0, 1) m * wvD m ((E.S : Int), 1) < wvN (E.T (ag E 1)) E.S m ((E.S : Int), 1) * wvD (0, 1) m then takeS (takeS (noteS w1 0 (ag E 0) m (0, 1)) (ag E 1) m ((E.S : Int), 1)) (ag E 0) (0, 1) m else takeS (takeS (noteS w1 0 (ag E 0) m (0, 1)) (ag E 1) (0, 1) m) (ag E 0) m ((E.S : Int), 1)) = some w' := h
    have h := Option.some.inj h
    have e14 : w1 4 = 0 := by rw [b5, setU_ne (by decide), h4]
    obtain ⟨n1, n2⟩ := note_lo (w := w1) (kind := 0) (a := ag E 0) (p := m) (q := (0, 1)) (by omega)
    have c2 : C3 (noteS w1 0 (ag E 0) m (0, 1)) 0 := C3_note c1 (by decide)
    generalize noteS w1 0 (ag E 0) m (0, 1) = w2 at *
    have em : ∀ a : Int, 0 ≤ a → a < 5 → w2 (165 + a) = 0 := fun a a0 a1 => by rw [n2 _ (by omega) (by omega), b5, setU_ne (by omega), hm a a0 a1]
    have two : ∀ s1 e1 s0 e0 : Pt, C3 (takeS (takeS w2 (ag E 1) s1 e1) (ag E 0) s0 e0) 6 := fun s1 e1 s0 e0 => by
      have m1 := em _ g1.1 g1.2.2
      have m0 := em _ g0.1 g0.2.2
      obtain ⟨l1, l2, l3⟩ := take_lo (w := w2) (a := ag E 1) (p := s1) (q := e1) c2.1 ⟨g1.1, g1.2.2⟩ (by omega)
      have d1 := C3_take (p := s1) (q := e1) c2 ⟨g1.1, g1.2.2⟩ (by omega)
      have m2 : takeS w2 (ag E 1) s1 e1 (165 + ag E 0) = 0 := by rw [l3 _ (by omega) (by omega) (by omega), m0]
      exact C3_le (C3_take (p := s0) (q := e0) d1 ⟨g0.1, g0.2.2⟩ (by omega)) (by omega)
    rw [← h]
    split
    · exact two _ _ _ _
    · exact two _ _ _ _
theorem last_C3 {E : WEnv} {j : Nat} {x : KSt} {m : Int} (hE : EnvOK E) (hj : (j : Int) + 1 = E.N) (h : KI E j x) (hc : C3 x.2.2 m) : C3 (lastTake E x) (m + 1) := by
  have hN := hE.2.1
  obtain ⟨⟨k11, k12⟩, k2, k3, k4, k5, k6, k7⟩ := h
  obtain ⟨f1, f2, f3⟩ := fsO_ok (g := x.1) ⟨k11, k12⟩
  have fN : fsO x.1 < E.N := k2 _ f1.1 f1.2 f2
  have hag := ag_b hE ⟨f1.1, fN⟩
  have z : x.2.2 (165 + ag E (fsO x.1)) = 0 := k7 _ f1.1 fN f2
  exact C3_take hc ⟨hag.1, hag.2.2⟩ (by omega)
theorem knS_C3 {E : WEnv} {w : Dv} (hE : EnvOK E) (hw : WF E.S w) (h4 : w 4 = 0) (hm : ∀ a : Int, 0 ≤ a → a < 5 → w (165 + a) = 0) : ∀ (j : Nat) (x : KSt), (j : Int) + 1 ≤ E.N → knS E w j = some x → C3 x.2.2 j
  | 0, x, _, h => by
    cases h
    exact C3_0 h4
  | j + 1, x, hj, h => by
    have hN := hE.2.1
    unfold knS at h
    cases hx : knS E w j with
    | none => rw [hx] at h; cases h
    | some x0 =>
      obtain ⟨g, rest, w0⟩ := x0
      rw [hx] at h
      obtain ⟨i1, i2⟩ := knS_ok hE hw h4 hm j (g, rest, w0) (by omega) hx
      have ic : C3 w0 j := knS_C3 hE hw h4 hm j (g, rest, w0) (by omega) hx
      have h : ((mkA E g rest (0, 1) (E.S, 1) 1 E.N mk0 w0 E.N.toNat).map fun y => (off1 g (lst y.1 g E.N.toNat), y.1 (lst y.1 g E.N.toNat), takeS y.2 (ag E (lst y.1 g E.N.toNat)) rest (y.1 (lst y.1 g E.N.toNat)))) = some x := h
      cases hy : mkA E g rest (0, 1) (E.S, 1) 1 E.N mk0 w0 E.N.toNat with
      | none => rw [hy] at h; cases h
      | some y =>
        obtain ⟨mk, w1⟩ := y
        have c1 : C3 w1 j := C3_mkA ic _ _ hy
        rw [hy] at h
        have h : (off1 g (lst mk g E.N.toNat), mk (lst mk g E.N.toNat), takeS w1 (ag E (lst mk g E.N.toNat)) rest (mk (lst mk g E.N.toNat))) = x := Option.some.inj h
        rw [← h]
        clear h
        obtain ⟨k1, k2, k3, k4, k5, k6, k7⟩ := i1
        have k11 : 0 < g := k1.1
        have k12 : g < 32 := k1.2
        have k2 : ∀ p : Int, 0 ≤ p → p < 5 → bt g p → p < E.N := k2
        have k3 : cnt g = E.N - j := k3
        have k4 : ptW E.S (w0 3) rest.1 rest.2 := k4
        have k5 : WF E.S w0 := k5
        have k7 : ∀ p : Int, 0 ≤ p → p < E.N → bt g p → w0 (165 + ag E p) = 0 := k7
        have hdue := KX_due (g := g) (rest := rest) (w := w0) hE (by omega) k4.2.1 i2
        have k6 : w0 4 ≤ ev E.N j := k6
        have eb := (ev_b hN j (by omega)).2.2 (by omega)
        have c5 : cntN g E.N.toNat ≤ cnt g := cntN_le (by omega)
        obtain ⟨a1, a2, a3, a4, a5⟩ := mkA_ok hE k5 k4 (show 0 < ((0, 1) : Pt).2 by decide) (show 0 < (((E.S : Int), 1) : Pt).2 by show (0 : Int) < 1; omega) (show (0 : Int) * 1 ≤ E.S * 1 by omega) (by decide) (show 0 < E.N by omega) hdue E.N.toNat mk w1 (by omega) (by omega) hy
        have eN : ((E.N.toNat : Nat) : Int) = E.N := by omega
        rw [eN] at a5
        obtain ⟨f1, f2, f3⟩ := fsO_ok (g := g) ⟨k11, k12⟩
        have lo := lst_ok (mk := mk) (g := g) E.N.toNat (by omega) (fun p p0 p1 pb => by have := (a5 p p0 (by omega) pb).2.2.1; omega)
        rw [eN] at lo
        have lo := lo.resolve_left (fun z => z.1 _ f1.1 (k2 _ f1.1 f1.2 f2) f2)
        obtain ⟨l1, l2, l3, l4⟩ := lo
        generalize lst mk g E.N.toNat = l at *
        have hag := ag_b hE (p := l) ⟨l1, l2⟩
        have z : w1 (165 + ag E l) = 0 := by rw [a4 _ (by omega) (by omega) (by omega)]; exact k7 l l1 l2 l3
        exact C3_take c1 ⟨hag.1, hag.2.2⟩ (by omega)
theorem wayK_C3 {E : WEnv} {w w' : Dv} (hE : EnvOK E) (hw : WF E.S w) (h4 : w 4 = 0) (hm : ∀ a : Int, 0 ≤ a → a < 5 → w (165 + a) = 0) (h : wayK E w = some w') : C3 w' 6 := by
  have hN := hE.2.1
  unfold wayK at h
  cases hx : knS E w (E.N.toNat - 1) with
  | none => rw [hx] at h; cases h
  | some x =>
    rw [hx] at h
    cases h
    exact C3_le (last_C3 hE (j := E.N.toNat - 1) (by omega) (knS_ok hE hw h4 hm _ _ (by omega) hx).1 (knS_C3 hE hw h4 hm _ _ (by omega) hx)) (by omega)
theorem dmS_C3 {E : WEnv} {w : Dv} (hE : EnvOK E) (hw : WF E.S w) (h4 : w 4 = 0) (hm : ∀ a : Int, 0 ≤ a → a < 5 → w (165 + a) = 0) : ∀ (j : Nat) (x : KSt), (j : Int) + 1 ≤ E.N → dmS E w j = some x → C3 x.2.2 j
  | 0, x, _, h => by
    cases h
    exact C3_0 h4
  | j + 1, x, hj, h => by
    have hN := hE.2.1
    unfold dmS at h
    cases hx : dmS E w j with
    | none => rw [hx] at h; cases h
    | some x0 =>
      obtain ⟨g, rest, w0⟩ := x0
      rw [hx] at h
      have i1 := dmS_ok hE hw h4 hm j (g, rest, w0) (by omega) hx
      have ic : C3 w0 j := dmS_C3 hE hw h4 hm j (g, rest, w0) (by omega) hx
      obtain ⟨k1, k2, k3, k4, k5, k6, k7⟩ := i1
      have k11 : 0 < g := k1.1
      have k12 : g < 32 := k1.2
      have k2 : ∀ p : Int, 0 ≤ p → p < 5 → bt g p → p < E.N := k2
      have k3 : cnt g = E.N - j := k3
      have k6 : w0 4 ≤ ev E.N j := k6
      have k7 : ∀ p : Int, 0 ≤ p → p < E.N → bt g p → w0 (165 + ag E p) = 0 := k7
      have eb := (ev_b hN j (by omega)).2.2 (by omega)
      have c5 : cntN g E.N.toNat ≤ cnt g := cntN_le (by omega)
      have h : ((dmI E g rest (E.N - j) w0 E.N.toNat).map fun y => (off1 g y.1, y.2.1, takeS y.2.2 (ag E y.1) rest y.2.1)) = some x := h
      cases hy : dmI E g rest (E.N - j) w0 E.N.toNat with
      | none => rw [hy] at h; cases h
      | some y =>
        obtain ⟨l, m, w1⟩ := y
        have c1 : C3 w1 j := C3_dmI ic _ _ hy
        rw [hy] at h
        cases h
        obtain ⟨d1, d2, d3, d4, d5⟩ := dmI_ok hE (by omega) k5 k4 E.N.toNat _ (by omega) (by omega) hy
        obtain ⟨f1, f2, f3⟩ := fsO_ok (g := g) ⟨k11, k12⟩
        have eN : ((E.N.toNat : Nat) : Int) = E.N := by omega
        rw [eN] at d5
        obtain ⟨z1, z2, z3, z4, z5⟩ := d5.resolve_left (fun z => z.2 _ f1.1 (k2 _ f1.1 f1.2 f2) f2)
        have z1 : 0 ≤ l := z1
        have z2 : l < E.N := z2
        have hag := ag_b hE (p := l) ⟨z1, z2⟩
        have d4 : sameB w0 w1 := d4
        have z : w1 (165 + ag E l) = 0 := by rw [d4 _ (by omega) (by omega) (by omega)]; exact k7 l z1 z2 z3
        show C3 (takeS w1 (ag E l) rest m) ((j : Int) + 1)
        exact C3_take c1 ⟨hag.1, hag.2.2⟩ (by omega)
theorem wayD_C3 {E : WEnv} {w w' : Dv} (hE : EnvOK E) (hw : WF E.S w) (h4 : w 4 = 0) (hm : ∀ a : Int, 0 ≤ a → a < 5 → w (165 + a) = 0) (h : wayD E w = some w') : C3 w' 6 := by
  have hN := hE.2.1
  unfold wayD at h
  cases hx : dmS E w (E.N.toNat - 1) with
  | none => rw [hx] at h; cases h
  | some x =>
    rw [hx] at h
    cases h
    exact C3_le (last_C3 hE (j := E.N.toNat - 1) (by omega) (dmS_ok hE hw h4 hm _ _ (by omega) hx) (dmS_C3 hE hw h4 hm _ _ (by omega) hx)) (by omega)
theorem hvS_C3 {E : WEnv} {w : Dv} (hE : EnvOK E) (hw : WF E.S w) (h4 : w 4 = 0) (hm : ∀ a : Int, 0 ≤ a → a < 5 → w (165 + a) = 0) : ∀ (t : Nat) (x : HSt), hvS E w t = some x → C3 x.2.2 (E.N - pC x.1)
  | 0, x, h => by
    cases h
    obtain ⟨f1, f2, f3, f4⟩ := full_b hE.2.1
    exact C3_le (C3_0 h4) (by show 0 ≤ E.N - (cnt (full E.N) + 0); omega)
  | t + 1, x, h => by
    have hN := hE.2.1
    unfold hvS at h
    cases hx : hvS E w t with
    | none => rw [hx] at h; cases h
    | some x0 =>
      obtain ⟨pl, r, w0⟩ := x0
      have i := hvS_ok hE hw h4 hm t _ hx
      have ic := hvS_C3 hE hw h4 hm t _ hx
      rw [hx] at h
      have h : hvT E (pl, r, w0) = some x := h
      cases pl with
      | nil =>
        cases h
        exact ic
      | cons y tl =>
        obtain ⟨g, e⟩ := y
        have ic : C3 w0 (E.N - (cnt g + pC tl)) := ic
        have h : (if cnt g < 2 then some (tl, e, takeS w0 (ag E (fsO g)) r e) else (mkA E g r r e (cnt g / 2) (cnt g) mk0 w0 E.N.toNat).map fun y => ((dif g (othS y.1 E.N.toNat g (cnt g / 2).toNat).1, y.1 (othS y.1 E.N.toNat g (cnt g / 2).toNat).2) :: ((othS y.1 E.N.toNat g (cnt g / 2).toNat).1, e) :: tl, r, y.2)) = some x := h
        by_cases hc : cnt g < 2
        · rw [if_pos hc] at h
          cases h
          have gb : 0 < g ∧ g < 32 := i.1.1.1
          have cb := cnt_b (g := g) ⟨by omega, gb.2⟩
          obtain ⟨f1, f2, f3, f4, f5, f6⟩ := hv_take hE i hc
          have hag := ag_b hE (p := fsO g) f1
          exact C3_le (C3_take ic ⟨hag.1, hag.2.2⟩ (by omega)) (by show _ ≤ E.N - pC tl; have := cb.2.2.1.mp gb.1; omega)
        · rw [if_neg hc] at h
          cases hy : mkA E g r r e (cnt g / 2) (cnt g) mk0 w0 E.N.toNat with
          | none => rw [hy] at h; cases h
          | some y =>
            obtain ⟨mk, w1⟩ := y
            have c1 : C3 w1 _ := C3_mkA ic _ _ hy
            rw [hy] at h
            have h := Option.some.inj h
            rw [← h]
            obtain ⟨-, -, -, -, hi⟩ := (hv_part hE i hc).2.2 hy
            obtain ⟨-, -, -, -, -, -, y7⟩ := hi
            obtain ⟨-, -, -, -, -, -, y8⟩ := i
            have e1 := y7.resolve_left (by simp)
            have e2 := y8.resolve_left (by simp)
            refine C3_le c1 ?_
            simp only [List.length_cons] at e1 e2
            have e2 : 2 * (cnt g + pC tl) - ((tl.length + 1 : Nat) : Int) + (t : Int) = 2 * E.N - 1 := e2
            show _ ≤ E.N - pC ((dif g (othS mk E.N.toNat g (cnt g / 2).toNat).1, mk (othS mk E.N.toNat g (cnt g / 2).toNat).2) :: ((othS mk E.N.toNat g (cnt g / 2).toNat).1, e) :: tl)
            omega
theorem wayH_C3 {E : WEnv} {w w' : Dv} (hE : EnvOK E) (hw : WF E.S w) (h4 : w 4 = 0) (hm : ∀ a : Int, 0 ≤ a → a < 5 → w (165 + a) = 0) (h : wayH E w = some w') : C3 w' 6 := by
  have hN := hE.2.1
  unfold wayH at h
  cases hx : hvS E w 10 with
  | none => rw [hx] at h; cases h
  | some x =>
    obtain ⟨pl, r, w1⟩ := x
    rw [hx] at h
    cases h
    obtain ⟨i1, i2, i3, i4, i5, i6, i7⟩ := hvS_ok hE hw h4 hm 10 _ hx
    have i1 : pOK E (w1 3) r pl := i1
    have len := pC_len pl r i1
    have i7 : pl = [] ∨ 2 * pC pl - pl.length + ((10 : Nat) : Int) = 2 * E.N - 1 := i7
    have e : pl = [] := i7.resolve_right (fun z => by omega)
    have c := hvS_C3 hE hw h4 hm 10 _ hx
    rw [e] at c
    have c : C3 w1 (E.N - 0) := c
    exact C3_le c (by omega)
theorem take3_C3 {E : WEnv} {w : Dv} {ps : Pcs} {p q r i j k m : Int} (hE : EnvOK E) (hN : E.N = 3) (hp : 0 ≤ p ∧ p < 3) (hq : 0 ≤ q ∧ q < 3) (hr : 0 ≤ r ∧ r < 3) (npq : p ≠ q) (npr : p ≠ r) (nqr : q ≠ r) (hw : WF E.S w) (h4 : w 4 ≤ 16) (hm : ∀ a : Int, 0 ≤ a → a < 3 → w (165 + ag E a) ≤ 1) (hP : PW E (w 3) ps) (hi : 0 ≤ i ∧ i < 3) (hj : 0 ≤ j ∧ j < 3) (hk : 0 ≤ k ∧ k < 3) (hc : C3 w m) :
    C3 (takeP E (takeP E (takeP E w p (ps i)) q (ps j)) r (ps k)) (m + 3) := by
  have gp := ag_b hE (p := p) ⟨hp.1, by omega⟩
  have gq := ag_b hE (p := q) ⟨hq.1, by omega⟩
  have gr := ag_b hE (p := r) ⟨hr.1, by omega⟩
  have mp := hm p hp.1 hp.2
  have mp0 := (hw.2.2 _ gp.1 gp.2.2).1.1
  obtain ⟨⟨a1, a2, a3, a4, a5⟩, ⟨d1, d2, d3, d4⟩, -⟩ := take3_ok (ps := ps) hE hN hp hq hr npq npr nqr hw h4 hm hP hi hj hk
  have c1 : C3 (takeP E w p (ps i)) (m + 1) := C3_take hc ⟨gp.1, gp.2.2⟩ ⟨mp0, by omega⟩
  have mq0 := (a1.2.2 _ gq.1 gq.2.2).1.1
  have c2 : C3 (takeP E (takeP E w p (ps i)) q (ps j)) (m + 1 + 1) := C3_take c1 ⟨gq.1, gq.2.2⟩ ⟨mq0, a4⟩
  have mr0 := (d1.2.2 _ gr.1 gr.2.2).1.1
  exact C3_le (C3_take c2 ⟨gr.1, gr.2.2⟩ ⟨mr0, d4⟩) (by omega)
theorem trmS_C3 {E : WEnv} {w : Dv} {x : TSt} {m : Int} (hc : C3 w m) (h : trmS E w = some x) : C3 x.w m := by
  unfold trmS at h
  cases hx : thrS E w 0 ((0, 1), (E.S, 1)) with
  | none => rw [hx] at h; cases h
  | some y =>
    have c1 := C3_thr hc hx
    rw [hx] at h
    have h : (if hasP E 1 (y.1 (mostS E 1 (bShl 1 (mostS E 1 0 y.1)) y.1)) * denP (y.1 (mostS E 1 0 y.1)) < hasP E 1 (y.1 (mostS E 1 0 y.1)) * denP (y.1 (mostS E 1 (bShl 1 (mostS E 1 0 y.1)) y.1)) then
      (pmS E y.2 1 (y.1 (mostS E 1 0 y.1)).1 (y.1 (mostS E 1 (bShl 1 (mostS E 1 0 y.1)) y.1)).1 (y.1 (mostS E 1 (bShl 1 (mostS E 1 0 y.1)) y.1)).2 1 1).map fun z =>
        ((updP y.1 (mostS E 1 0 y.1) ((y.1 (mostS E 1 0 y.1)).1, z.1), noteS z.2 1 (ag E 1) z.1 (y.1 (mostS E 1 0 y.1)).2, mostS E 1 0 y.1, true, (z.1, (y.1 (mostS E 1 0 y.1)).2)) : TSt)
    else some ((y.1, noteS y.2 2 (ag E 1) (y.1 (mostS E 1 0 y.1)).2 (0, 1), mostS E 1 0 y.1, false, ((0, 1), (0, 1))) : TSt)) = some x := h
    split at h
    · cases hp : pmS E y.2 1 (y.1 (mostS E 1 0 y.1)).1 (y.1 (mostS E 1 (bShl 1 (mostS E 1 0 y.1)) y.1)).1 (y.1 (mostS E 1 (bShl 1 (mostS E 1 0 y.1)) y.1)).2 1 1 with
      | none => rw [hp] at h; cases h
      | some z =>
        rw [hp] at h
        cases h
        exact C3_note (C3_pm c1 hp) (by decide)
    · cases h
      exact C3_note c1 (by decide)
theorem wayT_C3 {E : WEnv} {w w' : Dv} (hE : EnvOK E) (hN : E.N = 3) (hw : WF E.S w) (h4 : w 4 = 0) (hm : ∀ a : Int, 0 ≤ a → a < 5 → w (165 + a) = 0) (h : wayT E w = some w') : C3 w' 6 := by
  unfold wayT at h
  cases hx : trmS E w with
  | none => rw [hx] at h; cases h
  | some x =>
    rw [hx] at h
    have h : tcrS E x (tpkS E x) = some w' := h
    have hT := trmS_ok hE hN hw h4 hm hx
    have c0 := trmS_C3 (C3_0 h4) hx
    obtain ⟨p1, p2, p3, p4, p5⟩ := tpk_ok hE hN hT
    obtain ⟨t1, t2, t3, t4, t5, t6⟩ := hT
    have hm3 : ∀ a : Int, 0 ≤ a → a < 3 → x.w (165 + ag E a) ≤ 1 := fun a a0 a1 => by
      have := ag_b hE (p := a) ⟨a0, by omega⟩
      rw [t3 _ this.1 this.2.2]; decide
    have b3 : ∀ p g, 0 ≤ mostS E p g x.ps ∧ mostS E p g x.ps < 3 := fun p g => mostS_b
    have sb : 0 ≤ (if x.trimmed = true ∧ mostS E 2 0 x.ps ≠ x.fav then x.fav else mostS E 1 (bShl 1 (mostS E 2 0 x.ps)) x.ps) ∧ (if x.trimmed = true ∧ mostS E 2 0 x.ps ≠ x.fav then x.fav else mostS E 1 (bShl 1 (mostS E 2 0 x.ps)) x.ps) < 3 := by
      split
      · exact t5
      · exact b3 _ _
    have c1 := take3_C3 (p := 2) (q := 1) (r := 0) (k := mostS E 0 (bOr (bShl 1 (mostS E 2 0 x.ps)) (bShl 1 (if x.trimmed = true ∧ mostS E 2 0 x.ps ≠ x.fav then x.fav else mostS E 1 (bShl 1 (mostS E 2 0 x.ps)) x.ps))) x.ps) hE hN ⟨by decide, by decide⟩ ⟨by decide, by decide⟩ ⟨by decide, by decide⟩ (by decide) (by decide) (by decide) t1 (by omega) hm3 t4 (b3 2 0) sb (b3 0 _) c0
    rw [tpkS_eq] at h p1 p2 p3 p4 p5
    generalize takeP E (takeP E (takeP E x.w 2 (x.ps (mostS E 2 0 x.ps))) 1 (x.ps (if x.trimmed = true ∧ mostS E 2 0 x.ps ≠ x.fav then x.fav else mostS E 1 (bShl 1 (mostS E 2 0 x.ps)) x.ps))) 0 (x.ps (mostS E 0 (bOr (bShl 1 (mostS E 2 0 x.ps)) (bShl 1 (if x.trimmed = true ∧ mostS E 2 0 x.ps ≠ x.fav then x.fav else mostS E 1 (bShl 1 (mostS E 2 0 x.ps)) x.ps))) x.ps)) = w1 at *
    generalize (if mostS E 2 0 x.ps = x.fav then (2 : Int) else 1) = who at *
    have p1 : WF E.S w1 := p1
    have p2 : w1 3 = x.w 3 := p2
    have p3 : w1 4 = 6 := p3
    have p4 : ∀ a : Int, 0 ≤ a → a < 3 → w1 (165 + ag E a) = 1 := p4
    have p5 : who = 1 ∨ who = 2 := p5
    have tcr : tcrS E x (w1, who) = if x.trimmed = true then (thrS E w1 (3 - who) (x.crumbs.1, x.crumbs.2)).map fun z => takeP E (takeP E (takeP E z.2 who (z.1 (mostS E who 0 z.1))) 0 (z.1 (mostS E 0 (bShl 1 (mostS E who 0 z.1)) z.1))) (3 - who) (z.1 (mostS E (3 - who) (bOr (bShl 1 (mostS E who 0 z.1)) (bShl 1 (mostS E 0 (bShl 1 (mostS E who 0 z.1)) z.1))) z.1)) else some w1 := rfl
    rw [tcr] at h
    by_cases tr : x.trimmed = true
    · rw [if_pos tr] at h
      obtain ⟨y1, y2, y3⟩ := t6 tr
      have po : 0 ≤ 3 - who ∧ 3 - who < E.N := by omega
      cases hz : thrS E w1 (3 - who) (x.crumbs.1, x.crumbs.2) with
      | none => rw [hz] at h; cases h
      | some z =>
        obtain ⟨ps, w2⟩ := z
        rw [hz] at h
        have h : takeP E (takeP E (takeP E w2 who (ps (mostS E who 0 ps))) 0 (ps (mostS E 0 (bShl 1 (mostS E who 0 ps)) ps))) (3 - who) (ps (mostS E (3 - who) (bOr (bShl 1 (mostS E who 0 ps)) (bShl 1 (mostS E 0 (bShl 1 (mostS E who 0 ps)) ps))) ps)) = w' := Option.some.inj h
        have c2 : C3 w2 (0 + 3) := C3_thr c1 hz
        obtain ⟨u1, u2, u3, u4, u5, u6, u7, u8, u9⟩ := thrS_ok hE po p1 (by rw [p2]; exact y1) (by rw [p2]; exact y2) y3 (by omega) hz
        have m1 : ∀ a : Int, 0 ≤ a → a < 3 → w2 (165 + ag E a) ≤ 1 := fun a a0 a1 => by
          have := ag_b hE (p := a) ⟨a0, by omega⟩
          rw [u4 _ (by omega) (by omega) (by omega), p4 a a0 a1]; decide
        have d3 : ∀ p g, 0 ≤ mostS E p g ps ∧ mostS E p g ps < 3 := fun p g => mostS_b
        rw [← h]
        exact C3_le (take3_C3 (p := who) (q := 0) (r := 3 - who) (ps := ps) hE hN (by omega) (by omega) (by omega) (by omega) (by omega) (by omega) u1 (by omega) m1 u5 (d3 who 0) (d3 0 (bShl 1 (mostS E who 0 ps))) (d3 (3 - who) _) c2) (by omega)
    · rw [if_neg tr] at h
      cases h
      exact C3_le c1 (by omega)
/-- no way has more than six pieces taken -/
theorem goS_C3 {E : WEnv} {w w' : Dv} {way : Int} (hE : EnvOK E) (h4 : way = 4 → E.N = 3) (hway : 0 ≤ way ∧ way ≤ 4) (h : goS E (clrW w) way = some w') : C3 w' 6 := by
  obtain ⟨h1, h2, h3, -⟩ := clrW_at (w := w)
  have hw := clrW_WF (S := E.S) (w := w)
  unfold goS at h
  split at h
  · exact wayC_C3 hE hw h2 h3 h
  · split at h
    · exact wayK_C3 hE hw h2 h3 h
    · split at h
      · exact wayD_C3 hE hw h2 h3 h
      · split at h
        · exact wayH_C3 hE hw h2 h3 h
        · exact wayT_C3 hE (h4 (by omega)) hw h2 h3 h
