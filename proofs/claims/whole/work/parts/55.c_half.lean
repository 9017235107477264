/-! halves, in numbers: the pile -/
def hvF (c : Int) : Int := if c ≤ 1 then 1 else if c = 2 then 4 else if c = 3 then 8 else if c = 4 then 12 else 17
theorem hvF_step {c : Int} (h : 2 ≤ c ∧ c ≤ 5) : hvF c = c + hvF (c / 2) + hvF (c - c / 2) := by
  have : c = 2 ∨ c = 3 ∨ c = 4 ∨ c = 5 := by omega
  rcases this with rfl | rfl | rfl | rfl <;> decide
theorem hvF_b {c : Int} (h : 1 ≤ c ∧ c ≤ 5) : c ≤ hvF c ∧ hvF c ≤ 17 := by
  have : c = 1 ∨ c = 2 ∨ c = 3 ∨ c = 4 ∨ c = 5 := by omega
  rcases this with rfl | rfl | rfl | rfl | rfl <;> decide
abbrev Pile := List (Int × Pt)
def pF : Pile → Int
  | [] => 0
  | y :: t => hvF (cnt y.1) + pF t
def pC : Pile → Int
  | [] => 0
  | y :: t => cnt y.1 + pC t
def pB (p : Int) : Pile → Int
  | [] => 0
  | y :: t => (if bt y.1 p then 1 else 0) + pB p t
/-- groups with their ends, one behind the other -/
def pOK (E : WEnv) (u : Int) : Pt → Pile → Prop
  | _, [] => True
  | r, y :: t => ((0 < y.1 ∧ y.1 < 32) ∧ (∀ p : Int, 0 ≤ p → p < 5 → bt y.1 p → p < E.N) ∧ ptW E.S u y.2.1 y.2.2 ∧ r.1 * y.2.2 ≤ y.2.1 * r.2) ∧ pOK E u y.2 t
theorem pOK_up {E : WEnv} {u u' : Int} (h : u ∣ u') : ∀ (l : Pile) (r : Pt), pOK E u r l → pOK E u' r l
  | [], _, _ => trivial
  | y :: t, r, h1 => ⟨⟨h1.1.1, h1.1.2.1, ptW_un h1.1.2.2.1 h, h1.1.2.2.2⟩, pOK_up h t y.2 h1.2⟩
theorem pF_nn : ∀ l : Pile, 0 ≤ pF l
  | [] => by simp [pF]
  | y :: t => by
    have := pF_nn t
    have : 0 ≤ hvF (cnt y.1) := by unfold hvF; repeat' split <;> omega
    unfold pF
    omega
theorem pB_nn {p : Int} : ∀ l : Pile, 0 ≤ pB p l
  | [] => by simp [pB]
  | y :: t => by
    have := pB_nn (p := p) t
    unfold pB
    split <;> omega
theorem pC_len {E : WEnv} {u : Int} : ∀ (l : Pile) (r : Pt), pOK E u r l → (l.length : Int) ≤ pC l
  | [], _, _ => by simp [pC]
  | y :: t, r, h => by
    have := pC_len t y.2 h.2
    have h1 : 0 < y.1 := h.1.1.1
    have := (cnt_b (g := y.1) ⟨by omega, h.1.1.2⟩).2.2.1.mp h1
    show ((t.length + 1 : Nat) : Int) ≤ cnt y.1 + pC t
    omega
theorem dif_cnt {g o : Int} (hg : 0 ≤ g ∧ g < 32) (ho : 0 ≤ o ∧ o < 32) (hs : ∀ p : Int, 0 ≤ p → p < 5 → bt o p → bt g p) : cnt (dif g o) = cnt g - cnt o := by
  have h := List.all_eq_true.mp (List.all_eq_true.mp (show (List.range 32).all (fun g => (List.range 32).all fun o => decide (((bt (o : Int) 0 → bt (g : Int) 0) ∧ (bt (o : Int) 1 → bt (g : Int) 1) ∧ (bt (o : Int) 2 → bt (g : Int) 2) ∧ (bt (o : Int) 3 → bt (g : Int) 3) ∧ (bt (o : Int) 4 → bt (g : Int) 4)) → cnt (dif (g : Int) (o : Int)) = cnt (g : Int) - cnt (o : Int))) = true by decide +kernel) g.toNat (List.mem_range.mpr (by omega))) o.toNat (List.mem_range.mpr (by omega))
  rw [show ((g.toNat : Nat) : Int) = g by omega, show ((o.toNat : Nat) : Int) = o by omega] at h
  exact of_decide_eq_true h ⟨hs 0 (by decide) (by decide), hs 1 (by decide) (by decide), hs 2 (by decide) (by decide), hs 3 (by decide) (by decide), hs 4 (by decide) (by decide)⟩
/-- behind t turns -/
def HI (E : WEnv) (t : Nat) (x : HSt) : Prop := pOK E (x.2.2 3) x.2.1 x.1 ∧ ptW E.S (x.2.2 3) x.2.1.1 x.2.1.2 ∧ WF E.S x.2.2 ∧ x.2.2 4 + pF x.1 ≤ 17 ∧ (∀ p : Int, 0 ≤ p → p < E.N → pB p x.1 + x.2.2 (165 + ag E p) ≤ 1) ∧ pC x.1 ≤ E.N ∧ (x.1 = [] ∨ 2 * pC x.1 - x.1.length + t = 2 * E.N - 1)
/-- what a turn with a group of two or more makes -/
theorem hv_part {E : WEnv} {g : Int} {e r : Pt} {tl : Pile} {w w1 : Dv} {mk : Int → Pt} {t : Nat} (hE : EnvOK E) (h : HI E t ((g, e) :: tl, r, w)) (hc : ¬ cnt g < 2) :
    (∀ p : Int, 0 ≤ p → p < E.N → bt g p → DUE E r r e (cnt g / 2) (cnt g) p) ∧ w 4 + cntN g E.N.toNat ≤ 19 ∧ (mkA E g r r e (cnt g / 2) (cnt g) mk0 w E.N.toNat = some (mk, w1) →
      WF E.S w1 ∧ upW w w1 ∧ sameB w w1 ∧ (∀ p : Int, 0 ≤ p → p < E.N → bt g p → ptW E.S (w1 3) (mk p).1 (mk p).2) ∧
      HI E (t + 1) ((dif g (othS mk E.N.toNat g (cnt g / 2).toNat).1, mk (othS mk E.N.toNat g (cnt g / 2).toNat).2) :: ((othS mk E.N.toNat g (cnt g / 2).toNat).1, e) :: tl, r, w1)) := by
  have hN := hE.2.1
  have eN : ((E.N.toNat : Nat) : Int) = E.N := by omega
  obtain ⟨⟨⟨⟨h1, h2⟩, h3, h4, h5⟩, h6⟩, h7, h8, h9, h10, h11, h12⟩ := h
  have h1 : 0 < g := h1
  have h2 : g < 32 := h2
  have h3 : ∀ p : Int, 0 ≤ p → p < 5 → bt g p → p < E.N := h3
  have h4 : ptW E.S (w 3) e.1 e.2 := h4
  have h5 : r.1 * e.2 ≤ e.1 * r.2 := h5
  have h6 : pOK E (w 3) e tl := h6
  have h7 : ptW E.S (w 3) r.1 r.2 := h7
  have h8 : WF E.S w := h8
  have h9 : w 4 + (hvF (cnt g) + pF tl) ≤ 17 := h9
  have h10 : ∀ p : Int, 0 ≤ p → p < E.N → ((if bt g p then 1 else 0) + pB p tl) + w (165 + ag E p) ≤ 1 := h10
  have h11 : cnt g + pC tl ≤ E.N := h11
  have h12 : 2 * (cnt g + pC tl) - ((tl.length + 1 : Nat) : Int) + t = 2 * E.N - 1 := h12.resolve_left (by simp)
  have c5 := (cnt_b (g := g) ⟨by omega, h2⟩).2.1
  have cN : cntN g E.N.toNat ≤ cnt g := cntN_le (by omega)
  have Fb := hvF_b (c := cnt g) ⟨by omega, c5⟩
  have Fs := hvF_step (c := cnt g) ⟨by omega, c5⟩
  have pf := pF_nn tl
  have r2 : 0 < r.2 := by have := h7.2.1; omega
  have e2 : 0 < e.2 := by have := h4.2.1; omega
  have hdue : ∀ p : Int, 0 ≤ p → p < E.N → bt g p → DUE E r r e (cnt g / 2) (cnt g) p := fun p p0 p1 _ => by
    have hag := ag_b hE (p := p) ⟨p0, p1⟩
    exact due_in (hE.2.2.2 _ hag.1 hag.2.2) hE.1.2 r2 e2 h5 (by omega) (by omega)
  refine ⟨hdue, by omega, fun hy => ?_⟩
  obtain ⟨a1, a2, a3, a4, a5⟩ := mkA_ok hE h8 h7 r2 e2 h5 (show 0 ≤ cnt g / 2 by omega) (show 0 < cnt g by omega) hdue E.N.toNat mk w1 (by omega) (by omega) hy
  rw [eN] at a5
  have eM : (((cnt g / 2).toNat : Nat) : Int) = cnt g / 2 := by omega
  obtain ⟨o1, o2, o3, o4⟩ := othS_ok (mk := mk) (N := E.N.toNat) (g := g) (by omega) ⟨by omega, h2⟩ (by rw [eN]; exact h3) (by rw [eN]; exact fun p p0 p1 pb => by have := (a5 p p0 p1 pb).2.2.1; omega) (cnt g / 2).toNat (by omega)
  obtain ⟨l1, l2, l3⟩ := o4 (by omega)
  rw [eN] at l2
  rw [eM] at o2
  generalize (othS mk E.N.toNat g (cnt g / 2).toNat).1 = o at *
  generalize (othS mk E.N.toNat g (cnt g / 2).toNat).2 = l at *
  obtain ⟨m1, m2⟩ := a5 l l1 l2 l3
  have dc := dif_cnt ⟨by omega, h2⟩ o1 o3
  have db := fun p hp => dif_bt (g := g) (o := o) (p := p) ⟨by omega, h2⟩ o1 hp
  have db0 := (db 0 ⟨by decide, by decide⟩).1
  have d0 : 0 < dif g o := (cnt_b db0).2.2.1.mpr (by omega)
  have oo : 0 < o := (cnt_b o1).2.2.1.mpr (by omega)
  have ce := mark_end hE ⟨l1, l2⟩ (show 0 ≤ cnt g / 2 ∧ cnt g / 2 ≤ cnt g by omega) (by omega) h7.1 r2 e2 h5 m1
  refine ⟨a1, a2, a4, fun p p0 p1 pb => (a5 p p0 p1 pb).2, ⟨⟨⟨d0, db0.2⟩, fun p p0 p1 pb => h3 p p0 p1 ((db p ⟨p0, p1⟩).2.mp pb).1, m2, m1.2.2.2.1⟩, ⟨⟨oo, o1.2⟩, fun p p0 p1 pb => h3 p p0 p1 (o3 p p0 p1 pb), ptW_up h4 a2, ce⟩, pOK_up a2 tl e h6⟩, ptW_up h7 a2, a1, ?_, fun p p0 p1 => ?_, ?_, Or.inr ?_⟩
  · show w1 4 + (hvF (cnt (dif g o)) + (hvF (cnt o) + pF tl)) ≤ 17
    rw [dc, o2, show cnt g - (cnt g - cnt g / 2) = cnt g / 2 by omega]
    omega
  · show ((if bt (dif g o) p then 1 else 0) + ((if bt o p then 1 else 0) + pB p tl)) + w1 (165 + ag E p) ≤ 1
    have hag := ag_b hE (p := p) ⟨p0, p1⟩
    rw [a4 _ (by omega) (by omega) (by omega)]
    have z := h10 p p0 p1
    have q := (db p ⟨p0, by omega⟩).2
    by_cases c1 : bt g p
    · rw [if_pos c1] at z
      by_cases c2 : bt o p
      · rw [if_neg (fun y => (q.mp y).2 c2), if_pos c2]; omega
      · rw [if_pos (q.mpr ⟨c1, c2⟩), if_neg c2]; omega
    · rw [if_neg c1] at z
      rw [if_neg (fun y => c1 (q.mp y).1), if_neg (fun y => c1 (o3 p p0 (by omega) y))]
      omega
  · show cnt (dif g o) + (cnt o + pC tl) ≤ E.N
    omega
  · show 2 * (cnt (dif g o) + (cnt o + pC tl)) - ((tl.length + 1 + 1 : Nat) : Int) + ((t + 1 : Nat) : Int) = 2 * E.N - 1
    omega
/-- what a turn with a group of one makes -/
theorem hv_take {E : WEnv} {g : Int} {e r : Pt} {tl : Pile} {w : Dv} {t : Nat} (hE : EnvOK E) (h : HI E t ((g, e) :: tl, r, w)) (hc : cnt g < 2) :
    (0 ≤ fsO g ∧ fsO g < E.N) ∧ w (165 + ag E (fsO g)) = 0 ∧ w 4 ≤ 16 ∧ r.1 * e.2 ≤ e.1 * r.2 ∧ ptW E.S (w 3) e.1 e.2 ∧ HI E (t + 1) (tl, e, takeS w (ag E (fsO g)) r e) := by
  have hN := hE.2.1
  obtain ⟨⟨⟨⟨h1, h2⟩, h3, h4, h5⟩, h6⟩, h7, h8, h9, h10, h11, h12⟩ := h
  have h1 : 0 < g := h1
  have h2 : g < 32 := h2
  have h4 : ptW E.S (w 3) e.1 e.2 := h4
  have h5 : r.1 * e.2 ≤ e.1 * r.2 := h5
  have h6 : pOK E (w 3) e tl := h6
  have h7 : ptW E.S (w 3) r.1 r.2 := h7
  have h8 : WF E.S w := h8
  have h9 : w 4 + (hvF (cnt g) + pF tl) ≤ 17 := h9
  have h10 : ∀ p : Int, 0 ≤ p → p < E.N → ((if bt g p then 1 else 0) + pB p tl) + w (165 + ag E p) ≤ 1 := h10
  have h11 : cnt g + pC tl ≤ E.N := h11
  have h12 : 2 * (cnt g + pC tl) - ((tl.length + 1 : Nat) : Int) + t = 2 * E.N - 1 := h12.resolve_left (by simp)
  have cb := cnt_b (g := g) ⟨by omega, h2⟩
  have c1 : cnt g = 1 := by have := cb.2.2.1.mp h1; omega
  obtain ⟨f1, f2, f3⟩ := fsO_ok (g := g) ⟨h1, h2⟩
  have fN : fsO g < E.N := h3 _ f1.1 f1.2 f2
  have hag := ag_b hE (p := fsO g) ⟨f1.1, fN⟩
  have z := h10 _ f1.1 fN
  rw [if_pos f2] at z
  have pb := pB_nn (p := fsO g) tl
  have many := (h8.2.2 _ hag.1 hag.2.2).1.1
  have z0 : w (165 + ag E (fsO g)) = 0 := by omega
  have F1 : hvF (cnt g) = 1 := by rw [c1]; decide
  have pf := pF_nn tl
  obtain ⟨t1, t2, t3⟩ := take_lo (w := w) (a := ag E (fsO g)) (p := r) (q := e) h8.2.1.1 ⟨hag.1, hag.2.2⟩ ⟨by omega, by omega⟩
  have t33 := t3 3 (by decide) (by omega) (by decide)
  refine ⟨⟨f1.1, fN⟩, z0, by omega, h5, h4, ?_, ?_, take_WF h8 ⟨hag.1, hag.2.2⟩ h7 h4 h5 (by omega) (by omega), ?_, fun p p0 p1 => ?_, ?_, ?_⟩
  · show pOK E (takeS w (ag E (fsO g)) r e 3) e tl
    rw [t33]; exact h6
  · show ptW E.S (takeS w (ag E (fsO g)) r e 3) e.1 e.2
    rw [t33]; exact h4
  · show takeS w (ag E (fsO g)) r e 4 + pF tl ≤ 17
    omega
  · show pB p tl + takeS w (ag E (fsO g)) r e (165 + ag E p) ≤ 1
    have hp := ag_b hE (p := p) ⟨p0, p1⟩
    by_cases q : p = fsO g
    · rw [q, t2]; omega
    · rw [t3 _ (by omega) (fun y => q (ag_inj hE ⟨p0, p1⟩ ⟨f1.1, fN⟩ (by omega))) (by omega)]
      have y := h10 p p0 p1
      rw [if_neg (fun y => q (cb.2.2.2 c1 p p0 (by omega) y))] at y
      omega
  · show pC tl ≤ E.N
    omega
  · cases tl with
    | nil => exact Or.inl rfl
    | cons y tl' =>
      right
      show 2 * pC (y :: tl') - (((y :: tl').length : Nat) : Int) + ((t + 1 : Nat) : Int) = 2 * E.N - 1
      omega
theorem hvS_ok {E : WEnv} {w : Dv} (hE : EnvOK E) (hw : WF E.S w) (h4 : w 4 = 0) (hm : ∀ a : Int, 0 ≤ a → a < 5 → w (165 + a) = 0) : ∀ (t : Nat) (x : HSt), hvS E w t = some x → HI E t x
  | 0, x, h => by
    cases h
    obtain ⟨f1, f2, f3, f4⟩ := full_b hE.2.1
    have hN := hE.2.1
    have Fb := hvF_b (c := E.N) ⟨by omega, hN.2⟩
    refine ⟨⟨⟨⟨f1, f2⟩, fun p p0 p1 pb => (f4 p p0 p1).mp pb, ptW_S (by omega), show (0 : Int) * 1 ≤ E.S * 1 by omega⟩, trivial⟩, ptW_Zu (by omega), hw, ?_, fun p p0 p1 => ?_, ?_, Or.inr ?_⟩
    · show w 4 + (hvF (cnt (full E.N)) + 0) ≤ 17
      rw [f3]; omega
    · show ((if bt (full E.N) p then 1 else 0) + 0) + w (165 + ag E p) ≤ 1
      rw [hm _ (ag_b hE ⟨p0, p1⟩).1 (ag_b hE ⟨p0, p1⟩).2.2]
      split <;> decide
    · show cnt (full E.N) + 0 ≤ E.N
      omega
    · show 2 * (cnt (full E.N) + 0) - ((0 + 1 : Nat) : Int) + ((0 : Nat) : Int) = 2 * E.N - 1
      omega
  | t + 1, x, h => by
    unfold hvS at h
    cases hx : hvS E w t with
    | none => rw [hx] at h; cases h
    | some x0 =>
      obtain ⟨pl, r, w0⟩ := x0
      have i := hvS_ok hE hw h4 hm t _ hx
      rw [hx] at h
      have h : hvT E (pl, r, w0) = some x := h
      cases pl with
      | nil =>
        cases h
        obtain ⟨a1, a2, a3, a4, a5, a6, a7⟩ := i
        exact ⟨a1, a2, a3, a4, a5, a6, Or.inl rfl⟩
      | cons y tl =>
        obtain ⟨g, e⟩ := y
        have h : (if cnt g < 2 then some (tl, e, takeS w0 (ag E (fsO g)) r e) else (mkA E g r r e (cnt g / 2) (cnt g) mk0 w0 E.N.toNat).map fun y => ((dif g (othS y.1 E.N.toNat g (cnt g / 2).toNat).1, y.1 (othS y.1 E.N.toNat g (cnt g / 2).toNat).2) :: ((othS y.1 E.N.toNat g (cnt g / 2).toNat).1, e) :: tl, r, y.2)) = some x := h
        by_cases hc : cnt g < 2
        · rw [if_pos hc] at h
          cases h
          exact (hv_take hE i hc).2.2.2.2.2
        · rw [if_neg hc] at h
          cases hy : mkA E g r r e (cnt g / 2) (cnt g) mk0 w0 E.N.toNat with
          | none => rw [hy] at h; cases h
          | some y =>
            obtain ⟨mk, w1⟩ := y
            rw [hy] at h
            have h := Option.some.inj h
            rw [← h]
            exact ((hv_part hE i hc).2.2 hy).2.2.2.2
