/-! all of a group mark; the least mark -/
def cntN (g : Int) : Nat → Int
  | 0 => 0
  | k + 1 => cntN g k + if bt g k then 1 else 0
theorem cntN_b {g : Int} : ∀ k : Nat, 0 ≤ cntN g k ∧ cntN g k ≤ k
  | 0 => by simp [cntN]
  | k + 1 => by
    have := cntN_b (g := g) k
    unfold cntN
    split <;> omega
theorem cntN_mono {g : Int} (j : Nat) : ∀ k : Nat, j ≤ k → cntN g j ≤ cntN g k
  | 0, h => by
    have : j = 0 := by omega
    subst this
    exact Int.le_refl _
  | k + 1, h => by
    by_cases e : j = k + 1
    · subst e; exact Int.le_refl _
    · have := cntN_mono (g := g) j k (by omega)
      show cntN g j ≤ cntN g k + (if bt g k then 1 else 0)
      split <;> omega
theorem cntN_le {g : Int} {k : Nat} (hk : k ≤ 5) : cntN g k ≤ cnt g := Int.le_trans (cntN_mono k 5 hk) (by
  show 0 + (if bt g ((0 : Nat) : Int) then 1 else 0) + (if bt g ((1 : Nat) : Int) then 1 else 0) + (if bt g ((2 : Nat) : Int) then 1 else 0) + (if bt g ((3 : Nat) : Int) then 1 else 0) + (if bt g ((4 : Nat) : Int) then 1 else 0) ≤ cnt g
  unfold cnt
  rw [Int.zero_add]
  exact Int.le_refl _)
/-- what the mark of a place is -/
def MP (E : WEnv) (s a b : Pt) (over under p : Int) (m : Pt) : Prop := markR (E.T (ag E p)) E.S s.1 s.2 (wvN (E.T (ag E p)) E.S a b * over) (wvD a b * under) = some m ∧ mkOK (E.T (ag E p)) E.S s (wvN (E.T (ag E p)) E.S a b * over) (wvD a b * under) m
/-- there is as much for a place -/
def DUE (E : WEnv) (s a b : Pt) (over under p : Int) : Prop := pw (E.T (ag E p)) s.1 s.2 E.S * (wvD a b * under) + wvN (E.T (ag E p)) E.S a b * over * s.2 ≤ cum (E.T (ag E p)) E.S * (s.2 * (wvD a b * under))
/-- w' is w but for unit and log -/
def sameB (w w' : Dv) : Prop := ∀ i, i ≠ 3 → i ≠ 4 → i < 210 → w' i = w i
theorem pm_step {E : WEnv} {w w' : Dv} {p over under : Int} {s a b m : Pt} (hE : EnvOK E) (hp : 0 ≤ p ∧ p < E.N) (hw : WF E.S w) (hs : ptW E.S (w 3) s.1 s.2) (ha : 0 < a.2) (hb : 0 < b.2) (hab : a.1 * b.2 ≤ b.1 * a.2) (ho : 0 ≤ over) (hun : 0 < under) (hd : DUE E s a b over under p) (h : pmS E w p s a b over under = some (m, w')) :
    MP E s a b over under p m ∧ ptW E.S (w' 3) m.1 m.2 ∧ WF E.S w' ∧ upW w w' ∧ w' = setU w (w' 3) := by
  obtain ⟨m0, e1, e2, e3, e4⟩ := pmS_ok hE hp hw.1 hs ha hb hab ho hun hd
  rw [e3] at h
  cases hu : unS w m0.2 with
  | none => rw [hu] at h; cases h
  | some w0 =>
    rw [hu] at h
    cases h
    obtain ⟨f1, f2, f3, f4⟩ := e4 _ hu
    refine ⟨⟨e1, e2⟩, f1, ⟨f2, ?_, ?_⟩, f3, f4⟩
    · exact WFe_un hw.2.1 f3 (fun i hi => by rw [f4, setU_ne (by omega)])
    · exact WFs_un hw.2.2 f3 (fun i i0 i1 => by rw [f4, setU_ne (by omega)])
theorem ptW_Zu {S u : Int} (hS : 0 ≤ S) : ptW S u ((0, 1) : Pt).1 ((0, 1) : Pt).2 := ptW_Z hS
theorem mkA_ok {E : WEnv} {g over under : Int} {s a b : Pt} {w : Dv} {mk : Int → Pt} (hE : EnvOK E) (hw : WF E.S w) (hs : ptW E.S (w 3) s.1 s.2) (ha : 0 < a.2) (hb : 0 < b.2) (hab : a.1 * b.2 ≤ b.1 * a.2) (ho : 0 ≤ over) (hun : 0 < under) (hd : ∀ p : Int, 0 ≤ p → p < E.N → bt g p → DUE E s a b over under p) :
    ∀ (k : Nat) (mk' : Int → Pt) (w' : Dv), (k : Int) ≤ E.N → w 4 + cntN g k ≤ 19 → mkA E g s a b over under mk w k = some (mk', w') →
      WF E.S w' ∧ upW w w' ∧ w' 4 = w 4 + cntN g k ∧ sameB w w' ∧ ∀ p : Int, 0 ≤ p → p < k → bt g p → MP E s a b over under p (mk' p) ∧ ptW E.S (w' 3) (mk' p).1 (mk' p).2 := by
  intro k
  induction k with
  | zero =>
    intro mk' w' hk _ h
    cases h
    exact ⟨hw, Int.dvd_refl _, by show w 4 = w 4 + 0; omega, fun i _ _ _ => rfl, fun p p0 p1 => absurd p1 (by omega)⟩
  | succ k ih =>
    intro mk' w' hk h4 h
    have cs : cntN g (k + 1) = cntN g k + if bt g k then 1 else 0 := rfl
    unfold mkA at h
    cases hx : mkA E g s a b over under mk w k with
    | none => rw [hx] at h; cases h
    | some x =>
      obtain ⟨mk1, w1⟩ := x
      rw [hx] at h
      have h : (if bt g k then (pmS E w1 k s a b over under).map fun y => (updM mk1 k y.1, noteS y.2 0 (ag E k) y.1 (0, 1)) else some (mk1, w1)) = some (mk', w') := h
      have mono : cntN g k ≤ cntN g (k + 1) := cntN_mono k (k + 1) (by omega)
      obtain ⟨i1, i2, i3, i4, i5⟩ := ih mk1 w1 (by omega) (by omega) hx
      by_cases hb' : bt g k
      · rw [if_pos hb'] at h cs
        cases hy : pmS E w1 k s a b over under with
        | none => rw [hy] at h; cases h
        | some y =>
          obtain ⟨m, w2⟩ := y
          rw [hy] at h
          cases h
          obtain ⟨j1, j2, j3, j4, j5⟩ := pm_step hE ⟨by omega, by omega⟩ i1 (ptW_up hs i2) ha hb hab ho hun (hd k (by omega) (by omega) hb') hy
          have e4 : w2 4 = w1 4 := by rw [j5, setU_ne (by decide)]
          have hag := ag_b hE (p := (k : Int)) ⟨by omega, by omega⟩
          obtain ⟨n1, n2⟩ := note_lo (w := w2) (kind := 0) (a := ag E k) (p := m) (q := (0, 1)) j3.2.1.1
          have n3 : noteS w2 0 (ag E k) m (0, 1) 3 = w2 3 := n2 3 (by decide) (by decide)
          refine ⟨note_WF j3 ⟨by omega, by omega⟩ ⟨hag.1, hag.2.2⟩ j2 (ptW_Zu (by omega)) (fun q => absurd q (by decide)) (show w2 4 < 19 by rw [e4, i3]; omega), ?_, by rw [n1, e4, i3, cs]; omega, fun i i3' i4' ii => ?_, fun p p0 p1 pb => ?_⟩
          · unfold upW
            rw [n3]
            exact Int.dvd_trans i2 j4
          · rw [n2 i i4' ii, j5, setU_ne i3']
            exact i4 i i3' i4' ii
          · rw [n3]
            unfold updM
            by_cases e : p = (k : Int)
            · rw [e, if_pos rfl]
              exact ⟨j1, j2⟩
            · rw [if_neg e]
              obtain ⟨t1, t2⟩ := i5 p p0 (by omega) pb
              exact ⟨t1, ptW_up t2 j4⟩
      · rw [if_neg hb'] at h cs
        cases h
        refine ⟨i1, i2, by rw [cs, Int.add_zero]; exact i3, i4, fun p p0 p1 pb => ?_⟩
        by_cases e : p = (k : Int)
        · rw [e] at pb
          exact absurd pb hb'
        · exact i5 p p0 (by omega) pb
theorem mkA_none {E : WEnv} {g over under : Int} {s a b : Pt} {w : Dv} {mk : Int → Pt} {j : Nat} (h : mkA E g s a b over under mk w j = none) : ∀ k : Nat, j ≤ k → mkA E g s a b over under mk w k = none
  | 0, hk => by
    have : j = 0 := by omega
    subst this
    exact h
  | k + 1, hk => by
    by_cases e : j = k + 1
    · subst e; exact h
    · unfold mkA
      rw [mkA_none h k (by omega)]
      rfl
/-- what stands where, but for log, unit and marks, is as it was -/
def frM (μ μ' : Mem) : Prop := ∀ x i : Int, (outD 174 x ∨ x = 174 ∧ i ≠ 2 ∧ i ≠ 3) → (∀ j : Int, 0 ≤ j → j < 5 → x ≠ 454 + 2 * j) → μ' x i = μ x i
def MKs (μ : Mem) (mk : Int → Pt) (g : Int) (k : Int) : Prop := ∀ p : Int, 0 ≤ p → p < k → bt g p → PA μ (454 + 2 * p) (mk p)
section
variable {n : Int} {μ : Mem} {Q : Option AV → Lay → Mem → Prop}
theorem RT_frM {μ μ' : Mem} {E : WEnv} (h : RT μ E) (hf : frM μ μ') : RT μ' E := RT_fr h fun x i hx => hf x i (Or.inl (by unfold outD; omega)) (fun j j0 j1 => by omega)
theorem c_X5_markAll {E : WEnv} {g of over under : Int} {s a b : Pt} {w : Dv} {mk : Int → Pt} (hE : EnvOK E) (hr : RT μ E) (hd : DR μ 174 w) (hw : WF E.S w) (hof : of = 441 ∨ of = 444) (hps : PA μ 445 s) (hpa : PA μ (of + 1) a) (hpb : PA μ (of + 2) b)
    (hs : ptW E.S (w 3) s.1 s.2) (ha : ptW E.S (w 3) a.1 a.2) (hb : ptW E.S (w 3) b.1 b.2) (hab : a.1 * b.2 ≤ b.1 * a.2) (ho : 0 ≤ over ∧ over ≤ 5) (hun : 1 ≤ under ∧ under ≤ 5) (hdue : ∀ p : Int, 0 ≤ p → p < E.N → bt g p → DUE E s a b over under p) (h4 : w 4 + cntN g E.N.toNat ≤ 19)
    (hok : ∀ mk' w', mkA E g s a b over under mk w E.N.toNat = some (mk', w') → ∀ μ', MKs μ' mk' g E.N → DR μ' 174 w' → frM μ μ' → Q (some (0, 1)) (L0 n) μ')
    (hno : mkA E g s a b over under mk w E.N.toNat = none → ∀ μ', (∀ x i, outD 174 x → (∀ j : Int, 0 ≤ j → j < 5 → x ≠ 454 + 2 * j) → μ' x i = μ x i) → Q (some (0, 0)) (L0 n) μ') : TR mX5_markAll 4 (0, 0) [(2, 440), (0, g), (2, of), (0, over), (0, under)] (L0 n) μ Q := by
  have hN := hE.2.1
  have eN : ((E.N.toNat : Nat) : Int) = E.N := by omega
  have kof : isK (L0 n) of (7, 0) := by
    rcases hof with rfl | rfl
    · exact k441
    · exact k444
  have a2 : 0 < a.2 := by have := ha.2.1; omega
  have b2 : 0 < b.2 := by have := hb.2.1; omega
  apply t_X5_markAll (layOK n) k440 kof
  have key : ∀ (d k : Nat), (k : Int) + d = E.N → ∀ mk1 w1 μ1, mkA E g s a b over under mk w k = some (mk1, w1) → MKs μ1 mk1 g k → DR μ1 174 w1 → frM μ μ1 → WA mX5_markAll 4 (0, 0) 3 [(2, 440), (0, g), (2, of), (0, over), (0, under), (0, (k : Int)), (9, 0)] [] (L0 n) μ1 Q := by
    intro d
    induction d with
    | zero =>
      intro k hk mk1 w1 μ1 e1 e2 e3 e4
      have hr1 := RT_frM hr e4
      apply s_X5_markAll_3 (layOK n) k440 kof
      rw [rf_shr.1, hr1.2.1]
      refine ⟨fun _ => ?_, fun q => absurd (show E.N ≤ (k : Int) by omega) q⟩
      have : k = E.N.toNat := by omega
      subst this
      rw [eN] at e2
      exact hok mk1 w1 e1 μ1 e2 e3 e4
    | succ d ih =>
      intro k hk mk1 w1 μ1 e1 e2 e3 e4
      have hr1 := RT_frM hr e4
      have m1 : cntN g k ≤ cntN g E.N.toNat := cntN_mono k _ (by omega)
      have m2 : cntN g (k + 1) ≤ cntN g E.N.toNat := cntN_mono (k + 1) _ (by omega)
      obtain ⟨i1, i2, i3, i4, i5⟩ := mkA_ok hE hw hs a2 b2 hab ho.1 (show 0 < under by omega) hdue k mk1 w1 (by omega) (by omega) e1
      have kb : isK (L0 n) (454 + 2 * (k : Int)) (3, 0) := kmark ⟨by omega, by omega⟩
      apply s_X5_markAll_3 (layOK n) k440 kof
      rw [rf_shr.1, hr1.2.1, rf_shr.2.2.2.2.1, (sh_el.1 (k : Int) (by omega) (by omega)).1, rf_shr.2.2.2.1, rf444.1, rf_shr.2.1, rf_shr.2.2.1, rf441.1]
      refine ⟨fun q => absurd q (by omega), fun _ => c_X5_isIn fun r hri => ⟨r, rfl, rfl, fun q => ⟨⟨by omega, by omega⟩, ?_⟩, fun q => ?_⟩⟩
      · have nb : ¬ bt g k := by
          rcases hri with hri | hri
          · omega
          · exact hri.2
        refine ih (k + 1) (by omega) mk1 w1 μ1 ?_ (fun p p0 p1 pb => ?_) e3 e4
        · unfold mkA
          rw [e1]
          show (if bt g k then _ else _) = _
          rw [if_neg nb]
        · by_cases e : p = (k : Int)
          · rw [e] at pb; exact absurd pb nb
          · exact e2 p p0 (by omega) pb
      · have yb : bt g k := by
          rcases hri with hri | hri
          · exact hri.2
          · exact absurd hri.1 q
        have cs : cntN g (k + 1) = cntN g k + 1 := by
          show cntN g k + (if bt g k then 1 else 0) = _
          rw [if_pos yb]
        have hag := ag_b hE (p := (k : Int)) ⟨by omega, by omega⟩
        refine c_X5_agentAt hE hr1 ⟨by omega, by omega⟩ ⟨_, rfl, rfl, ⟨by omega, by omega⟩, ?_⟩
        have ps1 : PA μ1 445 s := PA_fr hps (fun i => e4 445 i (Or.inl (by unfold outD; omega)) (fun j j0 j1 => by omega))
        have pa1 : PA μ1 (of + 1) a := PA_fr hpa (fun i => e4 _ i (Or.inl (by unfold outD; omega)) (fun j j0 j1 => by omega))
        have pb1 : PA μ1 (of + 2) b := PA_fr hpb (fun i => e4 _ i (Or.inl (by unfold outD; omega)) (fun j j0 j1 => by omega))
        have step : mkA E g s a b over under mk w (k + 1) = (pmS E w1 k s a b over under).map fun y => (updM mk1 k y.1, noteS y.2 0 (ag E k) y.1 (0, 1)) := by
          conv => lhs; unfold mkA
          rw [e1]
          show (if bt g k then _ else _) = _
          rw [if_pos yb]
        refine c_X5_putMark hE hr1 e3 (WF_cn i1) i1.1 kb k445 kof (Or.inr (by omega)) ⟨by omega, by omega⟩ ps1 pa1 pb1 (ptW_up hs i2) (ptW_up ha i2) (ptW_up hb i2) hab ho hun (hdue k (by omega) (by omega) yb) ?_ ?_
        · intro m w2 hpm μ2 g1 g2 g3
          obtain ⟨j1, j2, j3, j4, j5⟩ := pm_step hE ⟨by omega, by omega⟩ i1 (ptW_up hs i2) a2 b2 hab ho.1 (show 0 < under by omega) (hdue k (by omega) (by omega) yb) hpm
          have e24 : w2 4 = w1 4 := by rw [j5, setU_ne (by decide)]
          have cn2 := WF_cn j3
          refine ⟨1, rfl, rfl, fun _ => ?_, fun q => absurd q (by decide)⟩
          refine c_X1_note k174 kb k442 (Or.inr (by omega)) (Or.inr (by decide)) g2 ⟨cn2.1.1, by omega⟩ (fun b b0 b1 => (cn2.2 b b0 b1).2) fun μ3 t1 t2 => ⟨rfl, rfl, ⟨by omega, by omega⟩, ?_⟩
          have o442 : PA μ2 442 (0, 1) := PA_fr ⟨hr1.2.2.2.2.1, hr1.2.2.2.2.2.1⟩ (fun i => g3 442 i (by omega) (by decide) (by omega))
          rw [g1.1, g1.2, o442.1, o442.2] at t1
          refine ih (k + 1) (by omega) (updM mk1 k m) _ μ3 (by rw [step, hpm]; rfl) (fun p p0 p1 pb => ?_) t1 (fun x i hx hj => ?_)
          · unfold updM
            by_cases e : p = (k : Int)
            · rw [e, if_pos rfl]
              exact PA_fr g1 (fun i => t2 _ i (Or.inl (Or.inr (by omega))))
            · rw [if_neg e]
              exact PA_fr (e2 p p0 (by omega) pb) (fun i => (t2 _ i (Or.inl (Or.inr (by omega)))).trans (g3 _ i (by omega) (by omega) (by omega)))
          · have hxk := hj k (by omega) (by omega)
            have z : x ≠ 180 := by unfold outD at hx; omega
            exact ((t2 x i (hx.imp_right fun z => ⟨z.1, z.2.2⟩)).trans (g3 x i hxk z (by unfold outD at hx; omega))).trans (e4 x i hx hj)
        · intro hpm μ2 g3
          refine ⟨0, rfl, rfl, fun q => absurd rfl q, fun _ => hno (mkA_none (j := k + 1) (by rw [step, hpm]; rfl) _ (by omega)) μ2 (fun x i hx hj => (g3 x i (hj k (by omega) (by omega)) hx).trans (e4 x i (Or.inl hx) hj))⟩
  have := key E.N.toNat 0 (by omega) mk w μ rfl (fun p p0 p1 => absurd p1 (by omega)) hd (fun _ _ _ _ => rfl)
  exact this
end
