/-! the class' halves -/
/-- the pile in the memory: the top is the list's head -/
def PM (μ : Mem) : Pile → Prop
  | [] => True
  | y :: t => (μ 449 (t.length : Int) = y.1 ∧ PA μ (455 + 2 * (t.length : Int)) y.2) ∧ PM μ t
theorem PM_fr {μ μ' : Mem} : ∀ l : Pile, PM μ l → (∀ i, i < (l.length : Int) → μ' 449 i = μ 449 i) → (∀ i k : Int, 0 ≤ i → i < (l.length : Int) → μ' (455 + 2 * i) k = μ (455 + 2 * i) k) → PM μ' l
  | [], _, _, _ => trivial
  | y :: t, h, h1, h2 => by
    have e : (((y :: t).length : Nat) : Int) = (t.length : Int) + 1 := by show ((t.length + 1 : Nat) : Int) = _; omega
    rw [e] at h1 h2
    exact ⟨⟨(h1 _ (by omega)).trans h.1.1, PA_fr h.1.2 (fun k => h2 _ k (by omega) (by omega))⟩, PM_fr t h.2 (fun i hi => h1 i (by omega)) (fun i k i0 i1 => h2 i k i0 (by omega))⟩
theorem hvS_nil {E : WEnv} {w w1 : Dv} {r : Pt} {t : Nat} (h : hvS E w t = some ([], r, w1)) : ∀ k : Nat, hvS E w (t + k) = some ([], r, w1)
  | 0 => h
  | k + 1 => by
    show (hvS E w (t + k)).bind (hvT E) = _
    rw [hvS_nil h k]
    rfl
theorem hvS_none {E : WEnv} {w : Dv} {t : Nat} (h : hvS E w t = none) : ∀ k : Nat, hvS E w (t + k) = none
  | 0 => h
  | k + 1 => by
    show (hvS E w (t + k)).bind (hvT E) = _
    rw [hvS_none h k]
    rfl
section
variable {n : Int} {μ : Mem} {Q : Option AV → Lay → Mem → Prop}
theorem kend {i : Int} (h : 0 ≤ i ∧ i < 5) : isK (L0 n) (455 + 2 * i) (3, 0) := by
  have : i = 0 ∨ i = 1 ∨ i = 2 ∨ i = 3 ∨ i = 4 := by omega
  rcases this with rfl | rfl | rfl | rfl | rfl <;> exact isK0 (by decide) (by decide) (by decide +kernel)
theorem cp_ne {μ : Mem} {o a b x i : Int} (hx : x ≠ o) : up (up μ o 0 a) o 1 b x i = μ x i := by rw [up_ne (Or.inl hx), up_ne (Or.inl hx)]
theorem cp_PA {μ : Mem} {o : Int} {p : Pt} : PA (up (up μ o 0 p.1) o 1 p.2) o p := ⟨by rw [up_ne (Or.inr (by decide)), up_eq], by rw [up_eq]⟩
theorem c_X5_halve {E : WEnv} {w : Dv} (hE : EnvOK E) (hr : RT μ E) (hd : DR μ 174 w) (hw : WF E.S w) (h4 : w 4 = 0) (hm : ∀ a : Int, 0 ≤ a → a < 5 → w (165 + a) = 0) (ps : PA μ 445 (0, 1))
    (hok : ∀ w', wayH E w = some w' → ∀ μ', DR μ' 174 w' → frS μ μ' → μ' 174 1 = μ 174 1 → Q (some (0, 1)) (L0 n) μ')
    (hno : wayH E w = none → ∀ μ', frS μ μ' → Q (some (0, 0)) (L0 n) μ') : TR mX5_halve 5 (0, 0) [(2, 440)] (L0 n) μ Q := by
  have hN := hE.2.1
  have eN : ((E.N.toNat : Nat) : Int) = E.N := by omega
  have key : ∀ (d t : Nat), t + d = 10 → ∀ pl r w1 μ1, hvS E w t = some (pl, r, w1) → DR μ1 174 w1 → PM μ1 pl → PA μ1 445 r → frS μ μ1 → μ1 174 1 = μ 174 1 → WA mX5_halve 5 (0, 0) 30 [(2, 440), (0, (pl.length : Int)), (0, (t : Int)), (9, 0), (9, 0)] [] (L0 n) μ1 Q := by
    intro d
    induction d with
    | zero =>
      intro t ht pl r w1 μ1 e1 e2 e3 e4 e5 e6
      have : t = 10 := by omega
      subst this
      apply s_X5_halve_30 (layOK n) k440
      refine ⟨fun _ => hok w1 (by unfold wayH; rw [e1]; rfl) μ1 e2 e5 e6, fun q => absurd (show (10 : Int) ≤ ((10 : Nat) : Int) by decide) q⟩
    | succ d ih =>
      intro t ht pl r w1 μ1 e1 e2 e3 e4 e5 e6
      have hr1 := RT_frS hr e5
      have i := hvS_ok hE hw h4 hm t _ e1
      have step : hvS E w (t + 1) = hvT E (pl, r, w1) := by
        show (hvS E w t).bind (hvT E) = _
        rw [e1]
        rfl
      apply s_X5_halve_30 (layOK n) k440
      refine ⟨fun q => absurd q (by omega), fun _ => ⟨fun q => ?_, fun q => ?_⟩⟩
      · cases pl with
        | nil =>
          refine hok w1 ?_ μ1 e2 e5 e6
          have := hvS_nil e1 (10 - t)
          rw [show t + (10 - t) = 10 by omega] at this
          unfold wayH
          rw [this]
          rfl
        | cons y tl => exact absurd q (by show ¬ ((tl.length + 1 : Nat) : Int) ≤ 0; omega)
      · cases pl with
        | nil => exact absurd (show (((([] : Pile).length : Nat)) : Int) ≤ 0 by decide) q
        | cons y tl =>
          obtain ⟨g, e⟩ := y
          have el : ((((g, e) :: tl).length : Nat) : Int) = (tl.length : Int) + 1 := by show ((tl.length + 1 : Nat) : Int) = _; omega
          have i' := i
          obtain ⟨⟨⟨⟨h1, h2⟩, h3, h4', h5⟩, h6⟩, h7, h8, h9, h10, h11, h12⟩ := i'
          have h1 : 0 < g := h1
          have h2 : g < 32 := h2
          have h3 : ∀ p : Int, 0 ≤ p → p < 5 → bt g p → p < E.N := h3
          have h4' : ptW E.S (w1 3) e.1 e.2 := h4'
          have h5 : r.1 * e.2 ≤ e.1 * r.2 := h5
          have h7 : ptW E.S (w1 3) r.1 r.2 := h7
          have h8 : WF E.S w1 := h8
          have h11 : cnt g + pC tl ≤ E.N := h11
          have tlen := pC_len tl e h6
          have c0 := (cnt_b (g := g) ⟨by omega, h2⟩).2.2.1.mp h1
          have c5 := (cnt_b (g := g) ⟨by omega, h2⟩).2.1
          obtain ⟨⟨p1, p2⟩, p3⟩ := e3
          have p1 : μ1 449 (tl.length : Int) = g := p1
          have p2 : PA μ1 (455 + 2 * (tl.length : Int)) e := p2
          rw [el, show (tl.length : Int) + 1 - 1 = (tl.length : Int) by omega, rf_shr.2.2.2.1, rf444.2, rf_shr.2.2.2.2.2.1, (sh_el.1 (tl.length : Int) (by omega) (by omega)).2, rf_shr.2.2.2.2.2.2.1, p1]
          refine ⟨⟨by omega, by omega⟩, ⟨by omega, by omega⟩, c_X3_copy k446 (kend ⟨by omega, by omega⟩) ⟨rfl, rfl, ?_⟩⟩
          rw [p2.1, p2.2]
          generalize hμ2 : up (up μ1 446 0 e.1) 446 1 e.2 = μ2
          have f2 : ∀ x i, x ≠ 446 → μ2 x i = μ1 x i := fun x i hx => by rw [← hμ2]; exact cp_ne hx
          have pe2 : PA μ2 446 e := by rw [← hμ2]; exact cp_PA
          have d2 : DR μ2 174 w1 := DR_frame e2 (WF_cn h8).1.2 (fun a a0 a1 => ((WF_cn h8).2 a a0 a1).2) (fun x i hx => f2 x i (by omega))
          have hr2 : RT μ2 E := RT_fr hr1 (fun x i hx => f2 x i (by omega))
          have ps2 : PA μ2 445 r := PA_fr e4 (fun i => f2 445 i (by decide))
          have fs2 : frS μ μ2 := fun x i z1 z2 => (f2 x i (by omega)).trans (e5 x i z1 z2)
          have fl2 : μ2 174 1 = μ 174 1 := (f2 174 1 (by decide)).trans e6
          have pm2 : PM μ2 tl := PM_fr tl p3 (fun i _ => f2 449 i (by decide)) (fun i k i0 i1 => f2 _ k (by omega))
          refine c_bitCount ⟨by omega, h2⟩ ⟨_, rfl, rfl, fun hc => ?_, fun hc => ?_⟩
          · obtain ⟨v1, v2, v3, v4, v5, v6⟩ := hv_take hE i hc
            refine c_X5_firstOf hE hr2 ⟨h1, h2⟩ h3 ⟨_, rfl, rfl, ?_⟩
            refine c_X5_takeRestTo hE hr2 d2 (WF_cn h8) (by omega) v1 (by omega) k446 (Or.inr (by decide)) ps2 pe2 fun μ3 t1 t2 t3 => ⟨rfl, rfl, ⟨by omega, by omega⟩, ⟨by omega, by omega⟩, ?_⟩
            rw [show (tl.length : Int) + 1 + -1 = (tl.length : Int) by omega]
            have st : hvS E w (t + 1) = some (tl, e, takeS w1 (ag E (fsO g)) r e) := by
              rw [step]
              show (if cnt g < 2 then _ else _) = _
              rw [if_pos hc]
            exact ih (t + 1) (by omega) tl e _ μ3 st t1 (PM_fr tl pm2 (fun i _ => t3 449 i (Or.inl (Or.inr (by decide))) (by decide)) (fun i k i0 i1 => t3 _ k (Or.inl (Or.inr (by omega))) (by omega))) t2 (fun x i z1 z2 => (t3 x i (Or.inl (by unfold outD; omega)) (by omega)).trans (fs2 x i z1 z2)) ((t3 174 1 (Or.inr ⟨rfl, by decide⟩) (by decide)).trans fl2)
          · refine ⟨fun hv5 => ⟨by omega, ?_⟩, fun hv5 => absurd (show (tl.length : Int) + 1 < 5 by omega) hv5⟩
            obtain ⟨v1, v2, -⟩ := hv_part (mk := mk0) (w1 := w1) hE i hc
            have st : hvS E w (t + 1) = (mkA E g r r e (cnt g / 2) (cnt g) mk0 w1 E.N.toNat).map fun y => ((dif g (othS y.1 E.N.toNat g (cnt g / 2).toNat).1, y.1 (othS y.1 E.N.toNat g (cnt g / 2).toNat).2) :: ((othS y.1 E.N.toNat g (cnt g / 2).toNat).1, e) :: tl, r, y.2) := by
              rw [step]
              show (if cnt g < 2 then _ else _) = _
              rw [if_neg hc]
            refine c_X5_markAll (mk := mk0) hE hr2 d2 h8 (Or.inr rfl) ps2 ps2 pe2 h7 h7 h4' h5 ⟨by omega, by omega⟩ ⟨by omega, by omega⟩ v1 v2 ?_ ?_
            · intro mk w2 hy μ3 m1 m2 m3
              rw [hy] at st
              have st : hvS E w (t + 1) = some ((dif g (othS mk E.N.toNat g (cnt g / 2).toNat).1, mk (othS mk E.N.toNat g (cnt g / 2).toNat).2) :: ((othS mk E.N.toNat g (cnt g / 2).toNat).1, e) :: tl, r, w2) := st
              obtain ⟨a1, a2, a3, a4, a5⟩ := (hv_part (mk := mk) (w1 := w2) hE i hc).2.2 hy
              have hr3 := RT_frM hr2 m3
              refine ⟨1, rfl, rfl, fun _ => ⟨⟨by omega, by omega⟩, ?_⟩, fun z => absurd z (by decide)⟩
              rw [(sh_el.1 ((tl.length : Int) + 1) (by omega) (by omega)).2]
              refine c_X5_othersBehind (M := (cnt g / 2).toNat) hE hr3 ⟨h1, h2⟩ h3 a1.1 m1 a4 (by omega) (by omega) (by omega) (kend ⟨by omega, by omega⟩) (fun j j0 j1 => by omega) (by omega) fun μ4 q1 q2 => ⟨_, rfl, rfl, ⟨by omega, by omega⟩, ⟨by omega, by omega⟩, ?_⟩
              rw [up_eq]
              generalize hμ5 : up (up μ4 449 (tl.length : Int) (othS mk E.N.toNat g (cnt g / 2).toNat).1) 449 ((tl.length : Int) + 1) (bAnd g (bXor (othS mk E.N.toNat g (cnt g / 2).toNat).1 (-1))) = μ5
              have f5 : ∀ x i, x ≠ 449 → μ5 x i = μ4 x i := fun x i hx => by rw [← hμ5, up_ne (Or.inl hx), up_ne (Or.inl hx)]
              have f53 : ∀ x i, x ≠ 449 → x ≠ 455 + 2 * ((tl.length : Int) + 1) → μ5 x i = μ3 x i := fun x i x1 x2 => (f5 x i x1).trans (q2 x i x2)
              have fm : frM μ2 μ3 := m3
              have ln : ((((dif g (othS mk E.N.toNat g (cnt g / 2).toNat).1, mk (othS mk E.N.toNat g (cnt g / 2).toNat).2) :: ((othS mk E.N.toNat g (cnt g / 2).toNat).1, e) :: tl).length : Nat) : Int) = (tl.length : Int) + 1 + 1 := by
                show ((tl.length + 1 + 1 : Nat) : Int) = _
                omega
              have := ih (t + 1) (by omega) _ r w2 μ5 st (DR_frame m2 (WF_cn a1).1.2 (fun a a0 a1' => ((WF_cn a1).2 a a0 a1').2) (fun x i hx => f53 x i (by omega) (by omega))) ⟨⟨?_, ?_⟩, ⟨?_, ?_⟩, ?_⟩ (PA_fr ps2 (fun i => (f53 445 i (by decide) (by omega)).trans (fm 445 i (Or.inl (Or.inr (by decide))) (fun j j0 j1 => by omega)))) (fun x i z1 z2 => ((f53 x i (by omega) (by omega)).trans (frM_frS fm x i z1 z2)).trans (fs2 x i z1 z2)) (((f53 174 1 (by decide) (by omega)).trans (fm 174 1 (Or.inr ⟨rfl, by decide, by decide⟩) (fun j j0 j1 => by omega))).trans fl2)
              · rw [ln] at this
                exact this
              · show μ5 449 ((tl.length + 1 : Nat) : Int) = _
                rw [show ((tl.length + 1 : Nat) : Int) = (tl.length : Int) + 1 by omega, ← hμ5, up_eq]
              · show PA μ5 (455 + 2 * ((tl.length + 1 : Nat) : Int)) _
                rw [show ((tl.length + 1 : Nat) : Int) = (tl.length : Int) + 1 by omega]
                exact PA_fr q1 (fun i => f5 _ i (by omega))
              · show μ5 449 (tl.length : Int) = _
                rw [← hμ5, up_ne (Or.inr (by omega)), up_eq]
              · show PA μ5 (455 + 2 * (tl.length : Int)) e
                exact PA_fr p2 (fun i => ((f53 _ i (by omega) (by omega)).trans (fm _ i (Or.inl (Or.inr (by omega))) (fun j j0 j1 => by omega))).trans (f2 _ i (by omega)))
              · refine PM_fr tl pm2 (fun i hi => ?_) (fun i k i0 i1 => (f53 _ k (by omega) (by omega)).trans (fm _ k (Or.inl (Or.inr (by omega))) (fun j j0 j1 => by omega)))
                rw [← hμ5, up_ne (Or.inr (by omega)), up_ne (Or.inr (by omega)), q2 449 i (by omega)]
                exact fm 449 i (Or.inl (Or.inr (by decide))) (fun j j0 j1 => by omega)
            · intro hy μ3 m3
              rw [hy] at st
              refine ⟨0, rfl, rfl, fun z => absurd rfl z, fun _ => hno ?_ μ3 (fun x i z1 z2 => (m3 x i (by unfold outD; omega) (fun j j0 j1 => by omega)).trans (fs2 x i z1 z2))⟩
              have := hvS_none (t := t + 1) st (9 - t)
              rw [show t + 1 + (9 - t) = 10 by omega] at this
              unfold wayH
              rw [this]
              rfl
  apply t_X5_halve (layOK n) k440
  refine c_X5_everyone hE hr ⟨_, rfl, rfl, ?_⟩
  rw [rf_shr.2.2.2.2.2.1, (sh_el.1 0 (by decide) (by decide)).2, rf_shr.2.2.1, rf441.2, rf_shr.2.2.2.2.2.2.1]
  refine c_X3_copy (kend (i := 0) ⟨by decide, by decide⟩) k443 ⟨rfl, rfl, ?_⟩
  have p443 : PA μ 443 ((E.S : Int), 1) := ⟨hr.2.2.2.2.2.2.1, hr.2.2.2.2.2.2.2⟩
  have g0 : up μ 449 0 (full E.N) 443 0 = (E.S : Int) := (up_ne (Or.inl (by decide))).trans p443.1
  have g1 : up μ 449 0 (full E.N) 443 1 = 1 := (up_ne (Or.inl (by decide))).trans p443.2
  rw [g0, g1]
  have f1 : ∀ x i, x ≠ 449 → x ≠ 455 → up (up (up μ 449 0 (full E.N)) 455 0 (E.S : Int)) 455 1 1 x i = μ x i := fun x i h1 h2 => by rw [cp_ne h2, up_ne (Or.inl h1)]
  have := key 10 0 (by decide) [(full E.N, ((E.S : Int), 1))] (0, 1) w (up (up (up μ 449 0 (full E.N)) 455 0 (E.S : Int)) 455 1 1) rfl (DR_frame hd (by omega) (fun a a0 a1 => by rw [hm a a0 a1]; decide) (fun x i hx => f1 x i (by omega) (by omega))) ⟨⟨by show up _ 455 1 1 449 0 = _; rw [cp_ne (by decide), up_eq], cp_PA (p := ((E.S : Int), 1))⟩, trivial⟩ (PA_fr ps (fun i => f1 445 i (by decide) (by decide))) (fun x i h1 h2 => f1 x i (by omega) (by omega)) (f1 174 1 (by decide) (by decide))
  exact this
end
