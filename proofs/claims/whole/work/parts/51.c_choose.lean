/-! cut and choose -/
theorem q_cmp {x y N1 N2 D1 D2 u : Int} (h1 : x * D1 = N1 * u) (h2 : y * D2 = N2 * u) (d1 : 0 < D1) (d2 : 0 < D2) (hu : 0 < u) : x < y ↔ N1 * D2 < N2 * D1 := by
  have a : x * (D1 * D2) = N1 * D2 * u := by rw [← Int.mul_assoc, h1]; ac_rfl
  have b : y * (D1 * D2) = N2 * D1 * u := by rw [Int.mul_comm D1 D2, ← Int.mul_assoc, h2]; ac_rfl
  have dd := Int.mul_pos d1 d2
  constructor
  · intro h
    have := Int.mul_lt_mul_of_pos_right h dd
    rw [a, b] at this
    exact Int.lt_of_mul_lt_mul_right this (by omega)
  · intro h
    have := Int.mul_lt_mul_of_pos_right h hu
    rw [← a, ← b] at this
    exact Int.lt_of_mul_lt_mul_right this (by omega)
theorem spn_lt {row : Int → Int} {S : Nat} {u : Int} {a b c d : Pt} (hu : 0 < u) (ha : 1 ≤ a.2 ∧ a.2 ∣ u) (hb : 1 ≤ b.2 ∧ b.2 ∣ u) (hc : 1 ≤ c.2 ∧ c.2 ∣ u) (hd : 1 ≤ d.2 ∧ d.2 ∣ u) : spn row S u a.1 a.2 b.1 b.2 < spn row S u c.1 c.2 d.1 d.2 ↔ wvN row S a b * wvD c d < wvN row S c d * wvD a b :=
  q_cmp (spn_wv hu ha.1 hb.1 ha.2 hb.2) (spn_wv hu hc.1 hd.1 hc.2 hd.2) (Int.mul_pos (by omega) (by omega)) (Int.mul_pos (by omega) (by omega)) hu
theorem ptW_dv {S u : Int} {p : Pt} (h : ptW S u p.1 p.2) : 1 ≤ p.2 ∧ p.2 ∣ u := ⟨h.2.1, h.2.2.2.1⟩
/-- the whole, over by under: there is as much -/
theorem due_whole {E : WEnv} (hE : EnvOK E) {p over under : Int} (hp : 0 ≤ p ∧ p < E.N) (h0 : 0 ≤ over) (h1 : over ≤ under) : DUE E (0, 1) (0, 1) ((E.S : Int), 1) over under p := by
  have hag := ag_b hE hp
  exact due_in (a := (0, 1)) (b := ((E.S : Int), 1)) (hE.2.2.2 _ hag.1 hag.2.2) hE.1.2 (by decide) (by show (0 : Int) < 1; omega) (show (0 : Int) * 1 ≤ E.S * 1 by omega) h0 h1
theorem wayC_mark {E : WEnv} {w w' : Dv} {m : Pt} (hE : EnvOK E) (hw : WF E.S w) (h : pmS E w 0 (0, 1) (0, 1) (E.S, 1) 1 2 = some (m, w')) : MP E (0, 1) (0, 1) ((E.S : Int), 1) 1 2 0 m ∧ ptW E.S (w' 3) m.1 m.2 ∧ WF E.S w' ∧ upW w w' ∧ w' = setU w (w' 3) :=
  pm_step hE ⟨by decide, by have := hE.2.1; omega⟩ hw (ptW_Zu (by omega)) (by decide) (show (0 : Int) < 1 by decide) (show (0 : Int) * 1 ≤ E.S * 1 by omega) (by decide) (by decide) (due_whole hE ⟨by decide, by have := hE.2.1; omega⟩ (by decide) (by decide)) h
section
variable {n : Int} {μ : Mem} {Q : Option AV → Lay → Mem → Prop}
theorem c_X5_cutAndChoose {E : WEnv} {w : Dv} (hE : EnvOK E) (hr : RT μ E) (hd : DR μ 174 w) (hw : WF E.S w) (h4 : w 4 = 0) (hm : ∀ a : Int, 0 ≤ a → a < 5 → w (165 + a) = 0)
    (hok : ∀ w', wayC E w = some w' → ∀ μ', DR μ' 174 w' → frS μ μ' → μ' 174 1 = μ 174 1 → Q (some (0, 1)) (L0 n) μ')
    (hno : wayC E w = none → ∀ μ', frS μ μ' → Q (some (0, 0)) (L0 n) μ') : TR mX5_cutAndChoose 4 (0, 0) [(2, 440)] (L0 n) μ Q := by
  have hN := hE.2.1
  have p442 : PA μ 442 (0, 1) := ⟨hr.2.2.2.2.1, hr.2.2.2.2.2.1⟩
  have p443 : PA μ 443 ((E.S : Int), 1) := ⟨hr.2.2.2.2.2.2.1, hr.2.2.2.2.2.2.2⟩
  have g0 := ag_b hE (p := 0) ⟨by decide, by omega⟩
  have g1 := ag_b hE (p := 1) ⟨by decide, by omega⟩
  have gne : ag E 0 ≠ ag E 1 := fun e => absurd (ag_inj hE ⟨by decide, by omega⟩ ⟨by decide, by omega⟩ e) (by decide)
  have sh0 := (sh_el (n := n)).1 0 (by decide) (by decide)
  have sp0 := (sh_el (n := n)).2.1 0 (by decide) (by decide)
  have sp1 := (sh_el (n := n)).2.1 1 (by decide) (by decide)
  apply t_X5_cutAndChoose (layOK n) k440
  rw [rf_shr.2.2.2.2.1, rf_shr.2.2.1, rf441.1, rf441.2, rf_shr.2.1, rf_shr.2.2.2.2.2.2.2.1, sh0.1, sp0, sp1]
  refine c_X5_agentAt hE hr ⟨by decide, by omega⟩ ⟨_, rfl, rfl, c_X5_agentAt hE hr ⟨by decide, by omega⟩ ⟨_, rfl, rfl, ?_⟩⟩
  refine c_X5_putMark hE hr hd (WF_cn hw) hw.1 (kmark (i := 0) ⟨by decide, by decide⟩) k442 k441 (Or.inr (by decide)) ⟨by decide, by omega⟩ p442 p442 p443 (ptW_Zu (by omega)) (ptW_Zu (by omega)) (ptW_S (by omega)) (show (0 : Int) * 1 ≤ E.S * 1 by omega) ⟨by decide, by decide⟩ ⟨by decide, by decide⟩ (due_whole hE ⟨by decide, by omega⟩ (by decide) (by decide)) ?_ ?_
  · intro m w1 hpm μ1 q1 q2 q3
    obtain ⟨b1, b2, b3, b4, b5⟩ := wayC_mark hE hw hpm
    have e14 : w1 4 = 0 := by rw [b5, setU_ne (by decide), h4]
    have e1m : ∀ a : Int, 0 ≤ a → a < 5 → w1 (165 + a) = 0 := fun a a0 a1 => by rw [b5, setU_ne (by omega), hm a a0 a1]
    refine ⟨1, rfl, rfl, fun _ => ?_, fun q => absurd q (by decide)⟩
    refine c_X1_note k174 (kmark (i := 0) ⟨by decide, by decide⟩) k442 (Or.inr (by decide)) (Or.inr (by decide)) q2 ⟨by omega, by omega⟩ (fun b b0' b1' => ((WF_cn b3).2 b b0' b1').2) fun μ2 t1 t2 => ⟨rfl, rfl, ?_⟩
    have p442a : PA μ1 442 (0, 1) := PA_fr p442 (fun i => q3 442 i (by decide) (by decide) (by omega))
    have q1 : PA μ1 454 m := q1
    rw [show (454 : Int) + 2 * 0 = 454 by decide, q1.1, q1.2, p442a.1, p442a.2] at t1
    have t1 : DR μ2 174 (noteS w1 0 (ag E 0) m (0, 1)) := t1
    obtain ⟨n1, n2⟩ := note_lo (w := w1) (kind := 0) (a := ag E 0) (p := m) (q := (0, 1)) (by omega)
    have wn : WF E.S (noteS w1 0 (ag E 0) m (0, 1)) := note_WF b3 ⟨by decide, by decide⟩ ⟨g0.1, g0.2.2⟩ b2 (ptW_Zu (by omega)) (fun q => absurd q (by decide)) (by omega)
    generalize hw2 : noteS w1 0 (ag E 0) m (0, 1) = w2 at *
    have e23 : w2 3 = w1 3 := n2 3 (by decide) (by decide)
    have e2m : ∀ a : Int, 0 ≤ a → a < 5 → w2 (165 + a) = 0 := fun a a0 a1 => by rw [n2 _ (by omega) (by omega), e1m a a0 a1]
    have f2 : ∀ x i, (outD 174 x ∨ x = 174 ∧ i ≠ 3 ∧ i ≠ 2) → x ≠ 454 → x ≠ 180 → μ2 x i = μ x i := fun x i h1 h2 h3 => (t2 x i (h1.imp_right fun z => ⟨z.1, z.2.1⟩)).trans (q3 x i h2 h3 (by unfold outD at h1; omega))
    have o454 : PA μ2 454 m := PA_fr q1 (fun i => t2 454 i (Or.inl (Or.inr (by decide))))
    have o442 : PA μ2 442 (0, 1) := PA_fr p442 (fun i => f2 442 i (Or.inl (Or.inr (by decide))) (by decide) (by decide))
    have o443 : PA μ2 443 ((E.S : Int), 1) := PA_fr p443 (fun i => f2 443 i (Or.inl (Or.inr (by decide))) (by decide) (by decide))
    refine c_X7_put (kpiece (i := 0) ⟨by decide, by decide⟩) k442 (kmark (i := 0) ⟨by decide, by decide⟩) (by decide) ⟨rfl, rfl, ?_⟩
    generalize hμ3 : spW μ2 (464 + 3 * 0) (μ2 442 0) (μ2 442 1) (μ2 (454 + 2 * 0) 0) (μ2 (454 + 2 * 0) 1) = μ3
    have s3 : ∀ x i, x ≠ 465 → x ≠ 466 → μ3 x i = μ2 x i := fun x i h1 h2 => by rw [← hμ3]; exact spW_ne ⟨by omega, by omega⟩
    have a3 : PA μ3 465 (0, 1) ∧ PA μ3 466 m := by
      rw [← hμ3]
      obtain ⟨c0, c1, c2, c3⟩ := spW_in (μ := μ2) (s := 464) (a := μ2 442 0) (b := μ2 442 1) (c := μ2 454 0) (d := μ2 454 1)
      exact ⟨⟨c0.trans o442.1, c1.trans o442.2⟩, c2.trans o454.1, c3.trans o454.2⟩
    have o454' : PA μ3 454 m := PA_fr o454 (fun i => s3 454 i (by decide) (by decide))
    have o443' : PA μ3 443 ((E.S : Int), 1) := PA_fr o443 (fun i => s3 443 i (by decide) (by decide))
    refine c_X7_put (kpiece (i := 1) ⟨by decide, by decide⟩) (kmark (i := 0) ⟨by decide, by decide⟩) k443 (by decide) ⟨rfl, rfl, ?_⟩
    generalize hμ4 : spW μ3 (464 + 3 * 1) (μ3 (454 + 2 * 0) 0) (μ3 (454 + 2 * 0) 1) (μ3 443 0) (μ3 443 1) = μ4
    have s4 : ∀ x i, x ≠ 468 → x ≠ 469 → μ4 x i = μ3 x i := fun x i h1 h2 => by rw [← hμ4]; exact spW_ne ⟨by omega, by omega⟩
    have a4 : PA μ4 468 m ∧ PA μ4 469 ((E.S : Int), 1) := by
      rw [← hμ4]
      obtain ⟨c0, c1, c2, c3⟩ := spW_in (μ := μ3) (s := 467) (a := μ3 454 0) (b := μ3 454 1) (c := μ3 443 0) (d := μ3 443 1)
      exact ⟨⟨c0.trans o454'.1, c1.trans o454'.2⟩, c2.trans o443'.1, c3.trans o443'.2⟩
    have a3' : PA μ4 465 (0, 1) ∧ PA μ4 466 m := ⟨PA_fr a3.1 (fun i => s4 465 i (by decide) (by decide)), PA_fr a3.2 (fun i => s4 466 i (by decide) (by decide))⟩
    have f4 : ∀ x i, (outD 174 x ∨ x = 174 ∧ i ≠ 3 ∧ i ≠ 2) → x < 454 ∨ 472 < x → x ≠ 180 → μ4 x i = μ x i := fun x i h1 h2 h3 => ((s4 x i (by omega) (by omega)).trans (s3 x i (by omega) (by omega))).trans (f2 x i h1 (by omega) h3)
    have d4 : DR μ4 174 w2 := DR_frame t1 (by omega) (fun a a0 a1 => by rw [e2m a a0 a1]; decide) (fun x i hx => (s4 x i (by omega) (by omega)).trans (s3 x i (by omega) (by omega)))
    have hr4 : RT μ4 E := RT_fr hr (fun x i hx => f4 x i (Or.inl (by unfold outD; omega)) (by omega) (by omega))
    have ws : ptW E.S (w2 3) m.1 m.2 := by rw [e23]; exact b2
    have wz : ptW E.S (w2 3) ((0, 1) : Pt).1 ((0, 1) : Pt).2 := ptW_Zu (by omega)
    have we : ptW E.S (w2 3) (((E.S : Int), 1) : Pt).1 (((E.S : Int), 1) : Pt).2 := ptW_S (by omega)
    have hu2 := wn.1.1
    have oL : (0 : Int) * m.2 ≤ m.1 * 1 := by have := b2.1; omega
    have oR : m.1 * 1 ≤ (E.S : Int) * m.2 := by have := b2.2.2.1; omega
    refine c_X5_has hE hr4 d4 wn.1 (kpiece (i := 0) ⟨by decide, by decide⟩) ⟨g1.1, g1.2.2⟩ a3'.1 a3'.2 wz ws ⟨_, rfl, rfl, ?_⟩
    refine c_X5_has hE hr4 d4 wn.1 (kpiece (i := 1) ⟨by decide, by decide⟩) ⟨g1.1, g1.2.2⟩ a4.1 a4.2 ws we ⟨_, rfl, rfl, ?_⟩
    have cmp := spn_lt (row := E.T (ag E 1)) (S := E.S) (u := w2 3) (a := (0, 1)) (b := m) (c := m) (d := ((E.S : Int), 1)) (by omega) (ptW_dv wz) (ptW_dv ws) (ptW_dv ws) (ptW_dv we)
    have way : wayC E w = some (if wvN (E.T (ag E 1)) E.S (0, 1) m * wvD m ((E.S : Int), 1) < wvN (E.T (ag E 1)) E.S m ((E.S : Int), 1) * wvD (0, 1) m then takeS (takeS w2 (ag E 1) m ((E.S : Int), 1)) (ag E 0) (0, 1) m else takeS (takeS w2 (ag E 1) (0, 1) m) (ag E 0) m ((E.S : Int), 1)) := by
      unfold wayC
      rw [hpm, ← hw2]
      rfl
    -- two takes
    have two : ∀ (j1 j0 : Int) (s1 e1 s0 e0 : Pt), (0 ≤ j1 ∧ j1 < 3) → (0 ≤ j0 ∧ j0 < 3) → PA μ4 (465 + 3 * j1) s1 → PA μ4 (466 + 3 * j1) e1 → PA μ4 (465 + 3 * j0) s0 → PA μ4 (466 + 3 * j0) e0 → ptW E.S (w2 3) s1.1 s1.2 → ptW E.S (w2 3) e1.1 e1.2 → s1.1 * e1.2 ≤ e1.1 * s1.2 → wayC E w = some (takeS (takeS w2 (ag E 1) s1 e1) (ag E 0) s0 e0) →
        TR mX5_takePiece 3 (0, 0) [(2, 440), (0, 1), (0, j1)] (L0 n) μ4 (fun r39 L40 μ41 => r39 = none ∧ (L0 n) = L40 ∧ TR mX5_takePiece 3 (0, 0) [(2, 440), (0, 0), (0, j0)] (L0 n) μ41 (fun r42 L43 μ44 => r42 = none ∧ (L0 n) = L43 ∧ Q (some (0, 1)) (L0 n) μ44)) := by
      intro j1 j0 s1 e1 s0 e0 hj1 hj0 x1 x2 x3 x4 y1 y2 y3 hway
      refine c_X5_takePiece hE hr4 d4 (WF_cn wn) (by omega) ⟨by decide, by omega⟩ hj1 (by rw [e2m _ g1.1 g1.2.2]; decide) x1 x2 fun μ5 z1 z2 => ⟨rfl, rfl, ?_⟩
      have wt := take_WF wn ⟨g1.1, g1.2.2⟩ y1 y2 y3 (by rw [e2m _ g1.1 g1.2.2]; decide) (by omega)
      obtain ⟨l1, l2, l3⟩ := take_lo (w := w2) (a := ag E 1) (p := s1) (q := e1) (by omega) ⟨g1.1, g1.2.2⟩ (by rw [e2m _ g1.1 g1.2.2]; decide)
      have hr5 : RT μ5 E := RT_fr hr4 (fun x i hx => z2 x i (Or.inl (by unfold outD; omega)))
      refine c_X5_takePiece hE hr5 z1 (WF_cn wt) (by omega) ⟨by decide, by omega⟩ hj0 (by rw [l3 _ (by omega) (by omega) (by omega), e2m _ g0.1 g0.2.2]; decide) (PA_fr x3 (fun i => z2 _ i (Or.inl (Or.inr (by omega))))) (PA_fr x4 (fun i => z2 _ i (Or.inl (Or.inr (by omega))))) fun μ6 z3 z4 => ⟨rfl, rfl, ?_⟩
      refine hok _ hway μ6 z3 (fun x i h1 h2 => ((z4 x i (Or.inl (by unfold outD; omega))).trans (z2 x i (Or.inl (by unfold outD; omega)))).trans (f4 x i (Or.inl (by unfold outD; omega)) (by omega) (by omega))) (((z4 174 1 (Or.inr ⟨rfl, by decide⟩)).trans (z2 174 1 (Or.inr ⟨rfl, by decide⟩))).trans (f4 174 1 (Or.inr ⟨rfl, by decide, by decide⟩) (by decide) (by decide)))
    refine ⟨fun q => ?_, fun q => ?_⟩
    · rw [if_pos (cmp.mp q)] at way
      exact two 1 0 _ _ _ _ ⟨by decide, by decide⟩ ⟨by decide, by decide⟩ a4.1 a4.2 a3'.1 a3'.2 ws we oR way
    · rw [if_neg (fun z => q (cmp.mpr z))] at way
      exact two 0 1 _ _ _ _ ⟨by decide, by decide⟩ ⟨by decide, by decide⟩ a3'.1 a3'.2 a4.1 a4.2 wz ws oL way
  · intro hpm μ1 q3
    refine ⟨0, rfl, rfl, fun q => absurd rfl q, fun _ => hno ?_ μ1 (fun x i h1 h2 => q3 x i (by omega) (by unfold outD; omega))⟩
    unfold wayC
    rw [hpm]
    rfl
end
