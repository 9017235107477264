/-! the reference: pieces, thirds -/
/-- the pieces as the reference holds them -/
def PQ (μ : Mem) (ps : Pcs) : Prop := ∀ k : Int, 0 ≤ k → k < 3 → μ 502 (4 * k) = (ps k).1.1 ∧ μ 502 (4 * k + 1) = (ps k).1.2 ∧ μ 502 (4 * k + 2) = (ps k).2.1 ∧ μ 502 (4 * k + 3) = (ps k).2.2
theorem PQ_fr {μ μ' : Mem} {ps : Pcs} (h : PQ μ ps) (hf : ∀ i, μ' 502 i = μ 502 i) : PQ μ' ps := fun k k0 k1 => by
  rw [hf, hf, hf, hf]
  exact h k k0 k1
theorem unS_note {w : Dv} {y kind a : Int} {p q : Pt} (h4 : 0 ≤ w 4) : unS (noteS w kind a p q) y = (unS w y).map fun w' => noteS w' kind a p q := by
  obtain ⟨n1, n2⟩ := note_lo (kind := kind) (a := a) (p := p) (q := q) h4
  have e3 := n2 3 (by decide) (by decide)
  unfold unS
  rw [e3]
  split
  · rfl
  · show some _ = some _
    congr 1
    funext i
    show setU (noteS w kind a p q) (rdN (w 3) y * y) i = noteS (setU w (rdN (w 3) y * y)) kind a p q i
    by_cases z : i = 3
    · rw [z, setU_3, (note_lo (w := setU w (rdN (w 3) y * y)) (kind := kind) (a := a) (p := p) (q := q) (by rw [setU_ne (by decide)]; exact h4)).2 3 (by decide) (by decide), setU_3]
    · rw [setU_ne z]
      unfold noteS happ
      rw [setU_ne (w := w) (i := 4) (by decide), setU_ne z]
theorem pmS_note {E : WEnv} {w : Dv} {pl over under kind a : Int} {st x y p q : Pt} (h4 : 0 ≤ w 4) : pmS E (noteS w kind a p q) pl st x y over under = (pmS E w pl st x y over under).map fun z => (z.1, noteS z.2 kind a p q) := by
  unfold pmS
  cases markR (E.T (ag E pl)) E.S st.1 st.2 (wvN (E.T (ag E pl)) E.S x y * over) (wvD x y * under) with
  | none => rfl
  | some m =>
    show (unS (noteS w kind a p q) m.2).map _ = ((unS w m.2).map _).map _
    rw [unS_note h4]
    cases unS w m.2 with
    | none => rfl
    | some w' => rfl
section
variable {n : Int} {μ : Mem} {Q : Option AV → Lay → Mem → Prop}
theorem c_X10_pieces {k : Int} {p q : Pt} (hk : 0 ≤ k ∧ k < 3)
    (h : ∀ μ', (μ' 502 (4 * k) = p.1 ∧ μ' 502 (4 * k + 1) = p.2 ∧ μ' 502 (4 * k + 2) = q.1 ∧ μ' 502 (4 * k + 3) = q.2) → (∀ x i, (x ≠ 502 ∨ i < 4 * k ∨ 4 * k + 3 < i) → μ' x i = μ x i) → Q none (L0 n) μ') : TR mX10_pieces 0 (0, 0) [(2, 493), (0, k), (1, p.1), (1, p.2), (1, q.1), (1, q.2)] (L0 n) μ Q := by
  apply t_X10_pieces (layOK n) k493
  rw [rf_ref.2.2.2.2.2.2.2.2.1]
  refine ⟨⟨by omega, by omega⟩, ⟨by omega, by omega⟩, ⟨by omega, by omega⟩, ⟨by omega, by omega⟩, ⟨by omega, by omega⟩, ⟨by omega, by omega⟩, ⟨by omega, by omega⟩, ⟨by omega, by omega⟩, h _ ⟨?_, ?_, ?_, ?_⟩ (fun x i hx => ?_)⟩
  · rw [up_ne (Or.inr (by omega)), up_ne (Or.inr (by omega)), up_ne (Or.inr (by omega)), up_eq]
  · rw [up_ne (Or.inr (by omega)), up_ne (Or.inr (by omega)), up_eq]
  · rw [up_ne (Or.inr (by omega)), up_eq]
  · rw [up_eq]
  · rw [up_ne (by omega), up_ne (by omega), up_ne (by omega), up_ne (by omega)]
/-- three pieces are laid -/
theorem pieces3 {μ0 : Mem} {a b c d : Pt} {R : Option AV → Lay → Mem → Prop} {x y z1 z2 : Mem → Int}
    (hx : ∀ μ' : Mem, (∀ o i, o ≠ 502 → μ' o i = μ0 o i) → x μ' = c.1 ∧ y μ' = c.2 ∧ z1 μ' = c.1 ∧ z2 μ' = c.2)
    (h : ∀ μ', PQ μ' (fun i => if i = 0 then (a, b) else if i = 1 then (b, c) else (c, d)) → (∀ o i, o ≠ 502 → μ' o i = μ0 o i) → R none (L0 n) μ') :
    TR mX10_pieces 0 (0, 0) [(2, 493), (0, 0), (1, a.1), (1, a.2), (1, b.1), (1, b.2)] (L0 n) μ0 (fun r18 L19 μ20 => r18 = none ∧ (L0 n) = L19 ∧ TR mX10_pieces 0 (0, 0) [(2, 493), (0, 1), (1, b.1), (1, b.2), (1, x μ20), (1, y μ20)] (L0 n) μ20 (fun r21 L22 μ23 => r21 = none ∧ (L0 n) = L22 ∧ TR mX10_pieces 0 (0, 0) [(2, 493), (0, 2), (1, z1 μ23), (1, z2 μ23), (1, d.1), (1, d.2)] (L0 n) μ23 (fun r24 L25 μ26 => r24 = none ∧ (L0 n) = L25 ∧ R none (L0 n) μ26))) := by
  refine c_X10_pieces ⟨by decide, by decide⟩ fun μ1 g1 f1 => ⟨rfl, rfl, ?_⟩
  have o1 : ∀ o i, o ≠ 502 → μ1 o i = μ0 o i := fun o i h => f1 o i (Or.inl h)
  rw [(hx μ1 o1).1, (hx μ1 o1).2.1]
  refine c_X10_pieces ⟨by decide, by decide⟩ fun μ2 g2 f2 => ⟨rfl, rfl, ?_⟩
  have o2 : ∀ o i, o ≠ 502 → μ2 o i = μ0 o i := fun o i h => (f2 o i (Or.inl h)).trans (o1 o i h)
  rw [(hx μ2 o2).2.2.1, (hx μ2 o2).2.2.2]
  refine c_X10_pieces ⟨by decide, by decide⟩ fun μ3 g3 f3 => ⟨rfl, rfl, ?_⟩
  refine h μ3 (fun k k0 k1 => ?_) (fun o i h => (f3 o i (Or.inl h)).trans (o2 o i h))
  rcases (show k = 0 ∨ k = 1 ∨ k = 2 by omega) with rfl | rfl | rfl
  · rw [f3 502 _ (by omega), f3 502 _ (by omega), f3 502 _ (by omega), f3 502 _ (by omega), f2 502 _ (by omega), f2 502 _ (by omega), f2 502 _ (by omega), f2 502 _ (by omega)]
    exact g1
  · rw [f3 502 _ (by omega), f3 502 _ (by omega), f3 502 _ (by omega), f3 502 _ (by omega)]
    exact g2
  · exact g3
theorem c_X10_thirds {E : WEnv} {w : Dv} {pl : Int} {a b : Pt} (hE : EnvOK E) (hR : RE μ E w) (hw : WF E.S w) (h4 : w 4 + 2 ≤ 19) (hpl : 0 ≤ pl ∧ pl < E.N) (ha : ptW E.S (w 3) a.1 a.2) (hb : ptW E.S (w 3) b.1 b.2) (hab : a.1 * b.2 ≤ b.1 * a.2) (hf : μ 493 11 = 0)
    (hok : ∀ ps w', thrS E w pl (a, b) = some (ps, w') → ∀ μ', RE μ' E w' → PQ μ' ps → μ' 493 11 = 0 → frW μ μ' → Q none (L0 n) μ')
    (hno : thrS E w pl (a, b) = none → ∀ μ' w', RE μ' E w' → μ' 493 11 = 1 → frW μ μ' → Q none (L0 n) μ') : TR mX10_thirds 4 (0, 0) [(2, 493), (0, ag E pl), (1, a.1), (1, a.2), (1, b.1), (1, b.2)] (L0 n) μ Q := by
  have hS := hE.1
  have hag := ag_b hE hpl
  have hrow := hE.2.2.2 _ hag.1 hag.2.2
  have a2 : 0 < a.2 := by have := ha.2.1; omega
  have b2 : 0 < b.2 := by have := hb.2.1; omega
  have u1 := hw.1.1
  have u2 := hw.1.2
  have dd : ∀ o : Int, 0 ≤ o → o ≤ 3 → DUE E a a b o 3 pl := fun o o0 o1 => due_in hrow hS.2 a2 b2 hab o0 o1
  have D1 : 0 < wvD a b := Int.mul_pos a2 b2
  have n1 := wv_b (row := E.T (ag E pl)) (S := E.S) (a := a) (b := b) hrow hS.2 (by omega) (by omega) hab
  have dv1 := rdD_W (a := ag E pl) hw.1 ha hb
  have dp1 := rdD_pos (x := wvN (E.T (ag E pl)) E.S a b) D1
  have nn1 := rdN_nn (x := wvN (E.T (ag E pl)) E.S a b) (y := wvD a b) n1.1
  have l1 := Int.le_of_dvd (show 0 < w 3 by omega) dv1
  have cr1 := rd_cross (wvN (E.T (ag E pl)) E.S a b) (wvD a b)
  have c144 := (cum_b hrow E.S hS.2).2
  have nb1 : rdN (wvN (E.T (ag E pl)) E.S a b) (wvD a b) ≤ 144 * rdD (wvN (E.T (ag E pl)) E.S a b) (wvD a b) := by
    have a1 := Int.mul_le_mul_of_nonneg_right n1.2 (show 0 ≤ rdD (wvN (E.T (ag E pl)) E.S a b) (wvD a b) by omega)
    have a2 := Int.mul_le_mul_of_nonneg_right (show cum (E.T (ag E pl)) E.S ≤ 144 by omega) (Int.mul_nonneg (show 0 ≤ wvD a b by omega) (show 0 ≤ rdD (wvN (E.T (ag E pl)) E.S a b) (wvD a b) by omega))
    rw [← Int.mul_assoc, ← Int.mul_assoc] at a2
    rw [← cr1] at a1
    have a3 := Int.le_trans a1 a2
    rw [show 144 * wvD a b * rdD (wvN (E.T (ag E pl)) E.S a b) (wvD a b) = 144 * rdD (wvN (E.T (ag E pl)) E.S a b) (wvD a b) * wvD a b by ac_rfl] at a3
    exact Int.le_of_mul_le_mul_right a3 D1
  have thr : thrS E w pl (a, b) = (pmS E w pl a a b 1 3).bind fun x => (pmS E x.2 pl a a b 2 3).map fun y => ((fun i => if i = 0 then (a, x.1) else if i = 1 then (x.1, y.1) else (y.1, b) : Pcs), noteS (noteS y.2 0 (ag E pl) x.1 (0, 1)) 0 (ag E pl) y.1 (0, 1)) := rfl
  apply t_X10_thirds (layOK n) k493
  refine c_E_between (p := a) (q := b) hE hR ⟨hag.1, hag.2.2⟩ hw.1 ha hb hab fun μ1 f1 fr1 R1 => ⟨rfl, rfl, ?_⟩
  have z1 : μ1 493 11 = 0 := by rw [f1 493 11 (Or.inr (by decide)), hf]
  rw [fr1.1, fr1.2]
  generalize hx1 : rdN (wvN (E.T (ag E pl)) E.S a b) (wvD a b) = X1 at *
  generalize hy1 : rdD (wvN (E.T (ag E pl)) E.S a b) (wvD a b) = Y1 at *
  have Y3 : 0 < 3 * Y1 := by omega
  refine ⟨⟨by omega, by omega⟩, ?_⟩
  refine c_E_mark (st := a) (a := a) (b := b) (over := 1) (under := 3) (u := w 3 * 3) (v := (X1, 3 * Y1)) hE R1 hw hpl ha ha hb hab (by decide) (by decide) (dd 1 (by decide) (by decide)) ⟨nn1, Y3⟩ ?_ ⟨by omega, by omega⟩ (Int.dvd_trans ha.2.2.2.1 ⟨3, rfl⟩) (by show 3 * Y1 ∣ w 3 * 3; rw [Int.mul_comm 3]; exact Int.mul_dvd_mul_right 3 dv1) (by omega) z1 (Or.inr rfl) ?_ ?_
  · show X1 * (wvD a b * 3) = wvN (E.T (ag E pl)) E.S a b * 1 * (3 * Y1)
    rw [Int.mul_one, ← Int.mul_assoc, cr1]
    ac_rfl
  · intro m1 w1 hp1 μ2 R2 pu2 z2 f2
    rw [if_pos rfl] at R2
    obtain ⟨i1, i2, i3, i4, i5⟩ := pm_step hE hpl hw ha a2 b2 hab (by decide) (by decide) (dd 1 (by decide) (by decide)) hp1
    have e14 : w1 4 = w 4 := by rw [i5, setU_ne (by decide)]
    rw [hp1] at thr
    have thr : thrS E w pl (a, b) = (pmS E w1 pl a a b 2 3).map fun y => ((fun i => if i = 0 then (a, m1) else if i = 1 then (m1, y.1) else (y.1, b) : Pcs), noteS (noteS y.2 0 (ag E pl) m1 (0, 1)) 0 (ag E pl) y.1 (0, 1)) := thr
    obtain ⟨n1', n2⟩ := note_lo (w := w1) (kind := 0) (a := ag E pl) (p := m1) (q := (0, 1)) i3.2.1.1
    have n3 := n2 3 (by decide) (by decide)
    have wn := note_WF (kind := 0) i3 ⟨by decide, by decide⟩ ⟨hag.1, hag.2.2⟩ i2 (ptW_Zu (by omega)) (fun q => absurd q (by decide)) (show w1 4 < 19 by omega)
    have pn := pmS_note (E := E) (w := w1) (pl := pl) (over := 2) (under := 3) (kind := 0) (a := ag E pl) (st := a) (x := a) (y := b) (p := m1) (q := (0, 1)) i3.2.1.1
    generalize noteS w1 0 (ag E pl) m1 (0, 1) = wN at *
    have ha2 : ptW E.S (wN 3) a.1 a.2 := by rw [n3]; exact ptW_up ha i4
    have hb2 : ptW E.S (wN 3) b.1 b.2 := by rw [n3]; exact ptW_up hb i4
    have hm12 : ptW E.S (wN 3) m1.1 m1.2 := by rw [n3]; exact i2
    have v1 := wn.1.1
    have v2 := wn.1.2
    have dvN : Y1 ∣ wN 3 := by rw [n3]; exact Int.dvd_trans dv1 i4
    refine ⟨rfl, rfl, ⟨hag.1, hag.2.2⟩, fun _ => ⟨⟨by omega, by omega⟩, ?_⟩, fun q => absurd z2 q⟩
    refine c_X10_becomes (show 0 ≤ 2 * X1 by omega) Y3 fun μ3 f3 fr3 => ⟨rfl, rfl, ?_⟩
    have R3 := RE_Q R2 f3
    have z3 : μ3 493 11 = 0 := by rw [f3 493 11 (Or.inr (by decide)), z2]
    rw [fr3.1, fr3.2]
    have cr2 := rd_cross (2 * X1) (3 * Y1)
    have dv2 : rdD (2 * X1) (3 * Y1) ∣ wN 3 * 3 := Int.dvd_trans ⟨_, (rdD_mul (2 * X1) (3 * Y1)).symm⟩ (by rw [Int.mul_comm 3]; exact Int.mul_dvd_mul_right 3 dvN)
    have vp := rdD_pos (x := 2 * X1) Y3
    rw [rf_ref.2.2.2.2.1, rf_ref.2.2.2.2.2.1, pu2.1, pu2.2]
    refine c_E_mark (st := a) (a := a) (b := b) (over := 2) (under := 3) (u := wN 3 * 3) (v := (rdN (2 * X1) (3 * Y1), rdD (2 * X1) (3 * Y1))) hE R3 wn hpl ha2 ha2 hb2 hab (by decide) (by decide) (dd 2 (by decide) (by decide)) ⟨rdN_nn (by omega), vp⟩ ?_ ⟨by omega, by omega⟩ (Int.dvd_trans ha2.2.2.2.1 ⟨3, rfl⟩) dv2 (by omega) z3 (Or.inr rfl) ?_ ?_
    · show rdN (2 * X1) (3 * Y1) * (wvD a b * 3) = wvN (E.T (ag E pl)) E.S a b * 2 * rdD (2 * X1) (3 * Y1)
      generalize rdN (2 * X1) (3 * Y1) = V1 at *
      generalize rdD (2 * X1) (3 * Y1) = V2 at *
      generalize wvN (E.T (ag E pl)) E.S a b = NN at *
      have q1 : V1 * (wvD a b * 3) * Y1 = NN * 2 * V2 * Y1 := by
        calc V1 * (wvD a b * 3) * Y1 = V1 * (3 * Y1) * wvD a b := by ac_rfl
          _ = 2 * X1 * V2 * wvD a b := by rw [cr2]
          _ = X1 * wvD a b * (2 * V2) := by ac_rfl
          _ = NN * Y1 * (2 * V2) := by rw [cr1]
          _ = NN * 2 * V2 * Y1 := by ac_rfl
      exact Int.eq_of_mul_eq_mul_right (by omega) q1
    · intro m2 w2 hp2 μ4 R4 pu4 z4 f4
      rw [if_pos rfl] at R4
      rw [pn] at hp2
      have F4 : frW μ μ4 := frW_tr (frQ_W f1) (frW_tr (frP_W f2) (frW_tr (frQ_W f3) (frP_W f4)))
      cases hq : pmS E w1 pl a a b 2 3 with
      | none => rw [hq] at hp2; cases hp2
      | some y =>
        obtain ⟨m2', w2'⟩ := y
        rw [hq] at hp2 thr
        have hp2 : (m2', noteS w2' 0 (ag E pl) m1 (0, 1)) = (m2, w2) := Option.some.inj hp2
        have e1 : m2' = m2 := congrArg Prod.fst hp2
        have e2 : noteS w2' 0 (ag E pl) m1 (0, 1) = w2 := congrArg Prod.snd hp2
        have thr : thrS E w pl (a, b) = some ((fun i => if i = 0 then (a, m1) else if i = 1 then (m1, m2') else (m2', b) : Pcs), noteS (noteS w2' 0 (ag E pl) m1 (0, 1)) 0 (ag E pl) m2' (0, 1)) := thr
        rw [e1, e2] at thr
        refine ⟨rfl, rfl, pieces3 (x := fun μ20 => μ20 498 (ag E pl)) (y := fun μ20 => μ20 499 (ag E pl)) (z1 := fun μ23 => μ23 498 (ag E pl)) (z2 := fun μ23 => μ23 499 (ag E pl)) (c := m2) (fun μ' h => ⟨by rw [h 498 _ (by decide)]; exact pu4.1, by rw [h 499 _ (by decide)]; exact pu4.2, by rw [h 498 _ (by decide)]; exact pu4.1, by rw [h 499 _ (by decide)]; exact pu4.2⟩) ?_⟩
        intro μ5 P5 f5
        exact hok _ _ thr μ5 (RE_step R4 (fun _ _ _ _ => rfl) (RWm_fr R4.1 (fun i => f5 494 i (by decide))) (f5 493 12 (by decide))) P5 (by rw [f5 493 11 (by decide), z4]) (frW_tr F4 (fun x i hx => f5 x i (by omega)))
    · intro hp2 m2 μ4 R4 pu4 m1' m2' z4 f4
      rw [pn] at hp2
      have F4 : frW μ μ4 := frW_tr (frQ_W f1) (frW_tr (frP_W f2) (frW_tr (frQ_W f3) (frP_W f4)))
      have e0 : thrS E w pl (a, b) = none := by
        rw [thr]
        cases hq : pmS E w1 pl a a b 2 3 with
        | none => rfl
        | some y => rw [hq] at hp2; cases hp2
      refine ⟨rfl, rfl, pieces3 (x := fun μ20 => μ20 498 (ag E pl)) (y := fun μ20 => μ20 499 (ag E pl)) (z1 := fun μ23 => μ23 498 (ag E pl)) (z2 := fun μ23 => μ23 499 (ag E pl)) (c := m2) (fun μ' h => ⟨by rw [h 498 _ (by decide)]; exact pu4.1, by rw [h 499 _ (by decide)]; exact pu4.2, by rw [h 498 _ (by decide)]; exact pu4.1, by rw [h 499 _ (by decide)]; exact pu4.2⟩) ?_⟩
      intro μ5 P5 f5
      exact hno e0 μ5 wN (RE_step R4 (fun _ _ _ _ => rfl) (RWm_fr R4.1 (fun i => f5 494 i (by decide))) (f5 493 12 (by decide))) (by rw [f5 493 11 (by decide), z4]) (frW_tr F4 (fun x i hx => f5 x i (by omega)))
  · intro hp1 m1 μ2 R2 pu2 m1' m2' z2 f2
    rw [hp1] at thr
    exact ⟨rfl, rfl, ⟨hag.1, hag.2.2⟩, fun q => absurd (q.symm.trans z2) (by decide), fun _ => hno thr μ2 w R2 z2 (frW_tr (frQ_W f1) (frP_W f2))⟩
end
