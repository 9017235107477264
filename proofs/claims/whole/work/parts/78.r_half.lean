/-! the reference halves -/
theorem frP_5 {a : Int} {μ μ' : Mem} (h : frP a μ μ') : ∀ x i, x = 500 ∨ x = 501 ∨ (x = 493 ∧ i = 18) → μ' x i = μ x i := fun x i hx => h x i (by omega) (by omega) (by omega)
theorem AMx_off {E : WEnv} (hE : EnvOK E) {left g l : Int} (h : AMx E left g) (hg : 0 ≤ g ∧ g < 32) (hl : 0 ≤ l ∧ l < E.N) : AMx E (off1 left (ag E l)) (off1 g l) := by
  have hN := hE.2.1
  have hag := ag_b hE hl
  refine ⟨AM_off hE h.1 hg hl, fun a a0 a1 q => h.2.1 a a0 a1 ((off1_bt h.1.1 ⟨hag.1, hag.2.2⟩ ⟨by omega, a1⟩).mp q).1, fun a a0 a1 q => h.2.2 a a0 a1 ((off1_bt hg ⟨hl.1, by omega⟩ ⟨by omega, a1⟩).mp q).1⟩
section
variable {n : Int} {μ : Mem} {Q : Option AV → Lay → Mem → Prop}
theorem c_X10_parts {E : WEnv} {w : Dv} {left g : Int} {e r : Pt} {tl : Pile} {t : Nat} (hE : EnvOK E) (hR : RE μ E w) (hI : HI E t ((g, e) :: tl, r, w)) (hc : ¬ cnt g < 2) (hA : AMx E left g) (hM : HM μ E e tl) (hlen : μ 493 18 = (tl.length : Int)) (htl : tl.length ≤ 4) (hf : μ 493 11 = 0)
    (hok : ∀ mk w1, mkA E g r r e (cnt g / 2) (cnt g) mk0 w E.N.toNat = some (mk, w1) → ∀ μ', RE μ' E w1 → HM μ' E r ((dif g (othS mk E.N.toNat g (cnt g / 2).toNat).1, mk (othS mk E.N.toNat g (cnt g / 2).toNat).2) :: ((othS mk E.N.toNat g (cnt g / 2).toNat).1, e) :: tl) → μ' 493 18 = (tl.length : Int) + 2 → μ' 493 11 = 0 → frW μ μ' → Q none (L0 n) μ')
    (hno : mkA E g r r e (cnt g / 2) (cnt g) mk0 w E.N.toNat = none → ∀ μ' w', RE μ' E w' → μ' 493 11 = 1 → frW μ μ' → Q none (L0 n) μ') : TR mX10_parts 4 (0, 0) [(2, 493), (0, left), (1, r.1), (1, r.2), (1, e.1), (1, e.2)] (L0 n) μ Q := by
  have hN := hE.2.1
  have hS := hE.1
  have eN : ((E.N.toNat : Nat) : Int) = E.N := by omega
  have hA1 := hA.1
  have cl := cnt_AM hE hA
  obtain ⟨hdue, h19, hvp⟩ := hv_part (mk := mk0) (w1 := w) hE hI hc
  have hvp := fun mk w1 => (hv_part (mk := mk) (w1 := w1) hE hI hc).2.2
  have hI' := hI
  obtain ⟨⟨⟨⟨p1, p2⟩, p3, p4, p5⟩, p6⟩, p7, p8, -⟩ := hI'
  have p1 : 0 < g := p1
  have p2 : g < 32 := p2
  have p3 : ∀ p : Int, 0 ≤ p → p < 5 → bt g p → p < E.N := p3
  have p4 : ptW E.S (w 3) e.1 e.2 := p4
  have p5 : r.1 * e.2 ≤ e.1 * r.2 := p5
  have p7 : ptW E.S (w 3) r.1 r.2 := p7
  have p8 : WF E.S w := p8
  have c5 := (cnt_b (g := g) ⟨by omega, p2⟩).2.1
  have r2 : 0 < r.2 := by have := p7.2.1; omega
  have e2 : 0 < e.2 := by have := p4.2.1; omega
  apply t_X10_parts (layOK n) k493
  refine c_X10_countOf hA1.1 ⟨_, rfl, rfl, ?_⟩
  rw [cl]
  have loop : ∀ (d i : Nat), (i : Int) + d = E.N → ∀ mk w2 μ2, mkA E g r r e (cnt g / 2) (cnt g) mk0 w i = some (mk, w2) → RE μ2 E w2 → (∀ p : Int, 0 ≤ p → p < i → bt g p → PU μ2 (ag E p) (mk p)) → μ2 493 11 = 0 → frW μ μ2 → (∀ x i, x = 500 ∨ x = 501 ∨ (x = 493 ∧ i = 18) → μ2 x i = μ x i) →
      WA mX10_parts 4 (0, 0) 9 [(2, 493), (0, left), (1, r.1), (9, 0), (1, r.2), (9, 0), (1, e.1), (9, 0), (1, e.2), (9, 0), (0, cnt g), (0, (i : Int)), (9, 0), (9, 0)] [] (L0 n) μ2 Q := by
    intro d
    induction d with
    | zero =>
      intro i hi mk w2 μ2 hy R2 P2 z2 f2 g2
      have ei : i = E.N.toNat := by omega
      subst ei
      obtain ⟨a1, a2, a3, a4, a5⟩ := hvp mk w2 hy
      rw [eN] at P2
      have eN2 := R2.2.2.1.2.1
      have oth := othS_ok (mk := mk) (N := E.N.toNat) (g := g) (by omega) ⟨by omega, p2⟩ (by rw [eN]; exact p3) (by rw [eN]; exact fun p p0 p1 pb => by have := (a4 p p0 p1 pb).2.1; omega)
      have l2 : ∀ (d m : Nat), m + d = (cnt g / 2).toNat → ∀ rest, AMx E rest (othS mk E.N.toNat g m).1 → WA mX10_parts 4 (0, 0) 120 [(2, 493), (0, left), (1, r.1), (9, 0), (1, r.2), (9, 0), (1, e.1), (9, 0), (1, e.2), (9, 0), (0, cnt g), (0, rest), (0, agL E (othS mk E.N.toNat g m).2), (0, (m : Int))] [] (L0 n) μ2 Q := by
        intro d
        induction d with
        | zero =>
          intro m hm' rest hrest
          have em : m = (cnt g / 2).toNat := by omega
          subst em
          obtain ⟨o1, o2, o3, o4⟩ := oth (cnt g / 2).toNat (by omega)
          obtain ⟨l1, l2, l3⟩ := o4 (by omega)
          rw [eN] at l2
          have hok := hok mk w2 hy
          generalize (othS mk E.N.toNat g (cnt g / 2).toNat).1 = o at *
          generalize (othS mk E.N.toNat g (cnt g / 2).toNat).2 = l at *
          have hag := ag_b hE ⟨l1, l2⟩
          have pl := P2 l l1 l2 l3
          have eA : agL E l = ag E l := by unfold agL; rw [if_neg (by omega)]
          rw [eA]
          apply s_X10_parts_120 (layOK n) k493
          rw [rf_ref.2.2.2.2.1, rf_ref.2.2.2.2.2.1, pl.1, pl.2]
          refine ⟨by omega, fun _ => ⟨⟨hag.1, hag.2.2⟩, ?_⟩, fun q => absurd (show cnt g / 2 ≤ (((cnt g / 2).toNat : Nat) : Int) by omega) q⟩
          have e18 : μ2 493 18 = (tl.length : Int) := by rw [g2 493 18 (by omega), hlen]
          refine c_X10_lays (p := mk l) (q := e) (M := (tl.length : Int)) e18 ⟨by omega, by omega⟩ fun μ3 y1 y2 y3 y4 => ⟨rfl, rfl, ?_⟩
          have pl3 : PU μ3 (ag E l) (mk l) := PU_fr pl (y4 498 _ (by omega) (by omega) (by omega)) (y4 499 _ (by omega) (by omega) (by omega))
          rw [pl3.1, pl3.2]
          refine c_X10_lays (p := r) (q := mk l) (M := (tl.length : Int) + 1) y3 ⟨by omega, by omega⟩ fun μ4 x1 x2 x3 x4 => ⟨rfl, rfl, ?_⟩
          have f34 : ∀ x i, (x ≠ 493 ∨ i ≠ 18) → x ≠ 500 → x ≠ 501 → μ4 x i = μ2 x i := fun x i h1 h2 h3 => (x4 x i h1 (Or.inl h2) (Or.inl h3)).trans (y4 x i h1 (Or.inl h2) (Or.inl h3))
          refine hok μ4 (RE_step R2 (fun _ _ _ _ => rfl) (RWm_fr R2.1 (fun i => f34 494 i (by omega) (by omega) (by omega))) (f34 493 12 (by omega) (by omega) (by omega))) ?_ (by omega) (by rw [f34 493 11 (by omega) (by omega) (by omega), z2]) (frW_tr f2 (fun x i hx => f34 x i (by omega) (by omega) (by omega)))
          have e1 : (((((o, e) : Int × Pt) :: tl).length : Nat) : Int) = (tl.length : Int) + 1 := by show ((tl.length + 1 : Nat) : Int) = _; omega
          refine ⟨?_, ?_, ?_, ?_, ?_⟩
          · rw [e1, x1]
            exact AMx_dif hE hA ⟨by omega, p2⟩ hrest.1 o1
          · rw [e1]
            exact x2
          · rw [x4 500 _ (by omega) (Or.inr (by omega)) (by omega), y1]
            exact hrest
          · rw [x4 501 _ (by omega) (by omega) (Or.inr (by omega)), x4 501 _ (by omega) (by omega) (Or.inr (by omega)), x4 501 _ (by omega) (by omega) (Or.inr (by omega)), x4 501 _ (by omega) (by omega) (Or.inr (by omega))]
            exact y2
          · refine HM_fr tl e hM (fun i hi => ?_) (fun i hi => ?_)
            · rw [x4 500 i (by omega) (Or.inr (by omega)) (by omega), y4 500 i (by omega) (Or.inr (by omega)) (by omega), g2 500 i (by omega)]
            · rw [x4 501 i (by omega) (by omega) (Or.inr (by omega)), y4 501 i (by omega) (by omega) (Or.inr (by omega)), g2 501 i (by omega)]
        | succ d ih =>
          intro m hm' rest hrest
          obtain ⟨o1, o2, o3, -⟩ := oth m (by omega)
          obtain ⟨-, -, -, o4⟩ := oth (m + 1) (by omega)
          obtain ⟨l1, l2, l3⟩ := o4 (by omega)
          rw [eN] at l2
          have l1 : 0 ≤ lst mk (othS mk E.N.toNat g m).1 E.N.toNat := l1
          have l2 : lst mk (othS mk E.N.toNat g m).1 E.N.toNat < E.N := l2
          have next := ih (m + 1) (by omega) (off1 rest (ag E (lst mk (othS mk E.N.toNat g m).1 E.N.toNat))) (AMx_off hE hrest o1 ⟨l1, l2⟩)
          have eA : agL E (othS mk E.N.toNat g (m + 1)).2 = ag E (lst mk (othS mk E.N.toNat g m).1 E.N.toNat) := by
            show agL E (lst mk (othS mk E.N.toNat g m).1 E.N.toNat) = _
            unfold agL
            rw [if_neg (by omega)]
          rw [eA] at next
          apply s_X10_parts_120 (layOK n) k493
          refine ⟨by omega, fun q => absurd q (by omega), fun _ => c_X10_leastOf (g := (othS mk E.N.toNat g m).1) (u := w2 3) hE R2 hrest.1 ⟨a1.1.1, a1.1.2⟩ (fun p p0 p1' pb => ⟨a4 p p0 p1' (o3 p p0 (by omega) pb), P2 p p0 p1' (o3 p p0 (by omega) pb)⟩) ⟨_, rfl, rfl, ⟨by omega, by omega⟩, ?_⟩⟩
          have eB : agL E (lst mk (othS mk E.N.toNat g m).1 E.N.toNat) = ag E (lst mk (othS mk E.N.toNat g m).1 E.N.toNat) := by
            unfold agL
            rw [if_neg (by omega)]
          rw [eB]
          exact next
      have l0 := l2 (cnt g / 2).toNat 0 (by omega) left hA
      have l0 : WA mX10_parts 4 (0, 0) 120 [(2, 493), (0, left), (1, r.1), (9, 0), (1, r.2), (9, 0), (1, e.1), (9, 0), (1, e.2), (9, 0), (0, cnt g), (0, left), (0, -1), (0, 0)] [] (L0 n) μ2 Q := l0
      apply s_X10_parts_9 (layOK n) k493
      exact c_X10_agents R2.1 R2.2.1 ⟨_, rfl, rfl, fun _ => ⟨fun _ => l0, fun q => absurd z2 q⟩, fun q => absurd (show w2 1 ≤ ((E.N.toNat : Nat) : Int) by omega) q⟩
    | succ d ih =>
      intro i hi mk w2 μ2 hy R2 P2 z2 f2 g2
      have eN2 := R2.2.2.1.2.1
      have m1 : cntN g i ≤ cntN g E.N.toNat := cntN_mono i _ (by omega)
      have m2 : cntN g (i + 1) ≤ cntN g E.N.toNat := cntN_mono (i + 1) _ (by omega)
      obtain ⟨a1, a2, a3, a4, a5⟩ := mkA_ok hE p8 p7 r2 e2 p5 (show 0 ≤ cnt g / 2 by omega) (show 0 < cnt g by omega) hdue i mk w2 (by omega) (by omega) hy
      have pli : 0 ≤ (i : Int) ∧ (i : Int) < E.N := ⟨by omega, by omega⟩
      have hag := ag_b hE pli
      have hAi := hA1.2 i pli.1 pli.2
      apply s_X10_parts_9 (layOK n) k493
      refine c_X10_agents R2.1 R2.2.1 ⟨_, rfl, rfl, fun q => absurd q (by omega), fun _ => ⟨fun q => absurd z2 q, fun _ => c_E_ord hE R2 pli ⟨_, rfl, rfl, fun nb => ⟨⟨by omega, by omega⟩, ?_⟩, fun yb => ?_⟩⟩⟩
      · have nb : ¬ bt g i := fun z => nb (hAi.mpr z)
        exact ih (i + 1) (by omega) mk w2 μ2 (by unfold mkA; rw [hy]; show (if bt g i then _ else _) = _; rw [if_neg nb]) R2 (fun p p0 p1 pb => by
          by_cases e : p = (i : Int)
          · rw [e] at pb; exact absurd pb nb
          · exact P2 p p0 (by omega) pb) z2 f2 g2
      · have yb : bt g i := hAi.mp yb
        have due := hdue i pli.1 pli.2 yb
        have stepi : mkA E g r r e (cnt g / 2) (cnt g) mk0 w (i + 1) = (pmS E w2 i r r e (cnt g / 2) (cnt g)).map fun y => (updM mk i y.1, noteS y.2 0 (ag E i) y.1 (0, 1)) := by
          conv => lhs; unfold mkA
          rw [hy]
          show (if bt g i then _ else _) = _
          rw [if_pos yb]
        have cs : cntN g (i + 1) = cntN g i + 1 := by
          show cntN g i + (if bt g i then 1 else 0) = _
          rw [if_pos yb]
        have u1 := a1.1.1
        have u2 := a1.1.2
        have wr := ptW_up p7 a2
        have we := ptW_up p4 a2
        have hrow := hE.2.2.2 _ hag.1 hag.2.2
        have D1 : 0 < wvD r e := Int.mul_pos r2 e2
        have n1 := wv_b (row := E.T (ag E i)) (S := E.S) (a := r) (b := e) hrow hS.2 (by omega) (by omega) p5
        have dv1 := rdD_W (a := ag E i) a1.1 wr we
        have dp1 := rdD_pos (x := wvN (E.T (ag E i)) E.S r e) D1
        have nn1 := rdN_nn (x := wvN (E.T (ag E i)) E.S r e) (y := wvD r e) n1.1
        have l1 := Int.le_of_dvd (show 0 < w2 3 by omega) dv1
        have cr1 := rd_cross (wvN (E.T (ag E i)) E.S r e) (wvD r e)
        have c144 := (cum_b hrow E.S hS.2).2
        have nb1 : rdN (wvN (E.T (ag E i)) E.S r e) (wvD r e) ≤ 144 * rdD (wvN (E.T (ag E i)) E.S r e) (wvD r e) := by
          have a1 := Int.mul_le_mul_of_nonneg_right n1.2 (show 0 ≤ rdD (wvN (E.T (ag E i)) E.S r e) (wvD r e) by omega)
          have a2 := Int.mul_le_mul_of_nonneg_right (show cum (E.T (ag E i)) E.S ≤ 144 by omega) (Int.mul_nonneg (show 0 ≤ wvD r e by omega) (show 0 ≤ rdD (wvN (E.T (ag E i)) E.S r e) (wvD r e) by omega))
          rw [← Int.mul_assoc, ← Int.mul_assoc] at a2
          rw [← cr1] at a1
          have a3 := Int.le_trans a1 a2
          rw [show 144 * wvD r e * rdD (wvN (E.T (ag E i)) E.S r e) (wvD r e) = 144 * rdD (wvN (E.T (ag E i)) E.S r e) (wvD r e) * wvD r e by ac_rfl] at a3
          exact Int.le_of_mul_le_mul_right a3 D1
        refine c_E_between (p := r) (q := e) hE R2 ⟨hag.1, hag.2.2⟩ a1.1 wr we p5 fun μ3 f3 fr3 R3 => ⟨rfl, rfl, by omega, ?_⟩
        have z3 : μ3 493 11 = 0 := by rw [f3 493 11 (Or.inr (by decide)), z2]
        rw [fr3.1, fr3.2]
        generalize hx1 : rdN (wvN (E.T (ag E i)) E.S r e) (wvD r e) = X1 at *
        generalize hy1 : rdD (wvN (E.T (ag E i)) E.S r e) (wvD r e) = Y1 at *
        have Yk := mulLB (show 0 ≤ Y1 by omega) (show 0 ≤ cnt g by omega) (Int.le_trans l1 u2) c5
        have Xk := mulLB nn1 (show 0 ≤ cnt g / 2 by omega) (show X1 ≤ 144000000000 by omega) (show cnt g / 2 ≤ 5 by omega)
        have Ykp : 0 < Y1 * cnt g := Int.mul_pos dp1 (by omega)
        refine ⟨⟨by omega, by omega⟩, ⟨by omega, by omega⟩, c_X10_becomes Xk.1 Ykp fun μ4 f4 fr4 => ⟨rfl, rfl, ?_⟩⟩
        have R4 := RE_Q R3 f4
        have z4 : μ4 493 11 = 0 := by rw [f4 493 11 (Or.inr (by decide)), z3]
        rw [fr4.1, fr4.2]
        have cr2 := rd_cross (X1 * (cnt g / 2)) (Y1 * cnt g)
        have dv2 : rdD (X1 * (cnt g / 2)) (Y1 * cnt g) ∣ w2 3 * cnt g := Int.dvd_trans ⟨_, (rdD_mul (X1 * (cnt g / 2)) (Y1 * cnt g)).symm⟩ (Int.mul_dvd_mul_right (cnt g) dv1)
        have uk := mulLB (show 0 ≤ w2 3 by omega) (show 0 ≤ cnt g by omega) u2 c5
        have vp := rdD_pos (x := X1 * (cnt g / 2)) Ykp
        have f24 : ∀ x i, x = 500 ∨ x = 501 ∨ (x = 493 ∧ i = 18) → μ4 x i = μ x i := fun x i hx => by rw [f4 x i (by omega), f3 x i (by omega), g2 x i hx]
        refine c_E_mark (st := r) (a := r) (b := e) (over := cnt g / 2) (under := cnt g) (u := w2 3 * cnt g) (v := (rdN (X1 * (cnt g / 2)) (Y1 * cnt g), rdD (X1 * (cnt g / 2)) (Y1 * cnt g))) hE R4 a1 pli wr wr we p5 (by omega) (by omega) due ⟨rdN_nn Xk.1, vp⟩ ?_ ⟨Int.mul_pos (by omega) (by omega), by omega⟩ (Int.dvd_trans wr.2.2.2.1 ⟨cnt g, rfl⟩) dv2 (by omega) z4 (Or.inr rfl) ?_ ?_
        · show rdN (X1 * (cnt g / 2)) (Y1 * cnt g) * (wvD r e * cnt g) = wvN (E.T (ag E i)) E.S r e * (cnt g / 2) * rdD (X1 * (cnt g / 2)) (Y1 * cnt g)
          generalize rdN (X1 * (cnt g / 2)) (Y1 * cnt g) = V1 at *
          generalize rdD (X1 * (cnt g / 2)) (Y1 * cnt g) = V2 at *
          generalize wvN (E.T (ag E i)) E.S r e = NN at *
          generalize cnt g / 2 = h at *
          generalize cnt g = k at *
          have q1 : V1 * (wvD r e * k) * Y1 = NN * h * V2 * Y1 := by
            calc V1 * (wvD r e * k) * Y1 = V1 * (Y1 * k) * wvD r e := by ac_rfl
              _ = X1 * h * V2 * wvD r e := by rw [cr2]
              _ = X1 * wvD r e * (h * V2) := by ac_rfl
              _ = NN * Y1 * (h * V2) := by rw [cr1]
              _ = NN * h * V2 * Y1 := by ac_rfl
          exact Int.eq_of_mul_eq_mul_right (by omega) q1
        · intro m w3 hpm μ5 R5 pu z5 f5
          rw [if_pos rfl] at R5
          rw [hpm] at stepi
          have stepi : mkA E g r r e (cnt g / 2) (cnt g) mk0 w (i + 1) = some (updM mk i m, noteS w3 0 (ag E i) m (0, 1)) := stepi
          refine ⟨rfl, rfl, ⟨by omega, by omega⟩, ih (i + 1) (by omega) _ _ μ5 stepi R5 (fun p p0 p1 pb => ?_) z5 (frW_tr f2 (frW_tr (frQ_W f3) (frW_tr (frQ_W f4) (frP_W f5)))) (fun x i hx => (frP_5 f5 x i hx).trans (f24 x i hx))⟩
          unfold updM
          by_cases e : p = (i : Int)
          · rw [e, if_pos rfl]; exact pu
          · rw [if_neg e]
            have ne : ag E p ≠ ag E i := fun z => e (ag_inj hE ⟨p0, by omega⟩ pli z)
            have q2 := P2 p p0 (by omega) pb
            have q4 : PU μ4 (ag E p) (mk p) := PU_fr q2 (by rw [f4 498 _ (Or.inl (by decide)), f3 498 _ (Or.inl (by decide))]) (by rw [f4 499 _ (Or.inl (by decide)), f3 499 _ (Or.inl (by decide))])
            exact PU_fr q4 (f5 498 _ (Or.inl (by decide)) (by decide) (Or.inr ne)) (f5 499 _ (Or.inl (by decide)) (by decide) (Or.inr ne))
        · intro hpm m μ5 R5 pu m1' m2' z5 f5
          rw [hpm] at stepi
          have e0 := mkA_none (j := i + 1) stepi E.N.toNat (by omega)
          have fin := hno e0 μ5 w2 R5 z5 (frW_tr f2 (frW_tr (frQ_W f3) (frW_tr (frQ_W f4) (frP_W f5))))
          refine ⟨rfl, rfl, ⟨by omega, by omega⟩, ?_⟩
          apply s_X10_parts_9 (layOK n) k493
          exact c_X10_agents R5.1 R5.2.1 ⟨_, rfl, rfl, fun _ => ⟨fun q => absurd (q.symm.trans z5) (by decide), fun _ => fin⟩, fun _ => ⟨fun _ => ⟨fun q => absurd (q.symm.trans z5) (by decide), fun _ => fin⟩, fun q => absurd (q.symm.trans z5) (by decide)⟩⟩
  exact loop E.N.toNat 0 (by omega) mk0 w μ rfl hR (fun p p0 p1 => absurd p1 (by omega)) hf frW_rf (fun _ _ _ => rfl)
theorem c_X10_halves {E : WEnv} {w : Dv} (hE : EnvOK E) (hR : RE μ E w) (hw : WF E.S w) (h4 : w 4 = 0) (hm : ∀ a : Int, 0 ≤ a → a < 5 → w (165 + a) = 0) (hf : μ 493 11 = 0)
    (hok : ∀ w', wayH E w = some w' → ∀ μ', RE μ' E w' → μ' 493 11 = 0 → frW μ μ' → Q none (L0 n) μ')
    (hno : wayH E w = none → ∀ μ' w', RE μ' E w' → μ' 493 11 = 1 → frW μ μ' → Q none (L0 n) μ') : TR mX10_halves 5 (0, 0) [(2, 493)] (L0 n) μ Q := by
  have hN := hE.2.1
  have hS := hE.1
  have key : ∀ (d t : Nat), t + d = 10 → ∀ pl r w1 μ1, hvS E w t = some (pl, r, w1) → RE μ1 E w1 → HM μ1 E r pl → μ1 493 18 = (pl.length : Int) → μ1 493 11 = 0 → frW μ μ1 → WA mX10_halves 5 (0, 0) 24 [(2, 493), (9, 0), (9, 0), (9, 0), (9, 0), (9, 0), (9, 0), (9, 0), (9, 0), (9, 0)] [] (L0 n) μ1 Q := by
    intro d
    induction d with
    | zero =>
      intro t ht pl r w1 μ1 e1 R1 H1 len z1 f1
      have : t = 10 := by omega
      subst this
      obtain ⟨i1, i2, i3, i4, i5, i6, i7⟩ := hvS_ok hE hw h4 hm 10 _ e1
      have i1 : pOK E (w1 3) r pl := i1
      have ln := pC_len pl r i1
      have i7 : pl = [] ∨ 2 * pC pl - pl.length + ((10 : Nat) : Int) = 2 * E.N - 1 := i7
      have e : pl = [] := i7.resolve_right (fun z => by omega)
      subst e
      apply s_X10_halves_24 (layOK n) k493
      rw [len]
      exact ⟨fun _ => hok w1 (by unfold wayH; rw [e1]; rfl) μ1 R1 z1 f1, fun q => absurd (show (((([] : Pile).length : Nat)) : Int) ≤ 0 by decide) q⟩
    | succ d ih =>
      intro t ht pl r w1 μ1 e1 R1 H1 len z1 f1
      have i := hvS_ok hE hw h4 hm t _ e1
      have step : hvS E w (t + 1) = hvT E (pl, r, w1) := by
        show (hvS E w t).bind (hvT E) = _
        rw [e1]
        rfl
      cases pl with
      | nil =>
        apply s_X10_halves_24 (layOK n) k493
        rw [len]
        refine ⟨fun _ => hok w1 ?_ μ1 R1 z1 f1, fun q => absurd (show (((([] : Pile).length : Nat)) : Int) ≤ 0 by decide) q⟩
        have := hvS_nil e1 (10 - t)
        rw [show t + (10 - t) = 10 by omega] at this
        unfold wayH
        rw [this]
        rfl
      | cons y tl =>
        obtain ⟨g, e⟩ := y
        have el : (((((g, e) : Int × Pt) :: tl).length : Nat) : Int) = (tl.length : Int) + 1 := by show ((tl.length + 1 : Nat) : Int) = _; omega
        rw [el] at len
        have step : hvS E w (t + 1) = if cnt g < 2 then some (tl, e, takeS w1 (ag E (fsO g)) r e) else (mkA E g r r e (cnt g / 2) (cnt g) mk0 w1 E.N.toNat).map fun y => ((dif g (othS y.1 E.N.toNat g (cnt g / 2).toNat).1, y.1 (othS y.1 E.N.toNat g (cnt g / 2).toNat).2) :: ((othS y.1 E.N.toNat g (cnt g / 2).toNat).1, e) :: tl, r, y.2) := step
        obtain ⟨hA, ⟨s1, s2, s3, s4⟩, hT⟩ := H1
        have hA : AMx E (μ1 500 (tl.length : Int)) g := hA
        obtain ⟨i1, i2, i3, i4, i5, i6, i7⟩ := i
        have i := hvS_ok hE hw h4 hm t _ e1
        have i1 : pOK E (w1 3) r ((g, e) :: tl) := i1
        have ln := pC_len _ r i1
        have lnt := pC_len tl e i1.2
        rw [el] at ln
        have g0 : 0 < g := i1.1.1.1
        have g1 : g < 32 := i1.1.1.2
        have gN : ∀ p : Int, 0 ≤ p → p < 5 → bt g p → p < E.N := i1.1.2.1
        have cp := (cnt_b (g := g) ⟨by omega, g1⟩).2.2.1.mp g0
        have i6 : cnt g + pC tl ≤ E.N := i6
        have lb : (tl.length : Int) ≤ 4 := by omega
        have cl := cnt_AM hE hA
        apply s_X10_halves_24 (layOK n) k493
        rw [len, rf_ref.2.2.2.2.2.2.1, rf_ref.2.2.2.2.2.2.2.1]
        refine ⟨fun q => absurd q (by omega), fun _ => ⟨fun q => absurd z1 q, fun _ => ?_⟩⟩
        rw [show (tl.length : Int) + 1 - 1 = tl.length by omega]
        generalize hμ2 : up μ1 493 18 (tl.length : Int) = μ2
        have f2 : ∀ x i, x ≠ 493 ∨ i ≠ 18 → μ2 x i = μ1 x i := fun x i h => by rw [← hμ2, up_ne h]
        have e18 : μ2 493 18 = (tl.length : Int) := by rw [← hμ2, up_eq]
        have R2 : RE μ2 E w1 := by rw [← hμ2]; exact RE_up R1 (by decide)
        have z2 : μ2 493 11 = 0 := by rw [f2 493 11 (Or.inr (by decide)), z1]
        have fw2 : frW μ μ2 := frW_tr f1 (fun x i hx => f2 x i (by omega))
        have H2 : HM μ2 E e tl := HM_fr tl e hT (fun i _ => f2 500 i (Or.inl (by decide))) (fun i _ => f2 501 i (Or.inl (by decide)))
        rw [e18, f2 500 _ (Or.inl (by decide)), f2 501 _ (Or.inl (by decide)), f2 501 _ (Or.inl (by decide)), f2 501 _ (Or.inl (by decide)), f2 501 _ (Or.inl (by decide)), s1, s2, s3, s4]
        refine ⟨⟨by omega, by omega⟩, ⟨by omega, by omega⟩, ⟨by omega, by omega⟩, ⟨by omega, by omega⟩, ⟨by omega, by omega⟩, ⟨by omega, by omega⟩, ⟨by omega, by omega⟩, ⟨by omega, by omega⟩, ⟨by omega, by omega⟩, ⟨by omega, by omega⟩, c_X10_countOf hA.1.1 ⟨_, rfl, rfl, fun q => ?_, fun q => ?_⟩⟩
        · rw [cl] at q
          have hc : ¬ cnt g < 2 := by omega
          rw [if_neg hc] at step
          refine c_X10_parts hE R2 i hc hA H2 e18 (by omega) z2 ?_ ?_
          · intro mk w2 hy μ3 R3 H3 e3 z3 f3
            rw [hy] at step
            refine ⟨rfl, rfl, ih (t + 1) (by omega) _ _ _ μ3 step R3 H3 ?_ z3 (frW_tr fw2 f3)⟩
            rw [e3]
            show _ = ((tl.length + 1 + 1 : Nat) : Int)
            omega
          · intro hy μ3 w3 R3 z3 f3
            rw [hy] at step
            have fin : WA mX10_halves 5 (0, 0) 24 [(2, 493), (9, 0), (9, 0), (9, 0), (9, 0), (9, 0), (9, 0), (9, 0), (9, 0), (9, 0)] [] (L0 n) μ3 Q := by
              have q0 : Q none (L0 n) μ3 := by
                refine hno ?_ μ3 w3 R3 z3 (frW_tr fw2 f3)
                have := hvS_none (t := t + 1) step (10 - (t + 1))
                rw [show t + 1 + (10 - (t + 1)) = 10 by omega] at this
                unfold wayH
                rw [this]
                rfl
              apply s_X10_halves_24 (layOK n) k493
              exact ⟨fun _ => q0, fun _ => ⟨fun _ => q0, fun q => absurd (q.symm.trans z3) (by decide)⟩⟩
            exact ⟨rfl, rfl, fin⟩
        · rw [cl] at q
          have hc : cnt g < 2 := by omega
          rw [if_pos hc] at step
          obtain ⟨q1, q2, q3, q4, q5, q6⟩ := hv_take hE i hc
          have hag := ag_b hE q1
          refine c_E_last hE R2 hA.1 ⟨g0, g1⟩ gN q ⟨_, rfl, rfl, c_E_take (p := r) (q := e) R2 i3 ⟨hag.1, hag.2.2⟩ (by omega) (by omega) fun μ3 R3 f3 => ⟨rfl, rfl, ?_⟩⟩
          exact ih (t + 1) (by omega) _ _ _ μ3 step R3 (HM_fr tl e H2 (fun i _ => f3 500 i (by decide)) (fun i _ => f3 501 i (by decide))) (by rw [f3 493 18 (by decide), e18]) (by rw [f3 493 11 (by decide), z2]) (frW_tr fw2 (fr4_W f3))
  have eNw := hR.2.2.1.2.1
  have R0 : RE (up μ 493 18 0) E w := RE_up hR (by decide)
  apply t_X10_halves (layOK n) k493
  refine c_X10_agents R0.1 R0.2.1 ⟨_, rfl, rfl, ?_⟩
  rw [← eNw]
  refine ⟨shl_in hN, c_X10_ends R0.1 ⟨_, rfl, rfl, ?_⟩⟩
  rw [← R0.2.2.1.1]
  refine c_X10_lays (p := (0, 1)) (q := ((E.S : Int), 1)) (M := 0) (up_eq _ _ _ _) ⟨by decide, by decide⟩ fun μ2 y1 y2 y3 y4 => ⟨rfl, rfl, ?_⟩
  have f2 : ∀ x i, (x ≠ 493 ∨ i ≠ 18) → x ≠ 500 → x ≠ 501 → μ2 x i = μ x i := fun x i h1 h2 h3 => by rw [y4 x i h1 (Or.inl h2) (Or.inl h3), up_ne h1]
  have eF : bShl 1 E.N - 1 = full E.N := rfl
  rw [eF] at y1
  refine key 10 0 (by omega) _ _ _ μ2 rfl (RE_step hR (fun _ _ _ _ => rfl) (RWm_fr hR.1 (fun i => f2 494 i (by omega) (by omega) (by omega))) (f2 493 12 (by omega) (by omega) (by omega))) ⟨?_, y2, trivial⟩ y3 (by rw [f2 493 11 (by omega) (by omega) (by omega), hf]) (fun x i hx => f2 x i (by omega) (by omega) (by omega))
  have y1 : μ2 500 ((([] : Pile).length : Nat) : Int) = full E.N := y1
  rw [y1]
  exact AMx_full hE
end
