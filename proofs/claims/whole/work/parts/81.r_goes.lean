/-! the reference trims; it goes a way -/
section
variable {n : Int} {μ : Mem} {Q : Option AV → Lay → Mem → Prop}
theorem c_trims_250 {E : WEnv} {x : TSt} {tr : Int} (hE : EnvOK E) (hN : E.N = 3) (hT : TI E x) (hR : RE μ E x.w) (hP : PQ μ x.ps) (htr : tr = if x.trimmed = true then 1 else 0) {en : Pt} (hcr : x.trimmed = true → (x.ps x.fav).2 = x.crumbs.1 ∧ en = x.crumbs.2) (hf : μ 493 11 = 0)
    (hok : ∀ w', tcrS E x (tpkS E x) = some w' → ∀ μ', RE μ' E w' → μ' 493 11 = 0 → frW μ μ' → Q none (L0 n) μ')
    (hno : tcrS E x (tpkS E x) = none → ∀ μ' w', RE μ' E w' → μ' 493 11 = 1 → frW μ μ' → Q none (L0 n) μ') :
    WA mX10_trims 6 (0, 0) 250 [(2, 493), (0, ag E 0), (0, ag E 1), (0, ag E 2), (0, x.fav), (9, 0), (9, 0), (9, 0), (9, 0), (9, 0), (0, tr), (1, en.1), (9, 0), (1, en.2), (9, 0), (9, 0), (9, 0), (9, 0)] [] (L0 n) μ Q := by
  have hT' := hT
  obtain ⟨hw, h4, hm, hW, hfav, hcrumbs⟩ := hT
  obtain ⟨k1, k2, k3, k4, k5⟩ := tpk_ok hE hN hT'
  have tcr : ∀ (w : Dv) (who : Int), tcrS E x (w, who) = if x.trimmed = true then (thrS E w (3 - who) (x.crumbs.1, x.crumbs.2)).map fun z => takeP E (takeP E (takeP E z.2 who (z.1 (mostS E who 0 z.1))) 0 (z.1 (mostS E 0 (bShl 1 (mostS E who 0 z.1)) z.1))) (3 - who) (z.1 (mostS E (3 - who) (bOr (bShl 1 (mostS E who 0 z.1)) (bShl 1 (mostS E 0 (bShl 1 (mostS E who 0 z.1)) z.1))) z.1)) else some w := fun w who => rfl
  rw [tpkS_eq] at hok hno k1 k2 k3 k4 k5
  have b3 : ∀ p g, 0 ≤ mostS E p g x.ps ∧ mostS E p g x.ps < 3 := fun p g => mostS_b
  have hm3 : ∀ a : Int, 0 ≤ a → a < 3 → x.w (165 + ag E a) ≤ 1 := fun a a0 a1 => by
    have := ag_b hE (p := a) ⟨a0, by omega⟩
    rw [hm _ this.1 this.2.2]; decide
  have tb := b3 2 0
  apply s_X10_trims_250 (layOK n) k493
  refine c_X10_mostFor hE hR hw.1 ⟨by decide, by omega⟩ hP hW set_0 free_0 fun μ1 f1 R1 P1 => ⟨_, rfl, rfl, ?_⟩
  generalize mostS E 2 0 x.ps = third at *
  refine c_X10_takesPiece hE R1 hw ⟨by decide, by omega⟩ tb P1 (by omega) (by have := hm3 2 (by decide) (by decide); omega) fun μ2 R2 P2 f2 => ⟨rfl, rfl, ?_⟩
  have F2 : frW μ μ2 := frW_tr (frQ_W f1) (fr4_W f2)
  have z2 : μ2 493 11 = 0 := by rw [f2 493 11 (by decide), f1 493 11 (Or.inr (by decide)), hf]
  -- behind the choice of the second
  have fin : ∀ (second : Int) (μ3 : Mem), 0 ≤ second → second < 3 → second ≠ third → second = (if x.trimmed = true ∧ third ≠ x.fav then x.fav else mostS E 1 (bShl 1 third) x.ps) → RE μ3 E (takeP E x.w 2 (x.ps third)) → PQ μ3 x.ps → μ3 493 11 = 0 → frW μ μ3 →
      WA mX10_trims 6 (0, 0) 301 [(2, 493), (0, ag E 0), (0, ag E 1), (0, ag E 2), (0, x.fav), (9, 0), (9, 0), (9, 0), (9, 0), (9, 0), (0, tr), (1, en.1), (9, 0), (1, en.2), (9, 0), (0, third), (0, off1 7 third), (9, 0)] [(0, second)] (L0 n) μ3 Q := by
    intro second μ3 s0 s1 sne es R3 P3 z3 F3
    rw [← es] at hok hno k1 k2 k3 k4 k5
    have fb := b3 0 (bOr (bShl 1 third) (bShl 1 second))
    have lne := most_ne2 (E := E) (p := 0) (ps := x.ps) tb ⟨s0, s1⟩
    obtain ⟨⟨a1, a2, a3, a4, a5⟩, ⟨c1, c2, c3, c4⟩, -⟩ := take3_ok (p := 2) (q := 1) (r := 0) (ps := x.ps) (i := third) (j := second) (k := mostS E 0 (bOr (bShl 1 third) (bShl 1 second)) x.ps) hE hN ⟨by decide, by decide⟩ ⟨by decide, by decide⟩ ⟨by decide, by decide⟩ (by decide) (by decide) (by decide) hw (by omega) hm3 hW tb ⟨s0, s1⟩ fb
    apply s_X10_trims_301 (layOK n) k493
    refine c_X10_takesPiece hE R3 a1 ⟨by decide, by omega⟩ ⟨s0, s1⟩ P3 (by omega) a4 fun μ4 R4 P4 f4 => ⟨rfl, rfl, ?_⟩
    refine c_X10_mostFor (gone := bOr (bShl 1 third) (bShl 1 second)) hE R4 c1.1 ⟨by decide, by omega⟩ P4 (by rw [c2]; exact hW) (set_2 tb ⟨s0, s1⟩) (free_2 tb ⟨s0, s1⟩) fun μ5 f5 R5 P5 => ⟨_, rfl, rfl, ?_⟩
    generalize mostS E 0 (bOr (bShl 1 third) (bShl 1 second)) x.ps = last at *
    refine c_X10_takesPiece hE R5 c1 ⟨by decide, by omega⟩ fb P5 (by omega) c4 fun μ6 R6 P6 f6 => ⟨rfl, rfl, ?_⟩
    have F6 : frW μ μ6 := frW_tr F3 (frW_tr (fr4_W f4) (frW_tr (frQ_W f5) (fr4_W f6)))
    have z6 : μ6 493 11 = 0 := by rw [f6 493 11 (by decide), f5 493 11 (Or.inr (by decide)), f4 493 11 (by decide), z3]
    generalize takeP E (takeP E (takeP E x.w 2 (x.ps third)) 1 (x.ps second)) 0 (x.ps last) = w6 at *
    have k1 : WF E.S w6 := k1
    have k2 : w6 3 = x.w 3 := k2
    have k3 : w6 4 = 6 := k3
    have k4 : ∀ a : Int, 0 ≤ a → a < 3 → w6 (165 + ag E a) = 1 := k4
    refine ⟨fun q => ?_, fun q => ?_⟩
    · have nt : ¬ x.trimmed = true := fun y => by rw [if_pos y] at htr; omega
      exact hok w6 (by rw [tcr, if_neg nt]) μ6 R6 z6 F6
    · have yt : x.trimmed = true := by
        cases h : x.trimmed
        · rw [h] at htr
          rw [if_neg (by decide)] at htr
          omega
        · rfl
      obtain ⟨e1, e2⟩ := hcr yt
      obtain ⟨x1, x2, x3⟩ := hcrumbs yt
      obtain ⟨p1, p2, p3, p4⟩ := P6 x.fav hfav.1 hfav.2
      rw [e1] at p3 p4
      have go : ∀ who : Int, who = (if third = x.fav then 2 else 1) → WA mX10_trims 6 (0, 0) 360 [(2, 493), (9, 0), (9, 0), (9, 0), (0, x.fav), (9, 0), (9, 0), (9, 0), (9, 0), (9, 0), (9, 0), (1, en.1), (9, 0), (1, en.2), (9, 0), (9, 0), (9, 0), (9, 0)] [(0, ag E (3 - who)), (0, ag E who), (0, ag E 0), (2, 493)] (L0 n) μ6 Q := by
        intro who ew
        rw [← ew] at hok hno k5
        have k5 : who = 1 ∨ who = 2 := k5
        have hok := fun w' (e : tcrS E x (w6, who) = some w') => hok w' e
        have hno := fun (e : tcrS E x (w6, who) = none) => hno e
        rw [tcr, if_pos yt] at hok hno
        apply s_X10_trims_360 (layOK n) k493 k493
        rw [rf_ref.2.2.2.2.2.2.2.2.1, p3, p4, e2]
        refine ⟨⟨by omega, by omega⟩, ⟨by omega, by omega⟩, ⟨by omega, by omega⟩, ⟨by omega, by omega⟩, ⟨by omega, by omega⟩, c_X10_sharesTrimmings (a := x.crumbs.1) (b := x.crumbs.2) hE hN R6 k1 k3 k4 k5 (by rw [k2]; exact x1) (by rw [k2]; exact x2) x3 z6 ?_ ?_⟩
        · intro ps w7 hx μ7 R7 z7 f7
          exact ⟨rfl, rfl, hok _ (by rw [hx]; rfl) μ7 R7 z7 (frW_tr F6 f7)⟩
        · intro hx μ7 w7 R7 z7 f7
          exact ⟨rfl, rfl, hno (by rw [hx]; rfl) μ7 w7 R7 z7 (frW_tr F6 f7)⟩
      refine ⟨fun y => ⟨fun _ => ?_, fun y2 => absurd y2 y⟩, fun y => ⟨fun y2 => absurd y y2, fun _ => ?_⟩⟩
      · exact go 1 (by rw [if_neg y])
      · exact go 2 (by rw [if_pos y])
  have alone : ¬ (x.trimmed = true ∧ third ≠ x.fav) → TR mX10_mostFor 4 (0, 0) [(2, 493), (0, ag E 1), (0, bAnd 7 (bXor (bShl 1 third) (-1)))] (L0 n) μ2 (fun r8 L9 μ10 => ∃ w11, r8 = some (0, w11) ∧ (L0 n) = L9 ∧ WA mX10_trims 6 (0, 0) 301 [(2, 493), (0, ag E 0), (0, ag E 1), (0, ag E 2), (0, x.fav), (9, 0), (9, 0), (9, 0), (9, 0), (9, 0), (0, tr), (1, en.1), (9, 0), (1, en.2), (9, 0), (0, third), (0, bAnd 7 (bXor (bShl 1 third) (-1))), (9, 0)] [(0, w11)] (L0 n) μ10 Q) := fun h => by
    obtain ⟨⟨a1, a2, a3, a4, a5⟩, -⟩ := take3_ok (p := 2) (q := 1) (r := 0) (ps := x.ps) (i := third) (j := third) (k := third) hE hN ⟨by decide, by decide⟩ ⟨by decide, by decide⟩ ⟨by decide, by decide⟩ (by decide) (by decide) (by decide) hw (by omega) hm3 hW tb tb tb
    refine c_X10_mostFor (gone := bShl 1 third) hE R2 a1.1 ⟨by decide, by omega⟩ P2 (by rw [a2]; exact hW) (set_1 tb) (free_1 tb) fun μ3 f3 R3 P3 => ⟨_, rfl, rfl, ?_⟩
    exact fin _ μ3 (b3 1 _).1 (b3 1 _).2 (most_ne tb) (by rw [if_neg h]) R3 P3 (by rw [f3 493 11 (Or.inr (by decide)), z2]) (frW_tr F2 (frQ_W f3))
  refine ⟨fun q => alone (fun y => by rw [if_pos y.1] at htr; omega), fun q => ⟨fun q2 => alone (fun y => y.2 q2), fun q2 => ?_⟩⟩
  have yt : x.trimmed = true := by
    cases h : x.trimmed
    · rw [h] at htr
      rw [if_neg (by decide)] at htr
      omega
    · rfl
  exact fin x.fav μ2 hfav.1 hfav.2 (fun e => q2 e.symm) (by rw [if_pos ⟨yt, q2⟩]) R2 P2 z2 F2
theorem c_X10_trims {E : WEnv} {w : Dv} (hE : EnvOK E) (hN : E.N = 3) (hR : RE μ E w) (hw : WF E.S w) (h4 : w 4 = 0) (hm : ∀ a : Int, 0 ≤ a → a < 5 → w (165 + a) = 0) (hf : μ 493 11 = 0)
    (hok : ∀ w', wayT E w = some w' → ∀ μ', RE μ' E w' → μ' 493 11 = 0 → frW μ μ' → Q none (L0 n) μ')
    (hno : wayT E w = none → ∀ μ' w', RE μ' E w' → μ' 493 11 = 1 → frW μ μ' → Q none (L0 n) μ') : TR mX10_trims 6 (0, 0) [(2, 493)] (L0 n) μ Q := by
  have hS := hE.1
  have hag := ag_b hE (p := 1) ⟨by decide, by omega⟩
  have hrow := hE.2.2.2 _ hag.1 hag.2.2
  have trm : trmS E w = (thrS E w 0 ((0, 1), ((E.S : Int), 1))).bind fun x => if hasP E 1 (x.1 (mostS E 1 (bShl 1 (mostS E 1 0 x.1)) x.1)) * denP (x.1 (mostS E 1 0 x.1)) < hasP E 1 (x.1 (mostS E 1 0 x.1)) * denP (x.1 (mostS E 1 (bShl 1 (mostS E 1 0 x.1)) x.1)) then
      (pmS E x.2 1 (x.1 (mostS E 1 0 x.1)).1 (x.1 (mostS E 1 (bShl 1 (mostS E 1 0 x.1)) x.1)).1 (x.1 (mostS E 1 (bShl 1 (mostS E 1 0 x.1)) x.1)).2 1 1).map fun y =>
        ((updP x.1 (mostS E 1 0 x.1) ((x.1 (mostS E 1 0 x.1)).1, y.1), noteS y.2 1 (ag E 1) y.1 (x.1 (mostS E 1 0 x.1)).2, mostS E 1 0 x.1, true, (y.1, (x.1 (mostS E 1 0 x.1)).2)) : TSt)
      else some ((x.1, noteS x.2 2 (ag E 1) (x.1 (mostS E 1 0 x.1)).2 (0, 1), mostS E 1 0 x.1, false, ((0, 1), (0, 1))) : TSt) := rfl
  unfold wayT at hok hno
  apply t_X10_trims (layOK n) k493
  refine c_E_ord hE hR ⟨by decide, by omega⟩ ⟨_, rfl, rfl, c_E_ord hE hR ⟨by decide, by omega⟩ ⟨_, rfl, rfl, c_E_ord hE hR ⟨by decide, by omega⟩ ⟨_, rfl, rfl, c_X10_ends hR.1 ⟨_, rfl, rfl, ?_⟩⟩⟩⟩
  rw [← hR.2.2.1.1]
  refine c_X10_thirds (a := (0, 1)) (b := ((E.S : Int), 1)) hE hR hw (by omega) ⟨by decide, by omega⟩ (ptW_Zu (by omega)) (ptW_S (by omega)) (show (0 : Int) * 1 ≤ E.S * 1 by omega) hf ?_ ?_
  · intro ps w1 ht μ1 R1 P1 z1 F1
    obtain ⟨t1, t2, t3, t4, t5, -⟩ := thrS_ok hE ⟨by decide, by omega⟩ hw (ptW_Zu (by omega)) (ptW_S (by omega)) (show (0 : Int) * 1 ≤ E.S * 1 by omega) (by omega) ht
    have fb := mostS_b (E := E) (p := 1) (gone := 0) (ps := ps)
    have sb := mostS_b (E := E) (p := 1) (gone := bShl 1 (mostS E 1 0 ps)) (ps := ps)
    have hTI := fun x => trmS_ok (x := x) hE hN hw h4 hm
    rw [ht] at trm
    have trm : trmS E w = if hasP E 1 (ps (mostS E 1 (bShl 1 (mostS E 1 0 ps)) ps)) * denP (ps (mostS E 1 0 ps)) < hasP E 1 (ps (mostS E 1 0 ps)) * denP (ps (mostS E 1 (bShl 1 (mostS E 1 0 ps)) ps)) then
      (pmS E w1 1 (ps (mostS E 1 0 ps)).1 (ps (mostS E 1 (bShl 1 (mostS E 1 0 ps)) ps)).1 (ps (mostS E 1 (bShl 1 (mostS E 1 0 ps)) ps)).2 1 1).map fun y =>
        ((updP ps (mostS E 1 0 ps) ((ps (mostS E 1 0 ps)).1, y.1), noteS y.2 1 (ag E 1) y.1 (ps (mostS E 1 0 ps)).2, mostS E 1 0 ps, true, (y.1, (ps (mostS E 1 0 ps)).2)) : TSt)
      else some ((ps, noteS w1 2 (ag E 1) (ps (mostS E 1 0 ps)).2 (0, 1), mostS E 1 0 ps, false, ((0, 1), (0, 1))) : TSt) := trm
    refine ⟨rfl, rfl, fun _ => ?_, fun q => absurd z1 q⟩
    refine c_X10_mostFor hE R1 t1.1 ⟨by decide, by omega⟩ P1 t5 set_0 free_0 fun μ2 f2 R2 P2 => ⟨_, rfl, rfl, ?_⟩
    refine c_X10_mostFor (gone := bShl 1 (mostS E 1 0 ps)) hE R2 t1.1 ⟨by decide, by omega⟩ P2 t5 (set_1 fb) (free_1 fb) fun μ3 f3 R3 P3 => ⟨_, rfl, rfl, ?_⟩
    have trmk := fun m w' => trim_mark (w1 := w') (m := m) hE hN t1 t5 fb sb
    generalize mostS E 1 (bShl 1 (mostS E 1 0 ps)) ps = sec at *
    generalize mostS E 1 0 ps = fav at *
    refine c_X10_worthOfPiece hE R3 t1.1 ⟨by decide, by omega⟩ fb P3 t5 fun μ4 f4 fr4 R4 P4 => ⟨rfl, rfl, ?_⟩
    refine c_X10_worthOfPiece hE R4 t1.1 ⟨by decide, by omega⟩ sb P4 t5 fun μ5 f5 fr5 R5 P5 => ⟨rfl, rfl, ?_⟩
    have F5 : frW μ μ5 := frW_tr F1 (frW_tr (frQ_W f2) (frW_tr (frQ_W f3) (frW_tr (frQ_W f4) (frQ_W f5))))
    have z5 : μ5 493 11 = 0 := by rw [f5 493 11 (Or.inr (by decide)), f4 493 11 (Or.inr (by decide)), f3 493 11 (Or.inr (by decide)), f2 493 11 (Or.inr (by decide)), z1]
    rw [fr5.1, fr5.2, fr4.1, fr4.2]
    obtain ⟨x1, x2, x3⟩ := t5 fav fb.1 fb.2
    obtain ⟨y1, y2, y3⟩ := t5 sec sb.1 sb.2
    have x12 := x1.2.1
    have x22 := x2.2.1
    have y12 := y1.2.1
    have y22 := y2.2.1
    have u1 := t1.1.1
    have u2 := t1.1.2
    have Df : 0 < denP (ps fav) := Int.mul_pos (by omega) (by omega)
    have Ds : 0 < denP (ps sec) := Int.mul_pos (by omega) (by omega)
    have nf := (wv_b (row := E.T (ag E 1)) (S := E.S) (a := (ps fav).1) (b := (ps fav).2) hrow hS.2 x12 x22 x3).1
    have ns := (wv_b (row := E.T (ag E 1)) (S := E.S) (a := (ps sec).1) (b := (ps sec).2) hrow hS.2 y12 y22 y3).1
    have dvs := rdD_W (a := ag E 1) t1.1 y1 y2
    have lf := Int.le_of_dvd (show 0 < w1 3 by omega) (rdD_W (a := ag E 1) t1.1 x1 x2)
    have ls := Int.le_of_dvd (show 0 < w1 3 by omega) dvs
    have df := rdD_pos (x := hasP E 1 (ps fav)) Df
    have ds := rdD_pos (x := hasP E 1 (ps sec)) Ds
    have lf : rdD (hasP E 1 (ps fav)) (denP (ps fav)) ≤ w1 3 := lf
    have ls : rdD (hasP E 1 (ps sec)) (denP (ps sec)) ≤ w1 3 := ls
    have pb := mulLB (show 0 ≤ rdD (hasP E 1 (ps sec)) (denP (ps sec)) by omega) (show 0 ≤ rdD (hasP E 1 (ps fav)) (denP (ps fav)) by omega) (Int.le_trans ls u2) (Int.le_trans lf u2)
    have cmp := rd_lt (x := hasP E 1 (ps sec)) (x' := hasP E 1 (ps fav)) Ds Df
    obtain ⟨p1, p2, p3, p4⟩ := P5 fav fb.1 fb.2
    refine c_X10_isLess (rdN_nn ns) ds (rdN_nn nf) df (by omega) fun r hr => ⟨r, rfl, rfl, ?_⟩
    rw [rf_ref.2.2.2.2.2.2.2.2.1, p1, p2, p3, p4]
    refine ⟨⟨by omega, by omega⟩, ⟨by omega, by omega⟩, ⟨by omega, by omega⟩, ⟨by omega, by omega⟩, ⟨by omega, by omega⟩, fun q => ?_, fun q => ?_⟩
    · rw [if_neg (show ¬ hasP E 1 (ps sec) * denP (ps fav) < hasP E 1 (ps fav) * denP (ps sec) from fun y => by have := cmp.mpr y; omega)] at trm
      have hT := hTI _ trm
      rw [trm] at hok hno
      subst q
      refine c_E_note (p := (ps fav).2) (q := (0, 1)) R5 ⟨t1.2.1.1, by omega⟩ fun μ6 R6 f6 => ⟨rfl, rfl, ?_⟩
      refine c_trims_250 (x := (ps, noteS w1 2 (ag E 1) (ps fav).2 (0, 1), fav, false, ((0, 1), (0, 1)))) (en := (ps fav).2) hE hN hT R6 (PQ_fr P5 (fun i => f6 502 i (by decide))) rfl (fun y => absurd (show false = true from y) (by decide)) (by rw [f6 493 11 (by decide), z5]) (fun w' e μ7 R7 z7 f7 => hok w' e μ7 R7 z7 (frW_tr F5 (frW_tr (fr4_W f6) f7))) (fun e μ7 w7 R7 z7 f7 => hno e μ7 w7 R7 z7 (frW_tr F5 (frW_tr (fr4_W f6) f7)))
    · have lt : hasP E 1 (ps sec) * denP (ps fav) < hasP E 1 (ps fav) * denP (ps sec) := cmp.mp (by omega)
      have er : r = 1 := by omega
      subst er
      rw [if_pos lt] at trm
      have due := (trmk (0, 1) w1 lt).1
      have cr := rd_cross (hasP E 1 (ps sec)) (denP (ps sec))
      refine ⟨⟨by omega, by omega⟩, ⟨by omega, by omega⟩, ⟨by omega, by omega⟩, ?_⟩
      rw [fr5.1, fr5.2]
      refine c_E_mark (st := (ps fav).1) (a := (ps sec).1) (b := (ps sec).2) (over := 1) (under := 1) (u := w1 3) (v := (rdN (hasP E 1 (ps sec)) (denP (ps sec)), rdD (hasP E 1 (ps sec)) (denP (ps sec)))) hE R5 t1 ⟨by decide, by omega⟩ x1 y1 y2 y3 (by decide) (by decide) due ⟨rdN_nn ns, ds⟩ ?_ ⟨by omega, by omega⟩ x1.2.2.2.1 dvs (by omega) z5 (Or.inl rfl) ?_ ?_
      · show rdN (hasP E 1 (ps sec)) (denP (ps sec)) * (denP (ps sec) * 1) = hasP E 1 (ps sec) * 1 * rdD (hasP E 1 (ps sec)) (denP (ps sec))
        rw [Int.mul_one, Int.mul_one]
        exact cr
      · intro m w2 hpm μ6 R6 pu z6 f6
        rw [if_neg (by decide)] at R6
        obtain ⟨j1, j2, j3, j4, j5, j6⟩ := (trmk m w2 lt).2 hpm
        rw [hpm] at trm
        have trm : trmS E w = some ((updP ps fav ((ps fav).1, m), noteS w2 1 (ag E 1) m (ps fav).2, fav, true, (m, (ps fav).2)) : TSt) := trm
        have hT := hTI _ trm
        rw [trm] at hok hno
        have e24 : w2 4 = w1 4 := by rw [j4, setU_ne (by decide)]
        have P6 : PQ μ6 ps := PQ_fr P5 (fun i => f6 502 i (Or.inl (by decide)) (by decide) (Or.inl (by decide)))
        refine ⟨rfl, rfl, fun _ => ⟨⟨hag.1, hag.2.2⟩, ?_⟩, fun y => absurd z6 y⟩
        rw [rf_ref.2.2.2.2.1, rf_ref.2.2.2.2.2.1, pu.1, pu.2]
        refine c_E_note (p := m) (q := (ps fav).2) R6 ⟨j2.2.1.1, by omega⟩ fun μ7 R7 f7 => ⟨rfl, rfl, ?_⟩
        have pu7 : PU μ7 (ag E 1) m := PU_fr pu (f7 498 _ (by decide)) (f7 499 _ (by decide))
        have P7 : PQ μ7 ps := PQ_fr P6 (fun i => f7 502 i (by decide))
        have e8 : up μ7 502 (4 * fav + 2) (μ7 498 (ag E 1)) 499 (ag E 1) = m.2 := by rw [up_ne (Or.inl (by decide))]; exact pu7.2
        rw [e8, pu7.1]
        generalize hμ8 : up (up μ7 502 (4 * fav + 2) m.1) 502 (4 * fav + 3) m.2 = μ8
        have f8 : ∀ x i, x ≠ 502 → μ8 x i = μ7 x i := fun x i h => by rw [← hμ8, up_ne (Or.inl h), up_ne (Or.inl h)]
        have R8 : RE μ8 E (noteS w2 1 (ag E 1) m (ps fav).2) := RE_step R7 (fun _ _ _ _ => rfl) (RWm_fr R7.1 (fun i => f8 494 i (by decide))) (f8 493 12 (by decide))
        have P8 : PQ μ8 (updP ps fav ((ps fav).1, m)) := by
          intro k k0 k1
          unfold updP
          obtain ⟨v1, v2, v3, v4⟩ := P7 k k0 k1
          by_cases e : k = fav
          · subst e
            rw [if_pos rfl, ← hμ8]
            refine ⟨?_, ?_, ?_, ?_⟩
            · rw [up_ne (Or.inr (by omega)), up_ne (Or.inr (by omega)), v1]
            · rw [up_ne (Or.inr (by omega)), up_ne (Or.inr (by omega)), v2]
            · rw [up_ne (Or.inr (by omega)), up_eq]
            · rw [up_eq]
          · rw [if_neg e, ← hμ8]
            refine ⟨?_, ?_, ?_, ?_⟩
            · rw [up_ne (Or.inr (by omega)), up_ne (Or.inr (by omega)), v1]
            · rw [up_ne (Or.inr (by omega)), up_ne (Or.inr (by omega)), v2]
            · rw [up_ne (Or.inr (by omega)), up_ne (Or.inr (by omega)), v3]
            · rw [up_ne (Or.inr (by omega)), up_ne (Or.inr (by omega)), v4]
        have F8 : frW μ μ8 := frW_tr F5 (frW_tr (frP_W f6) (frW_tr (fr4_W f7) (fun x i hx => f8 x i (by omega))))
        refine c_trims_250 (x := (updP ps fav ((ps fav).1, m), noteS w2 1 (ag E 1) m (ps fav).2, fav, true, (m, (ps fav).2))) (en := (ps fav).2) hE hN hT R8 P8 rfl (fun _ => ⟨?_, rfl⟩) (by rw [f8 493 11 (by decide), f7 493 11 (by decide), z6]) (fun w' e μ9 R9 z9 f9 => hok w' e μ9 R9 z9 (frW_tr F8 f9)) (fun e μ9 w9 R9 z9 f9 => hno e μ9 w9 R9 z9 (frW_tr F8 f9))
        show (updP ps fav ((ps fav).1, m) fav).2 = m
        unfold updP
        rw [if_pos rfl]
      · intro hpm m μ6 R6 pu m1' m2' z6 f6
        rw [hpm] at trm
        have trm : trmS E w = none := trm
        rw [trm] at hno
        exact ⟨rfl, rfl, fun y => absurd (y.symm.trans z6) (by decide), fun _ => hno rfl μ6 w1 R6 z6 (frW_tr F5 (frP_W f6))⟩
  · intro ht μ1 w1 R1 z1 F1
    rw [ht] at trm
    have trm : trmS E w = none := trm
    rw [trm] at hno
    exact ⟨rfl, rfl, fun y => absurd (y.symm.trans z1) (by decide), fun _ => hno rfl μ1 w1 R1 z1 F1⟩
end
/-- the numbers of a way, out of the reference's row -/
def EW (w : Dv) (f : Int) : WEnv := (fun a => rowW w a 1, (w 0).toNat, w 1, f)
theorem EW_ok {w : Dv} {f : Int} (h : SW w) (hf : 0 ≤ f ∧ f < w 1) : EnvOK (EW w f) := by
  obtain ⟨h1, h2, h3⟩ := h
  refine ⟨⟨?_, ?_⟩, h2, hf, fun a a0 a1 => h3 a 1 a0 a1⟩
  · show 2 ≤ (w 0).toNat; omega
  · show (w 0).toNat ≤ 16; omega
theorem EW_S {w : Dv} {f : Int} (h : SW w) : ((EW w f).S : Int) = w 0 := by
  have := h.1
  show (((w 0).toNat : Nat) : Int) = w 0
  omega
/-- what going a way leaves -/
def frG (μ μ' : Mem) : Prop := ∀ x i : Int, ((x ≠ 493 ∧ x ≠ 494 ∧ (x < 498 ∨ 502 < x)) ∨ (x = 493 ∧ i ≠ 4 ∧ i ≠ 5 ∧ i ≠ 11 ∧ i ≠ 12 ∧ i ≠ 15 ∧ i ≠ 18)) → μ' x i = μ x i
section
variable {n : Int} {μ : Mem} {Q : Option AV → Lay → Mem → Prop}
theorem c_X10_goes {w : Dv} {way f : Int} (hr : RWm μ w) (hs : SW w) (hf : 0 ≤ f ∧ f < w 1) (hway : 0 ≤ way ∧ way ≤ 4) (h4 : way = 4 → w 1 = 3)
    (hok : ∀ w', goS (EW w f) (clrW (hsW w 1)) way = some w' → GK (EW w f) (clrW (hsW w 1)) w' → ∀ μ', RWm μ' w' → frG μ μ' → Q (some (0, 1)) (L0 n) μ')
    (hno : goS (EW w f) (clrW (hsW w 1)) way = none → ∀ μ', frG μ μ' → Q (some (0, 0)) (L0 n) μ') : TR mX10_goes 7 (0, 0) [(2, 493), (0, way), (0, f)] (L0 n) μ Q := by
  have hE := EW_ok hs hf
  have eS := EW_S (f := f) hs
  obtain ⟨c3, c4, cm, co⟩ := clrW_at (w := hsW w 1)
  have hw := clrW_WF (S := (EW w f).S) (w := hsW w 1)
  have hGK := fun w' => goS_GK (E := EW w f) (w := hsW w 1) (w' := w') (way := way) hE h4 hway
  apply t_X10_goes (layOK n) k493
  refine c_X10_undivided hr fun μ1 r1 f1 => ⟨rfl, rfl, ?_⟩
  rw [rf_ref.1]
  generalize hμ2 : up (up (up μ1 494 2 1) 493 11 0) 493 12 f = μ2
  have f2 : ∀ x i, (x ≠ 493 ∨ (i ≠ 11 ∧ i ≠ 12)) → x ≠ 494 → μ2 x i = μ x i := fun x i h1 h2 => by rw [← hμ2, up_ne (by omega), up_ne (by omega), up_ne (by omega), f1 x i h2]
  have z2 : μ2 493 11 = 0 := by rw [← hμ2, up_ne (Or.inr (by decide)), up_eq]
  have r2 : RWm μ2 (clrW (hsW w 1)) := fun i i0 i1 => by
    rw [← hμ2, up_ne (Or.inl (by decide)), up_ne (Or.inl (by decide))]
    by_cases e : i = 2
    · rw [e, up_eq, co 2 (by decide) (by decide) (Or.inl (by decide))]
      rfl
    · rw [up_ne (Or.inr e), r1 i i0 i1, hsW_ne e]
      unfold clrW
      rw [hsW_ne e]
  have low : ∀ i : Int, i < 165 → i ≠ 2 → i ≠ 3 → i ≠ 4 → clrW (hsW w 1) i = w i := fun i i1 i2 i3 i4 => by rw [co i i3 i4 (Or.inl i1), hsW_ne i2]
  have R2 : RE μ2 (EW w f) (clrW (hsW w 1)) := by
    refine ⟨r2, SW_of hs low, ⟨?_, ?_, fun a s a0 a1 s0 s1 => ?_⟩, by rw [← hμ2, up_eq]; rfl⟩
    · rw [eS, low 0 (by decide) (by decide) (by decide) (by decide)]
    · rw [low 1 (by decide) (by decide) (by decide) (by decide)]
      rfl
    · rw [low _ (by omega) (by omega) (by omega) (by omega)]
      show rowW w a 1 s = _
      unfold rowW
      rw [if_neg (by decide)]
  have fG : ∀ μ3, frW μ2 μ3 → frG μ μ3 := fun μ3 h x i hx => (h x i (by omega)).trans (f2 x i (by omega) (by omega))
  have fin1 : ∀ w', goS (EW w f) (clrW (hsW w 1)) way = some w' → ∀ μ3, RE μ3 (EW w f) w' → μ3 493 11 = 0 → frW μ2 μ3 → (none : Option AV) = none ∧ (L0 n) = (L0 n) ∧ (¬ μ3 493 11 = 0 → Q (some (0, 0)) (L0 n) μ3) ∧ (μ3 493 11 = 0 → Q (some (0, 1)) (L0 n) μ3) := fun w' e μ3 R3 z3 f3 => ⟨rfl, rfl, fun q => absurd z3 q, fun _ => hok w' e (hGK w' e) μ3 R3.1 (fG μ3 f3)⟩
  have fin0 : goS (EW w f) (clrW (hsW w 1)) way = none → ∀ μ3, μ3 493 11 = 1 → frW μ2 μ3 → (none : Option AV) = none ∧ (L0 n) = (L0 n) ∧ (¬ μ3 493 11 = 0 → Q (some (0, 0)) (L0 n) μ3) ∧ (μ3 493 11 = 0 → Q (some (0, 1)) (L0 n) μ3) := fun e μ3 z3 f3 => ⟨rfl, rfl, fun _ => hno e μ3 (fG μ3 f3), fun q => absurd (q.symm.trans z3) (by decide)⟩
  clear hok hno
  refine ⟨⟨fun q => ?_, fun q => ?_, fun q => ?_, fun q => ?_⟩, fun q => ?_⟩
  · have e : goS (EW w f) (clrW (hsW w 1)) way = wayC (EW w f) (clrW (hsW w 1)) := by unfold goS; rw [if_pos q]
    rw [e] at fin1 fin0
    exact c_X10_chooses hE R2 hw c4 cm z2 (fun w' e1 μ3 R3 z3 f3 => fin1 w' e1 μ3 R3 z3 f3) (fun e1 μ3 R3 z3 f3 => fin0 e1 μ3 z3 f3)
  · have e : goS (EW w f) (clrW (hsW w 1)) way = wayK (EW w f) (clrW (hsW w 1)) := by unfold goS; rw [if_neg (by omega), if_pos q]
    rw [e] at fin1 fin0
    exact c_X10_knife hE R2 hw c4 cm z2 (fun w' e1 μ3 R3 z3 f3 => fin1 w' e1 μ3 R3 z3 f3) (fun e1 μ3 w3 R3 z3 f3 => fin0 e1 μ3 z3 f3)
  · have e : goS (EW w f) (clrW (hsW w 1)) way = wayD (EW w f) (clrW (hsW w 1)) := by unfold goS; rw [if_neg (by omega), if_neg (by omega), if_pos q]
    rw [e] at fin1 fin0
    exact c_X10_diminish hE R2 hw c4 cm z2 (fun w' e1 μ3 R3 z3 f3 => fin1 w' e1 μ3 R3 z3 f3) (fun e1 μ3 w3 R3 z3 f3 => fin0 e1 μ3 z3 f3)
  · have e : goS (EW w f) (clrW (hsW w 1)) way = wayH (EW w f) (clrW (hsW w 1)) := by unfold goS; rw [if_neg (by omega), if_neg (by omega), if_neg (by omega), if_pos q]
    rw [e] at fin1 fin0
    exact c_X10_halves hE R2 hw c4 cm z2 (fun w' e1 μ3 R3 z3 f3 => fin1 w' e1 μ3 R3 z3 f3) (fun e1 μ3 w3 R3 z3 f3 => fin0 e1 μ3 z3 f3)
  · have e : goS (EW w f) (clrW (hsW w 1)) way = wayT (EW w f) (clrW (hsW w 1)) := by unfold goS; rw [if_neg (by omega), if_neg (by omega), if_neg (by omega), if_neg (by omega)]
    rw [e] at fin1 fin0
    exact c_X10_trims hE (h4 (by omega)) R2 hw c4 cm z2 (fun w' e1 μ3 R3 z3 f3 => fin1 w' e1 μ3 R3 z3 f3) (fun e1 μ3 w3 R3 z3 f3 => fin0 e1 μ3 z3 f3)
end
