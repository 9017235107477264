section
variable {n : Int} {μ : Mem} {Q : Option AV → Lay → Mem → Prop}
theorem c_X10_diminish {E : WEnv} {w : Dv} (hE : EnvOK E) (hR : RE μ E w) (hw : WF E.S w) (h4 : w 4 = 0) (hm : ∀ a : Int, 0 ≤ a → a < 5 → w (165 + a) = 0) (hf : μ 493 11 = 0)
    (hok : ∀ w', wayD E w = some w' → ∀ μ', RE μ' E w' → μ' 493 11 = 0 → frW μ μ' → Q none (L0 n) μ')
    (hno : wayD E w = none → ∀ μ' w', RE μ' E w' → μ' 493 11 = 1 → frW μ μ' → Q none (L0 n) μ') : TR mX10_diminish 5 (0, 0) [(2, 493)] (L0 n) μ Q := by
  have hN := hE.2.1
  have hS := hE.1
  have eN : ((E.N.toNat : Nat) : Int) = E.N := by omega
  have key : ∀ (d j : Nat), (j : Int) + d + 1 = E.N → ∀ g rest w1 left μ1, dmS E w j = some (g, rest, w1) → RE μ1 E w1 → AM E left g → μ1 493 11 = 0 → frW μ μ1 → WA mX10_diminish 5 (0, 0) 20 [(2, 493), (0, left), (1, rest.1), (9, 0), (1, rest.2), (9, 0), (0, E.N - j), (9, 0), (9, 0), (9, 0)] [] (L0 n) μ1 Q := by
    intro d
    induction d with
    | zero =>
      intro j hj g rest w1 left μ1 e1 R1 A1 z1 f1
      obtain ⟨k1, k2, k3, k4, k5, k6, k7⟩ := dmS_ok hE hw h4 hm j _ (by omega) e1
      have k11 : 0 < g := k1.1
      have k12 : g < 32 := k1.2
      have k3 : cnt g = E.N - j := k3
      have k5 : WF E.S w1 := k5
      have k6 : w1 4 ≤ ev E.N j := k6
      have eb := (ev_b hN j (by omega)).2.1 (by omega)
      obtain ⟨g1, g2, g3⟩ := fsO_ok (g := g) ⟨k11, k12⟩
      have gN : fsO g < E.N := k2 _ g1.1 g1.2 g2
      have hag := ag_b hE ⟨g1.1, gN⟩
      have z : w1 (165 + ag E (fsO g)) = 0 := k7 _ g1.1 gN g2
      apply s_X10_diminish_20 (layOK n) k493
      refine ⟨fun _ => c_E_last hE R1 A1 ⟨k11, k12⟩ k2 (by omega) ⟨_, rfl, rfl, c_X10_ends R1.1 ⟨_, rfl, rfl, ?_⟩⟩, fun q => absurd (show E.N - (j : Int) ≤ 1 by omega) q⟩
      rw [← R1.2.2.1.1]
      refine c_E_take (p := rest) (q := ((E.S : Int), 1)) R1 k5 ⟨hag.1, hag.2.2⟩ (by omega) (by omega) fun μ2 R2 f2 => ⟨rfl, rfl, hok _ ?_ μ2 R2 (by rw [f2 493 11 (by decide), z1]) (frW_tr f1 (fr4_W f2))⟩
      unfold wayD
      rw [show E.N.toNat - 1 = j by omega, e1]
      rfl
    | succ d ih =>
      intro j hj g rest w1 left μ1 e1 R1 A1 z1 f1
      have i1' := dmS_ok hE hw h4 hm j _ (by omega) e1
      obtain ⟨k1, k2, k3, k4, k5, k6, k7⟩ := i1'
      have i1' := dmS_ok hE hw h4 hm j _ (by omega) e1
      have k11 : 0 < g := k1.1
      have k12 : g < 32 := k1.2
      have k2 : ∀ p : Int, 0 ≤ p → p < 5 → bt g p → p < E.N := k2
      have k3 : cnt g = E.N - j := k3
      have k4 : ptW E.S (w1 3) rest.1 rest.2 := k4
      have k5 : WF E.S w1 := k5
      have k6 : w1 4 ≤ ev E.N j := k6
      have eb := (ev_b hN j (by omega)).2.2 (by omega)
      have c5 : cntN g E.N.toNat ≤ cnt g := cntN_le (by omega)
      have step : dmS E w (j + 1) = (dmI E g rest (E.N - j) w1 E.N.toNat).map fun y => (off1 g y.1, y.2.1, takeS y.2.2 (ag E y.1) rest y.2.1) := by
        conv => lhs; unfold dmS
        rw [e1]
        rfl
      have full_ : ∀ i : Nat, i ≤ E.N.toNat → dmI E g rest (E.N - j) w1 i = none → ∀ (μ2 : Mem) (w2 : Dv) (fd ii : Int), RE μ2 E w2 → μ2 493 11 = 1 → frW μ μ2 → WA mX10_diminish 5 (0, 0) 32 [(2, 493), (0, left), (1, rest.1), (9, 0), (1, rest.2), (9, 0), (0, E.N - j), (0, fd), (0, ii), (9, 0)] [] (L0 n) μ2 Q := by
        intro i hi e μ2 w2 fd ii R2 z2 f2
        have out : WA mX10_diminish 5 (0, 0) 150 [(2, 493), (0, left), (1, rest.1), (9, 0), (1, rest.2), (9, 0), (0, E.N - j), (0, fd), (9, 0), (9, 0)] [] (L0 n) μ2 Q := by
          apply s_X10_diminish_150 (layOK n) k493
          refine ⟨fun q => absurd (q.symm.trans z2) (by decide), fun _ => hno ?_ μ2 w2 R2 z2 f2⟩
          have e0 : dmS E w (j + 1) = none := by
            rw [step, dmI_none (j := i) e _ hi]
            rfl
          unfold wayD
          rw [dmS_none (j := j + 1) e0 _ (by omega)]
          rfl
        apply s_X10_diminish_32 (layOK n) k493
        exact c_X10_agents R2.1 R2.2.1 ⟨_, rfl, rfl, fun _ => out, fun _ => ⟨fun _ => out, fun q => absurd (q.symm.trans z2) (by decide)⟩⟩
      have inner : ∀ (d' i : Nat), (i : Int) + d' = E.N → ∀ hold m w2 μ2, dmI E g rest (E.N - j) w1 i = some (hold, m, w2) → RE μ2 E w2 → (0 ≤ hold → PU μ2 (ag E hold) m) → μ2 493 11 = 0 → frW μ μ2 →
          WA mX10_diminish 5 (0, 0) 32 [(2, 493), (0, left), (1, rest.1), (9, 0), (1, rest.2), (9, 0), (0, E.N - j), (0, agL E hold), (0, (i : Int)), (9, 0)] [] (L0 n) μ2 Q := by
        intro d'
        induction d' with
        | zero =>
          intro i hi hold m w2 μ2 hy R2 P2 z2 f2
          have ei : i = E.N.toNat := by omega
          subst ei
          obtain ⟨d1, d2, d3, d4, d5⟩ := dmI_ok hE (by omega) k5 k4 E.N.toNat _ (by omega) (by omega) hy
          obtain ⟨q1, q2, q3⟩ := fsO_ok (g := g) ⟨k11, k12⟩
          rw [eN] at d5
          obtain ⟨y1, y2, y3, y4, y5⟩ := d5.resolve_left (fun z => z.2 _ q1.1 (k2 _ q1.1 q1.2 q2) q2)
          have y1 : 0 ≤ hold := y1
          have y2 : hold < E.N := y2
          have d1 : WF E.S w2 := d1
          obtain ⟨s1, s2, s3, s4⟩ := KI_step hE (by omega) i1' d1 d2 (Int.le_of_eq d3) d4 ⟨y1, y2⟩ y3 y4 y5
          have hag := ag_b hE ⟨y1, y2⟩
          have pl := P2 y1
          rw [hy] at step
          have step : dmS E w (j + 1) = some (off1 g hold, m, takeS w2 (ag E hold) rest m) := step
          have eA : agL E hold = ag E hold := by unfold agL; rw [if_neg (by omega)]
          have s3 : w2 (165 + ag E hold) = 0 := s3
          have s4 : w2 4 ≤ 18 := s4
          rw [eA]
          apply s_X10_diminish_32 (layOK n) k493
          have out : WA mX10_diminish 5 (0, 0) 150 [(2, 493), (0, left), (1, rest.1), (9, 0), (1, rest.2), (9, 0), (0, E.N - j), (0, ag E hold), (9, 0), (9, 0)] [] (L0 n) μ2 Q := by
            apply s_X10_diminish_150 (layOK n) k493
            rw [rf_ref.2.2.2.2.1, rf_ref.2.2.2.2.2.1, pl.1, pl.2]
            refine ⟨fun _ => ⟨⟨hag.1, hag.2.2⟩, c_E_take (p := rest) (q := m) R2 d1 ⟨hag.1, hag.2.2⟩ (by omega) (by omega) fun μ3 R3 f3 => ⟨rfl, rfl, ⟨by omega, by omega⟩, ?_⟩⟩, fun q => absurd z2 q⟩
            have pl3 := PU_fr pl (f3 498 (ag E hold) (by decide)) (f3 499 (ag E hold) (by decide))
            rw [pl3.1, pl3.2, show E.N - (j : Int) + -1 = E.N - ((j + 1 : Nat) : Int) by omega]
            exact ih (j + 1) (by omega) _ _ _ _ μ3 step R3 (AM_off hE A1 ⟨by omega, k12⟩ ⟨y1, y2⟩) (by rw [f3 493 11 (by decide), z2]) (frW_tr f2 (fr4_W f3))
          exact c_X10_agents R2.1 R2.2.1 ⟨_, rfl, rfl, fun _ => out, fun q => absurd (show w2 1 ≤ ((E.N.toNat : Nat) : Int) by have := R2.2.2.1.2.1; omega) q⟩
        | succ d' ihi =>
          intro i hi hold m w2 μ2 hy R2 P2 z2 f2
          have eN2 := R2.2.2.1.2.1
          have m1 : cntN g i ≤ cntN g E.N.toNat := cntN_mono i _ (by omega)
          have m2 : cntN g (i + 1) ≤ cntN g E.N.toNat := cntN_mono (i + 1) _ (by omega)
          obtain ⟨d1, d2, d3, d4, d5⟩ := dmI_ok hE (by omega) k5 k4 i _ (by omega) (by omega) hy
          have d1 : WF E.S w2 := d1
          have d2 : upW w1 w2 := d2
          have d3 : w2 4 = w1 4 + cntN g i := d3
          have pli : 0 ≤ (i : Int) ∧ (i : Int) < E.N := ⟨by omega, by omega⟩
          have hag := ag_b hE pli
          have hA := A1.2 i pli.1 pli.2
          have wr := ptW_up k4 d2
          have u1 := d1.1.1
          have u2 := d1.1.2
          have stepi := dmI_at hy
          have next := fun hold' m' w' μ3 (e : dmI E g rest (E.N - j) w1 (i + 1) = some (hold', m', w')) => ihi (i + 1) (by omega) hold' m' w' μ3 e
          apply s_X10_diminish_32 (layOK n) k493
          refine c_X10_agents R2.1 R2.2.1 ⟨_, rfl, rfl, fun q => absurd q (by omega), fun _ => ⟨fun q => absurd z2 q, fun _ => c_E_ord hE R2 pli ⟨_, rfl, rfl, fun nb => ?_, fun yb => ⟨fun q => ?_, fun q => ?_⟩⟩⟩⟩
          · have nb' : ¬ bt g i := fun z => nb (hA.mpr z)
            rw [if_neg nb'] at stepi
            apply s_X10_diminish_115 (layOK n) k493
            exact ⟨fun _ => ⟨⟨by omega, by omega⟩, next _ _ _ μ2 stepi R2 P2 z2 f2⟩, fun y => absurd y nb⟩
          · have yb' : bt g i := hA.mp yb
            have h0 : 0 ≤ hold := by
              unfold agL at q
              split at q <;> omega
            rw [if_pos yb', if_neg (show ¬ hold < 0 by omega)] at stepi
            have cs : cntN g (i + 1) = cntN g i + 1 := by
              show cntN g i + (if bt g i then 1 else 0) = _
              rw [if_pos yb']
            obtain ⟨y1, y2, y3, y4, y5⟩ := d5.resolve_left (fun z => by have : hold = -1 := congrArg Prod.fst z.1; omega)
            have y2 : hold < (i : Int) := y2
            have eA : agL E hold = ag E hold := by unfold agL; rw [if_neg (by omega)]
            rw [eA]
            apply s_X10_diminish_115 (layOK n) k493
            refine ⟨fun y => absurd yb y, fun _ => c_X10_looks hE R2 d1 (by omega) pli ⟨h0, by omega⟩ ⟨by omega, by omega⟩ wr y4 y5 (by omega) (P2 h0) z2 ?_ ?_⟩
            · intro l' m' w' e μ3 R3 P3 e15 z3 f3
              have e : dmI E g rest (E.N - j) w1 (i + 1) = some (l', m', w') := stepi.trans e
              have n3 := next l' m' w' μ3 e R3 (fun _ => P3) z3 (frW_tr f2 f3)
              obtain ⟨-, -, -, -, x5⟩ := dmI_ok hE (by omega) k5 k4 (i + 1) _ (by omega) (by omega) e
              have l0 : 0 ≤ l' := (x5.resolve_left (fun z => z.2 i (by omega) (by omega) yb')).1
              unfold agL at n3
              rw [if_neg (by omega)] at n3
              rw [e15]
              exact ⟨rfl, rfl, ⟨by omega, by omega⟩, n3⟩
            · intro e μ3 R3 e15 z3 f3
              exact ⟨rfl, rfl, ⟨by omega, by omega⟩, full_ (i + 1) (by omega) (stepi.trans e) μ3 w2 _ _ R3 z3 (frW_tr f2 f3)⟩
          · have yb' : bt g i := hA.mp yb
            have h0 : hold < 0 := by
              rcases Int.lt_or_le hold 0 with z | z
              · exact z
              · exfalso
                obtain ⟨y1, y2, -⟩ := d5.resolve_left (fun z => by have : hold = -1 := congrArg Prod.fst z.1; omega)
                have y2 : hold < (i : Int) := y2
                have := ag_b hE (p := hold) ⟨z, by omega⟩
                unfold agL at q
                rw [if_neg (by omega)] at q
                omega
            rw [if_pos yb', if_pos h0] at stepi
            have cs : cntN g (i + 1) = cntN g i + 1 := by
              show cntN g i + (if bt g i then 1 else 0) = _
              rw [if_pos yb']
            have r2 : 0 < rest.2 := by have := wr.2.1; omega
            have we : ptW E.S (w2 3) (((E.S : Int), 1) : Pt).1 (((E.S : Int), 1) : Pt).2 := ptW_S (by omega)
            have oe : rest.1 * (((E.S : Int), 1) : Pt).2 ≤ (((E.S : Int), 1) : Pt).1 * rest.2 := by show rest.1 * 1 ≤ (E.S : Int) * rest.2; have := wr.2.2.1; omega
            have hrow := hE.2.2.2 _ hag.1 hag.2.2
            have D1 : 0 < wvD rest ((E.S : Int), 1) := Int.mul_pos r2 (by show (0 : Int) < 1; decide)
            have n1 := wv_b (row := E.T (ag E i)) (S := E.S) (a := rest) (b := ((E.S : Int), 1)) hrow hS.2 (by omega) (by show (1 : Int) ≤ 1; decide) oe
            have dv1 := rdD_W (a := ag E i) d1.1 wr we
            have dp1 := rdD_pos (x := wvN (E.T (ag E i)) E.S rest ((E.S : Int), 1)) D1
            have nn1 := rdN_nn (x := wvN (E.T (ag E i)) E.S rest ((E.S : Int), 1)) (y := wvD rest ((E.S : Int), 1)) n1.1
            have l1 := Int.le_of_dvd (show 0 < w2 3 by omega) dv1
            have cr1 := rd_cross (wvN (E.T (ag E i)) E.S rest ((E.S : Int), 1)) (wvD rest ((E.S : Int), 1))
            have hd := due_rest hE pli r2 (show 0 < (((E.S : Int), 1) : Pt).2 by show (0 : Int) < 1; decide) oe (show 1 ≤ E.N - (j : Int) by omega)
            refine c_X10_ends R2.1 ⟨_, rfl, rfl, ?_⟩
            rw [← R2.2.2.1.1]
            refine c_E_between (p := rest) (q := ((E.S : Int), 1)) hE R2 ⟨hag.1, hag.2.2⟩ d1.1 wr we oe fun μ3 f3 fr3 R3 => ⟨rfl, rfl, ?_⟩
            have z3 : μ3 493 11 = 0 := by rw [f3 493 11 (Or.inr (by decide)), z2]
            rw [fr3.1, fr3.2]
            generalize hx1 : rdN (wvN (E.T (ag E i)) E.S rest ((E.S : Int), 1)) (wvD rest ((E.S : Int), 1)) = X1 at *
            generalize hy1 : rdD (wvN (E.T (ag E i)) E.S rest ((E.S : Int), 1)) (wvD rest ((E.S : Int), 1)) = Y1 at *
            have Yk := mulLB (show 0 ≤ Y1 by omega) (show 0 ≤ E.N - (j : Int) by omega) (Int.le_trans l1 u2) (show E.N - (j : Int) ≤ 5 by omega)
            have uk := mulLB (show 0 ≤ w2 3 by omega) (show 0 ≤ E.N - (j : Int) by omega) u2 (show E.N - (j : Int) ≤ 5 by omega)
            refine ⟨⟨by omega, by omega⟩, ?_⟩
            refine c_E_mark (st := rest) (a := rest) (b := ((E.S : Int), 1)) (over := 1) (under := E.N - j) (u := w2 3 * (E.N - j)) (v := (X1, Y1 * (E.N - j))) hE R3 d1 pli wr wr we oe (by decide) (by omega) hd ⟨nn1, Int.mul_pos dp1 (by omega)⟩ ?_ ⟨Int.mul_pos (by omega) (by omega), by omega⟩ (Int.dvd_trans wr.2.2.2.1 ⟨E.N - j, rfl⟩) (Int.mul_dvd_mul_right (E.N - j) dv1) (by omega) z3 (Or.inr rfl) ?_ ?_
            · show X1 * (wvD rest ((E.S : Int), 1) * (E.N - j)) = wvN (E.T (ag E i)) E.S rest ((E.S : Int), 1) * 1 * (Y1 * (E.N - j))
              rw [Int.mul_one, ← Int.mul_assoc, cr1, Int.mul_assoc]
            · intro m' w' hpm μ4 R4 pu z4 f4
              rw [if_pos rfl] at R4
              rw [hpm] at stepi
              have n4 := next i m' (noteS w' 0 (ag E i) m' (0, 1)) μ4 stepi R4 (fun _ => pu) z4 (frW_tr f2 (frW_tr (frQ_W f3) (frP_W f4)))
              unfold agL at n4
              rw [if_neg (by omega)] at n4
              exact ⟨rfl, rfl, ⟨by omega, by omega⟩, n4⟩
            · intro hpm m' μ4 R4 pu m1' m2' z4 f4
              rw [hpm] at stepi
              exact ⟨rfl, rfl, ⟨by omega, by omega⟩, full_ (i + 1) (by omega) stepi μ4 w2 _ _ R4 z4 (frW_tr f2 (frW_tr (frQ_W f3) (frP_W f4)))⟩
      apply s_X10_diminish_20 (layOK n) k493
      refine ⟨fun q => absurd q (by omega), fun _ => ?_⟩
      exact inner E.N.toNat 0 (by omega) (-1) (0, 1) w1 μ1 rfl R1 (fun q => absurd q (by decide)) z1 f1
  have eNw := hR.2.2.1.2.1
  apply t_X10_diminish (layOK n) k493
  refine c_X10_agents hR.1 hR.2.1 ⟨_, rfl, rfl, ?_⟩
  rw [← eNw]
  refine ⟨shl_in hN, c_X10_agents hR.1 hR.2.1 ⟨_, rfl, rfl, ?_⟩⟩
  have := key (E.N.toNat - 1) 0 (by omega) (full E.N) (0, 1) w (full E.N) μ rfl hR (AM_full hE) hf frW_rf
  rw [show E.N - ((0 : Nat) : Int) = w 1 by omega] at this
  exact this
end
