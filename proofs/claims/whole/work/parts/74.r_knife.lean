/-! the reference's knife -/
section
variable {X : MI} {ht : Nat} {k : Nat × Nat} {pc : Nat} {ls st : List AV} {L : Lay} {μ : Mem} {Q : Option AV → Lay → Mem → Prop}
/-- a product that may pass the bounds: some long stands there -/
theorem wa_lmulW (pc' : Nat) {x y : Int} (hd : decode X.2.1 pc = .ok (.lmul, 1)) (hp : pc + 1 = pc') (h : ∀ z : Int, WA X ht k pc' ls ((1, z) :: st) L μ Q) : WA X ht k pc ls ((1, y) :: (1, x) :: st) L μ Q := by
  subst hp
  intro h1 h2 p l e R s m args below meth c b B D dA Z C S H locs cells slots lsA cx hr hR hS hc1 hc2 hl
  have hn : inL (Int64.ofInt x * Int64.ofInt y).toInt := by
    have a := Int64.toInt_lt (Int64.ofInt x * Int64.ofInt y)
    have b := Int64.le_toInt (Int64.ofInt x * Int64.ofInt y)
    exact ⟨by omega, by omega⟩
  have e := h (Int64.ofInt x * Int64.ofInt y).toInt h1 (okv_cons (okv_long hn) (tl2 h2)) p l e R s m args below meth c b B D dA Z C S H locs cells slots lsA cx hr hR hS hc1 hc2 hl
  refine lv_lmul cx.1 cx.2.1 hd ?_
  have ec : Int64.ofInt x * Int64.ofInt y = Int64.ofInt ((Int64.ofInt x * Int64.ofInt y).toInt) := (Int64.ofInt_toInt _).symm
  rw [ec]
  exact e
end
section
variable {n : Int} {μ : Mem} {Q : Option AV → Lay → Mem → Prop}
/-- whatever the products are -/
theorem c_X10_isLessW {v0 v2 v4 v6 : Int} (h1 : 0 ≤ v0 ∧ 0 < v2) (h2 : 0 ≤ v4 ∧ 0 < v6) (h : ∀ r : Int, (r = 0 ∨ r = 1) → Q (some (0, r)) (L0 n) μ) : TR mX10_isLess 0 (0, 0) [(1, v0), (1, v2), (1, v4), (1, v6)] (L0 n) μ Q := by
  have q0 := h 0 (Or.inl rfl)
  have q1 := h 1 (Or.inr rfl)
  refine TR.of (ls := [(1, v0), (9, 0), (1, v2), (9, 0), (1, v4), (9, 0), (1, v6), (9, 0)]) (by decide) (by simp) rfl (Nat.le_of_ble_eq_true rfl) ?_
  refine wa_lload_n 1 dX10_isLess_0 rfl rfl ?_
  refine wa_lload_n 2 dX10_isLess_1 rfl rfl ?_
  refine wa_ldivE 3 dX10_isLess_2 rfl h1 ?_
  refine wa_lload 5 dX10_isLess_3 rfl rfl ?_
  refine wa_lload 7 dX10_isLess_5 rfl rfl ?_
  refine wa_ldivE 8 dX10_isLess_7 rfl h2 ?_
  refine wa_lc_eq 12 32 dX10_isLess_8 dX10_isLess_9 rfl (by decide) (fun q => ?_) (fun q => ?_)
  · refine wa_lload_n 33 dX10_isLess_32 rfl rfl ?_
    refine wa_lload_n 34 dX10_isLess_33 rfl rfl ?_
    refine wa_lremE 35 dX10_isLess_34 rfl h1 ?_
    refine wa_lload 37 dX10_isLess_35 rfl rfl ?_
    refine wa_lmulW 38 dX10_isLess_37 rfl fun z1 => ?_
    refine wa_lload 40 dX10_isLess_38 rfl rfl ?_
    refine wa_lload 42 dX10_isLess_40 rfl rfl ?_
    refine wa_lremE 43 dX10_isLess_42 rfl h2 ?_
    refine wa_lload_n 44 dX10_isLess_43 rfl rfl ?_
    refine wa_lmulW 45 dX10_isLess_44 rfl fun z2 => ?_
    refine wa_lc_ge 49 53 dX10_isLess_45 dX10_isLess_46 rfl (by decide) (fun q => ?_) (fun q => ?_)
    · refine wa_iconst 54 dX10_isLess_53 rfl (by decide) ?_
      exact wa_zret dX10_isLess_54 rfl (Or.inl rfl) q0
    · refine wa_iconst 50 dX10_isLess_49 rfl (by decide) ?_
      refine wa_goto 54 dX10_isLess_50 (by decide) ?_
      exact wa_zret dX10_isLess_54 rfl (Or.inr rfl) q1
  · refine wa_lload_n 13 dX10_isLess_12 rfl rfl ?_
    refine wa_lload_n 14 dX10_isLess_13 rfl rfl ?_
    refine wa_ldivE 15 dX10_isLess_14 rfl h1 ?_
    refine wa_lload 17 dX10_isLess_15 rfl rfl ?_
    refine wa_lload 19 dX10_isLess_17 rfl rfl ?_
    refine wa_ldivE 20 dX10_isLess_19 rfl h2 ?_
    refine wa_lc_ge 24 28 dX10_isLess_20 dX10_isLess_21 rfl (by decide) (fun q => ?_) (fun q => ?_)
    · refine wa_iconst 29 dX10_isLess_28 rfl (by decide) ?_
      refine wa_goto 54 dX10_isLess_29 (by decide) ?_
      exact wa_zret dX10_isLess_54 rfl (Or.inl rfl) q0
    · refine wa_iconst 25 dX10_isLess_24 rfl (by decide) ?_
      refine wa_goto 54 dX10_isLess_25 (by decide) ?_
      exact wa_zret dX10_isLess_54 rfl (Or.inr rfl) q1
end
/-- a mask of agents, a mask of their places -/
def AM (E : WEnv) (left g : Int) : Prop := (0 ≤ left ∧ left < 32) ∧ ∀ p : Int, 0 ≤ p → p < E.N → (bt left (ag E p) ↔ bt g p)
theorem ag_surj {E : WEnv} (hE : EnvOK E) {a : Int} (ha : 0 ≤ a ∧ a < E.N) : ∃ p : Int, (0 ≤ p ∧ p < E.N) ∧ ag E p = a := by
  obtain ⟨-, h1, h2, -⟩ := hE
  by_cases q : E.f ≤ a
  · exact ⟨a - E.f, by omega, by unfold ag; rw [if_neg (by omega)]; omega⟩
  · exact ⟨a - E.f + E.N, by omega, by unfold ag; rw [if_pos (by omega)]; omega⟩
theorem AM_full {E : WEnv} (hE : EnvOK E) : AM E (full E.N) (full E.N) := by
  obtain ⟨f1, f2, f3, f4⟩ := full_b hE.2.1
  have hN := hE.2.1
  refine ⟨⟨by omega, f2⟩, fun p p0 p1 => ?_⟩
  have hag := ag_b hE ⟨p0, p1⟩
  rw [f4 _ hag.1 hag.2.2, f4 p p0 (by omega)]
  exact ⟨fun _ => p1, fun _ => hag.2.1⟩
theorem AM_off {E : WEnv} (hE : EnvOK E) {left g l : Int} (h : AM E left g) (hg : 0 ≤ g ∧ g < 32) (hl : 0 ≤ l ∧ l < E.N) : AM E (off1 left (ag E l)) (off1 g l) := by
  have hN := hE.2.1
  have hag := ag_b hE hl
  have ob := off1_b (g := left) (p := ag E l) h.1 ⟨hag.1, hag.2.2⟩
  have h12 := h.1.2
  refine ⟨⟨ob.1, by omega⟩, fun p p0 p1 => ?_⟩
  have hp := ag_b hE ⟨p0, p1⟩
  rw [off1_bt h.1 ⟨hag.1, hag.2.2⟩ ⟨hp.1, hp.2.2⟩, off1_bt hg ⟨hl.1, by omega⟩ ⟨p0, by omega⟩, h.2 p p0 p1]
  exact ⟨fun q => ⟨q.1, fun e => q.2 (by rw [e])⟩, fun q => ⟨q.1, fun e => q.2 (ag_inj hE ⟨p0, p1⟩ hl e)⟩⟩
theorem lst_lt {mk : Int → Pt} {g : Int} : ∀ j : Nat, lst mk g j < j
  | 0 => by show (-1 : Int) < _; omega
  | j + 1 => by
    have := lst_lt (mk := mk) (g := g) j
    unfold lst
    split <;> omega
theorem lst_congr {mk mk' : Int → Pt} {g : Int} : ∀ j : Nat, (∀ i : Int, i < j → mk i = mk' i) → lst mk g j = lst mk' g j
  | 0, _ => rfl
  | j + 1, h => by
    have e := lst_congr (mk := mk) (mk' := mk') (g := g) j (fun i hi => h i (by omega))
    have l := lst_lt (mk := mk') (g := g) j
    unfold lst
    rw [e, h j (by omega), h (lst mk' g j) (by omega)]
/-- the agent of a place, if there is one -/
def agL (E : WEnv) (l : Int) : Int := if l < 0 then -1 else ag E l
theorem shl_in {N : Int} (h : 2 ≤ N ∧ N ≤ 5) : inI (bShl 1 N - 1) := by
  have : N = 2 ∨ N = 3 ∨ N = 4 ∨ N = 5 := by omega
  rcases this with e | e | e | e <;> rw [e] <;> decide
section
variable {n : Int} {μ : Mem} {Q : Option AV → Lay → Mem → Prop}
/-- the last one of a group of one takes the rest -/
theorem c_E_last {E : WEnv} {w : Dv} {left g : Int} {K : Option AV → Lay → Mem → Prop} (hE : EnvOK E) (hR : RE μ E w) (hA : AM E left g) (hg : 0 < g ∧ g < 32) (hN' : ∀ p : Int, 0 ≤ p → p < 5 → bt g p → p < E.N) (hc : cnt g = 1) (h : K (some (0, ag E (fsO g))) (L0 n) μ) : TR mX10_lastOf 1 (0, 0) [(2, 493), (0, left)] (L0 n) μ K := by
  have hN := hE.2.1
  have eN := hR.2.2.1.2.1
  obtain ⟨f1, f2, f3⟩ := fsO_ok hg
  have fN := hN' _ f1.1 f1.2 f2
  have hag := ag_b hE ⟨f1.1, fN⟩
  refine c_X10_lastOf hR.1 hR.2.1 ⟨hag.1, by omega⟩ ((hA.2 _ f1.1 fN).mpr f2) (fun a a0 a1 hb => ?_) h
  obtain ⟨p, ⟨p0, p1⟩, rfl⟩ := ag_surj hE (a := a) ⟨a0, by omega⟩
  rw [(cnt_b ⟨by omega, hg.2⟩).2.2.2 hc p p0 (by omega) ((hA.2 p p0 p1).mp hb)]
theorem c_X10_knife {E : WEnv} {w : Dv} (hE : EnvOK E) (hR : RE μ E w) (hw : WF E.S w) (h4 : w 4 = 0) (hm : ∀ a : Int, 0 ≤ a → a < 5 → w (165 + a) = 0) (hf : μ 493 11 = 0)
    (hok : ∀ w', wayK E w = some w' → ∀ μ', RE μ' E w' → μ' 493 11 = 0 → frW μ μ' → Q none (L0 n) μ')
    (hno : wayK E w = none → ∀ μ' w', RE μ' E w' → μ' 493 11 = 1 → frW μ μ' → Q none (L0 n) μ') : TR mX10_knife 4 (0, 0) [(2, 493)] (L0 n) μ Q := by
  have hN := hE.2.1
  have hS := hE.1
  have eN : ((E.N.toNat : Nat) : Int) = E.N := by omega
  have key : ∀ (d j : Nat), (j : Int) + d + 1 = E.N → ∀ g rest w1 left μ1, knS E w j = some (g, rest, w1) → RE μ1 E w1 → AM E left g → μ1 493 11 = 0 → frW μ μ1 → WA mX10_knife 4 (0, 0) 20 [(2, 493), (0, left), (1, rest.1), (9, 0), (1, rest.2), (9, 0), (0, E.N - j), (9, 0), (9, 0), (9, 0)] [] (L0 n) μ1 Q := by
    intro d
    induction d with
    | zero =>
      intro j hj g rest w1 left μ1 e1 R1 A1 z1 f1
      obtain ⟨⟨k1, k2, k3, k4, k5, k6, k7⟩, -⟩ := knS_ok hE hw h4 hm j _ (by omega) e1
      have k11 : 0 < g := k1.1
      have k12 : g < 32 := k1.2
      have k3 : cnt g = E.N - j := k3
      have k5 : WF E.S w1 := k5
      have k6 : w1 4 ≤ ev E.N j := k6
      have eb := (ev_b hN j (by omega)).2.1 (by omega)
      obtain ⟨g1, g2, g3⟩ := fsO_ok (g := g) ⟨k11, k12⟩
      have gN : fsO g < E.N := k2 _ g1.1 g1.2 g2
      have hag := ag_b hE ⟨g1.1, gN⟩
      have z : w1 (165 + ag E (fsO g)) = 0 := k7 _ g1.1 gN g2
      apply s_X10_knife_20 (layOK n) k493
      refine ⟨fun _ => c_E_last hE R1 A1 ⟨k11, k12⟩ k2 (by omega) ⟨_, rfl, rfl, c_X10_ends R1.1 ⟨_, rfl, rfl, ?_⟩⟩, fun q => absurd (show E.N - (j : Int) ≤ 1 by omega) q⟩
      rw [← R1.2.2.1.1]
      refine c_E_take (p := rest) (q := ((E.S : Int), 1)) R1 k5 ⟨hag.1, hag.2.2⟩ (by omega) (by omega) fun μ2 R2 f2 => ⟨rfl, rfl, hok _ ?_ μ2 R2 (by rw [f2 493 11 (by decide), z1]) (frW_tr f1 (fr4_W f2))⟩
      unfold wayK
      rw [show E.N.toNat - 1 = j by omega, e1]
      rfl
    | succ d ih =>
      intro j hj g rest w1 left μ1 e1 R1 A1 z1 f1
      obtain ⟨i1, i2⟩ := knS_ok hE hw h4 hm j _ (by omega) e1
      have i1' := i1
      obtain ⟨k1, k2, k3, k4, k5, k6, k7⟩ := i1
      have k11 : 0 < g := k1.1
      have k12 : g < 32 := k1.2
      have k2 : ∀ p : Int, 0 ≤ p → p < 5 → bt g p → p < E.N := k2
      have k3 : cnt g = E.N - j := k3
      have k4 : ptW E.S (w1 3) rest.1 rest.2 := k4
      have k5 : WF E.S w1 := k5
      have k6 : w1 4 ≤ ev E.N j := k6
      have eb := (ev_b hN j (by omega)).2.2 (by omega)
      have c5 : cntN g E.N.toNat ≤ cnt g := cntN_le (by omega)
      have hdue := KX_due (g := g) (rest := rest) (w := w1) hE (by omega) k4.2.1 i2
      have step : knS E w (j + 1) = (mkA E g rest (0, 1) ((E.S : Int), 1) 1 E.N mk0 w1 E.N.toNat).map fun y => (off1 g (lst y.1 g E.N.toNat), y.1 (lst y.1 g E.N.toNat), takeS y.2 (ag E (lst y.1 g E.N.toNat)) rest (y.1 (lst y.1 g E.N.toNat))) := by
        conv => lhs; unfold knS
        rw [e1]
        rfl
      have full_ : knS E w (j + 1) = none → ∀ (μ2 : Mem) (w2 : Dv) (fd i : Int), RE μ2 E w2 → μ2 493 11 = 1 → frW μ μ2 → WA mX10_knife 4 (0, 0) 32 [(2, 493), (0, left), (1, rest.1), (9, 0), (1, rest.2), (9, 0), (0, E.N - j), (0, fd), (0, i), (9, 0)] [] (L0 n) μ2 Q := by
        intro e μ2 w2 fd i R2 z2 f2
        have out : WA mX10_knife 4 (0, 0) 142 [(2, 493), (0, left), (1, rest.1), (9, 0), (1, rest.2), (9, 0), (0, E.N - j), (0, fd), (9, 0), (9, 0)] [] (L0 n) μ2 Q := by
          apply s_X10_knife_142 (layOK n) k493
          refine ⟨fun q => absurd (q.symm.trans z2) (by decide), fun _ => hno ?_ μ2 w2 R2 z2 f2⟩
          unfold wayK
          rw [knS_none (j := j + 1) e _ (by omega)]
          rfl
        apply s_X10_knife_32 (layOK n) k493
        exact c_X10_agents R2.1 R2.2.1 ⟨_, rfl, rfl, fun _ => out, fun _ => ⟨fun _ => out, fun q => absurd (q.symm.trans z2) (by decide)⟩⟩
      have inner : ∀ (d' i : Nat), (i : Int) + d' = E.N → ∀ mk w2 μ2, mkA E g rest (0, 1) ((E.S : Int), 1) 1 E.N mk0 w1 i = some (mk, w2) → RE μ2 E w2 → (∀ p : Int, 0 ≤ p → p < i → bt g p → PU μ2 (ag E p) (mk p)) → μ2 493 11 = 0 → frW μ μ2 →
          WA mX10_knife 4 (0, 0) 32 [(2, 493), (0, left), (1, rest.1), (9, 0), (1, rest.2), (9, 0), (0, E.N - j), (0, agL E (lst mk g i)), (0, (i : Int)), (9, 0)] [] (L0 n) μ2 Q := by
        intro d'
        induction d' with
        | zero =>
          intro i hi mk w2 μ2 hy R2 P2 z2 f2
          have ei : i = E.N.toNat := by omega
          subst ei
          obtain ⟨a1, a2, a3, a4, a5⟩ := mkA_ok hE k5 k4 (show 0 < ((0, 1) : Pt).2 by decide) (show 0 < (((E.S : Int), 1) : Pt).2 by show (0 : Int) < 1; omega) (show (0 : Int) * 1 ≤ E.S * 1 by omega) (by decide) (show 0 < E.N by omega) hdue E.N.toNat mk w2 (by omega) (by omega) hy
          rw [eN] at a5 P2
          rw [hy] at step
          have step : knS E w (j + 1) = some (off1 g (lst mk g E.N.toNat), mk (lst mk g E.N.toNat), takeS w2 (ag E (lst mk g E.N.toNat)) rest (mk (lst mk g E.N.toNat))) := step
          obtain ⟨q1, q2, q3⟩ := fsO_ok (g := g) ⟨k11, k12⟩
          have lo := lst_ok (mk := mk) (g := g) E.N.toNat (by omega) (fun p p0 p1 pb => by have := (a5 p p0 (by omega) pb).2.2.1; omega)
          rw [eN] at lo
          have lo := lo.resolve_left (fun z => z.1 _ q1.1 (k2 _ q1.1 q1.2 q2) q2)
          obtain ⟨l1, l2, l3, l4⟩ := lo
          generalize lst mk g E.N.toNat = l at *
          obtain ⟨b1, b2⟩ := a5 l l1 l2 l3
          obtain ⟨s1, s2, s3, s4⟩ := KI_step hE (by omega) i1' a1 a2 (by omega) a4 ⟨l1, l2⟩ l3 b2 b1.2.2.2.1
          have hag := ag_b hE ⟨l1, l2⟩
          have pl := P2 l l1 l2 l3
          have eA : agL E l = ag E l := by unfold agL; rw [if_neg (by omega)]
          rw [eA]
          apply s_X10_knife_32 (layOK n) k493
          have out : WA mX10_knife 4 (0, 0) 142 [(2, 493), (0, left), (1, rest.1), (9, 0), (1, rest.2), (9, 0), (0, E.N - j), (0, ag E l), (9, 0), (9, 0)] [] (L0 n) μ2 Q := by
            apply s_X10_knife_142 (layOK n) k493
            rw [rf_ref.2.2.2.2.1, rf_ref.2.2.2.2.2.1, pl.1, pl.2]
            refine ⟨fun _ => ⟨⟨hag.1, hag.2.2⟩, c_E_take (p := rest) (q := mk l) R2 a1 ⟨hag.1, hag.2.2⟩ (by omega) (by omega) fun μ3 R3 f3 => ⟨rfl, rfl, ⟨by omega, by omega⟩, ?_⟩⟩, fun q => absurd z2 q⟩
            have pl3 := PU_fr pl (f3 498 (ag E l) (by decide)) (f3 499 (ag E l) (by decide))
            rw [pl3.1, pl3.2, show E.N - (j : Int) + -1 = E.N - ((j + 1 : Nat) : Int) by omega]
            exact ih (j + 1) (by omega) _ _ _ _ μ3 step R3 (AM_off hE A1 ⟨by omega, k12⟩ ⟨l1, l2⟩) (by rw [f3 493 11 (by decide), z2]) (frW_tr f2 (fr4_W f3))
          exact c_X10_agents R2.1 R2.2.1 ⟨_, rfl, rfl, fun _ => out, fun q => absurd (show w2 1 ≤ ((E.N.toNat : Nat) : Int) by have := R2.2.2.1.2.1; omega) q⟩
        | succ d' ihi =>
          intro i hi mk w2 μ2 hy R2 P2 z2 f2
          have eN2 := R2.2.2.1.2.1
          have m1 : cntN g i ≤ cntN g E.N.toNat := cntN_mono i _ (by omega)
          have m2 : cntN g (i + 1) ≤ cntN g E.N.toNat := cntN_mono (i + 1) _ (by omega)
          obtain ⟨a1, a2, a3, a4, a5⟩ := mkA_ok hE k5 k4 (show 0 < ((0, 1) : Pt).2 by decide) (show 0 < (((E.S : Int), 1) : Pt).2 by show (0 : Int) < 1; omega) (show (0 : Int) * 1 ≤ E.S * 1 by omega) (by decide) (show 0 < E.N by omega) hdue i mk w2 (by omega) (by omega) hy
          have pli : 0 ≤ (i : Int) ∧ (i : Int) < E.N := ⟨by omega, by omega⟩
          have hag := ag_b hE pli
          have hA := A1.2 i pli.1 pli.2
          apply s_X10_knife_32 (layOK n) k493
          refine c_X10_agents R2.1 R2.2.1 ⟨_, rfl, rfl, fun q => absurd q (by omega), fun _ => ⟨fun q => absurd z2 q, fun _ => c_E_ord hE R2 pli ⟨_, rfl, rfl, fun nb => ⟨⟨by omega, by omega⟩, ?_⟩, fun yb => ?_⟩⟩⟩
          · have nb : ¬ bt g i := fun z => nb (hA.mpr z)
            have e : lst mk g (i + 1) = lst mk g i := by
              conv => lhs; unfold lst
              rw [if_neg (fun z => nb z.1)]
            have := ihi (i + 1) (by omega) mk w2 μ2 (by unfold mkA; rw [hy]; show (if bt g i then _ else _) = _; rw [if_neg nb]) R2 (fun p p0 p1 pb => by
              by_cases e : p = (i : Int)
              · rw [e] at pb; exact absurd pb nb
              · exact P2 p p0 (by omega) pb) z2 f2
            rw [e] at this
            exact this
          · have yb : bt g i := hA.mp yb
            have due := hdue i pli.1 pli.2 yb
            have stepi : mkA E g rest (0, 1) ((E.S : Int), 1) 1 E.N mk0 w1 (i + 1) = (pmS E w2 i rest (0, 1) ((E.S : Int), 1) 1 E.N).map fun y => (updM mk i y.1, noteS y.2 0 (ag E i) y.1 (0, 1)) := by
              conv => lhs; unfold mkA
              rw [hy]
              show (if bt g i then _ else _) = _
              rw [if_pos yb]
            have cs : cntN g (i + 1) = cntN g i + 1 := by
              show cntN g i + (if bt g i then 1 else 0) = _
              rw [if_pos yb]
            obtain ⟨wv1, wv2⟩ := wv_whole (row := E.T (ag E i)) (S := E.S)
            have cb := cum_b (hE.2.2.2 _ hag.1 hag.2.2) E.S hS.2
            have u1 := a1.1.1
            have u2 := a1.1.2
            have uN := mulLB (show 0 ≤ w2 3 by omega) (show 0 ≤ E.N by omega) u2 hN.2
            refine c_E_all hE R2 ⟨hag.1, hag.2.2⟩ ⟨_, rfl, rfl, c_X10_agents R2.1 R2.2.1 ⟨_, rfl, rfl, ?_⟩⟩
            rw [← eN2]
            refine c_E_mark (st := rest) (a := (0, 1)) (b := ((E.S : Int), 1)) (over := 1) (under := E.N) (u := w2 3 * E.N) (v := (cum (E.T (ag E i)) E.S, E.N)) hE R2 a1 pli (ptW_up k4 a2) (ptW_Zu (by omega)) (ptW_S (by omega)) (show (0 : Int) * 1 ≤ E.S * 1 by omega) (by decide) (by omega) due ⟨cb.1, show (0 : Int) < E.N by omega⟩ ?_ ⟨Int.mul_pos (by omega) (by omega), by omega⟩ (Int.dvd_trans (ptW_up k4 a2).2.2.2.1 ⟨E.N, rfl⟩) ⟨w2 3, Int.mul_comm _ _⟩ (by omega) z2 (Or.inr rfl) ?_ ?_
            · rw [wv1, wv2]
              show cum (E.T (ag E i)) E.S * (1 * E.N) = cum (E.T (ag E i)) E.S * 1 * E.N
              rw [Int.one_mul, Int.mul_one]
            · intro m w3 hpm μ3 R3 pu3 z3 f3
              rw [if_pos rfl] at R3
              obtain ⟨j1, j2, j3, j4, j5⟩ := pm_step hE pli a1 (ptW_up k4 a2) (show 0 < ((0, 1) : Pt).2 by decide) (show 0 < (((E.S : Int), 1) : Pt).2 by show (0 : Int) < 1; omega) (show (0 : Int) * 1 ≤ E.S * 1 by omega) (by decide) (by omega) due hpm
              rw [hpm] at stepi
              have stepi : mkA E g rest (0, 1) ((E.S : Int), 1) 1 E.N mk0 w1 (i + 1) = some (updM mk i m, noteS w3 0 (ag E i) m (0, 1)) := stepi
              have el : lst (updM mk i m) g i = lst mk g i := lst_congr i (fun q hq => by unfold updM; rw [if_neg (by omega)])
              have ei : updM mk i m i = m := by unfold updM; rw [if_pos rfl]
              have eL : lst (updM mk i m) g (i + 1) = if lst mk g i < 0 ∨ m.1 * (mk (lst mk g i)).2 < (mk (lst mk g i)).1 * m.2 then (i : Int) else lst mk g i := by
                have ll := lst_lt (mk := mk) (g := g) i
                have em : updM mk i m (lst mk g i) = mk (lst mk g i) := by unfold updM; rw [if_neg (by omega)]
                show (if bt g i ∧ (lst (updM mk i m) g i < 0 ∨ (updM mk i m i).1 * (updM mk i m (lst (updM mk i m) g i)).2 < (updM mk i m (lst (updM mk i m) g i)).1 * (updM mk i m i).2) then (i : Int) else lst (updM mk i m) g i) = _
                rw [el, ei, em]
                by_cases z : lst mk g i < 0 ∨ m.1 * (mk (lst mk g i)).2 < (mk (lst mk g i)).1 * m.2
                · rw [if_pos z, if_pos ⟨yb, z⟩]
                · rw [if_neg z, if_neg (fun y => z y.2)]
              have next := ihi (i + 1) (by omega) _ _ μ3 stepi R3 (fun p p0 p1 pb => by
                unfold updM
                by_cases e : p = (i : Int)
                · rw [e, if_pos rfl]; exact pu3
                · rw [if_neg e]
                  have ne : ag E p ≠ ag E i := fun z => e (ag_inj hE ⟨p0, by omega⟩ pli z)
                  exact PU_fr (P2 p p0 (by omega) pb) (f3 498 _ (Or.inl (by decide)) (by decide) (Or.inr ne)) (f3 499 _ (Or.inl (by decide)) (by decide) (Or.inr ne))) z3 (frW_tr f2 (frP_W f3))
              rw [eL] at next
              have lo := lst_ok (mk := mk) (g := g) i (by omega) (fun p p0 p1 pb => by have := (a5 p p0 p1 pb).2.2.1; omega)
              refine ⟨rfl, rfl, fun q => ⟨⟨by omega, by omega⟩, ?_⟩, fun q => ?_⟩
              · have l0 : lst mk g i < 0 := by
                  rcases lo with lo | lo
                  · omega
                  · unfold agL at q
                    rw [if_neg (by omega)] at q
                    have := ag_b hE (p := lst mk g i) ⟨lo.1, by omega⟩
                    omega
                rw [if_pos (Or.inl l0)] at next
                unfold agL at next
                rw [if_neg (by omega)] at next
                exact next
              · have l0 : 0 ≤ lst mk g i := by
                  rcases Int.lt_or_le (lst mk g i) 0 with z | z
                  · unfold agL at q
                    rw [if_pos z] at q
                    omega
                  · exact z
                have lo := lo.resolve_left (fun z => by omega)
                obtain ⟨l1, l2, l3, l4⟩ := lo
                generalize lst mk g i = l at *
                have eA : agL E l = ag E l := by unfold agL; rw [if_neg (by omega)]
                rw [eA]
                have hl := ag_b hE (p := l) ⟨l1, by omega⟩
                have ne : ag E l ≠ ag E i := fun z => by have := ag_inj hE ⟨l1, by omega⟩ pli z; omega
                have pl3 : PU μ3 (ag E l) (mk l) := PU_fr (P2 l l1 l2 l3) (f3 498 _ (Or.inl (by decide)) (by decide) (Or.inr ne)) (f3 499 _ (Or.inl (by decide)) (by decide) (Or.inr ne))
                obtain ⟨b1, b2⟩ := a5 l l1 l2 l3
                have b2' := ptW_up b2 j4
                have v1 := j3.1.1
                have v2 := j3.1.2
                have le1 := Int.le_of_dvd (show 0 < w3 3 by omega) j2.2.2.2.1
                have le2 := Int.le_of_dvd (show 0 < w3 3 by omega) b2'.2.2.2.1
                have j21 := j2.2.1
                have b21 := b2'.2.1
                have pb := mulLB (show 0 ≤ m.2 by omega) (show 0 ≤ (mk l).2 by omega) (show m.2 ≤ 1000000000 by omega) (show (mk l).2 ≤ 1000000000 by omega)
                rw [rf_ref.2.2.2.2.1, rf_ref.2.2.2.2.2.1, pl3.1, pl3.2, pu3.1, pu3.2]
                refine ⟨⟨hag.1, hag.2.2⟩, ⟨hl.1, hl.2.2⟩, c_X10_isLess j2.1 (by omega) b2.1 (by omega) (by omega) fun r hr => ⟨r, rfl, rfl, fun q2 => ⟨⟨by omega, by omega⟩, ?_⟩, fun q2 => ⟨⟨by omega, by omega⟩, ?_⟩⟩⟩
                · rw [if_neg (fun z => by omega), eA] at next
                  exact next
                · rw [if_pos (Or.inr (by omega))] at next
                  unfold agL at next
                  rw [if_neg (by omega)] at next
                  exact next
            · intro hpm m μ3 R3 pu3 m1' m2' z3 f3
              rw [hpm] at stepi
              have e0 : knS E w (j + 1) = none := by
                rw [step, mkA_none (j := i + 1) stepi _ (by omega)]
                rfl
              have fw := frW_tr f2 (frP_W f3)
              have lo := lst_ok (mk := mk) (g := g) i (by omega) (fun p p0 p1 pb => by have := (a5 p p0 p1 pb).2.2.1; omega)
              refine ⟨rfl, rfl, fun q => ⟨⟨by omega, by omega⟩, full_ e0 μ3 w2 _ _ R3 z3 fw⟩, fun q => ?_⟩
              have l0 : 0 ≤ lst mk g i := by
                rcases Int.lt_or_le (lst mk g i) 0 with z | z
                · unfold agL at q
                  rw [if_pos z] at q
                  omega
                · exact z
              have lo := lo.resolve_left (fun z => by omega)
              obtain ⟨l1, l2, l3, l4⟩ := lo
              generalize lst mk g i = l at *
              have eA : agL E l = ag E l := by unfold agL; rw [if_neg (by omega)]
              rw [eA]
              have hl := ag_b hE (p := l) ⟨l1, by omega⟩
              have ne : ag E l ≠ ag E i := fun z => by have := ag_inj hE ⟨l1, by omega⟩ pli z; omega
              have pl3 : PU μ3 (ag E l) (mk l) := PU_fr (P2 l l1 l2 l3) (f3 498 _ (Or.inl (by decide)) (by decide) (Or.inr ne)) (f3 499 _ (Or.inl (by decide)) (by decide) (Or.inr ne))
              obtain ⟨b1, b2⟩ := a5 l l1 l2 l3
              have b21 := b2.2.1
              rw [rf_ref.2.2.2.2.1, rf_ref.2.2.2.2.2.1, pl3.1, pl3.2, pu3.1, pu3.2]
              exact ⟨⟨hag.1, hag.2.2⟩, ⟨hl.1, hl.2.2⟩, c_X10_isLessW ⟨m1', m2'⟩ ⟨b2.1, by omega⟩ fun r hr => ⟨r, rfl, rfl, fun q2 => ⟨⟨by omega, by omega⟩, full_ e0 μ3 w2 _ _ R3 z3 fw⟩, fun q2 => ⟨⟨by omega, by omega⟩, full_ e0 μ3 w2 _ _ R3 z3 fw⟩⟩⟩
      apply s_X10_knife_20 (layOK n) k493
      refine ⟨fun q => absurd q (by omega), fun _ => ?_⟩
      exact inner E.N.toNat 0 (by omega) mk0 w1 μ1 rfl R1 (fun p p0 p1 => absurd p1 (by omega)) z1 f1
  have eNw := hR.2.2.1.2.1
  apply t_X10_knife (layOK n) k493
  refine c_X10_agents hR.1 hR.2.1 ⟨_, rfl, rfl, ?_⟩
  rw [← eNw]
  refine ⟨shl_in hN, c_X10_agents hR.1 hR.2.1 ⟨_, rfl, rfl, ?_⟩⟩
  have := key (E.N.toNat - 1) 0 (by omega) (full E.N) (0, 1) w (full E.N) μ rfl hR (AM_full hE) hf frW_rf
  rw [show E.N - ((0 : Nat) : Int) = w 1 by omega] at this
  exact this
end
