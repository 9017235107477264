/-! the class' diminishing -/
theorem dmI_first {E : WEnv} {g k : Int} {rest : Pt} {w : Dv} (hg : 0 < g ∧ g < 32) : ∀ q : Nat, (q : Int) ≤ fsO g → dmI E g rest k w q = some (-1, (0, 1), w)
  | 0, _ => rfl
  | q + 1, hq => by
    have f := (fsO_ok hg).2.2 q (by omega) (by omega)
    unfold dmI
    rw [dmI_first hg q (by omega)]
    show (if bt g q then _ else _) = _
    rw [if_neg f]
theorem dmI_at {E : WEnv} {g k : Int} {rest : Pt} {w : Dv} {q : Nat} {x : Int × Pt × Dv} (h : dmI E g rest k w q = some x) : dmI E g rest k w (q + 1) = if bt g q then (if x.1 < 0 then (pmS E x.2.2 q rest rest (E.S, 1) 1 k).map fun y => ((q : Int), y.1, noteS y.2 0 (ag E q) y.1 (0, 1)) else lookS E rest k q x.1 x.2.1 x.2.2) else some x := by
  conv => lhs; unfold dmI
  rw [h]
  rfl
section
variable {n : Int} {μ : Mem} {Q : Option AV → Lay → Mem → Prop}
theorem c_betw {E : WEnv} {w : Dv} {a o1 o2 : Int} {p q : Pt} (hE : EnvOK E) (hr : RT μ E) (hu : WFu w) (k1 : isK (L0 n) o1 (3, 0)) (k3 : isK (L0 n) o2 (3, 0)) (ha : 0 ≤ a ∧ a < 5) (h1 : PA μ o1 p) (h2 : PA μ o2 q) (hp : ptW E.S (w 3) p.1 p.2) (hq : ptW E.S (w 3) q.1 q.2)
    (h : Q (some (1, spn (E.T a) E.S (w 3) p.1 p.2 q.1 q.2)) (L0 n) μ) : TR mX0_between 2 (0, 0) [(2, 2), (2, 10 + a), (2, o1), (2, o2), (1, w 3)] (L0 n) μ Q := by
  have hrow := hE.2.2.2 a ha.1 ha.2
  have hS := hE.1
  obtain ⟨r1, r2, r3, r4, -⟩ := hr
  have hu1 := hu.1
  have hu2 := hu.2
  have b1 := prt_b hp hu1 (by omega)
  have b2 := prt_b hq hu1 (by omega)
  have Su := S_mul_le (S := (E.S : Int)) (u := w 3) (by omega) (by omega)
  have p1 : ptP μ o1 (w 3) = prt (w 3) p.1 p.2 := by unfold ptP prt; rw [h1.1, h1.2]
  have p2 : ptP μ o2 (w 3) = prt (w 3) q.1 q.2 := by unfold ptP prt; rw [h2.1, h2.2]
  refine c_X0_between k2 (told_K ha) k1 k3 ⟨by omega, by omega⟩ (rowOK_same hrow (fun s s0 s1 => r4 a s ha.1 ha.2 s0 s1)) ⟨by omega, by omega⟩ (by rw [h1.2]; exact hp.2.1) (by rw [h2.2]; exact hq.2.1) (by rw [p1]; exact ⟨b1.1, by omega⟩) (by rw [p2]; exact ⟨b2.1, by omega⟩) ?_
  rw [p1, p2, r1, Int.toNat_natCast]
  have := wv_same (u := w 3) (p := p) (q := q) hS.2 (fun s s0 s1 => r4 a s ha.1 ha.2 s0 s1)
  unfold spn at this h
  rw [this]
  exact h
theorem c_X5_trimOrPass {E : WEnv} {w : Dv} {q last k : Int} {rest m : Pt} (hE : EnvOK E) (hr : RT μ E) (hd : DR μ 174 w) (hw : WF E.S w) (h4 : w 4 < 19) (hq : 0 ≤ q ∧ q < E.N) (hl : 0 ≤ last ∧ last < E.N) (hk : 1 ≤ k ∧ k ≤ 5) (ps : PA μ 445 rest) (pe : PA μ 446 (eE E)) (pm : PA μ (454 + 2 * last) m)
    (ws : ptW E.S (w 3) rest.1 rest.2) (wm : ptW E.S (w 3) m.1 m.2) (ho : rest.1 * m.2 ≤ m.1 * rest.2) (hql : q ≠ last)
    (hok : ∀ l' m' w', lookS E rest k q last m w = some (l', m', w') → ∀ μ', DR μ' 174 w' → PA μ' (454 + 2 * l') m' → frM μ μ' → Q (some (0, l')) (L0 n) μ')
    (hno : lookS E rest k q last m w = none → ∀ μ', (∀ x i, outD 174 x → (∀ j : Int, 0 ≤ j → j < 5 → x ≠ 454 + 2 * j) → μ' x i = μ x i) → Q (some (0, -1)) (L0 n) μ') : TR mX5_trimOrPass 4 (0, 0) [(2, 440), (0, q), (0, last), (0, k)] (L0 n) μ Q := by
  have hN := hE.2.1
  have hag := ag_b hE hq
  have hrow := hE.2.2.2 _ hag.1 hag.2.2
  have we : ptW E.S (w 3) (eE E).1 (eE E).2 := ptW_S (by omega)
  have re : rest.1 * 1 ≤ (E.S : Int) * rest.2 := by have := ws.2.2.1; omega
  have hu := hw.1
  have hu1 := hu.1
  have hu2 := hu.2
  have d1 : μ 174 2 = w 3 := hd.1
  have p442 : PA μ 442 (0, 1) := ⟨hr.2.2.2.2.1, hr.2.2.2.2.2.1⟩
  have kq : isK (L0 n) (454 + 2 * q) (3, 0) := kmark ⟨hq.1, by omega⟩
  have kl : isK (L0 n) (454 + 2 * last) (3, 0) := kmark ⟨hl.1, by omega⟩
  have b1 := spn_b hrow hE.1.2 hu1 ws wm ho
  have b2 := mulLB b1.1 (show 0 ≤ k by omega) b1.2 hk.2
  apply t_X5_trimOrPass (layOK n) k440
  refine c_X5_agentAt hE hr hq ⟨_, rfl, rfl, ⟨hag.1, hag.2.2⟩, ⟨hl.1, by omega⟩, ?_⟩
  rw [rf_shr.1, told_rf ⟨hag.1, hag.2.2⟩, rf_shr.2.2.2.1, rf444.1, rf_shr.2.2.2.2.1, (sh_el.1 last hl.1 (by omega)).1, (sh_el.1 q hq.1 (by omega)).1, rf_shr.2.1, d1, rf_shr.2.2.1, rf441.1]
  refine c_betw hE hr hu k445 kl ⟨hag.1, hag.2.2⟩ ps pm ws wm ⟨_, rfl, rfl, ⟨by omega, by omega⟩, ?_⟩
  refine c_X5_has hE hr hd hu k444 ⟨hag.1, hag.2.2⟩ ps pe ws we ⟨_, rfl, rfl, ?_⟩
  have s1 := spn_wv (row := E.T (ag E q)) (S := E.S) (u := w 3) (a := rest) (b := m) (by omega) ws.2.1 wm.2.1 ws.2.2.2.1 wm.2.2.2.1
  have s2 := spn_wv (row := E.T (ag E q)) (S := E.S) (u := w 3) (a := rest) (b := eE E) (by omega) ws.2.1 we.2.1 ws.2.2.2.1 we.2.2.2.1
  have cmp : spn (E.T (ag E q)) E.S (w 3) rest.1 rest.2 (eE E).1 (eE E).2 < spn (E.T (ag E q)) E.S (w 3) rest.1 rest.2 m.1 m.2 * k ↔ wvN (E.T (ag E q)) E.S rest (eE E) * wvD rest m < wvN (E.T (ag E q)) E.S rest m * k * wvD rest (eE E) :=
    q_cmp s2 (show spn (E.T (ag E q)) E.S (w 3) rest.1 rest.2 m.1 m.2 * k * wvD rest m = wvN (E.T (ag E q)) E.S rest m * k * w 3 by
      rw [Int.mul_assoc, Int.mul_comm k, ← Int.mul_assoc, s1]; ac_rfl) (Int.mul_pos (by have := ws.2.1; omega) (show (0 : Int) < 1 by decide)) (Int.mul_pos (by have := ws.2.1; omega) (by have := wm.2.1; omega)) (by omega)
  have look : lookS E rest k q last m w = if wvN (E.T (ag E q)) E.S rest m * k * wvD rest (eE E) ≤ wvN (E.T (ag E q)) E.S rest (eE E) * wvD rest m then some (last, m, noteS w 2 (ag E q) m (0, 1)) else (pmS E w q rest rest (eE E) 1 k).map fun x => (q, x.1, noteS x.2 1 (ag E q) x.1 m) := rfl
  refine ⟨fun z => ⟨⟨hq.1, by omega⟩, ?_⟩, fun z => ?_⟩
  · rw [if_neg (Int.not_le.mpr (cmp.mp z))] at look
    refine c_X5_putMark hE hr hd (WF_cn hw) hu kq k445 k444 (Or.inr (by omega)) hq ps ps pe ws ws we re ⟨by decide, by decide⟩ hk (due_rest hE hq (by have := ws.2.1; omega) (show (0 : Int) < 1 by decide) re hk.1) ?_ ?_
    · intro m1 w1 hpm μ1 g1 g2 g3
      obtain ⟨j1, j2, j3, j4, j5⟩ := pm_step hE hq hw ws (show 0 < rest.2 by have := ws.2.1; omega) (show (0 : Int) < 1 by decide) re (by decide) (show 0 < k by omega) (due_rest hE hq (by have := ws.2.1; omega) (show (0 : Int) < 1 by decide) re hk.1) hpm
      have e4 : w1 4 = w 4 := by rw [j5, setU_ne (by decide)]
      have cn := WF_cn j3
      refine ⟨1, rfl, rfl, fun _ => ?_, fun q => absurd q (by decide)⟩
      refine c_X1_note k174 kq kl (Or.inr (by omega)) (Or.inr (by omega)) g2 ⟨cn.1.1, by omega⟩ (fun b b0 b1 => (cn.2 b b0 b1).2) fun μ2 t1 t2 => ⟨rfl, rfl, ?_⟩
      have ol : PA μ1 (454 + 2 * last) m := PA_fr pm (fun i => g3 _ i (by omega) (by omega) (by omega))
      rw [g1.1, g1.2, ol.1, ol.2] at t1
      refine hok q m1 _ (by rw [look, hpm]; rfl) μ2 t1 (PA_fr g1 (fun i => t2 _ i (Or.inl (Or.inr (by omega))))) (fun x i hx hj => ?_)
      have hxk := hj q hq.1 (by omega)
      exact (t2 x i (hx.imp_right fun z => ⟨z.1, z.2.2⟩)).trans (g3 x i hxk (by unfold outD at hx; omega) (by unfold outD at hx; omega))
    · intro hpm μ1 g3
      refine ⟨0, rfl, rfl, fun q => absurd rfl q, fun _ => hno (by rw [look, hpm]; rfl) μ1 (fun x i hx hj => g3 x i (hj q hq.1 (by omega)) hx)⟩
  · rw [if_pos (Int.not_lt.mp (fun y => z (cmp.mpr y)))] at look
    have cn := WF_cn hw
    refine c_X1_note k174 kl k442 (Or.inr (by omega)) (Or.inr (by decide)) hd ⟨cn.1.1, h4⟩ (fun b b0 b1 => (cn.2 b b0 b1).2) fun μ2 t1 t2 => ⟨rfl, rfl, ?_⟩
    rw [pm.1, pm.2, p442.1, p442.2] at t1
    exact hok last m _ look μ2 t1 (PA_fr pm (fun i => t2 _ i (Or.inl (Or.inr (by omega))))) (fun x i hx hj => t2 x i (hx.imp_right fun z => ⟨z.1, z.2.2⟩))
theorem c_X5_diminish {E : WEnv} {w : Dv} (hE : EnvOK E) (hr : RT μ E) (hd : DR μ 174 w) (hw : WF E.S w) (h4 : w 4 = 0) (hm : ∀ a : Int, 0 ≤ a → a < 5 → w (165 + a) = 0) (ps : PA μ 445 (0, 1)) (pe : PA μ 446 (eE E))
    (hok : ∀ w', wayD E w = some w' → ∀ μ', DR μ' 174 w' → frS μ μ' → μ' 174 1 = μ 174 1 → Q (some (0, 1)) (L0 n) μ')
    (hno : wayD E w = none → ∀ μ', frS μ μ' → Q (some (0, 0)) (L0 n) μ') : TR mX5_diminish 5 (0, 0) [(2, 440)] (L0 n) μ Q := by
  have hN := hE.2.1
  have eN : ((E.N.toNat : Nat) : Int) = E.N := by omega
  apply t_X5_diminish (layOK n) k440
  refine c_X5_everyone hE hr ⟨_, rfl, rfl, ?_⟩
  rw [rf_shr.1, hr.2.1]
  have key : ∀ (d j : Nat), (j : Int) + d + 1 = E.N → ∀ g rest w1 μ1, dmS E w j = some (g, rest, w1) → DR μ1 174 w1 → PA μ1 445 rest → PA μ1 446 (eE E) → frS μ μ1 → μ1 174 1 = μ 174 1 → WA mX5_diminish 5 (0, 0) 13 [(2, 440), (0, g), (0, E.N - j), (9, 0), (9, 0), (9, 0)] [] (L0 n) μ1 Q := by
    intro d
    induction d with
    | zero =>
      intro j hj g rest w1 μ1 e1 e2 e3 e3' e4 e5
      obtain ⟨k1, k2, k3, k4, k5, k6, k7⟩ := dmS_ok hE hw h4 hm j _ (by omega) e1
      have k11 : 0 < g := k1.1
      have k12 : g < 32 := k1.2
      have k5 : WF E.S w1 := k5
      have k6 : w1 4 ≤ ev E.N j := k6
      have eb := (ev_b hN j (by omega)).2.1 (by omega)
      obtain ⟨f1, f2, f3⟩ := fsO_ok (g := g) ⟨k11, k12⟩
      have fN : fsO g < E.N := k2 _ f1.1 f1.2 f2
      have z : w1 (165 + ag E (fsO g)) = 0 := k7 _ f1.1 fN f2
      have hr1 := RT_frS hr e4
      have p443 : PA μ1 443 ((E.S : Int), 1) := ⟨hr1.2.2.2.2.2.2.1, hr1.2.2.2.2.2.2.2⟩
      apply s_X5_diminish_13 (layOK n) k440
      refine ⟨fun _ => c_X5_firstOf hE hr1 ⟨k11, k12⟩ (fun p p0 p1 pb => k2 p p0 p1 pb) ⟨_, rfl, rfl, ?_⟩, fun q => absurd (show E.N - (j : Int) ≤ 1 by omega) q⟩
      rw [rf_shr.2.2.1, rf441.2]
      refine c_X5_takeRestTo hE hr1 e2 (WF_cn k5) (by omega) ⟨f1.1, fN⟩ (by omega) k443 (Or.inr (by decide)) e3 p443 fun μ2 t1 t2 t3 => ⟨rfl, rfl, ?_⟩
      refine hok _ ?_ μ2 t1 (fun x i h1 h2 => (t3 x i (Or.inl (by unfold outD; omega)) (by omega)).trans (e4 x i h1 h2)) ((t3 174 1 (Or.inr ⟨rfl, by decide⟩) (by decide)).trans e5)
      unfold wayD
      rw [show E.N.toNat - 1 = j by omega, e1]
      rfl
    | succ d ih =>
      intro j hj g rest w1 μ1 e1 e2 e3 e3' e4 e5
      have i1' := dmS_ok hE hw h4 hm j _ (by omega) e1
      obtain ⟨k1, k2, k3, k4, k5, k6, k7⟩ := dmS_ok hE hw h4 hm j _ (by omega) e1
      have k11 : 0 < g := k1.1
      have k12 : g < 32 := k1.2
      have k2 : ∀ p : Int, 0 ≤ p → p < 5 → bt g p → p < E.N := k2
      have k3 : cnt g = E.N - j := k3
      have k4 : ptW E.S (w1 3) rest.1 rest.2 := k4
      have k5 : WF E.S w1 := k5
      have k6 : w1 4 ≤ ev E.N j := k6
      have eb := (ev_b hN j (by omega)).2.2 (by omega)
      have c5 : cntN g E.N.toNat ≤ cnt g := cntN_le (by omega)
      have hr1 := RT_frS hr e4
      obtain ⟨f1, f2, f3⟩ := fsO_ok (g := g) ⟨k11, k12⟩
      have fN : fsO g < E.N := k2 _ f1.1 f1.2 f2
      have ef : (((fsO g).toNat : Nat) : Int) = fsO g := by omega
      have p442 : PA μ1 442 (0, 1) := ⟨hr1.2.2.2.2.1, hr1.2.2.2.2.2.1⟩
      have re : rest.1 * 1 ≤ (E.S : Int) * rest.2 := by have := k4.2.2.1; omega
      have kb : isK (L0 n) (454 + 2 * fsO g) (3, 0) := kmark f1
      have step : dmS E w (j + 1) = (dmI E g rest (E.N - j) w1 E.N.toNat).map fun y => (off1 g y.1, y.2.1, takeS y.2.2 (ag E y.1) rest y.2.1) := by
        conv => lhs; unfold dmS
        rw [e1]
        rfl
      have s1 := dmI_at (dmI_first (E := E) (k := E.N - j) (rest := rest) (w := w1) ⟨k11, k12⟩ (fsO g).toNat (by omega))
      rw [ef, if_pos f2] at s1
      have s1 : dmI E g rest (E.N - j) w1 ((fsO g).toNat + 1) = (pmS E w1 (fsO g) rest rest (eE E) 1 (E.N - j)).map fun y => (fsO g, y.1, noteS y.2 0 (ag E (fsO g)) y.1 (0, 1)) := s1
      have hbad : ∀ q : Nat, (q : Int) ≤ E.N → dmI E g rest (E.N - j) w1 q = none → wayD E w = none := by
        intro q hq hn
        rw [dmI_none hn E.N.toNat (by omega)] at step
        unfold wayD
        rw [dmS_none (j := j + 1) step _ (by omega)]
        rfl
      -- the others look
      have look : ∀ (e q : Nat), (q : Int) + e = E.N → ∀ l m w2 μ2, 0 ≤ l → dmI E g rest (E.N - j) w1 q = some (l, m, w2) → DR μ2 174 w2 → PA μ2 (454 + 2 * l) m → frM μ1 μ2 → WA mX5_diminish 5 (0, 0) 88 [(2, 440), (0, g), (0, E.N - j), (0, l), (0, (q : Int)), (9, 0)] [] (L0 n) μ2 Q := by
        intro e
        induction e with
        | zero =>
          intro q hq l m w2 μ2 l0 y1 y2 y3 y4
          have hqN : q = E.N.toNat := by omega
          subst hqN
          rw [y1] at step
          have step : dmS E w (j + 1) = some (off1 g l, m, takeS w2 (ag E l) rest m) := step
          obtain ⟨d1, d2, d3, d4, d5⟩ := dmI_ok hE (by omega) k5 k4 E.N.toNat _ (by omega) (by omega) y1
          have d1 : WF E.S w2 := d1
          have d2 : upW w1 w2 := d2
          have d3 : w2 4 = w1 4 + cntN g E.N.toNat := d3
          have d5 := d5.resolve_left (fun z => by have : l = -1 := congrArg Prod.fst z.1; omega)
          have z2 : l < ((E.N.toNat : Nat) : Int) := d5.2.1
          have z3 : bt g l := d5.2.2.1
          have z4 : ptW E.S (w2 3) m.1 m.2 := d5.2.2.2.1
          have z5 : rest.1 * m.2 ≤ m.1 * rest.2 := d5.2.2.2.2
          obtain ⟨v1, v2, v3, v4⟩ := KI_step hE (by omega) i1' d1 d2 (Int.le_of_eq d3) d4 ⟨l0, by omega⟩ z3 z4 z5
          have hr2 := RT_frM hr1 y4
          have ps2 : PA μ2 445 rest := PA_fr e3 (fun i => y4 445 i (Or.inl (by unfold outD; omega)) (fun j j0 j1 => by omega))
          have pe2 : PA μ2 446 (eE E) := PA_fr e3' (fun i => y4 446 i (Or.inl (by unfold outD; omega)) (fun j j0 j1 => by omega))
          apply s_X5_diminish_88 (layOK n) k440
          rw [rf_shr.1, hr2.2.1, rf_shr.2.2.2.2.1, (sh_el.1 l l0 (by omega)).1]
          refine ⟨fun _ => ⟨⟨l0, by omega⟩, c_X5_takeRestTo hE hr2 y2 (WF_cn d1) (by omega) ⟨l0, by omega⟩ (by omega) (kmark ⟨l0, by omega⟩) (Or.inr (by omega)) ps2 y3 fun μ3 t1 t2 t3 => ⟨rfl, rfl, ⟨by omega, by omega⟩, ?_⟩⟩, fun q => absurd (show E.N ≤ ((E.N.toNat : Nat) : Int) by omega) q⟩
          rw [show E.N - (j : Int) + -1 = E.N - ((j + 1 : Nat) : Int) by omega]
          exact ih (j + 1) (by omega) _ _ _ μ3 step t1 t2 (PA_fr pe2 (fun i => t3 446 i (Or.inl (by unfold outD; omega)) (by decide))) (fun x i h1 h2 => ((t3 x i (Or.inl (by unfold outD; omega)) (by omega)).trans (frM_frS y4 x i h1 h2)).trans (e4 x i h1 h2)) (((t3 174 1 (Or.inr ⟨rfl, by decide⟩) (by decide)).trans (y4 174 1 (Or.inr ⟨rfl, by decide, by decide⟩) (fun j j0 j1 => by omega))).trans e5)
        | succ e ihe =>
          intro q hq l m w2 μ2 l0 y1 y2 y3 y4
          have m1 : cntN g q ≤ cntN g E.N.toNat := cntN_mono q _ (by omega)
          have m2 : cntN g (q + 1) ≤ cntN g E.N.toNat := cntN_mono (q + 1) _ (by omega)
          obtain ⟨d1, d2, d3, d4, d5⟩ := dmI_ok hE (by omega) k5 k4 q _ (by omega) (by omega) y1
          have d1 : WF E.S w2 := d1
          have d2 : upW w1 w2 := d2
          have d3 : w2 4 = w1 4 + cntN g q := d3
          have d5 := d5.resolve_left (fun z => by have : l = -1 := congrArg Prod.fst z.1; omega)
          have z2 : l < (q : Int) := d5.2.1
          have z4 : ptW E.S (w2 3) m.1 m.2 := d5.2.2.2.1
          have z5 : rest.1 * m.2 ≤ m.1 * rest.2 := d5.2.2.2.2
          have hr2 := RT_frM hr1 y4
          have ps2 : PA μ2 445 rest := PA_fr e3 (fun i => y4 445 i (Or.inl (by unfold outD; omega)) (fun j j0 j1 => by omega))
          have pe2 : PA μ2 446 (eE E) := PA_fr e3' (fun i => y4 446 i (Or.inl (by unfold outD; omega)) (fun j j0 j1 => by omega))
          have s2 := dmI_at y1
          apply s_X5_diminish_88 (layOK n) k440
          rw [rf_shr.1, hr2.2.1]
          refine ⟨fun z => absurd z (by omega), fun _ => c_X5_isIn fun r hri => ⟨r, rfl, rfl, fun z => ⟨⟨by omega, by omega⟩, ?_⟩, fun z => ?_⟩⟩
          · have nb : ¬ bt g q := by
              rcases hri with y | y
              · omega
              · exact y.2
            rw [if_neg nb] at s2
            exact ihe (q + 1) (by omega) l m w2 μ2 l0 s2 y2 y3 y4
          · have yb : bt g q := by
              rcases hri with y | y
              · exact y.2
              · exact absurd y.1 z
            have cs : cntN g (q + 1) = cntN g q + 1 := by
              show cntN g q + (if bt g q then 1 else 0) = _
              rw [if_pos yb]
            rw [if_pos yb, if_neg (by show ¬ l < 0; omega)] at s2
            have s2 : dmI E g rest (E.N - j) w1 (q + 1) = lookS E rest (E.N - j) q l m w2 := s2
            refine c_X5_trimOrPass hE hr2 y2 d1 (by omega) ⟨by omega, by omega⟩ ⟨l0, by omega⟩ ⟨by omega, by omega⟩ ps2 pe2 y3 (ptW_up k4 d2) z4 z5 (by omega) ?_ ?_
            · intro l' m' w' hlk μ3 t1 t2 t3
              rw [hlk] at s2
              have jj := (lookS_ok hE ⟨by omega, by omega⟩ (by omega) d1 (ptW_up k4 d2) z4 z5 (by omega) hlk).1
              have l'0 : 0 ≤ l' := by rcases jj with ⟨a, _⟩ | a <;> omega
              have l'1 : l' < 5 := by rcases jj with ⟨a, _⟩ | a <;> omega
              exact ⟨l', rfl, rfl, fun _ => ⟨⟨by omega, by omega⟩, ihe (q + 1) (by omega) l' m' w' μ3 l'0 s2 t1 t2 (fun x i hx hj => (t3 x i hx hj).trans (y4 x i hx hj))⟩, fun z => absurd l'0 z⟩
            · intro hlk μ3 t3
              rw [hlk] at s2
              exact ⟨-1, rfl, rfl, fun z => absurd z (by decide), fun _ => hno (hbad (q + 1) (by omega) s2) μ3 (fun x i h1 h2 => ((t3 x i (by unfold outD; omega) (fun j j0 j1 => by omega)).trans (frM_frS y4 x i h1 h2)).trans (e4 x i h1 h2))⟩
      apply s_X5_diminish_13 (layOK n) k440
      refine ⟨fun z => absurd z (by omega), fun _ => c_X5_firstOf hE hr1 ⟨k11, k12⟩ k2 ⟨_, rfl, rfl, f1, ?_⟩⟩
      rw [rf_shr.2.2.2.2.1, (sh_el.1 (fsO g) f1.1 f1.2).1, rf_shr.2.2.2.1, rf444.1, rf_shr.2.1, rf_shr.2.2.1, rf441.1]
      refine c_X5_agentAt hE hr1 ⟨f1.1, fN⟩ ⟨_, rfl, rfl, ?_⟩
      refine c_X5_putMark hE hr1 e2 (WF_cn k5) k5.1 kb k445 k444 (Or.inr (by omega)) ⟨f1.1, fN⟩ e3 e3 e3' k4 k4 (ptW_S (by omega)) re ⟨by decide, by decide⟩ ⟨by omega, by omega⟩ (due_rest hE ⟨f1.1, fN⟩ (by have := k4.2.1; omega) (show (0 : Int) < 1 by decide) re (by omega)) ?_ ?_
      · intro m1 w2 hpm μ2 q1 q2 q3
        obtain ⟨j1, j2, j3, j4, j5⟩ := pm_step hE ⟨f1.1, fN⟩ k5 k4 (show 0 < rest.2 by have := k4.2.1; omega) (show (0 : Int) < 1 by decide) re (by decide) (show 0 < E.N - (j : Int) by omega) (due_rest hE ⟨f1.1, fN⟩ (by have := k4.2.1; omega) (show (0 : Int) < 1 by decide) re (by omega)) hpm
        have e24 : w2 4 = w1 4 := by rw [j5, setU_ne (by decide)]
        have cn := WF_cn j3
        have hr2 : RT μ2 E := RT_fr hr1 (fun x i hx => q3 x i (by omega) (by omega) (by omega))
        rw [hpm] at s1
        refine ⟨1, rfl, rfl, fun _ => c_X5_agentAt hE hr2 ⟨f1.1, fN⟩ ⟨_, rfl, rfl, ?_⟩, fun z => absurd z (by decide)⟩
        refine c_X1_note k174 kb k442 (Or.inr (by omega)) (Or.inr (by decide)) q2 ⟨cn.1.1, by omega⟩ (fun b b0 b1 => (cn.2 b b0 b1).2) fun μ3 t1 t2 => ⟨rfl, rfl, ⟨by omega, by omega⟩, ?_⟩
        have o442 : PA μ2 442 (0, 1) := PA_fr p442 (fun i => q3 442 i (by omega) (by decide) (by omega))
        rw [q1.1, q1.2, o442.1, o442.2] at t1
        have := look (E.N - fsO g - 1).toNat ((fsO g).toNat + 1) (by omega) (fsO g) m1 _ μ3 f1.1 s1 t1 (PA_fr q1 (fun i => t2 _ i (Or.inl (Or.inr (by omega))))) (fun x i hx hj => (t2 x i (hx.imp_right fun z => ⟨z.1, z.2.2⟩)).trans (q3 x i (hj _ f1.1 f1.2) (by unfold outD at hx; omega) (by unfold outD at hx; omega)))
        rw [show (((fsO g).toNat + 1 : Nat) : Int) = fsO g + 1 by omega] at this
        exact this
      · intro hpm μ2 q3
        rw [hpm] at s1
        exact ⟨0, rfl, rfl, fun z => absurd rfl z, fun _ => hno (hbad _ (by omega) s1) μ2 (fun x i h1 h2 => (q3 x i (by omega) (by unfold outD; omega)).trans (e4 x i h1 h2))⟩
  have := key (E.N.toNat - 1) 0 (by omega) (full E.N) (0, 1) w μ rfl hd ps pe (fun _ _ _ _ => rfl) rfl
  rw [show E.N - ((0 : Nat) : Int) = E.N by omega] at this
  exact this
end
