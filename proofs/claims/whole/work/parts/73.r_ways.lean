/-! the reference's marks and worths, by the ways' numbers; one cuts, one chooses -/
/-- the told worths stand in the row -/
def EQ (E : WEnv) (w : Dv) : Prop := (E.S : Int) = w 0 ∧ E.N = w 1 ∧ ∀ a s : Int, 0 ≤ a → a < 5 → 0 ≤ s → s < 16 → E.T a s = w (85 + 16 * a + s)
/-- the reference within a way -/
def RE (μ : Mem) (E : WEnv) (w : Dv) : Prop := RWm μ w ∧ SW w ∧ EQ E w ∧ μ 493 12 = E.f
theorem EQ_of {E : WEnv} {w w' : Dv} (h : EQ E w) (he : ∀ i : Int, i < 165 → i ≠ 2 → i ≠ 3 → i ≠ 4 → w' i = w i) : EQ E w' := by
  obtain ⟨h1, h2, h3⟩ := h
  refine ⟨by rw [h1, he 0 (by decide) (by decide) (by decide) (by decide)], by rw [h2, he 1 (by decide) (by decide) (by decide) (by decide)], fun a s a0 a1 s0 s1 => by rw [h3 a s a0 a1 s0 s1, he _ (by omega) (by omega) (by omega) (by omega)]⟩
theorem RE_step {μ μ' : Mem} {E : WEnv} {w w' : Dv} (h : RE μ E w) (he : ∀ i : Int, i < 165 → i ≠ 3 → i ≠ 4 → w' i = w i) (hr : RWm μ' w') (hf : μ' 493 12 = μ 493 12) : RE μ' E w' :=
  ⟨hr, SW_of h.2.1 (fun i i1 _ i3 i4 => he i i1 i3 i4), EQ_of h.2.2.1 (fun i i1 _ i3 i4 => he i i1 i3 i4), hf.trans h.2.2.2⟩
theorem RE_Q {μ μ' : Mem} {E : WEnv} {w : Dv} (h : RE μ E w) (hf : frQ μ μ') : RE μ' E w := RE_step h (fun _ _ _ _ => rfl) (RWm_Q h.1 hf) (hf 493 12 (Or.inr (by decide)))
theorem EQ_row {E : WEnv} {w : Dv} {a : Int} (h : EQ E w) (ha : 0 ≤ a ∧ a < 5) : ∀ s : Int, 0 ≤ s → s < 16 → rowW w a 1 s = E.T a s := fun s s0 s1 => by
  unfold rowW
  rw [if_neg (by decide), h.2.2 a s ha.1 ha.2 s0 s1]
theorem markR_congr {w w' : Int → Int} (h : ∀ s : Int, 0 ≤ s → s < 16 → w s = w' s) {S : Nat} (hS : S ≤ 16) {px py vx vy : Int} : markR w S px py vx vy = markR w' S px py vx vy := by
  unfold markR
  split
  · rfl
  · rw [pw_congr (w := w) (w' := w') S (fun s s0 s1 => h s s0 (by omega)), fnd_congr h S 0 (by omega)]
    cases hf : fnd w' (pw w' px py S * vy + vx * py) (py * vy) S 0 with
    | none => rfl
    | some s =>
      have := (fnd_spec S 0 s hf).2.1
      show some _ = some _
      rw [mkP_congr h (show s < 16 by omega)]
theorem wvN_congr {w w' : Int → Int} (h : ∀ s : Int, 0 ≤ s → s < 16 → w s = w' s) {S : Nat} (hS : S ≤ 16) {a b : Pt} : wvN w S a b = wvN w' S a b := by
  unfold wvN
  rw [pw_congr (w := w) (w' := w') S (fun s s0 s1 => h s s0 (by omega)), pw_congr (w := w) (w' := w') S (fun s s0 s1 => h s s0 (by omega))]
theorem ptW_C {E : WEnv} {w : Dv} {u : Int} {p : Pt} (h : EQ E w) (hp : ptW E.S u p.1 p.2) : ptC w p := ⟨hp.1, by have := hp.2.1; omega, by rw [← h.1]; exact hp.2.2.1⟩
theorem rd_lt {x y x' y' : Int} (hy : 0 < y) (hy' : 0 < y') : rdN x y * rdD x' y' < rdN x' y' * rdD x y ↔ x * y' < x' * y := by
  have g := gc_pos (x := x) hy
  have g' := gc_pos (x := x') hy'
  have gg := Int.mul_pos g g'
  have e1 : x * y' = rdN x y * rdD x' y' * (gc x y * gc x' y') := by
    conv => lhs; rw [← rdN_mul x y, ← rdD_mul x' y']
    ac_rfl
  have e2 : x' * y = rdN x' y' * rdD x y * (gc x y * gc x' y') := by
    conv => lhs; rw [← rdN_mul x' y', ← rdD_mul x y]
    ac_rfl
  rw [e1, e2]
  exact ⟨fun h => Int.mul_lt_mul_of_pos_right h gg, fun h => Int.lt_of_mul_lt_mul_right h (by omega)⟩
section
variable {n : Int} {μ : Mem} {Q : Option AV → Lay → Mem → Prop}
theorem c_E_all {E : WEnv} {w : Dv} {a : Int} (hE : EnvOK E) (hR : RE μ E w) (ha : 0 ≤ a ∧ a < 5) (h : Q (some (1, cum (E.T a) E.S)) (L0 n) μ) : TR mX10_allOf 2 (0, 0) [(2, 493), (0, a), (0, 1)] (L0 n) μ Q := by
  have hS := hE.1
  have e := hR.2.2.1.1
  refine c_X10_allOf hR.1 hR.2.1 ha ?_
  rw [show (w 0).toNat = E.S by omega, cum_congr (w := rowW w a 1) (w' := E.T a) E.S (fun s s0 s1 => EQ_row hR.2.2.1 ha s s0 (by omega))]
  exact h
theorem c_E_between {E : WEnv} {w : Dv} {a : Int} {p q : Pt} (hE : EnvOK E) (hR : RE μ E w) (ha : 0 ≤ a ∧ a < 5) (hu : WFu w) (hp : ptW E.S (w 3) p.1 p.2) (hq : ptW E.S (w 3) q.1 q.2) (ho : p.1 * q.2 ≤ q.1 * p.2)
    (h : ∀ μ', frQ μ μ' → FR μ' (rdN (wvN (E.T a) E.S p q) (wvD p q)) (rdD (wvN (E.T a) E.S p q) (wvD p q)) → RE μ' E w → Q none (L0 n) μ') : TR mX10_worthBetween 2 (0, 0) [(2, 493), (0, a), (0, 1), (1, p.1), (1, p.2), (1, q.1), (1, q.2)] (L0 n) μ Q := by
  have hS := hE.1
  have e := hR.2.2.1.1
  obtain ⟨u1, u2⟩ := hu
  refine c_X10_worthBetween hR.1 hR.2.1 ha (ptW_C hR.2.2.1 hp) (ptW_C hR.2.2.1 hq) ho (u := w 3) ⟨by omega, by omega⟩ hp.2.2.2.1 hq.2.2.2.1 fun μ' f1 f2 => ?_
  rw [show (w 0).toNat = E.S by omega, wvN_congr (EQ_row hR.2.2.1 ha) hS.2] at f2
  exact h μ' f1 f2 (RE_Q hR f1)
theorem c_E_mark {E : WEnv} {w : Dv} {pl over under u hap : Int} {st a b v : Pt} (hE : EnvOK E) (hR : RE μ E w) (hw : WF E.S w) (hpl : 0 ≤ pl ∧ pl < E.N) (hst : ptW E.S (w 3) st.1 st.2) (hpa : ptW E.S (w 3) a.1 a.2) (hpb : ptW E.S (w 3) b.1 b.2) (hab : a.1 * b.2 ≤ b.1 * a.2) (ho : 0 ≤ over) (hun : 0 < under) (hd : DUE E st a b over under pl)
    (hv : 0 ≤ v.1 ∧ 0 < v.2) (hvx : v.1 * (wvD a b * under) = wvN (E.T (ag E pl)) E.S a b * over * v.2) (hu : 0 < u ∧ u ≤ 10000000000) (d1 : st.2 ∣ u) (d2 : v.2 ∣ u) (h4 : w 4 < 19) (hf : μ 493 11 = 0) (hhap : hap = 0 ∨ hap = 1)
    (hok : ∀ m w1, pmS E w pl st a b over under = some (m, w1) → ∀ μ', RE μ' E (if hap = 1 then noteS w1 0 (ag E pl) m (0, 1) else w1) → PU μ' (ag E pl) m → μ' 493 11 = 0 → frP (ag E pl) μ μ' → Q none (L0 n) μ')
    (hno : pmS E w pl st a b over under = none → ∀ m μ', RE μ' E w → PU μ' (ag E pl) m → 0 ≤ m.1 → 0 < m.2 → μ' 493 11 = 1 → frP (ag E pl) μ μ' → Q none (L0 n) μ') : TR mX10_marksPoint 3 (0, 0) [(2, 493), (0, ag E pl), (1, st.1), (1, st.2), (1, v.1), (1, v.2), (0, hap)] (L0 n) μ Q := by
  have hS := hE.1
  have eS := hR.2.2.1.1
  have hag := ag_b hE hpl
  have ha : 0 ≤ ag E pl ∧ ag E pl < 5 := ⟨hag.1, hag.2.2⟩
  have a2 : 0 < a.2 := by have := hpa.2.1; omega
  have b2 : 0 < b.2 := by have := hpb.2.1; omega
  have s2 : 0 < st.2 := by have := hst.2.1; omega
  have hrow := hE.2.2.2 _ ha.1 ha.2
  obtain ⟨m, e1, e2, e3, e4⟩ := pmS_ok hE hpl hw.1 hst a2 b2 hab ho hun hd
  have D0 : 0 < wvD a b * under := Int.mul_pos (Int.mul_pos a2 b2) hun
  have em : markR (rowW w (ag E pl) 1) (w 0).toNat st.1 st.2 v.1 v.2 = some m := by
    rw [show (w 0).toNat = E.S by omega, markR_congr (EQ_row hR.2.2.1 ha) hS.2, markR_any s2 hv.2 D0 hvx]
    exact e1
  -- there is not more than all
  have vb : v.1 ≤ 144 * v.2 := by
    have d := hd
    unfold DUE at d
    have p0 := (pw_b144 (P := st.1) hrow (show 0 ≤ st.2 by omega) hS.2).1
    have q0 := Int.mul_nonneg p0 (show 0 ≤ wvD a b * under by omega)
    have c144 := cum_b hrow E.S hS.2
    have d1' : wvN (E.T (ag E pl)) E.S a b * over * st.2 ≤ cum (E.T (ag E pl)) E.S * (wvD a b * under) * st.2 := by
      rw [show cum (E.T (ag E pl)) E.S * (wvD a b * under) * st.2 = cum (E.T (ag E pl)) E.S * (st.2 * (wvD a b * under)) by ac_rfl]
      omega
    have d2' := Int.le_of_mul_le_mul_right d1' s2
    have d3 := Int.mul_le_mul_of_nonneg_right (show cum (E.T (ag E pl)) E.S ≤ 144 by omega) (show 0 ≤ wvD a b * under by omega)
    have d4 := Int.mul_le_mul_of_nonneg_right (Int.le_trans d2' d3) (show 0 ≤ v.2 by omega)
    rw [← hvx, show 144 * (wvD a b * under) * v.2 = 144 * v.2 * (wvD a b * under) by ac_rfl] at d4
    exact Int.le_of_mul_le_mul_right d4 D0
  obtain ⟨t1, t2, t3, t4, t5, t6⟩ := two_all s2 hv.2 d1 d2 hu.1
  have hb : v.1 * rdN st.2 v.2 ≤ 10000000000000000 := by
    have := Int.mul_le_mul_of_nonneg_right vb (show 0 ≤ rdN st.2 v.2 by omega)
    rw [show 144 * v.2 * rdN st.2 v.2 = 144 * (rdN st.2 v.2 * v.2) by ac_rfl] at this
    omega
  have m0 := e2.1
  refine c_X10_marksPoint hR.1 hR.2.1 ha (ptW_C hR.2.2.1 hst) hv hu d1 d2 hb hw.1 ⟨hw.2.1.1, by omega⟩ hf em m0.2.1 hhap ?_ ?_
  · intro w1 ew μ' r1 r2 r3 r4
    obtain ⟨x1, x2, x3, x4⟩ := e4 w1 ew
    refine hok m w1 (by rw [e3, ew]; rfl) μ' (RE_step hR (fun i i1 i3 i4 => ?_) r1 (r4 493 12 (Or.inr (by decide)) (by decide) (Or.inl (by decide)))) r2 r3 r4
    split
    · have w14 : w1 4 = w 4 := by rw [x4, setU_ne (by decide)]
      rw [(note_lo (w := w1) (by rw [w14]; exact hw.2.1.1)).2 i i4 (by omega), x4, setU_ne i3]
    · rw [x4, setU_ne i3]
  · intro ew μ' r1 r2 r3 r4
    exact hno (by rw [e3, ew]; rfl) m μ' (RE_step hR (fun _ _ _ _ => rfl) r1 (r4 493 12 (Or.inr (by decide)) (by decide) (Or.inl (by decide)))) r2 m0.1 m0.2.1 r3 r4
theorem c_E_take {E : WEnv} {w : Dv} {a : Int} {p q : Pt} (hR : RE μ E w) (hw : WF E.S w) (ha : 0 ≤ a ∧ a < 5) (h4 : w 4 < 19) (hm : w (165 + a) < 2)
    (h : ∀ μ', RE μ' E (takeS w a p q) → (∀ x i, x ≠ 494 → μ' x i = μ x i) → Q none (L0 n) μ') : TR mX10_takes 1 (0, 0) [(2, 493), (0, a), (1, p.1), (1, p.2), (1, q.1), (1, q.2)] (L0 n) μ Q := by
  have m0 := (hw.2.2 a ha.1 ha.2).1.1
  refine c_X10_takes hR.1 ha ⟨hw.2.1.1, by omega⟩ ⟨m0, hm⟩ fun μ' r1 r2 => h μ' (RE_step hR (fun i i1 i3 i4 => ?_) r1 (r2 493 12 (by decide))) r2
  exact (take_lo (w := w) (a := a) (p := p) (q := q) hw.2.1.1 ha ⟨m0, hm⟩).2.2 i i4 (by omega) (by omega)
theorem c_E_ord {E : WEnv} {w : Dv} {k : Int} (hE : EnvOK E) (hR : RE μ E w) (hk : 0 ≤ k ∧ k < E.N) (h : Q (some (0, ag E k)) (L0 n) μ) : TR mX10_ordered 1 (0, 0) [(2, 493), (0, k)] (L0 n) μ Q := c_X10_ordered hR.1 hR.2.1 hE hR.2.2.1.2.1 hR.2.2.2 hk h
theorem rdD_W {E : WEnv} {w : Dv} {a : Int} {p q : Pt} (hu : WFu w) (hp : ptW E.S (w 3) p.1 p.2) (hq : ptW E.S (w 3) q.1 q.2) : rdD (wvN (E.T a) E.S p q) (wvD p q) ∣ w 3 := by
  have p1 := hp.2.1
  have q1 := hq.2.1
  have u1 := hu.1
  have e := spn_wv (row := E.T a) (S := E.S) (u := w 3) (a := p) (b := q) (by omega) p1 q1 hp.2.2.2.1 hq.2.2.2.1
  have D0 : 0 < wvD p q := Int.mul_pos (by omega) (by omega)
  have r := rd_eq (x := wvN (E.T a) E.S p q) (y := wvD p q) (x' := spn (E.T a) E.S (w 3) p.1 p.2 q.1 q.2) (y' := w 3) D0 (by omega) e.symm
  rw [r.2]
  exact ⟨gc (spn (E.T a) E.S (w 3) p.1 p.2 q.1 q.2) (w 3), (rdD_mul _ _).symm⟩
theorem c_X10_chooses {E : WEnv} {w : Dv} (hE : EnvOK E) (hR : RE μ E w) (hw : WF E.S w) (h4 : w 4 = 0) (hm : ∀ a : Int, 0 ≤ a → a < 5 → w (165 + a) = 0) (hf : μ 493 11 = 0)
    (hok : ∀ w', wayC E w = some w' → ∀ μ', RE μ' E w' → μ' 493 11 = 0 → frW μ μ' → Q none (L0 n) μ')
    (hno : wayC E w = none → ∀ μ', RE μ' E w → μ' 493 11 = 1 → frW μ μ' → Q none (L0 n) μ') : TR mX10_chooses 4 (0, 0) [(2, 493)] (L0 n) μ Q := by
  have hN := hE.2.1
  have hS := hE.1
  have g0 := ag_b hE (p := 0) ⟨by decide, by omega⟩
  have g1 := ag_b hE (p := 1) ⟨by decide, by omega⟩
  have gne : ag E 0 ≠ ag E 1 := fun e => absurd (ag_inj hE ⟨by decide, by omega⟩ ⟨by decide, by omega⟩ e) (by decide)
  obtain ⟨wv1, wv2⟩ := wv_whole (row := E.T (ag E 0)) (S := E.S)
  have cb := cum_b (hE.2.2.2 _ g0.1 g0.2.2) E.S hS.2
  apply t_X10_chooses (layOK n) k493
  refine c_E_ord hE hR ⟨by decide, by omega⟩ ⟨_, rfl, rfl, c_E_ord hE hR ⟨by decide, by omega⟩ ⟨_, rfl, rfl, c_E_all hE hR ⟨g0.1, g0.2.2⟩ ⟨_, rfl, rfl, ?_⟩⟩⟩
  refine c_E_mark (st := (0, 1)) (a := (0, 1)) (b := ((E.S : Int), 1)) (over := 1) (under := 2) (u := 2) (v := (cum (E.T (ag E 0)) E.S, 2)) hE hR hw ⟨by decide, by omega⟩ (ptW_Zu (by omega)) (ptW_Zu (by omega)) (ptW_S (by omega)) (show (0 : Int) * 1 ≤ E.S * 1 by omega) (by decide) (by decide) (due_whole hE ⟨by decide, by omega⟩ (by decide) (by decide)) ⟨cb.1, show (0 : Int) < 2 by decide⟩ ?_ ⟨by decide, by decide⟩ ⟨2, rfl⟩ ⟨1, rfl⟩ (by omega) hf (Or.inr rfl) ?_ ?_
  · rw [wv1, wv2]
    show cum (E.T (ag E 0)) E.S * (1 * 2) = cum (E.T (ag E 0)) E.S * 1 * 2
    omega
  · intro m w1 hpm μ1 R1 pu z1 f1
    rw [if_pos rfl] at R1
    obtain ⟨b1, b2, b3, b4, b5⟩ := wayC_mark hE hw hpm
    have e14 : w1 4 = 0 := by rw [b5, setU_ne (by decide), h4]
    obtain ⟨n1, n2⟩ := note_lo (w := w1) (kind := 0) (a := ag E 0) (p := m) (q := (0, 1)) (by omega)
    have wn : WF E.S (noteS w1 0 (ag E 0) m (0, 1)) := note_WF b3 ⟨by decide, by decide⟩ ⟨g0.1, g0.2.2⟩ b2 (ptW_Zu (by omega)) (fun q => absurd q (by decide)) (by omega)
    have way : wayC E w = some (if wvN (E.T (ag E 1)) E.S (0, 1) m * wvD m ((E.S : Int), 1) < wvN (E.T (ag E 1)) E.S m ((E.S : Int), 1) * wvD (0, 1) m then takeS (takeS (noteS w1 0 (ag E 0) m (0, 1)) (ag E 1) m ((E.S : Int), 1)) (ag E 0) (0, 1) m else takeS (takeS (noteS w1 0 (ag E 0) m (0, 1)) (ag E 1) (0, 1) m) (ag E 0) m ((E.S : Int), 1)) := by
      unfold wayC
      rw [hpm]
      rfl
    generalize noteS w1 0 (ag E 0) m (0, 1) = w2 at *
    have e23 : w2 3 = w1 3 := n2 3 (by decide) (by decide)
    have em : ∀ a : Int, 0 ≤ a → a < 5 → w2 (165 + a) = 0 := fun a a0 a1 => by rw [n2 _ (by omega) (by omega), b5, setU_ne (by omega), hm a a0 a1]
    have ws : ptW E.S (w2 3) m.1 m.2 := by rw [e23]; exact b2
    have wz : ptW E.S (w2 3) ((0, 1) : Pt).1 ((0, 1) : Pt).2 := ptW_Zu (by omega)
    have we : ptW E.S (w2 3) (((E.S : Int), 1) : Pt).1 (((E.S : Int), 1) : Pt).2 := ptW_S (by omega)
    have hu2 := wn.1
    have u1 := hu2.1
    have u2 := hu2.2
    have oL : ((0, 1) : Pt).1 * m.2 ≤ m.1 * ((0, 1) : Pt).2 := by show (0 : Int) * m.2 ≤ m.1 * 1; have := b2.1; omega
    have oR : m.1 * (((E.S : Int), 1) : Pt).2 ≤ (((E.S : Int), 1) : Pt).1 * m.2 := by show m.1 * 1 ≤ (E.S : Int) * m.2; have := b2.2.2.1; omega
    have m2 : 0 < m.2 := by have := b2.2.1; omega
    refine ⟨rfl, rfl, fun _ => ⟨⟨g0.1, g0.2.2⟩, ?_⟩, fun q => absurd z1 q⟩
    rw [rf_ref.2.2.2.2.1, rf_ref.2.2.2.2.2.1, pu.1, pu.2]
    refine c_E_between (p := (0, 1)) (q := m) hE R1 ⟨g1.1, g1.2.2⟩ hu2 wz ws oL fun μ2 f2 fr2 R2 => ⟨rfl, rfl, c_X10_ends R2.1 ⟨_, rfl, rfl, ?_⟩⟩
    rw [← R2.2.2.1.1]
    refine c_E_between (p := m) (q := ((E.S : Int), 1)) hE R2 ⟨g1.1, g1.2.2⟩ hu2 ws we oR fun μ3 f3 fr3 R3 => ⟨rfl, rfl, ?_⟩
    rw [fr2.1, fr2.2, fr3.1, fr3.2]
    have dvd1 := rdD_W (a := ag E 1) hu2 wz ws
    have dvd2 := rdD_W (a := ag E 1) hu2 ws we
    have D1 : 0 < wvD (0, 1) m := Int.mul_pos (by decide) m2
    have D2 : 0 < wvD m ((E.S : Int), 1) := Int.mul_pos m2 (by show (0 : Int) < 1; decide)
    have rowOK1 := hE.2.2.2 _ g1.1 g1.2.2
    have n0 := (wv_b (row := E.T (ag E 1)) (S := E.S) (a := (0, 1)) (b := m) rowOK1 hS.2 (by show (1 : Int) ≤ 1; decide) (by omega) oL).1
    have n1' := (wv_b (row := E.T (ag E 1)) (S := E.S) (a := m) (b := ((E.S : Int), 1)) rowOK1 hS.2 (by omega) (by show (1 : Int) ≤ 1; decide) oR).1
    have dp1 := rdD_pos (x := wvN (E.T (ag E 1)) E.S (0, 1) m) D1
    have dp2 := rdD_pos (x := wvN (E.T (ag E 1)) E.S m ((E.S : Int), 1)) D2
    have l1 := Int.le_of_dvd (show 0 < w2 3 by omega) dvd1
    have l2 := Int.le_of_dvd (show 0 < w2 3 by omega) dvd2
    have pb := mulLB (show 0 ≤ rdD (wvN (E.T (ag E 1)) E.S (0, 1) m) (wvD (0, 1) m) by omega) (show 0 ≤ rdD (wvN (E.T (ag E 1)) E.S m ((E.S : Int), 1)) (wvD m ((E.S : Int), 1)) by omega) (Int.le_trans l1 u2) (Int.le_trans l2 u2)
    have F3 : frW μ μ3 := frW_tr (frP_W f1) (frW_tr (frQ_W f2) (frQ_W f3))
    have z3 : μ3 493 11 = 0 := by rw [f3 493 11 (Or.inr (by decide)), f2 493 11 (Or.inr (by decide)), z1]
    have two : ∀ s1 e1 s0 e0 : Pt, ptW E.S (w2 3) s1.1 s1.2 → ptW E.S (w2 3) e1.1 e1.2 → s1.1 * e1.2 ≤ e1.1 * s1.2 → wayC E w = some (takeS (takeS w2 (ag E 1) s1 e1) (ag E 0) s0 e0) → ∀ K : Option AV → Lay → Mem → Prop, (∀ μ4, RE μ4 E (takeS w2 (ag E 1) s1 e1) → (∀ x i, x ≠ 494 → μ4 x i = μ3 x i) → TR mX10_takes 1 (0, 0) [(2, 493), (0, ag E 0), (1, s0.1), (1, s0.2), (1, e0.1), (1, e0.2)] (L0 n) μ4 (fun r L μ5 => r = none ∧ (L0 n) = L ∧ Q none (L0 n) μ5) → K none (L0 n) μ4) → TR mX10_takes 1 (0, 0) [(2, 493), (0, ag E 1), (1, s1.1), (1, s1.2), (1, e1.1), (1, e1.2)] (L0 n) μ3 K := by
      intro s1 e1 s0 e0 y1 y2 y3 hway K hK
      refine c_E_take (p := s1) (q := e1) R3 wn ⟨g1.1, g1.2.2⟩ (by omega) (by rw [em _ g1.1 g1.2.2]; decide) fun μ4 R4 f4 => hK μ4 R4 f4 ?_
      have wt := take_WF wn ⟨g1.1, g1.2.2⟩ y1 y2 y3 (by rw [em _ g1.1 g1.2.2]; decide) (by omega)
      obtain ⟨l1, l2, l3⟩ := take_lo (w := w2) (a := ag E 1) (p := s1) (q := e1) (by omega) ⟨g1.1, g1.2.2⟩ (by rw [em _ g1.1 g1.2.2]; decide)
      refine c_E_take (p := s0) (q := e0) R4 wt ⟨g0.1, g0.2.2⟩ (by omega) (by rw [l3 _ (by omega) (by omega) (by omega), em _ g0.1 g0.2.2]; decide) fun μ5 R5 f5 => ⟨rfl, rfl, ?_⟩
      exact hok _ hway μ5 R5 (by rw [f5 493 11 (by decide), f4 493 11 (by decide), z3]) (frW_tr F3 (frW_tr (fr4_W f4) (fr4_W f5)))
    refine c_X10_isLess (rdN_nn n0) dp1 (rdN_nn n1') dp2 (by omega) fun r hr => ⟨r, rfl, rfl, ?_⟩
    have cmp := rd_lt (x := wvN (E.T (ag E 1)) E.S (0, 1) m) (x' := wvN (E.T (ag E 1)) E.S m ((E.S : Int), 1)) D1 D2
    refine ⟨fun q => ⟨fun _ => ?_, fun q2 => absurd q q2⟩, fun q => ⟨fun q2 => absurd q2 q, fun _ => ?_⟩⟩
    · rw [if_neg (fun z => by have := cmp.mpr z; omega)] at way
      apply s_X10_chooses_129 (layOK n) k493 k493
      refine ⟨fun _ => ⟨fun _ => ?_, fun q2 => absurd q q2⟩, fun q2 => absurd q q2⟩
      apply s_X10_chooses_153 (layOK n) k493 k493
      refine two (0, 1) m m ((E.S : Int), 1) wz ws oL way _ fun μ4 R4 f4 h4' => ⟨rfl, rfl, fun _ => ⟨fun _ => ?_, fun q2 => absurd q q2⟩, fun q2 => absurd q q2⟩
      apply s_X10_chooses_179 (layOK n) k493 k493
      refine ⟨fun _ => c_X10_ends R4.1 ⟨_, rfl, rfl, fun _ => ?_, fun q2 => absurd q q2⟩, fun q2 => absurd q q2⟩
      rw [← R4.2.2.1.1]
      exact h4'
    · rw [if_pos (cmp.mp (by omega))] at way
      apply s_X10_chooses_129 (layOK n) k493 k493
      refine ⟨fun q2 => absurd q2 q, fun _ => c_X10_ends R3.1 ⟨_, rfl, rfl, fun q2 => absurd q2 q, fun _ => ?_⟩⟩
      apply s_X10_chooses_153 (layOK n) k493 k493
      rw [← R3.2.2.1.1]
      refine two m ((E.S : Int), 1) (0, 1) m ws we oR way _ fun μ4 R4 f4 h4' => ⟨rfl, rfl, fun q2 => absurd q2 q, fun _ => ⟨fun q2 => absurd q2 q, fun _ => ?_⟩⟩
      apply s_X10_chooses_179 (layOK n) k493 k493
      exact ⟨fun q2 => absurd q2 q, fun _ => ⟨fun q2 => absurd q2 q, fun _ => h4'⟩⟩
  · intro hpm m μ1 R1 pu m1 m2 z1 f1
    refine ⟨rfl, rfl, fun q => absurd (q.symm.trans z1) (by decide), fun _ => hno ?_ μ1 R1 z1 (frP_W f1)⟩
    unfold wayC
    rw [hpm]
    rfl
end
