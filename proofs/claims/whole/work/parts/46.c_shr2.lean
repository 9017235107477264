/-! notes and takes: the division stays well formed -/
theorem WF_cn {S : Int} {w : Dv} (h : WF S w) : CN w := ⟨⟨h.2.1.1, h.2.1.2.1⟩, fun a a0 a1 => (h.2.2 a a0 a1).1⟩
theorem note_lo {w : Dv} {kind a : Int} {p q : Pt} (h4 : 0 ≤ w 4) : noteS w kind a p q 4 = w 4 + 1 ∧ ∀ i, i ≠ 4 → i < 210 → noteS w kind a p q i = w i := ⟨happ_4 h4, fun i h1 h2 => happ_ne h1 (Or.inl (by omega))⟩
theorem note_WF {S : Int} {w : Dv} {kind a : Int} {p q : Pt} (h : WF S w) (hk : 0 ≤ kind ∧ kind ≤ 3) (ha : 0 ≤ a ∧ a < 5) (hp : ptW S (w 3) p.1 p.2) (hq : ptW S (w 3) q.1 q.2) (ho : kind = 1 → p.1 * q.2 ≤ q.1 * p.2) (h4 : w 4 < 19) : WF S (noteS w kind a p q) := by
  obtain ⟨hu, he, hs⟩ := h
  have h40 := he.1
  obtain ⟨lo4, lo⟩ := note_lo (kind := kind) (a := a) (p := p) (q := q) he.1
  have l3 : noteS w kind a p q 3 = w 3 := lo 3 (by decide) (by decide)
  refine ⟨?_, ?_, WFs_un hs (show w 3 ∣ _ by rw [l3]; exact Int.dvd_refl _) (fun i i0 i1 => lo i (by omega) i1)⟩
  · unfold WFu; rw [l3]; exact hu
  · refine ⟨by rw [lo4]; omega, by rw [lo4]; omega, fun k k0 k1 => ?_⟩
    rw [lo4] at k1
    rw [l3]
    by_cases e : k = w 4
    · obtain ⟨a0, a1, a2, a3, a4, a5⟩ := happ_at (w := w) (e0 := kind) (e1 := a) (e2 := p.1) (e3 := p.2) (e4 := q.1) (e5 := q.2)
      rw [e]
      unfold noteS
      rw [a0, a1, a2, a3, a4, a5]
      exact ⟨hk, ha, hp, hq, ho⟩
    · have g := he.2.2 k k0 (by omega)
      unfold noteS
      rw [happ_ne (by omega) (by omega), happ_ne (by omega) (by omega), happ_ne (by omega) (by omega), happ_ne (by omega) (by omega), happ_ne (by omega) (by omega), happ_ne (by omega) (by omega)]
      exact g
theorem give_lo {w : Dv} {a : Int} {p q : Pt} (ha : 0 ≤ a ∧ a < 5) (hm : 0 ≤ w (165 + a) ∧ w (165 + a) < 2) : giveS w a p q (165 + a) = w (165 + a) + 1 ∧ (∀ i, i ≠ 165 + a → i < 170 → giveS w a p q i = w i) ∧ ∀ i, 210 ≤ i → giveS w a p q i = w i := ⟨addS_m ha.1 hm.1, fun i h1 h2 => addS_ne h1 (Or.inl (by omega)), fun i h1 => addS_ne (by omega) (Or.inr (by omega))⟩
theorem give_WF {S : Int} {w : Dv} {a : Int} {p q : Pt} (h : WF S w) (ha : 0 ≤ a ∧ a < 5) (hp : ptW S (w 3) p.1 p.2) (hq : ptW S (w 3) q.1 q.2) (ho : p.1 * q.2 ≤ q.1 * p.2) (hm : w (165 + a) < 2) : WF S (giveS w a p q) := by
  obtain ⟨hu, he, hs⟩ := h
  have m0 := (hs a ha.1 ha.2).1
  obtain ⟨g1, g2, g3⟩ := give_lo (p := p) (q := q) ha ⟨m0.1, hm⟩
  have l3 : giveS w a p q 3 = w 3 := g2 3 (by omega) (by decide)
  refine ⟨?_, WFe_un he (show w 3 ∣ _ by rw [l3]; exact Int.dvd_refl _) (fun i hi => ?_), fun b b0 b1 => ?_⟩
  · unfold WFu; rw [l3]; exact hu
  · rcases hi with rfl | hi
    · exact g2 4 (by omega) (by decide)
    · exact g3 i hi
  · obtain ⟨n0, n1⟩ := hs b b0 b1
    rw [l3]
    by_cases e : b = a
    · subst e
      rw [g1]
      refine ⟨by omega, fun k k0 k1 => ?_⟩
      by_cases e2 : k = w (165 + b)
      · obtain ⟨c0, c1, c2, c3⟩ := addS_at (w := w) (a := b) (e0 := p.1) (e1 := p.2) (e2 := q.1) (e3 := q.2)
        rw [e2]
        unfold giveS
        rw [c0, c1, c2, c3]
        exact ⟨hp, hq, ho⟩
      · have := n1 k k0 (by omega)
        unfold giveS
        rw [addS_ne (by omega) (by omega), addS_ne (by omega) (by omega), addS_ne (by omega) (by omega), addS_ne (by omega) (by omega)]
        exact this
    · rw [g2 (165 + b) (by omega) (by omega)]
      refine ⟨n0, fun k k0 k1 => ?_⟩
      have := n1 k k0 k1
      unfold giveS
      rw [addS_ne (by omega) (by omega), addS_ne (by omega) (by omega), addS_ne (by omega) (by omega), addS_ne (by omega) (by omega)]
      exact this
theorem take_lo {w : Dv} {a : Int} {p q : Pt} (h4 : 0 ≤ w 4) (ha : 0 ≤ a ∧ a < 5) (hm : 0 ≤ w (165 + a) ∧ w (165 + a) < 2) : takeS w a p q 4 = w 4 + 1 ∧ takeS w a p q (165 + a) = w (165 + a) + 1 ∧ ∀ i, i ≠ 4 → i ≠ 165 + a → i < 170 → takeS w a p q i = w i := by
  obtain ⟨n1, n2⟩ := note_lo (kind := 3) (a := a) (p := p) (q := q) h4
  have e := n2 (165 + a) (by omega) (by omega)
  obtain ⟨g1, g2, -⟩ := give_lo (w := noteS w 3 a p q) (p := p) (q := q) ha (by rw [e]; exact hm)
  unfold takeS
  refine ⟨by rw [g2 4 (by omega) (by decide), n1], by rw [g1, e], fun i i4 i5 i6 => by rw [g2 i i5 i6, n2 i i4 (by omega)]⟩
theorem take_WF {S : Int} {w : Dv} {a : Int} {p q : Pt} (h : WF S w) (ha : 0 ≤ a ∧ a < 5) (hp : ptW S (w 3) p.1 p.2) (hq : ptW S (w 3) q.1 q.2) (ho : p.1 * q.2 ≤ q.1 * p.2) (hm : w (165 + a) < 2) (h4 : w 4 < 19) : WF S (takeS w a p q) := by
  have hn := note_WF (kind := 3) h ⟨by omega, by omega⟩ ha hp hq (fun q => absurd q (by decide)) h4
  obtain ⟨n1, n2⟩ := note_lo (w := w) (kind := 3) (a := a) (p := p) (q := q) h.2.1.1
  exact give_WF hn ha (by rw [n2 3 (by decide) (by decide)]; exact hp) (by rw [n2 3 (by decide) (by decide)]; exact hq) ho (by rw [n2 _ (by omega) (by omega)]; exact hm)
section
variable {n : Int} {μ : Mem} {Q : Option AV → Lay → Mem → Prop}
theorem rf444 : rf (L0 n) 444 0 = 445 ∧ rf (L0 n) 444 1 = 446 := ⟨(sp_at k444).1, (sp_at k444).2.1⟩
theorem rf441 : rf (L0 n) 441 0 = 442 ∧ rf (L0 n) 441 1 = 443 := ⟨(sp_at k441).1, (sp_at k441).2.1⟩
/-- note and give, of two points outside -/
theorem c_take {w : Dv} {a o1 o2 : Int} {p q : Pt} {R : Option AV → Lay → Mem → Prop} (hd : DR μ 174 w) (hc : CN w) (h4 : w 4 < 19) (ha : 0 ≤ a ∧ a < 5) (hm : w (165 + a) < 2) (k1 : isK (L0 n) o1 (3, 0)) (k2 : isK (L0 n) o2 (3, 0)) (d1 : outD 174 o1) (d2 : outD 174 o2) (h1 : PA μ o1 p) (h2 : PA μ o2 q)
    (h : ∀ μ', DR μ' 174 (takeS w a p q) → (∀ x i, outD 174 x ∨ x = 174 ∧ i ≠ 3 → μ' x i = μ x i) → R none (L0 n) μ') :
    TR mX1_note 2 (0, 0) [(2, 174), (0, 3), (0, a), (2, o1), (2, o2)] (L0 n) μ (fun r L μ' => r = none ∧ (L0 n) = L ∧ TR mX1_give 2 (0, 0) [(2, 174), (0, a), (2, o1), (2, o2)] (L0 n) μ' R) := by
  refine c_X1_note k174 k1 k2 d1 d2 hd ⟨hc.1.1, h4⟩ (fun b b0 b1 => (hc.2 b b0 b1).2) fun μ1 g1 g2 => ⟨rfl, rfl, ?_⟩
  rw [h1.1, h1.2, h2.1, h2.2] at g1
  obtain ⟨n1, n2⟩ := note_lo (w := w) (kind := 3) (a := a) (p := p) (q := q) hc.1.1
  refine c_X1_give k174 k1 k2 d1 d2 g1 ha (by show 0 ≤ noteS w 3 a p q _ ∧ noteS w 3 a p q _ < 2; rw [n2 _ (by omega) (by omega)]; exact ⟨(hc.2 a ha.1 ha.2).1, hm⟩) (by show noteS w 3 a p q 4 ≤ 19; rw [n1]; omega) (fun b b0 b1 => by show noteS w 3 a p q _ ≤ 2; rw [n2 _ (by omega) (by omega)]; exact (hc.2 b b0 b1).2) fun μ2 g3 g4 => ?_
  rw [g2 o1 0 (Or.inl d1), g2 o1 1 (Or.inl d1), g2 o2 0 (Or.inl d2), g2 o2 1 (Or.inl d2), h1.1, h1.2, h2.1, h2.2] at g3
  exact h μ2 g3 (fun x i hx => (g4 x i (hx.imp_right And.left)).trans (g2 x i hx))
theorem c_X5_takeRestTo {E : WEnv} {w : Dv} {p o : Int} {s q : Pt} (hE : EnvOK E) (hr : RT μ E) (hd : DR μ 174 w) (hc : CN w) (h4 : w 4 < 19) (hp : 0 ≤ p ∧ p < E.N) (hm : w (165 + ag E p) < 2) (ko : isK (L0 n) o (3, 0)) (do_ : outD 174 o) (hs : PA μ 445 s) (hq : PA μ o q)
    (h : ∀ μ', DR μ' 174 (takeS w (ag E p) s q) → PA μ' 445 q → (∀ x i, outD 174 x ∨ x = 174 ∧ i ≠ 3 → x ≠ 445 → μ' x i = μ x i) → Q none (L0 n) μ') : TR mX5_takeRestTo 3 (0, 0) [(2, 440), (0, p), (2, o)] (L0 n) μ Q := by
  have ha := ag_b hE hp
  apply t_X5_takeRestTo (layOK n) k440 ko
  rw [rf_shr.2.1, rf_shr.2.2.2.1, rf444.1]
  refine c_X5_agentAt hE hr hp ⟨_, rfl, rfl, ?_⟩
  refine c_take hd hc h4 ⟨ha.1, ha.2.2⟩ hm k445 ko (Or.inr (by decide)) do_ hs hq fun μ1 g1 g2 => ⟨rfl, rfl, ?_⟩
  refine c_X3_copy k445 ko ⟨rfl, rfl, ?_⟩
  have eo : PA μ1 o q := PA_fr hq (fun i => g2 o i (Or.inl do_))
  have f1 : ∀ x i, x ≠ 445 → up (up μ1 445 0 (μ1 o 0)) 445 1 (μ1 o 1) x i = μ1 x i := fun x i hx => by rw [up_ne (Or.inl hx), up_ne (Or.inl hx)]
  unfold outD at do_
  refine h _ (DR_frame g1 ?_ ?_ (fun x i hx => f1 x i (by omega))) ⟨by rw [up_ne (Or.inr (by decide)), up_eq]; exact eo.1, by rw [up_eq]; exact eo.2⟩ (fun x i hx hx2 => (f1 x i hx2).trans (g2 x i hx))
  · rw [(take_lo hc.1.1 ⟨ha.1, ha.2.2⟩ ⟨(hc.2 _ ha.1 ha.2.2).1, hm⟩).1]; omega
  · intro b b0 b1
    have t := take_lo (p := s) (q := q) hc.1.1 ⟨ha.1, ha.2.2⟩ ⟨(hc.2 _ ha.1 ha.2.2).1, hm⟩
    by_cases e : b = ag E p
    · rw [e, t.2.1]; omega
    · rw [t.2.2 (165 + b) (by omega) (by omega) (by omega)]
      exact (hc.2 b b0 b1).2
theorem kpiece {i : Int} (h : 0 ≤ i ∧ i < 3) : isK (L0 n) (464 + 3 * i) (7, 0) := by
  have : i = 0 ∨ i = 1 ∨ i = 2 := by omega
  rcases this with rfl | rfl | rfl <;> exact isK0 (by decide) (by decide) (by decide +kernel)
theorem c_X5_takePiece {E : WEnv} {w : Dv} {p j : Int} {s q : Pt} (hE : EnvOK E) (hr : RT μ E) (hd : DR μ 174 w) (hc : CN w) (h4 : w 4 < 19) (hp : 0 ≤ p ∧ p < E.N) (hj : 0 ≤ j ∧ j < 3) (hm : w (165 + ag E p) < 2) (hs : PA μ (465 + 3 * j) s) (hq : PA μ (466 + 3 * j) q)
    (h : ∀ μ', DR μ' 174 (takeS w (ag E p) s q) → (∀ x i, outD 174 x ∨ x = 174 ∧ i ≠ 3 → μ' x i = μ x i) → Q none (L0 n) μ') : TR mX5_takePiece 3 (0, 0) [(2, 440), (0, p), (0, j)] (L0 n) μ Q := by
  have ha := ag_b hE hp
  have kp := kpiece (n := n) hj
  obtain ⟨e1, e2, e3, e4⟩ := sp_at kp
  rw [show 464 + 3 * j + 1 = 465 + 3 * j by omega] at e1 e3
  rw [show 464 + 3 * j + 2 = 466 + 3 * j by omega] at e2 e4
  apply t_X5_takePiece (layOK n) k440
  rw [rf_shr.2.1, rf_shr.2.2.2.2.2.2.2.1, sh_el.2.1 j hj.1 hj.2, e1, e2]
  refine c_X5_agentAt hE hr hp ⟨_, rfl, rfl, hj, ?_⟩
  exact c_take hd hc h4 ⟨ha.1, ha.2.2⟩ hm e3 e4 (Or.inr (by omega)) (Or.inr (by omega)) hs hq fun μ1 g1 g2 => ⟨rfl, rfl, h μ1 g1 g2⟩
theorem c_X5_isIn {g p : Int} (h : ∀ r : Int, (r = 1 ∧ bt g p ∨ r = 0 ∧ ¬ bt g p) → Q (some (0, r)) (L0 n) μ) : TR mX5_isIn 0 (0, 0) [(0, g), (0, p)] (L0 n) μ Q := by
  apply t_X5_isIn (layOK n)
  exact ⟨fun q => h 0 (Or.inr ⟨rfl, q⟩), fun q => h 1 (Or.inl ⟨rfl, q⟩)⟩
theorem c_X5_everyone {E : WEnv} (hE : EnvOK E) (hr : RT μ E) (h : Q (some (0, full E.N)) (L0 n) μ) : TR mX5_everyone 0 (0, 0) [(2, 440)] (L0 n) μ Q := by
  have e : inI (bShl 1 E.N - 1) := by
    have : E.N = 2 ∨ E.N = 3 ∨ E.N = 4 ∨ E.N = 5 := by have := hE.2.1; omega
    rcases this with e | e | e | e <;> rw [e] <;> decide
  apply t_X5_everyone (layOK n) k440
  rw [rf_shr.1, hr.2.1]
  exact ⟨e, h⟩
theorem c_X5_firstOf {E : WEnv} {g : Int} (hE : EnvOK E) (hr : RT μ E) (hg : 0 < g ∧ g < 32) (hN : ∀ p : Int, 0 ≤ p → p < 5 → bt g p → p < E.N) (h : Q (some (0, fsO g)) (L0 n) μ) : TR mX5_firstOf 1 (0, 0) [(2, 440), (0, g)] (L0 n) μ Q := by
  obtain ⟨f1, f2, f3⟩ := fsO_ok hg
  have fN := hN _ f1.1 f1.2 f2
  apply t_X5_firstOf (layOK n) k440
  have key : ∀ (d k : Nat), (k : Int) + d = fsO g → WA mX5_firstOf 1 (0, 0) 2 [(2, 440), (0, g), (0, (k : Int))] [] (L0 n) μ Q := by
    intro d
    induction d with
    | zero =>
      intro k hk
      apply s_X5_firstOf_2 (layOK n) k440
      rw [rf_shr.1, hr.2.1]
      refine ⟨fun q => absurd q (by omega), fun _ => c_X5_isIn fun r hr => ⟨r, rfl, rfl, fun q => ?_, fun _ => ?_⟩⟩
      · rw [show (k : Int) = fsO g by omega] at hr
        rcases hr with hr | hr
        · omega
        · exact absurd f2 hr.2
      · rw [show (k : Int) = fsO g by omega]
        exact h
    | succ d ih =>
      intro k hk
      apply s_X5_firstOf_2 (layOK n) k440
      rw [rf_shr.1, hr.2.1]
      refine ⟨fun q => absurd q (by omega), fun _ => c_X5_isIn fun r hr => ⟨r, rfl, rfl, fun q => ⟨⟨by omega, by omega⟩, ih (k + 1) (by omega)⟩, fun q => ?_⟩⟩
      rcases hr with hr | hr
      · exact absurd hr.2 (f3 k (by omega) (by omega))
      · exact absurd hr.1 q
  exact key (fsO g).toNat 0 (by omega)
end
