/-! the class' knife -/
/-- what a way leaves as it was -/
def frS (μ μ' : Mem) : Prop := ∀ x i : Int, (x < 174 ∨ 306 < x ∧ x < 444 ∨ 472 < x) → (x ≠ 440 ∨ i < 10) → μ' x i = μ x i
theorem RT_frS {μ μ' : Mem} {E : WEnv} (h : RT μ E) (hf : frS μ μ') : RT μ' E := RT_fr h fun x i hx => hf x i (by omega) (by omega)
theorem frM_frS {μ μ' : Mem} (h : frM μ μ') : frS μ μ' := fun x i h1 h2 => h x i (Or.inl (by unfold outD; omega)) (fun j j0 j1 => by omega)
theorem frS_tr {μ μ' μ'' : Mem} (h : frS μ μ') (h' : frS μ' μ'') : frS μ μ'' := fun x i h1 h2 => (h' x i h1 h2).trans (h x i h1 h2)
theorem knS_none {E : WEnv} {w : Dv} {j : Nat} (h : knS E w j = none) : ∀ k : Nat, j ≤ k → knS E w k = none
  | 0, hk => by
    have : j = 0 := by omega
    subst this
    exact h
  | k + 1, hk => by
    by_cases e : j = k + 1
    · subst e; exact h
    · unfold knS
      rw [knS_none h k (by omega)]
      rfl
section
variable {n : Int} {μ : Mem} {Q : Option AV → Lay → Mem → Prop}
theorem c_X5_moveKnife {E : WEnv} {w : Dv} (hE : EnvOK E) (hr : RT μ E) (hd : DR μ 174 w) (hw : WF E.S w) (h4 : w 4 = 0) (hm : ∀ a : Int, 0 ≤ a → a < 5 → w (165 + a) = 0) (ps : PA μ 445 (0, 1))
    (hok : ∀ w', wayK E w = some w' → ∀ μ', DR μ' 174 w' → frS μ μ' → μ' 174 1 = μ 174 1 → Q (some (0, 1)) (L0 n) μ')
    (hno : wayK E w = none → ∀ μ', frS μ μ' → Q (some (0, 0)) (L0 n) μ') : TR mX5_moveKnife 5 (0, 0) [(2, 440)] (L0 n) μ Q := by
  have hN := hE.2.1
  have eN : ((E.N.toNat : Nat) : Int) = E.N := by omega
  apply t_X5_moveKnife (layOK n) k440
  refine c_X5_everyone hE hr ⟨_, rfl, rfl, ?_⟩
  rw [rf_shr.1, hr.2.1]
  have key : ∀ (d j : Nat), (j : Int) + d + 1 = E.N → ∀ g rest w1 μ1, knS E w j = some (g, rest, w1) → DR μ1 174 w1 → PA μ1 445 rest → frS μ μ1 → μ1 174 1 = μ 174 1 → WA mX5_moveKnife 5 (0, 0) 13 [(2, 440), (0, g), (0, E.N - j), (9, 0)] [] (L0 n) μ1 Q := by
    intro d
    induction d with
    | zero =>
      intro j hj g rest w1 μ1 e1 e2 e3 e4 e5
      obtain ⟨⟨k1, k2, k3, k4, k5, k6, k7⟩, -⟩ := knS_ok hE hw h4 hm j _ (by omega) e1
      have k11 : 0 < g := k1.1
      have k12 : g < 32 := k1.2
      have k5 : WF E.S w1 := k5
      have k6 : w1 4 ≤ ev E.N j := k6
      have eb := (ev_b hN j (by omega)).2.1 (by omega)
      obtain ⟨f1, f2, f3⟩ := fsO_ok (g := g) ⟨k11, k12⟩
      have fN : fsO g < E.N := k2 _ f1.1 f1.2 f2
      have z : w1 (165 + ag E (fsO g)) = 0 := k7 _ f1.1 fN f2
      have hr1 := RT_frS hr e4
      have p443 : PA μ1 443 ((E.S : Int), 1) := ⟨hr1.2.2.2.2.2.2.1, hr1.2.2.2.2.2.2.2⟩
      apply s_X5_moveKnife_13 (layOK n) k440
      refine ⟨fun _ => c_X5_firstOf hE hr1 ⟨k11, k12⟩ (fun p p0 p1 pb => k2 p p0 p1 pb) ⟨_, rfl, rfl, ?_⟩, fun q => absurd (show E.N - (j : Int) ≤ 1 by omega) q⟩
      rw [rf_shr.2.2.1, rf441.2]
      refine c_X5_takeRestTo hE hr1 e2 (WF_cn k5) (by omega) ⟨f1.1, fN⟩ (by omega) k443 (Or.inr (by decide)) e3 p443 fun μ2 t1 t2 t3 => ⟨rfl, rfl, ?_⟩
      refine hok _ ?_ μ2 t1 (fun x i h1 h2 => (t3 x i (Or.inl (by unfold outD; omega)) (by omega)).trans (e4 x i h1 h2)) ((t3 174 1 (Or.inr ⟨rfl, by decide⟩) (by decide)).trans e5)
      unfold wayK
      rw [show E.N.toNat - 1 = j by omega, e1]
      rfl
    | succ d ih =>
      intro j hj g rest w1 μ1 e1 e2 e3 e4 e5
      obtain ⟨i1, i2⟩ := knS_ok hE hw h4 hm j _ (by omega) e1
      have i1' := i1
      obtain ⟨k1, k2, k3, k4, k5, k6, k7⟩ := i1
      have k11 : 0 < g := k1.1
      have k12 : g < 32 := k1.2
      have k2 : ∀ p : Int, 0 ≤ p → p < 5 → bt g p → p < E.N := k2
      have k3 : cnt g = E.N - j := k3
      have k4 : ptW E.S (w1 3) rest.1 rest.2 := k4
      have k5 : WF E.S w1 := k5
      have k6 : w1 4 ≤ ev E.N j := k6
      have eb := (ev_b hN j (by omega)).2.2 (by omega)
      have c5 : cntN g E.N.toNat ≤ cnt g := cntN_le (by omega)
      have hdue := KX_due (g := g) (rest := rest) (w := w1) hE (by omega) k4.2.1 i2
      have hr1 := RT_frS hr e4
      have p442 : PA μ1 442 (0, 1) := ⟨hr1.2.2.2.2.1, hr1.2.2.2.2.2.1⟩
      have p443 : PA μ1 443 ((E.S : Int), 1) := ⟨hr1.2.2.2.2.2.2.1, hr1.2.2.2.2.2.2.2⟩
      apply s_X5_moveKnife_13 (layOK n) k440
      rw [rf_shr.2.2.1, rf_shr.1, hr1.2.1]
      refine ⟨fun q => absurd q (by omega), fun _ => ?_⟩
      have step : knS E w (j + 1) = (mkA E g rest (0, 1) ((E.S : Int), 1) 1 E.N mk0 w1 E.N.toNat).map fun y => (off1 g (lst y.1 g E.N.toNat), y.1 (lst y.1 g E.N.toNat), takeS y.2 (ag E (lst y.1 g E.N.toNat)) rest (y.1 (lst y.1 g E.N.toNat))) := by
        conv => lhs; unfold knS
        rw [e1]
        rfl
      refine c_X5_markAll (mk := mk0) hE hr1 e2 k5 (Or.inl rfl) e3 p442 p443 k4 (ptW_Zu (by omega)) (ptW_S (by omega)) (show (0 : Int) * 1 ≤ E.S * 1 by omega) ⟨by decide, by decide⟩ ⟨by omega, by omega⟩ hdue (by omega) ?_ ?_
      · intro mk w2 hy μ2 m1 m2 m3
        obtain ⟨a1, a2, a3, a4, a5⟩ := mkA_ok hE k5 k4 (show 0 < ((0, 1) : Pt).2 by decide) (show 0 < (((E.S : Int), 1) : Pt).2 by show (0 : Int) < 1; omega) (show (0 : Int) * 1 ≤ E.S * 1 by omega) (by decide) (show 0 < E.N by omega) hdue E.N.toNat mk w2 (by omega) (by omega) hy
        rw [eN] at a5
        have hr2 := RT_frM hr1 m3
        rw [hy] at step
        have step : knS E w (j + 1) = some (off1 g (lst mk g E.N.toNat), mk (lst mk g E.N.toNat), takeS w2 (ag E (lst mk g E.N.toNat)) rest (mk (lst mk g E.N.toNat))) := step
        refine ⟨1, rfl, rfl, fun _ => ?_, fun q => absurd q (by decide)⟩
        refine c_X5_leastMark hE hr2 ⟨k11, k12⟩ k2 a1.1 m1 (fun p p0 p1 pb => (a5 p p0 p1 pb).2) ⟨_, rfl, rfl, ?_⟩
        obtain ⟨f1, f2, f3⟩ := fsO_ok (g := g) ⟨k11, k12⟩
        have lo := lst_ok (mk := mk) (g := g) E.N.toNat (by omega) (fun p p0 p1 pb => by have := (a5 p p0 (by omega) pb).2.2.1; omega)
        rw [eN] at lo
        have lo := lo.resolve_left (fun z => z.1 _ f1.1 (k2 _ f1.1 f1.2 f2) f2)
        obtain ⟨l1, l2, l3, l4⟩ := lo
        generalize lst mk g E.N.toNat = l at *
        obtain ⟨b1, b2⟩ := a5 l l1 l2 l3
        obtain ⟨s1, s2, s3, s4⟩ := KI_step hE (by omega) i1' a1 a2 (by omega) a4 ⟨l1, l2⟩ l3 b2 b1.2.2.2.1
        have ps2 : PA μ2 445 rest := PA_fr e3 (fun i => m3 445 i (Or.inl (by unfold outD; omega)) (fun j j0 j1 => by omega))
        rw [rf_shr.2.2.2.2.1, (sh_el.1 l l1 (by omega)).1]
        refine ⟨⟨l1, by omega⟩, c_X5_takeRestTo hE hr2 m2 (WF_cn a1) (by omega) ⟨l1, l2⟩ (by omega) (kmark ⟨l1, by omega⟩) (Or.inr (by omega)) ps2 (m1 l l1 l2 l3) fun μ3 t1 t2 t3 => ⟨rfl, rfl, ⟨by omega, by omega⟩, ?_⟩⟩
        rw [show E.N - (j : Int) + -1 = E.N - ((j + 1 : Nat) : Int) by omega]
        refine ih (j + 1) (by omega) _ _ _ μ3 step t1 t2 (fun x i h1 h2 => ((t3 x i (Or.inl (by unfold outD; omega)) (by omega)).trans (frM_frS m3 x i h1 h2)).trans (e4 x i h1 h2)) (((t3 174 1 (Or.inr ⟨rfl, by decide⟩) (by decide)).trans (m3 174 1 (Or.inr ⟨rfl, by decide, by decide⟩) (fun j j0 j1 => by omega))).trans e5)
      · intro hy μ2 m3
        refine ⟨0, rfl, rfl, fun q => absurd rfl q, fun _ => hno ?_ μ2 (fun x i h1 h2 => (m3 x i (by unfold outD; omega) (fun j j0 j1 => by omega)).trans (e4 x i h1 h2))⟩
        rw [hy] at step
        unfold wayK
        rw [knS_none (j := j + 1) step _ (by omega)]
        rfl
  have := key (E.N.toNat - 1) 0 (by omega) (full E.N) (0, 1) w μ rfl hd ps (fun _ _ _ _ => rfl) rfl
  rw [show E.N - ((0 : Nat) : Int) = E.N by omega] at this
  exact this
end
