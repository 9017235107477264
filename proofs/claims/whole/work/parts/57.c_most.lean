/-! the piece with most; a span parted in three -/
def PP (μ : Mem) (ps : Pcs) : Prop := ∀ k : Int, 0 ≤ k → k < 3 → PA μ (465 + 3 * k) (ps k).1 ∧ PA μ (466 + 3 * k) (ps k).2
def PW (E : WEnv) (u : Int) (ps : Pcs) : Prop := ∀ k : Int, 0 ≤ k → k < 3 → ptW E.S u (ps k).1.1 (ps k).1.2 ∧ ptW E.S u (ps k).2.1 (ps k).2.2 ∧ (ps k).1.1 * (ps k).2.2 ≤ (ps k).2.1 * (ps k).1.2
theorem mstS_b {E : WEnv} {p gone : Int} {ps : Pcs} : ∀ k : Nat, -1 ≤ mstS E p gone ps k ∧ mstS E p gone ps k < k ∧ (0 ≤ mstS E p gone ps k → ¬ bt gone (mstS E p gone ps k)) ∧ (mstS E p gone ps k < 0 → ∀ j : Int, 0 ≤ j → j < k → bt gone j)
  | 0 => ⟨by show (-1 : Int) ≤ -1; omega, by show (-1 : Int) < _; omega, fun h => absurd h (by show ¬ (0 : Int) ≤ -1; omega), fun _ j j0 j1 => absurd j1 (by omega)⟩
  | k + 1 => by
    have ih := mstS_b (E := E) (p := p) (gone := gone) (ps := ps) k
    have e : mstS E p gone ps (k + 1) = if ¬ bt gone k ∧ (mstS E p gone ps k < 0 ∨ hasP E p (ps (mstS E p gone ps k)) * denP (ps k) < hasP E p (ps k) * denP (ps (mstS E p gone ps k))) then (k : Int) else mstS E p gone ps k := rfl
    rw [e]
    by_cases h : ¬ bt gone k ∧ (mstS E p gone ps k < 0 ∨ hasP E p (ps (mstS E p gone ps k)) * denP (ps k) < hasP E p (ps k) * denP (ps (mstS E p gone ps k)))
    · rw [if_pos h]
      exact ⟨by omega, by omega, fun _ => h.1, fun z => absurd z (by omega)⟩
    · rw [if_neg h]
      refine ⟨ih.1, by omega, ih.2.2.1, fun z j j0 j1 => ?_⟩
      by_cases ej : j = (k : Int)
      · rw [ej]
        by_cases hb : bt gone k
        · exact hb
        · exact absurd ⟨hb, Or.inl z⟩ h
      · exact ih.2.2.2 z j j0 (by omega)
section
variable {n : Int} {μ : Mem} {Q : Option AV → Lay → Mem → Prop}
theorem c_X5_mostOf {E : WEnv} {w : Dv} {p gone : Int} {ps : Pcs} (hE : EnvOK E) (hr : RT μ E) (hd : DR μ 174 w) (hu : WFu w) (hp : 0 ≤ p ∧ p < E.N) (hP : PP μ ps) (hW : PW E (w 3) ps)
    (h : Q (some (0, mostS E p gone ps)) (L0 n) μ) : TR mX5_mostOf 4 (0, 0) [(2, 440), (0, ag E p), (0, gone)] (L0 n) μ Q := by
  have hag := ag_b hE hp
  have hu1 := hu.1
  apply t_X5_mostOf (layOK n) k440
  have key : ∀ (d k : Nat), k + d = 3 → WA mX5_mostOf 4 (0, 0) 5 [(2, 440), (0, ag E p), (0, gone), (0, mstS E p gone ps k), (0, (k : Int))] [] (L0 n) μ Q := by
    intro d
    induction d with
    | zero =>
      intro k hk
      have : k = 3 := by omega
      subst this
      apply s_X5_mostOf_5 (layOK n) k440
      exact ⟨fun _ => h, fun q => absurd (show (3 : Int) ≤ ((3 : Nat) : Int) by decide) q⟩
    | succ d ih =>
      intro k hk
      have mb := mstS_b (E := E) (p := p) (gone := gone) (ps := ps) k
      have e : mstS E p gone ps (k + 1) = if ¬ bt gone k ∧ (mstS E p gone ps k < 0 ∨ hasP E p (ps (mstS E p gone ps k)) * denP (ps k) < hasP E p (ps k) * denP (ps (mstS E p gone ps k))) then (k : Int) else mstS E p gone ps k := rfl
      have nxt := ih (k + 1) (by omega)
      apply s_X5_mostOf_5 (layOK n) k440
      rw [rf_shr.2.2.2.2.2.2.2.1, sh_el.2.1 (k : Int) (by omega) (by omega)]
      refine ⟨fun q => absurd q (by omega), fun _ => c_X5_isIn fun r hri => ⟨r, rfl, rfl, fun q => ⟨⟨by omega, by omega⟩, ?_⟩, fun q => ⟨fun q2 => ⟨⟨by omega, by omega⟩, ?_⟩, fun q2 => ⟨⟨by omega, by omega⟩, ?_⟩⟩⟩⟩
      · have yb : bt gone k := by
          rcases hri with z | z
          · exact z.2
          · exact absurd z.1 q
        rw [e, if_neg (fun z => z.1 yb)] at nxt
        exact nxt
      · have nb : ¬ bt gone k := by
          rcases hri with z | z
          · omega
          · exact z.2
        rw [e, if_pos ⟨nb, Or.inl q2⟩] at nxt
        exact nxt
      · have nb : ¬ bt gone k := by
          rcases hri with z | z
          · omega
          · exact z.2
        generalize hb : mstS E p gone ps k = b at *
        have pk := hP k (by omega) (by omega)
        have wk := hW k (by omega) (by omega)
        have pb := hP b (by omega) (by omega)
        have wb := hW b (by omega) (by omega)
        refine c_X5_has hE hr hd hu (kpiece ⟨by omega, by omega⟩) ⟨hag.1, hag.2.2⟩ (p := (ps k).1) (q := (ps k).2) (by rw [show 464 + 3 * (k : Int) + 1 = 465 + 3 * k by omega]; exact pk.1) (by rw [show 464 + 3 * (k : Int) + 2 = 466 + 3 * k by omega]; exact pk.2) wk.1 wk.2.1 ⟨_, rfl, rfl, ⟨by omega, by omega⟩, ?_⟩
        rw [sh_el.2.1 b (by omega) (by omega)]
        refine c_X5_has hE hr hd hu (kpiece ⟨by omega, by omega⟩) ⟨hag.1, hag.2.2⟩ (p := (ps b).1) (q := (ps b).2) (by rw [show 464 + 3 * b + 1 = 465 + 3 * b by omega]; exact pb.1) (by rw [show 464 + 3 * b + 2 = 466 + 3 * b by omega]; exact pb.2) wb.1 wb.2.1 ⟨_, rfl, rfl, ?_⟩
        have cmp := spn_lt (row := E.T (ag E p)) (S := E.S) (u := w 3) (a := (ps b).1) (b := (ps b).2) (c := (ps k).1) (d := (ps k).2) (by omega) (ptW_dv wb.1) (ptW_dv wb.2.1) (ptW_dv wk.1) (ptW_dv wk.2.1)
        refine ⟨fun z => ⟨⟨by omega, by omega⟩, ?_⟩, fun z => ⟨⟨by omega, by omega⟩, ?_⟩⟩
        · rw [e, if_neg (fun y => by
            rcases y.2 with y | y
            · exact q2 y
            · exact absurd (cmp.mpr y) (by omega))] at nxt
          exact nxt
        · rw [e, if_pos ⟨nb, Or.inr (cmp.mp (by omega))⟩] at nxt
          exact nxt
  exact key 3 0 (by decide)
end
