/-! the trimmings are shared -/
/-- what the division is once the pieces are taken -/
theorem tpk_ok {E : WEnv} {x : TSt} (hE : EnvOK E) (hN : E.N = 3) (hT : TI E x) : WF E.S (tpkS E x).1 ∧ (tpkS E x).1 3 = x.w 3 ∧ (tpkS E x).1 4 = 6 ∧ (∀ a : Int, 0 ≤ a → a < 3 → (tpkS E x).1 (165 + ag E a) = 1) ∧ ((tpkS E x).2 = 1 ∨ (tpkS E x).2 = 2) := by
  obtain ⟨hw, h4, hm, hW, hfav, -⟩ := hT
  have hm3 : ∀ a : Int, 0 ≤ a → a < 3 → x.w (165 + ag E a) = 0 := fun a a0 a1 => by
    have := ag_b hE (p := a) ⟨a0, by omega⟩
    exact hm _ this.1 this.2.2
  rw [tpkS_eq]
  have b3 : ∀ p g, 0 ≤ mostS E p g x.ps ∧ mostS E p g x.ps < 3 := fun p g => mostS_b
  have sb : 0 ≤ (if x.trimmed = true ∧ mostS E 2 0 x.ps ≠ x.fav then x.fav else mostS E 1 (bShl 1 (mostS E 2 0 x.ps)) x.ps) ∧ (if x.trimmed = true ∧ mostS E 2 0 x.ps ≠ x.fav then x.fav else mostS E 1 (bShl 1 (mostS E 2 0 x.ps)) x.ps) < 3 := by
    split
    · exact hfav
    · exact b3 _ _
  obtain ⟨-, -, d1, d2, d3, d4⟩ := take3_ok (p := 2) (q := 1) (r := 0) (ps := x.ps) (k := mostS E 0 (bOr (bShl 1 (mostS E 2 0 x.ps)) (bShl 1 (if x.trimmed = true ∧ mostS E 2 0 x.ps ≠ x.fav then x.fav else mostS E 1 (bShl 1 (mostS E 2 0 x.ps)) x.ps))) x.ps) hE hN ⟨by decide, by decide⟩ ⟨by decide, by decide⟩ ⟨by decide, by decide⟩ (by decide) (by decide) (by decide) hw (by omega) (fun a a0 a1 => by rw [hm3 a a0 a1]; decide) hW (b3 2 0) sb (b3 _ _)
  refine ⟨d1, d2, d3.trans (by rw [h4]; decide), fun a a0 a1 => (d4 a a0 a1).trans (by rw [hm3 a a0 a1]; decide), ?_⟩
  show (if _ then (2 : Int) else 1) = 1 ∨ (if _ then (2 : Int) else 1) = 2
  split
  · exact Or.inr rfl
  · exact Or.inl rfl
section
variable {n : Int} {μ : Mem} {Q : Option AV → Lay → Mem → Prop}
theorem c_X5_partTrimmings {E : WEnv} {x : TSt} {w : Dv} {who : Int} (hE : EnvOK E) (hN : E.N = 3) (hr : RT μ E) (hT : TI E x) (hw : WF E.S w) (h3 : w 3 = x.w 3) (h4 : w 4 = 6) (hm : ∀ a : Int, 0 ≤ a → a < 3 → w (165 + ag E a) = 1) (hwho : who = 1 ∨ who = 2) (hd : DR μ 174 w) (ht : μ 440 11 = (if x.trimmed = true then 1 else 0)) (h12 : μ 440 12 = who) (hc : x.trimmed = true → PA μ 452 x.crumbs.1 ∧ PA μ 453 x.crumbs.2)
    (hok : ∀ w', tcrS E x (w, who) = some w' → ∀ μ', DR μ' 174 w' → frS μ μ' → μ' 174 1 = μ 174 1 → Q (some (0, 1)) (L0 n) μ')
    (hno : tcrS E x (w, who) = none → ∀ μ', frS μ μ' → Q (some (0, 0)) (L0 n) μ') : TR mX5_partTrimmings 5 (0, 0) [(2, 440)] (L0 n) μ Q := by
  obtain ⟨-, -, -, -, -, hcr⟩ := hT
  have tcr : tcrS E x (w, who) = if x.trimmed = true then (thrS E w (3 - who) (x.crumbs.1, x.crumbs.2)).map fun z => takeP E (takeP E (takeP E z.2 who (z.1 (mostS E who 0 z.1))) 0 (z.1 (mostS E 0 (bShl 1 (mostS E who 0 z.1)) z.1))) (3 - who) (z.1 (mostS E (3 - who) (bOr (bShl 1 (mostS E who 0 z.1)) (bShl 1 (mostS E 0 (bShl 1 (mostS E who 0 z.1)) z.1))) z.1)) else some w := rfl
  apply t_X5_partTrimmings (layOK n) k440
  rw [ht, h12, rf_shr.2.2.2.2.2.2.2.2]
  refine ⟨fun q => ?_, fun q => ?_⟩
  · have tr : x.trimmed = true := by
      cases h : x.trimmed
      · rw [h] at q
        exact absurd rfl q
      · rfl
    rw [if_pos tr] at tcr
    obtain ⟨c1, c2, c3⟩ := hcr tr
    obtain ⟨p1, p2⟩ := hc tr
    have po : 0 ≤ 3 - who ∧ 3 - who < E.N := by omega
    refine ⟨⟨by omega, by omega⟩, c_X5_agentAt hE hr po ⟨_, rfl, rfl, ?_⟩⟩
    refine c_X5_cutInThree hE hr hd hw (by omega) po (Or.inr rfl) k451 p1 p2 (by rw [h3]; exact c1) (by rw [h3]; exact c2) c3 ?_ ?_
    · intro ps w1 hx μ1 g1 g2 g3
      obtain ⟨t1, t2, t3, t4, t5, -⟩ := thrS_ok hE po hw (by rw [h3]; exact c1) (by rw [h3]; exact c2) c3 (by omega) hx
      rw [hx] at tcr
      have tcr : tcrS E x (w, who) = some (takeP E (takeP E (takeP E w1 who (ps (mostS E who 0 ps))) 0 (ps (mostS E 0 (bShl 1 (mostS E who 0 ps)) ps))) (3 - who) (ps (mostS E (3 - who) (bOr (bShl 1 (mostS E who 0 ps)) (bShl 1 (mostS E 0 (bShl 1 (mostS E who 0 ps)) ps))) ps))) := tcr
      have m1 : ∀ a : Int, 0 ≤ a → a < 3 → w1 (165 + ag E a) ≤ 1 := fun a a0 a1 => by
        have := ag_b hE (p := a) ⟨a0, by omega⟩
        rw [t4 _ (by omega) (by omega) (by omega), hm a a0 a1]; decide
      have hr1 : RT μ1 E := RT_frS hr (frT_frS g3)
      have h121 : μ1 440 12 = who := (g3 440 12 (Or.inl (Or.inr (by decide))) (by decide) (by decide) (by decide)).trans h12
      have b3 : ∀ p g, 0 ≤ mostS E p g ps ∧ mostS E p g ps < 3 := fun p g => mostS_b
      have bb := b3 who 0
      have cn1 := WF_cn t1
      refine ⟨1, rfl, rfl, fun _ => ?_, fun z => absurd z (by decide)⟩
      rw [h121]
      refine c_X5_agentAt hE hr1 (by omega) ⟨_, rfl, rfl, ?_⟩
      refine c_X5_mostOf hE hr1 g1 t1.1 (by omega) g2 t5 ⟨_, rfl, rfl, ?_⟩
      generalize mostS E who 0 ps = best at *
      have sb := b3 0 (bShl 1 best)
      refine c_X5_agentAt hE hr1 (by omega) ⟨_, rfl, rfl, ?_⟩
      refine c_X5_mostOf hE hr1 g1 t1.1 (by omega) g2 t5 ⟨_, rfl, rfl, ?_⟩
      generalize mostS E 0 (bShl 1 best) ps = second at *
      have lb := b3 (3 - who) (bOr (bShl 1 best) (bShl 1 second))
      obtain ⟨⟨a1, a2, a3, a4, a5⟩, ⟨d1, d2, d3, d4⟩, -⟩ := take3_ok (p := who) (q := 0) (r := 3 - who) (ps := ps) (i := best) (j := second) (k := mostS E (3 - who) (bOr (bShl 1 best) (bShl 1 second)) ps) hE hN (by omega) (by omega) (by omega) (by omega) (by omega) (by omega) t1 (by omega) m1 t5 bb sb lb
      rw [h121]
      refine c_X5_takePiece hE hr1 g1 cn1 (by omega) (by omega) bb (by have := m1 who (by omega) (by omega); omega) (g2 _ bb.1 bb.2).1 (g2 _ bb.1 bb.2).2 fun μ2 v1 v2 => ⟨rfl, rfl, ?_⟩
      have hr2 : RT μ2 E := RT_fr hr1 (fun y i hy => v2 y i (Or.inl (by unfold outD; omega)))
      have hP2 : PP μ2 ps := PP_fr g2 (fun y i z1 z2 => v2 y i (Or.inl (Or.inr (by omega))))
      have v1 : DR μ2 174 (takeP E w1 who (ps best)) := v1
      refine c_X5_takePiece hE hr2 v1 (WF_cn a1) (by omega) (by omega) sb a4 (hP2 _ sb.1 sb.2).1 (hP2 _ sb.1 sb.2).2 fun μ3 v3 v4 => ⟨rfl, rfl, ?_⟩
      have hr3 : RT μ3 E := RT_fr hr2 (fun y i hy => v4 y i (Or.inl (by unfold outD; omega)))
      have hP3 : PP μ3 ps := PP_fr hP2 (fun y i z1 z2 => v4 y i (Or.inl (Or.inr (by omega))))
      have v3 : DR μ3 174 (takeP E (takeP E w1 who (ps best)) 0 (ps second)) := v3
      refine c_X5_agentAt hE hr3 po ⟨_, rfl, rfl, ?_⟩
      refine c_X5_mostOf hE hr3 v3 d1.1 po hP3 (by rw [d2]; exact t5) ⟨_, rfl, rfl, ?_⟩
      refine c_X5_takePiece hE hr3 v3 (WF_cn d1) (by omega) po lb d4 (hP3 _ lb.1 lb.2).1 (hP3 _ lb.1 lb.2).2 fun μ4 v5 v6 => ⟨rfl, rfl, ?_⟩
      have f4 : ∀ y i, outD 174 y ∨ y = 174 ∧ i ≠ 3 → μ4 y i = μ1 y i := fun y i z => ((v6 y i z).trans (v4 y i z)).trans (v2 y i z)
      exact hok _ tcr μ4 v5 (fun y i z1 z2 => (f4 y i (Or.inl (by unfold outD; omega))).trans (frT_frS g3 y i z1 z2)) ((f4 174 1 (Or.inr ⟨rfl, by decide⟩)).trans (g3 174 1 (Or.inr ⟨rfl, by decide, by decide⟩) (by decide) (by decide) (by decide)))
    · intro hx μ1 g3
      rw [hx] at tcr
      exact ⟨0, rfl, rfl, fun z => absurd rfl z, fun _ => hno tcr μ1 (fun y i z1 z2 => g3 y i (by unfold outD; omega) (by omega) (by omega))⟩
  · have tr : ¬ x.trimmed = true := fun z => by rw [if_pos z] at q; exact absurd q (by decide)
    rw [if_neg tr] at tcr
    exact hok w tcr μ hd (fun _ _ _ _ => rfl) rfl
end
