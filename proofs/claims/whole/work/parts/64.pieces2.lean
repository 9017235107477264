/-! the class takes pieces -/
theorem tpkS_eq {E : WEnv} {x : TSt} : tpkS E x = (takeP E (takeP E (takeP E x.w 2 (x.ps (mostS E 2 0 x.ps))) 1 (x.ps (if x.trimmed = true ∧ mostS E 2 0 x.ps ≠ x.fav then x.fav else mostS E 1 (bShl 1 (mostS E 2 0 x.ps)) x.ps))) 0 (x.ps (mostS E 0 (bOr (bShl 1 (mostS E 2 0 x.ps)) (bShl 1 (if x.trimmed = true ∧ mostS E 2 0 x.ps ≠ x.fav then x.fav else mostS E 1 (bShl 1 (mostS E 2 0 x.ps)) x.ps))) x.ps)), if mostS E 2 0 x.ps = x.fav then 2 else 1) := rfl
section
variable {n : Int} {μ : Mem} {Q : Option AV → Lay → Mem → Prop}
theorem c_X5_takePieces {E : WEnv} {x : TSt} (hE : EnvOK E) (hN : E.N = 3) (hr : RT μ E) (hT : TI E x) (hd : DR μ 174 x.w) (hP : PP μ x.ps) (hf : μ 440 10 = x.fav) (ht : μ 440 11 = (if x.trimmed = true then 1 else 0))
    (hok : ∀ μ', DR μ' 174 (tpkS E x).1 → μ' 440 12 = (tpkS E x).2 → (∀ y i, outD 174 y ∨ y = 174 ∧ i ≠ 3 → (y ≠ 440 ∨ i ≠ 12) → μ' y i = μ y i) → Q (some (0, 1)) (L0 n) μ') : TR mX5_takePieces 5 (0, 0) [(2, 440)] (L0 n) μ Q := by
  obtain ⟨hw, h4, hm, hW, hfav, -⟩ := hT
  have tb := mostS_b (E := E) (p := 2) (gone := 0) (ps := x.ps)
  rw [tpkS_eq] at hok
  have b3 : ∀ p g, 0 ≤ mostS E p g x.ps ∧ mostS E p g x.ps < 3 := fun p g => mostS_b
  have g0 := ag_b hE (p := 0) ⟨by decide, by omega⟩
  have g1 := ag_b hE (p := 1) ⟨by decide, by omega⟩
  have g2 := ag_b hE (p := 2) ⟨by decide, by omega⟩
  have cnw := WF_cn hw
  have hm3 : ∀ a : Int, 0 ≤ a → a < 3 → x.w (165 + ag E a) ≤ 1 := fun a a0 a1 => by
    have := ag_b hE (p := a) ⟨a0, by omega⟩
    rw [hm _ this.1 this.2.2]; decide
  generalize hth : mostS E 2 0 x.ps = third at *
  -- behind the choice of the second
  have fin : ∀ second : Int, 0 ≤ second → second < 3 → second = (if x.trimmed = true ∧ third ≠ x.fav then x.fav else mostS E 1 (bShl 1 third) x.ps) → WA mX5_takePieces 5 (0, 0) 45 [(2, 440), (0, third), (9, 0)] [(0, second)] (L0 n) μ Q := by
    intro second s0 s1 es
    rw [← es] at hok
    have fb := b3 0 (bOr (bShl 1 third) (bShl 1 second))
    obtain ⟨⟨a1, a2, a3, a4, a5⟩, ⟨c1, c2, c3, c4⟩, -⟩ := take3_ok (p := 2) (q := 1) (r := 0) (ps := x.ps) (i := third) (j := second) (k := mostS E 0 (bOr (bShl 1 third) (bShl 1 second)) x.ps) hE hN ⟨by decide, by decide⟩ ⟨by decide, by decide⟩ ⟨by decide, by decide⟩ (by decide) (by decide) (by decide) hw (by omega) hm3 hW tb ⟨s0, s1⟩ fb
    have P3 := hP third tb.1 tb.2
    have Ps := hP second s0 s1
    apply s_X5_takePieces_45 (layOK n) k440
    refine c_X5_takePiece hE hr hd cnw (by omega) ⟨by decide, by omega⟩ tb (by have := hm3 2 (by decide) (by decide); omega) P3.1 P3.2 fun μ1 v1 v2 => ⟨rfl, rfl, ?_⟩
    have hr1 : RT μ1 E := RT_fr hr (fun y i hy => v2 y i (Or.inl (by unfold outD; omega)))
    have hP1 : PP μ1 x.ps := PP_fr hP (fun y i z1 z2 => v2 y i (Or.inl (Or.inr (by omega))))
    have v1 : DR μ1 174 (takeP E x.w 2 (x.ps third)) := v1
    refine c_X5_takePiece hE hr1 v1 (WF_cn a1) (by omega) ⟨by decide, by omega⟩ ⟨s0, s1⟩ a4 (hP1 second s0 s1).1 (hP1 second s0 s1).2 fun μ2 v3 v4 => ⟨rfl, rfl, ?_⟩
    have hr2 : RT μ2 E := RT_fr hr1 (fun y i hy => v4 y i (Or.inl (by unfold outD; omega)))
    have hP2 : PP μ2 x.ps := PP_fr hP1 (fun y i z1 z2 => v4 y i (Or.inl (Or.inr (by omega))))
    have v3 : DR μ2 174 (takeP E (takeP E x.w 2 (x.ps third)) 1 (x.ps second)) := v3
    refine c_X5_agentAt hE hr2 ⟨by decide, by omega⟩ ⟨_, rfl, rfl, ?_⟩
    refine c_X5_mostOf hE hr2 v3 c1.1 ⟨by decide, by omega⟩ hP2 (by rw [c2]; exact hW) ⟨_, rfl, rfl, ?_⟩
    refine c_X5_takePiece hE hr2 v3 (WF_cn c1) (by omega) ⟨by decide, by omega⟩ fb c4 (hP2 _ fb.1 fb.2).1 (hP2 _ fb.1 fb.2).2 fun μ3 v5 v6 => ⟨rfl, rfl, ?_⟩
    have f3 : ∀ y i, outD 174 y ∨ y = 174 ∧ i ≠ 3 → μ3 y i = μ y i := fun y i z => ((v6 y i z).trans (v4 y i z)).trans (v2 y i z)
    have ef : μ3 440 10 = x.fav := (f3 440 10 (Or.inl (Or.inr (by decide)))).trans hf
    obtain ⟨-, -, d1, d2, d3, d4⟩ := take3_ok (p := 2) (q := 1) (r := 0) (ps := x.ps) (i := third) (j := second) (k := mostS E 0 (bOr (bShl 1 third) (bShl 1 second)) x.ps) hE hN ⟨by decide, by decide⟩ ⟨by decide, by decide⟩ ⟨by decide, by decide⟩ (by decide) (by decide) (by decide) hw (by omega) hm3 hW tb ⟨s0, s1⟩ fb
    have cn3 := WF_cn d1
    have last : ∀ v : Int, v = (if third = x.fav then 2 else 1) → Q (some (0, 1)) (L0 n) (up μ3 440 12 v) := fun v ev => by
      refine hok _ (DR_frame v5 cn3.1.2 (fun a a0 a1 => (cn3.2 a a0 a1).2) (fun y i hy => up_ne (Or.inl (by omega)))) ?_ (fun y i z1 z2 => (up_ne z2).trans (f3 y i z1))
      rw [up_eq, ev]
    rw [ef]
    exact ⟨fun z => last 1 (by rw [if_neg z]), fun z => last 2 (by rw [if_pos z])⟩
  apply t_X5_takePieces (layOK n) k440
  refine c_X5_agentAt hE hr ⟨by decide, by omega⟩ ⟨_, rfl, rfl, ?_⟩
  refine c_X5_mostOf hE hr hd hw.1 ⟨by decide, by omega⟩ hP hW ⟨_, rfl, rfl, ?_⟩
  rw [hth, hf, ht]
  have alone : ∀ h : ¬ (x.trimmed = true ∧ third ≠ x.fav), TR mX5_agentAt 0 (0, 0) [(2, 440), (0, 1)] (L0 n) μ (fun r9 L10 μ11 => ∃ w12, r9 = some (0, w12) ∧ (L0 n) = L10 ∧ TR mX5_mostOf 4 (0, 0) [(2, 440), (0, w12), (0, (bShl 1 third))] (L0 n) μ11 (fun r13 L14 μ15 => ∃ w16, r13 = some (0, w16) ∧ (L0 n) = L14 ∧ WA mX5_takePieces 5 (0, 0) 45 [(2, 440), (0, third), (9, 0)] [(0, w16)] (L0 n) μ15 Q)) := fun h => by
    refine c_X5_agentAt hE hr ⟨by decide, by omega⟩ ⟨_, rfl, rfl, ?_⟩
    refine c_X5_mostOf hE hr hd hw.1 ⟨by decide, by omega⟩ hP hW ⟨_, rfl, rfl, ?_⟩
    exact fin _ (b3 1 _).1 (b3 1 _).2 (by rw [if_neg h])
  refine ⟨fun q => alone (fun z => ?_), fun q => ⟨fun q2 => alone (fun z => z.2 q2), fun q2 => fin _ hfav.1 hfav.2 ?_⟩⟩
  · rw [if_pos z.1] at q
    exact absurd q (by decide)
  · have tr : x.trimmed = true := by
      cases h : x.trimmed
      · rw [h] at q
        exact absurd rfl q
      · rfl
    rw [if_pos ⟨tr, q2⟩]
end
