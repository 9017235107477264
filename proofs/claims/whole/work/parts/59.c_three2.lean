/-! the class parts a span in three -/
def frT (μ μ' : Mem) : Prop := ∀ x i : Int, (outD 174 x ∨ x = 174 ∧ i ≠ 2 ∧ i ≠ 3) → x ≠ 454 → x ≠ 456 → (x < 464 ∨ 472 < x) → μ' x i = μ x i
theorem sw_fr {μ : Mem} {s : Int} {p q : Pt} : (∀ x i, x ≠ s + 1 → x ≠ s + 2 → spW μ s p.1 p.2 q.1 q.2 x i = μ x i) ∧ PA (spW μ s p.1 p.2 q.1 q.2) (s + 1) p ∧ PA (spW μ s p.1 p.2 q.1 q.2) (s + 2) q := by
  obtain ⟨c0, c1, c2, c3⟩ := spW_in (μ := μ) (s := s) (a := p.1) (b := p.2) (c := q.1) (d := q.2)
  exact ⟨fun x i h1 h2 => spW_ne ⟨h1, h2⟩, ⟨c0, c1⟩, ⟨c2, c3⟩⟩
section
variable {n : Int} {μ : Mem} {Q : Option AV → Lay → Mem → Prop}
theorem c_X5_cutInThree {E : WEnv} {w : Dv} {p s : Int} {a b : Pt} (hE : EnvOK E) (hr : RT μ E) (hd : DR μ 174 w) (hw : WF E.S w) (h4 : w 4 + 2 ≤ 19) (hp : 0 ≤ p ∧ p < E.N) (hs : s = 441 ∨ s = 451) (ks : isK (L0 n) s (7, 0)) (pa : PA μ (s + 1) a) (pb : PA μ (s + 2) b) (ha : ptW E.S (w 3) a.1 a.2) (hb : ptW E.S (w 3) b.1 b.2) (hab : a.1 * b.2 ≤ b.1 * a.2)
    (hok : ∀ ps w', thrS E w p (a, b) = some (ps, w') → ∀ μ', DR μ' 174 w' → PP μ' ps → frT μ μ' → Q (some (0, 1)) (L0 n) μ')
    (hno : thrS E w p (a, b) = none → ∀ μ', (∀ x i, outD 174 x → x ≠ 454 → x ≠ 456 → μ' x i = μ x i) → Q (some (0, 0)) (L0 n) μ') : TR mX5_cutInThree 4 (0, 0) [(2, 440), (0, ag E p), (2, s)] (L0 n) μ Q := by
  have hag := ag_b hE hp
  have a2 : 0 < a.2 := by have := ha.2.1; omega
  have b2 : 0 < b.2 := by have := hb.2.1; omega
  obtain ⟨s1, s2, k1, k2'⟩ := sp_at ks
  have m0 := (sh_el (n := n)).1 0 (by decide) (by decide)
  have m1 := (sh_el (n := n)).1 1 (by decide) (by decide)
  have q0 := (sh_el (n := n)).2.1 0 (by decide) (by decide)
  have q1 := (sh_el (n := n)).2.1 1 (by decide) (by decide)
  have q2 := (sh_el (n := n)).2.1 2 (by decide) (by decide)
  have km0 : isK (L0 n) (454 + 2 * 0) (3, 0) := kmark ⟨by decide, by decide⟩
  have km1 : isK (L0 n) (454 + 2 * 1) (3, 0) := kmark ⟨by decide, by decide⟩
  have dd : ∀ o : Int, 0 ≤ o → o ≤ 3 → DUE E a a b o 3 p := fun o o0 o1 => due_in (hE.2.2.2 _ hag.1 hag.2.2) hE.1.2 a2 b2 hab o0 o1
  have thr : thrS E w p (a, b) = (pmS E w p a a b 1 3).bind fun x => (pmS E x.2 p a a b 2 3).map fun y => ((fun i => if i = 0 then (a, x.1) else if i = 1 then (x.1, y.1) else (y.1, b) : Pcs), noteS (noteS y.2 0 (ag E p) x.1 (0, 1)) 0 (ag E p) y.1 (0, 1)) := rfl
  apply t_X5_cutInThree (layOK n) k440 ks
  rw [rf_shr.2.2.2.2.1, m0.1, m1.1, rf_shr.2.1, rf_shr.2.2.1, rf441.1, rf_shr.2.2.2.2.2.2.2.1, q0, q1, q2, s1, s2]
  refine c_X5_putMark hE hr hd (WF_cn hw) hw.1 km0 k1 ks (Or.inr (by decide)) hp pa pa pb ha ha hb hab ⟨by decide, by decide⟩ ⟨by decide, by decide⟩ (dd 1 (by decide) (by decide)) ?_ ?_
  · intro x w1 hx μ1 g1 g2 g3
    obtain ⟨i1, i2, i3, i4, i5⟩ := pm_step hE hp hw ha a2 b2 hab (by decide) (by decide) (dd 1 (by decide) (by decide)) hx
    have hr1 : RT μ1 E := RT_fr hr (fun x i hx => g3 x i (by omega) (by omega) (by omega))
    have pa1 : PA μ1 (s + 1) a := PA_fr pa (fun i => g3 _ i (by omega) (by omega) (by omega))
    have pb1 : PA μ1 (s + 2) b := PA_fr pb (fun i => g3 _ i (by omega) (by omega) (by omega))
    rw [hx] at thr
    have thr : thrS E w p (a, b) = (pmS E w1 p a a b 2 3).map fun y => ((fun i => if i = 0 then (a, x) else if i = 1 then (x, y.1) else (y.1, b) : Pcs), noteS (noteS y.2 0 (ag E p) x (0, 1)) 0 (ag E p) y.1 (0, 1)) := thr
    refine ⟨1, rfl, rfl, fun q => absurd q (by decide), fun _ => ?_⟩
    refine c_X5_putMark hE hr1 g2 (WF_cn i3) i3.1 km1 k1 ks (Or.inr (by decide)) hp pa1 pa1 pb1 (ptW_up ha i4) (ptW_up ha i4) (ptW_up hb i4) hab ⟨by decide, by decide⟩ ⟨by decide, by decide⟩ (dd 2 (by decide) (by decide)) ?_ ?_
    · intro y w2 hy μ2 v1 v2 v3
      obtain ⟨j1, j2, j3, j4, j5⟩ := pm_step hE hp i3 (ptW_up ha i4) a2 b2 hab (by decide) (by decide) (dd 2 (by decide) (by decide)) hy
      have e4 : w2 4 = w 4 := by rw [j5, setU_ne (by decide), i5, setU_ne (by decide)]
      rw [hy] at thr
      have cn2 := WF_cn j3
      have f2 : ∀ x i, x ≠ 454 → x ≠ 456 → x ≠ 180 → (x ≠ 174 ∨ i ≠ 2) → μ2 x i = μ x i := fun x i z1 z2 z3 z4 => (v3 x i z2 z3 z4).trans (g3 x i z1 z3 z4)
      have px2 : PA μ2 454 x := PA_fr g1 (fun i => v3 _ i (by decide) (by decide) (Or.inl (by decide)))
      have p442 : PA μ2 442 (0, 1) := PA_fr ⟨hr.2.2.2.2.1, hr.2.2.2.2.2.1⟩ (fun i => f2 442 i (by decide) (by decide) (by decide) (Or.inl (by decide)))
      refine ⟨1, rfl, rfl, fun _ => ?_, fun q => absurd q (by decide)⟩
      refine c_X1_note k174 km0 k442 (Or.inr (by decide)) (Or.inr (by decide)) v2 ⟨cn2.1.1, by omega⟩ (fun b b0 b1 => (cn2.2 b b0 b1).2) fun μ3 t1 t2 => ⟨rfl, rfl, ?_⟩
      rw [show (454 : Int) + 2 * 0 = 454 by decide, px2.1, px2.2, p442.1, p442.2] at t1
      have t1 : DR μ3 174 (noteS w2 0 (ag E p) x (0, 1)) := t1
      obtain ⟨n1, n2⟩ := note_lo (w := w2) (kind := 0) (a := ag E p) (p := x) (q := (0, 1)) j3.2.1.1
      have n3 := n2 3 (by decide) (by decide)
      have w3 := note_WF (kind := 0) j3 ⟨by decide, by decide⟩ ⟨hag.1, hag.2.2⟩ (ptW_up i2 j4) (ptW_Zu (by omega)) (fun q => absurd q (by decide)) (show w2 4 < 19 by omega)
      have cn3 := WF_cn w3
      have py3 : PA μ3 456 y := PA_fr v1 (fun i => t2 456 i (Or.inl (Or.inr (by decide))))
      have p4423 : PA μ3 442 (0, 1) := PA_fr p442 (fun i => t2 442 i (Or.inl (Or.inr (by decide))))
      refine c_X1_note k174 km1 k442 (Or.inr (by decide)) (Or.inr (by decide)) t1 ⟨cn3.1.1, by rw [n1]; omega⟩ (fun b b0 b1 => (cn3.2 b b0 b1).2) fun μ4 t3 t4 => ⟨rfl, rfl, ?_⟩
      rw [show (454 : Int) + 2 * 1 = 456 by decide, py3.1, py3.2, p4423.1, p4423.2] at t3
      have t3 : DR μ4 174 (noteS (noteS w2 0 (ag E p) x (0, 1)) 0 (ag E p) y (0, 1)) := t3
      have w4 := note_WF (kind := 0) w3 ⟨by decide, by decide⟩ ⟨hag.1, hag.2.2⟩ (by rw [n3]; exact j2) (ptW_Zu (by omega)) (fun q => absurd q (by decide)) (by rw [n1]; omega)
      have cn4 := WF_cn w4
      have f4 : ∀ x i, (outD 174 x ∨ x = 174 ∧ i ≠ 2 ∧ i ≠ 3) → x ≠ 454 → x ≠ 456 → μ4 x i = μ x i := fun x i z0 z1 z2 => ((t4 x i (z0.imp_right fun z => ⟨z.1, z.2.2⟩)).trans (t2 x i (z0.imp_right fun z => ⟨z.1, z.2.2⟩))).trans (f2 x i z1 z2 (by unfold outD at z0; omega) (by unfold outD at z0; omega))
      have px4 : PA μ4 454 x := PA_fr px2 (fun i => (t4 454 i (Or.inl (Or.inr (by decide)))).trans (t2 454 i (Or.inl (Or.inr (by decide)))))
      have py4 : PA μ4 456 y := PA_fr py3 (fun i => t4 456 i (Or.inl (Or.inr (by decide))))
      have pa4 : PA μ4 (s + 1) a := PA_fr pa (fun i => f4 _ i (Or.inl (by unfold outD; omega)) (by omega) (by omega))
      have pb4 : PA μ4 (s + 2) b := PA_fr pb (fun i => f4 _ i (Or.inl (by unfold outD; omega)) (by omega) (by omega))
      refine c_X7_put (kpiece (i := 0) ⟨by decide, by decide⟩) k1 km0 (by decide) ⟨rfl, rfl, ?_⟩
      rw [pa4.1, pa4.2, show μ4 (454 + 2 * 0) 0 = x.1 from px4.1, show μ4 (454 + 2 * 0) 1 = x.2 from px4.2]
      obtain ⟨r1, r2, r3⟩ := sw_fr (μ := μ4) (s := 464 + 3 * 0) (p := a) (q := x)
      generalize spW μ4 (464 + 3 * 0) a.1 a.2 x.1 x.2 = μ5 at *
      have px5 : PA μ5 454 x := PA_fr px4 (fun i => r1 454 i (by decide) (by decide))
      have py5 : PA μ5 456 y := PA_fr py4 (fun i => r1 456 i (by decide) (by decide))
      refine c_X7_put (kpiece (i := 1) ⟨by decide, by decide⟩) km0 km1 (by decide) ⟨rfl, rfl, ?_⟩
      rw [show μ5 (454 + 2 * 0) 0 = x.1 from px5.1, show μ5 (454 + 2 * 0) 1 = x.2 from px5.2, show μ5 (454 + 2 * 1) 0 = y.1 from py5.1, show μ5 (454 + 2 * 1) 1 = y.2 from py5.2]
      obtain ⟨r4, r5, r6⟩ := sw_fr (μ := μ5) (s := 464 + 3 * 1) (p := x) (q := y)
      generalize spW μ5 (464 + 3 * 1) x.1 x.2 y.1 y.2 = μ6 at *
      have py6 : PA μ6 456 y := PA_fr py5 (fun i => r4 456 i (by decide) (by decide))
      have pb6 : PA μ6 (s + 2) b := PA_fr pb4 (fun i => (r4 _ i (by omega) (by omega)).trans (r1 _ i (by omega) (by omega)))
      refine c_X7_put (kpiece (i := 2) ⟨by decide, by decide⟩) km1 k2' (by omega) ⟨rfl, rfl, ?_⟩
      rw [show μ6 (454 + 2 * 1) 0 = y.1 from py6.1, show μ6 (454 + 2 * 1) 1 = y.2 from py6.2, pb6.1, pb6.2]
      obtain ⟨r7, r8, r9⟩ := sw_fr (μ := μ6) (s := 464 + 3 * 2) (p := y) (q := b)
      generalize spW μ6 (464 + 3 * 2) y.1 y.2 b.1 b.2 = μ7 at *
      have f7 : ∀ x i, (x < 464 ∨ 472 < x) → μ7 x i = μ4 x i := fun x i z => ((r7 x i (by omega) (by omega)).trans (r4 x i (by omega) (by omega))).trans (r1 x i (by omega) (by omega))
      refine hok _ _ thr μ7 (DR_frame t3 cn4.1.2 (fun a a0 a1 => (cn4.2 a a0 a1).2) (fun x i hx => f7 x i (by omega))) (fun k k0 k1 => ?_) (fun x i z0 z1 z2 z3 => (f7 x i z3).trans (f4 x i z0 z1 z2))
      have : k = 0 ∨ k = 1 ∨ k = 2 := by omega
      rcases this with rfl | rfl | rfl
      · exact ⟨PA_fr r2 (fun i => (r7 _ i (by decide) (by decide)).trans (r4 _ i (by decide) (by decide))), PA_fr r3 (fun i => (r7 _ i (by decide) (by decide)).trans (r4 _ i (by decide) (by decide)))⟩
      · exact ⟨PA_fr r5 (fun i => r7 _ i (by decide) (by decide)), PA_fr r6 (fun i => r7 _ i (by decide) (by decide))⟩
      · exact ⟨r8, r9⟩
    · intro hy μ2 v3
      rw [hy] at thr
      refine ⟨0, rfl, rfl, fun q => absurd rfl q, fun _ => hno thr μ2 (fun x i z0 z1 z2 => (v3 x i z2 z0).trans (g3 x i z1 (by unfold outD at z0; omega) (by unfold outD at z0; omega)))⟩
  · intro hx μ1 g3
    rw [hx] at thr
    refine ⟨0, rfl, rfl, fun _ => hno thr μ1 (fun x i z0 z1 z2 => g3 x i z1 z0), fun q => absurd rfl q⟩
end
