/-! the reference's ways -/
section
variable {n : Int} {μ : Mem} {Q : Option AV → Lay → Mem → Prop}
theorem k495 : isK (L0 n) 495 (21, 510) := isK0 (by decide) (by decide) (by decide +kernel)
theorem k507 : isK (L0 n) 507 (21, 510) := isK0 (by decide) (by decide) (by decide +kernel)
theorem c_mayWay {w : Dv} {way f : Int} (hr : RWm μ w) (hs : SW w) (h : ∀ r : Int, (r = -1 ∧ ¬ ((0 ≤ way ∧ way ≤ 4) ∧ (0 ≤ f ∧ f < w 1)) ∨ r = -5 ∧ ((0 ≤ way ∧ way ≤ 4) ∧ (0 ≤ f ∧ f < w 1)) ∧ ¬ alw w way ∨ r = 0 ∧ ((0 ≤ way ∧ way ≤ 4) ∧ (0 ≤ f ∧ f < w 1)) ∧ alw w way) → Q (some (0, r)) (L0 n) μ) : TR mX10_mayWay 2 (0, 0) [(2, 493), (0, way), (0, f)] (L0 n) μ Q := by
  apply t_X10_mayWay (layOK n) k493
  refine c_X10_in fun r1 h1 => ⟨r1, rfl, rfl, fun q => h (-1) (Or.inl ⟨rfl, by omega⟩), fun q => c_X10_isAgent hr hs fun r2 h2 => ⟨r2, rfl, rfl, fun q2 => ?_, fun q2 => h (-1) (Or.inl ⟨rfl, by omega⟩)⟩⟩
  have gd : (0 ≤ way ∧ way ≤ 4) ∧ (0 ≤ f ∧ f < w 1) := by omega
  refine ⟨fun q3 => ⟨fun q4 => h 0 (Or.inr (Or.inr ⟨rfl, gd, fun z => absurd z q3, fun z => absurd z q4⟩)), fun q4 => c_X10_agents hr hs ⟨_, rfl, rfl, fun q5 => h 0 (Or.inr (Or.inr ⟨rfl, gd, fun z => absurd z q3, fun _ => q5⟩)), fun q5 => h (-5) (Or.inr (Or.inl ⟨rfl, gd, fun z => q5 (z.2 q4)⟩))⟩⟩, fun q3 => c_X10_agents hr hs ⟨_, rfl, rfl, fun q4 => h (-5) (Or.inr (Or.inl ⟨rfl, gd, fun z => q4 (z.1 q3)⟩)), fun q4 => ⟨fun q5 => h 0 (Or.inr (Or.inr ⟨rfl, gd, fun _ => q4, fun z => absurd z q5⟩)), fun q5 => absurd (q3.symm.trans q5) (by decide)⟩⟩⟩
/-- the reference's side but for the row -/
theorem RSt_G {μ μ' : Mem} {σ : Sg} {w' : Dv} (h : RSt μ σ) (h1 : RWm μ' w') (hf : ∀ x i : Int, (x ≤ 492 ∨ (x = 493 ∧ (i = 3 ∨ i = 7 ∨ i = 21)) ∨ x = 496 ∨ x = 497 ∨ x = 503 ∨ x = 508 ∨ x = 509) → μ' x i = μ x i) : RSt μ' (σ.setW w') ∧ frR' μ μ' := ⟨RSt_w h h1 (fun x i hx => hf x i (by omega)), fun x i hx => hf x i (by omega)⟩
theorem R_shares {σ : Sg} {way f : Int} (hR : RSt μ σ) (ho : OKs σ)
    (hy : ((0 ≤ way ∧ way ≤ 4) ∧ (0 ≤ f ∧ f < σ.w 1)) ∧ alw σ.w way → (∀ w', res σ.w way f = some w' → RK σ.w w' → ∀ μ', RSt μ' (σ.setW w') → frR' μ μ' → Q (some (0, w' 4)) (L0 n) μ') ∧ (res σ.w way f = none → ∀ μ', RSt μ' σ → frR' μ μ' → Q (some (0, -3)) (L0 n) μ'))
    (hs : ((0 ≤ way ∧ way ≤ 4) ∧ (0 ≤ f ∧ f < σ.w 1)) ∧ ¬ alw σ.w way → Q (some (0, -5)) (L0 n) μ)
    (hn : ¬ ((0 ≤ way ∧ way ≤ 4) ∧ (0 ≤ f ∧ f < σ.w 1)) → Q (some (0, -1)) (L0 n) μ) : TR mX10_shares 8 (0, 0) [(2, 493), (0, way), (0, f)] (L0 n) μ Q := by
  apply t_X10_shares (layOK n) k493
  rw [rf_ref.1, rf_ref.2.1]
  refine c_mayWay hR.1 ho.1.1 fun r hr => ⟨r, rfl, rfl, fun q => ?_, fun q => ?_⟩
  · have hr : ((0 ≤ way ∧ way ≤ 4) ∧ (0 ≤ f ∧ f < σ.w 1)) ∧ alw σ.w way := by rcases hr with z | z | z; exact absurd (q.symm.trans z.1) (by decide); exact absurd (q.symm.trans z.1) (by decide); exact z.2
    obtain ⟨hy1, hy2⟩ := hy hr
    refine c_X10_copies k494 k495 (by decide) fun μ1 g1 g2 => ⟨rfl, rfl, ?_⟩
    refine c_X10_goes (RWm_fr hR.1 (fun i => g2 494 i (by decide))) ho.1.1 hr.1.2 hr.1.1 hr.2.2 (fun w' e gk μ2 r2 f2 => ⟨_, rfl, rfl, fun _ => ?_, fun z => absurd z (by decide)⟩) (fun e μ2 f2 => ⟨_, rfl, rfl, fun z => absurd rfl z, fun _ => ?_⟩)
    · have rk := res_RK ho.1 hr.1.2 hr.1.1 hr.2.2 e
      have cn := WK_cn rk.1
      have c1 := cn.1.1
      have c2 := cn.1.2
      rw [r2 4 (by decide) (by decide)]
      obtain ⟨a1, a2⟩ := RSt_G hR r2 (fun x i hx => (frG_all f2 x i (by omega)).trans (g2 x i (by omega)))
      exact ⟨⟨by omega, by omega⟩, hy1 w' e rk μ2 a1 a2⟩
    · refine c_X10_copies k495 k494 (by decide) fun μ3 g3 g4 => ⟨rfl, rfl, ?_⟩
      have r3 : RWm μ3 σ.w := fun i i0 i1 => by rw [g3 i i0 i1, frG_all f2 495 i (by omega), g1 i i0 i1, hR.1 i i0 i1]
      obtain ⟨a1, a2⟩ := RSt_G hR r3 (fun x i hx => (g4 x i (by omega)).trans ((frG_all f2 x i (by omega)).trans (g2 x i (by omega))))
      exact hy2 e μ3 a1 a2
  · rcases hr with z | z | z
    · rw [z.1]; exact hn z.2
    · rw [z.1]; exact hs z.2
    · exact absurd z.1 q
theorem c_wouldB {σ : Sg} {way f a : Int} (hR : RSt μ σ) (ho : OKs σ) (hway : 0 ≤ way ∧ way ≤ 4) (hf : 0 ≤ f ∧ f < σ.w 1) (h4 : way = 4 → σ.w 1 = 3) (ha : 0 ≤ a ∧ a < 5)
    (hok : ∀ p, wb σ.w way f a = some p → ptB p → ∀ μ', RSt μ' σ → frR' μ μ' → FR μ' p.1 p.2 → Q (some (0, 1)) (L0 n) μ')
    (hno : wb σ.w way f a = none → ∀ μ', RSt μ' σ → frR' μ μ' → Q (some (0, 0)) (L0 n) μ') : TR mX10_wouldBring 8 (0, 0) [(2, 493), (0, way), (0, f), (0, a)] (L0 n) μ Q := by
  apply t_X10_wouldBring (layOK n) k493
  rw [rf_ref.1, rf_ref.2.2.2.2.2.2.2.2.2.2.2.2.2.1]
  refine c_X10_copies k494 k507 (by decide) fun μ1 g1 g2 => ⟨rfl, rfl, ?_⟩
  have back : ∀ (μ2 μ3 : Mem), frG μ1 μ2 → frQ μ2 μ3 → ∀ μ4, (∀ i : Int, 0 ≤ i → i < 510 → μ4 494 i = μ3 507 i) → (∀ o i, o ≠ 494 → μ4 o i = μ3 o i) → RSt μ4 σ ∧ frR' μ μ4 := by
    intro μ2 μ3 f2 f3 μ4 g3 g4
    have r4 : RWm μ4 σ.w := fun i i0 i1 => by rw [g3 i i0 i1, f3 507 i (Or.inl (by decide)), frG_all f2 507 i (by omega), g1 i i0 i1, hR.1 i i0 i1]
    exact RSt_G hR r4 (fun x i hx => (g4 x i (by omega)).trans ((f3 x i (by omega)).trans ((frG_all f2 x i (by omega)).trans (g2 x i (by omega)))))
  unfold wb at hok hno
  refine c_X10_goes (RWm_fr hR.1 (fun i => g2 494 i (by decide))) ho.1.1 hf hway h4 (fun w' e gk μ2 r2 f2 => ⟨_, rfl, rfl, fun z => absurd z (by decide), fun _ => ?_⟩) (fun e μ2 f2 => ⟨_, rfl, rfl, fun _ => ?_, fun z => absurd rfl z⟩)
  · have e : res σ.w way f = some w' := e
    have rk := res_RK ho.1 hf hway h4 e
    rw [e] at hok
    have hs' := rk.1.1
    have S16 := ho.1.1.1
    have eh : hld (rowW w' a 0) (w' 0).toNat w' a = hld (rowW σ.w a 0) (σ.w 0).toNat w' a := by
      rw [rk.2.1]
      exact hld_row (fun s s0 s1 => RK_row rk ha s s0 (by omega))
    have hp := hld_pos (how := 0) hs' rk.1.2.2.1 ha ha
    have u1 := rk.1.2.2.1.1.1
    refine c_wos r2 hs' rk.1.2.2.1 ha ha fun μ3 f3 => ⟨_, rfl, rfl, ?_⟩
    rw [f3 494 3 (Or.inl (by decide)), r2 3 (by decide) (by decide)]
    refine c_X10_becomes hp.1 (by omega) fun μ4 f4 fr4 => ⟨rfl, rfl, ?_⟩
    rw [eh] at fr4
    refine c_X10_copies k507 k494 (by decide) fun μ5 g3 g4 => ⟨rfl, rfl, Or.inr rfl, ?_⟩
    obtain ⟨a1, a2⟩ := back μ2 μ4 f2 (frQ_tr f3 f4) μ5 g3 g4
    exact hok (wbP σ.w w' a) rfl (wbP_b ho.1 rk ha) μ5 a1 a2 ⟨(g4 493 4 (by decide)).trans fr4.1, (g4 493 5 (by decide)).trans fr4.2⟩
  · have e : res σ.w way f = none := e
    rw [e] at hno
    refine c_X10_copies k507 k494 (by decide) fun μ5 g3 g4 => ⟨rfl, rfl, Or.inl rfl, ?_⟩
    obtain ⟨a1, a2⟩ := back μ2 μ2 f2 frQ_rf μ5 g3 g4
    exact hno rfl μ5 a1 a2
theorem R_would {σ : Sg} {way f a part : Int} (hR : RSt μ σ) (ho : OKs σ)
    (hy : ((0 ≤ way ∧ way ≤ 4) ∧ (0 ≤ f ∧ f < σ.w 1)) ∧ (0 ≤ a ∧ a < σ.w 1) ∧ (part = 0 ∨ part = 1) ∧ alw σ.w way → ∀ μ', RSt μ' σ → frR' μ μ' → Q (some (1, tellP (wb σ.w way f a) part)) (L0 n) μ')
    (hn : ¬ (((0 ≤ way ∧ way ≤ 4) ∧ (0 ≤ f ∧ f < σ.w 1)) ∧ (0 ≤ a ∧ a < σ.w 1) ∧ (part = 0 ∨ part = 1) ∧ alw σ.w way) → Q (some (1, NOv)) (L0 n) μ) : TR mX10_would 9 (0, 0) [(2, 493), (0, way), (0, f), (0, a), (0, part)] (L0 n) μ Q := by
  have hN := ho.1.1.2.1
  apply t_X10_would (layOK n) k493
  have no : ¬ (((0 ≤ way ∧ way ≤ 4) ∧ (0 ≤ f ∧ f < σ.w 1)) ∧ (0 ≤ a ∧ a < σ.w 1) ∧ (part = 0 ∨ part = 1) ∧ alw σ.w way) → WA mX10_would 9 (0, 0) 33 [(2, 493), (0, way), (0, f), (0, a), (0, part), (9, 0)] [(0, 0)] (L0 n) μ Q := fun z => by
    apply s_X10_would_33 (layOK n) k493
    exact ⟨fun _ => hn z, fun y => absurd rfl y⟩
  refine c_mayWay hR.1 ho.1.1 fun r hr => ⟨r, rfl, rfl, fun q => no ?_, fun q => c_X10_isAgent hR.1 ho.1.1 fun r2 h2 => ⟨r2, rfl, rfl, fun q2 => no (by omega), fun q2 => c_X10_in fun r3 h3 => ⟨r3, rfl, rfl, fun q3 => no (by omega), fun q3 => ?_⟩⟩⟩
  · rcases hr with z | z | z
    · exact fun y => z.2 y.1
    · exact fun y => z.2.2 y.2.2.2
    · exact absurd z.1 q
  · have hr : ((0 ≤ way ∧ way ≤ 4) ∧ (0 ≤ f ∧ f < σ.w 1)) ∧ alw σ.w way := by rcases hr with z | z | z; exact absurd (q.symm.trans z.1) (by decide); exact absurd (q.symm.trans z.1) (by decide); exact z.2
    have hy := hy ⟨hr.1, by omega, by omega, hr.2⟩
    apply s_X10_would_33 (layOK n) k493
    refine ⟨fun z => absurd z (by decide), fun _ => c_wouldB hR ho hr.1.1 hr.1.2 hr.2.2 ⟨by omega, by omega⟩ (fun p e _ μ1 r1 f1 fr1 => ⟨_, rfl, rfl, fun z => absurd z (by decide), fun _ => c_X10_partOf fr1 ⟨_, rfl, rfl, ?_⟩⟩) (fun e μ1 r1 f1 => ⟨_, rfl, rfl, fun _ => ?_, fun z => absurd rfl z⟩)⟩
    · rw [e] at hy
      exact hy μ1 r1 f1
    · rw [e] at hy
      exact hy μ1 r1 f1
theorem frR'_tr {μ μ' μ'' : Mem} (h : frR' μ μ') (h' : frR' μ' μ'') : frR' μ μ'' := fun x i hx => (h' x i hx).trans (h x i hx)
theorem c_mayLie {w : Dv} {a l m : Int} (hr : RWm μ w) (ha : 0 ≤ a ∧ a < 5) (hl : 0 ≤ l ∧ l < 16) (hm : 0 ≤ m ∧ m < 16) (h : ∀ r : Int, (r = 1 ∧ mayL w a l m ∨ r = 0 ∧ ¬ mayL w a l m) → Q (some (0, r)) (L0 n) μ) : TR mX10_mayLie 1 (0, 0) [(2, 493), (0, a), (0, l), (0, m)] (L0 n) μ Q := by
  have e : ∀ s, rowW w a 1 s = w (85 + 16 * a + s) := fun s => by unfold rowW; rw [if_neg (by decide)]
  apply t_X10_mayLie (layOK n) k493
  refine ⟨fun q => h 0 (Or.inr ⟨rfl, fun z => z.1 q⟩), fun q => c_X10_worthOf hr ha ⟨by omega, by omega⟩ ⟨_, rfl, rfl, fun q2 => h 0 (Or.inr ⟨rfl, fun z => ?_⟩), fun q2 => c_X10_worthOf hr ha ⟨by omega, by omega⟩ ⟨_, rfl, rfl, fun q3 => h 0 (Or.inr ⟨rfl, fun z => ?_⟩), fun q3 => h 1 (Or.inl ⟨rfl, q, ?_, ?_⟩)⟩⟩⟩
  · rw [e] at q2; have := z.2.1; omega
  · rw [e] at q3; have := z.2.2; omega
  · rw [e] at q2; omega
  · rw [e] at q3; omega
theorem c_tellsMore {σ : Sg} {a s d : Int} (hR : RSt μ σ) (ho : OKs σ) (ha : 0 ≤ a ∧ a < 5) (hs : 0 ≤ s ∧ s < 16) (hd : d = 1 ∨ d = -1) (h : RSt (up μ 494 (85 + 16 * a + s) (σ.w (85 + 16 * a + s) + d)) (σ.setW (updW σ.w (85 + 16 * a + s) (σ.w (85 + 16 * a + s) + d))) → Q none (L0 n) (up μ 494 (85 + 16 * a + s) (σ.w (85 + 16 * a + s) + d))) : TR mX10_tellsMore 0 (0, 0) [(2, 493), (0, a), (0, s), (0, d)] (L0 n) μ Q := by
  have b := WK_row ho.1 (85 + 16 * a + s) (by omega) (by omega)
  apply t_X10_tellsMore (layOK n) k493
  rw [rf_ref.1, hR.1 (85 + 16 * a + s) (by omega) (by omega)]
  exact ⟨⟨by omega, by omega⟩, ⟨by omega, by omega⟩, ⟨by omega, by omega⟩, ⟨by omega, by omega⟩, ⟨by omega, by omega⟩, h (RSt_up hR)⟩
theorem R_lie {σ : Sg} {way f a what : Int} (hR : RSt μ σ) (ho : OKs σ)
    (hy : ((0 ≤ way ∧ way ≤ 4) ∧ (0 ≤ f ∧ f < σ.w 1)) ∧ (0 ≤ a ∧ a < σ.w 1) ∧ (0 ≤ what ∧ what ≤ 2) ∧ alw σ.w way → ∀ μ', RSt μ' σ → frR' μ μ' → Q (some (1, lieA σ.w way f a what)) (L0 n) μ')
    (hn : ¬ (((0 ≤ way ∧ way ≤ 4) ∧ (0 ≤ f ∧ f < σ.w 1)) ∧ (0 ≤ a ∧ a < σ.w 1) ∧ (0 ≤ what ∧ what ≤ 2) ∧ alw σ.w way) → Q (some (1, NOv)) (L0 n) μ) : TR mX10_lie 9 (0, 0) [(2, 493), (0, way), (0, f), (0, a), (0, what)] (L0 n) μ Q := by
  have hN := ho.1.1.2.1
  have hS := ho.1.1.1
  apply t_X10_lie (layOK n) k493
  refine c_mayWay hR.1 ho.1.1 fun r hr => ⟨r, rfl, rfl, fun q => hn ?_, fun q => c_X10_isAgent hR.1 ho.1.1 fun r2 h2 => ⟨r2, rfl, rfl, fun q2 => hn (by omega), fun q2 => c_X10_in fun r3 h3 => ⟨r3, rfl, rfl, fun q3 => hn (by omega), fun q3 => ?_⟩⟩⟩
  · rcases hr with z | z | z
    · exact fun y => z.2 y.1
    · exact fun y => z.2.2 y.2.2.2
    · exact absurd z.1 q
  have hr : ((0 ≤ way ∧ way ≤ 4) ∧ (0 ≤ f ∧ f < σ.w 1)) ∧ alw σ.w way := by rcases hr with z | z | z; exact absurd (q.symm.trans z.1) (by decide); exact absurd (q.symm.trans z.1) (by decide); exact z.2
  have ha : 0 ≤ a ∧ a < 5 := by omega
  have hf : 0 ≤ f ∧ f < σ.w 1 := hr.1.2
  have hway : 0 ≤ way ∧ way ≤ 4 := hr.1.1
  have ha' : alw σ.w way := hr.2
  have hy := hy ⟨hr.1, by omega, by omega, ha'⟩
  refine c_wouldB hR ho hway hf ha'.2 ha (fun p e hp μ2 r2 f2 fr2 => ⟨_, rfl, rfl, fun _ => ?_, fun z => absurd z (by decide)⟩) (fun e μ2 r2 f2 => ⟨_, rfl, rfl, fun z => absurd rfl z, fun _ => by unfold lieA at hy; rw [e] at hy; exact hy μ2 r2 f2⟩)
  have hy : ∀ μ', RSt μ' σ → frR' μ μ' → Q (some (1, if 0 ≤ (lieS σ.w way f a p (σ.w 0 * σ.w 0).toNat).1 then (if what = 0 then (lieS σ.w way f a p (σ.w 0 * σ.w 0).toNat).1 else if what = 1 then (lieS σ.w way f a p (σ.w 0 * σ.w 0).toNat).2.1 else (lieS σ.w way f a p (σ.w 0 * σ.w 0).toNat).2.2) else NOv)) (L0 n) μ' := by unfold lieA at hy; rw [e] at hy; exact hy
  rw [fr2.1, fr2.2]
  have sq : 0 ≤ σ.w 0 * σ.w 0 := Int.mul_nonneg (by omega) (by omega)
  have sq2 := (mulLB (show 0 ≤ σ.w 0 by omega) (show 0 ≤ σ.w 0 by omega) hS.2 hS.2).2
  have lb := fun k : Nat => lieS_b (p := p) ho.1 hf hway ha'.2 ha hp k
  have key : ∀ (d k : Nat) (μ3 : Mem), (k : Int) + d = σ.w 0 * σ.w 0 → RSt μ3 σ → frR' μ μ3 → WA mX10_lie 9 (0, 0) 62 [(2, 493), (0, way), (0, f), (0, a), (0, what), (1, (lieS σ.w way f a p k).2.1), (9, 0), (1, (lieS σ.w way f a p k).2.2), (9, 0), (0, (lieS σ.w way f a p k).1), (0, (k : Int)), (9, 0), (9, 0), (9, 0)] [] (L0 n) μ3 Q := by
    intro d
    induction d with
    | zero =>
      intro k μ3 hk r3 f3
      have ek : k = (σ.w 0 * σ.w 0).toNat := by omega
      have hy := hy μ3 r3 f3
      rw [← ek] at hy
      generalize lieS σ.w way f a p k = r at *
      apply s_X10_lie_62 (layOK n) k493
      refine c_X10_strips r3.1 ho.1.1 ⟨_, rfl, rfl, c_X10_strips r3.1 ho.1.1 ⟨_, rfl, rfl, ⟨by omega, by omega⟩, fun _ => ⟨fun z => ⟨fun z2 => ⟨fun z3 => ?_, fun z3 => ?_⟩, fun z2 => ?_⟩, fun z => ?_⟩, fun z => absurd (show σ.w 0 * σ.w 0 ≤ (k : Int) by omega) z⟩⟩
      · rw [if_pos z, if_neg z2, if_neg z3] at hy; exact hy
      · rw [if_pos z, if_neg z2, if_pos z3] at hy; exact hy
      · rw [if_pos z, if_pos z2] at hy; exact hy
      · rw [if_neg z] at hy; exact hy
    | succ d ih =>
      intro k μ3 hk r3 f3
      have b := lb k (by omega)
      have next := ih (k + 1)
      have es : lieS σ.w way f a p (k + 1) = lie1 σ.w way f a ((k : Int) / σ.w 0) ((k : Int) % σ.w 0) (lieS σ.w way f a p k) := rfl
      rw [es] at next
      have m1 := Int.emod_nonneg (k : Int) (show σ.w 0 ≠ 0 by omega)
      have m2 := Int.emod_lt_of_pos (k : Int) (show 0 < σ.w 0 by omega)
      have d1 : 0 ≤ (k : Int) / σ.w 0 := Int.ediv_nonneg (by omega) (by omega)
      have d2 : (k : Int) / σ.w 0 < σ.w 0 := Int.ediv_lt_of_lt_mul (by omega) (by omega)
      generalize hL : (k : Int) / σ.w 0 = l at *
      generalize hM : (k : Int) % σ.w 0 = m at *
      generalize lieS σ.w way f a p k = r at *
      have hl : 0 ≤ l ∧ l < 16 := ⟨d1, by omega⟩
      have hm : 0 ≤ m ∧ m < 16 := ⟨m1, by omega⟩
      apply s_X10_lie_62 (layOK n) k493
      refine c_X10_strips r3.1 ho.1.1 ⟨_, rfl, rfl, c_X10_strips r3.1 ho.1.1 ⟨_, rfl, rfl, ⟨by omega, by omega⟩, fun z => absurd z (by omega), fun _ => c_X10_strips r3.1 ho.1.1 ⟨_, rfl, rfl, ⟨by omega, by omega⟩, c_X10_strips r3.1 ho.1.1 ⟨_, rfl, rfl, ⟨by omega, by omega⟩, ?_⟩⟩⟩⟩
      rw [hL, hM]
      refine c_mayLie r3.1 ha hl hm fun v hv => ⟨v, rfl, rfl, fun z => ⟨⟨by omega, by omega⟩, ?_⟩, fun z => ?_⟩
      · have nm : ¬ mayL σ.w a l m := by rcases hv with y | y; omega; exact y.2
        have e1 : lie1 σ.w way f a l m r = r := by unfold lie1; rw [if_neg nm]
        rw [e1] at next
        exact next μ3 (by omega) r3 f3
      have ym : mayL σ.w a l m := by rcases hv with y | y; exact y.2; exact absurd y.1 z
      have b1 := WK_row ho.1 (85 + 16 * a + l) (by omega) (by omega)
      have b2 := WK_row ho.1 (85 + 16 * a + m) (by omega) (by omega)
      obtain ⟨y1, y2, y3⟩ := ym
      refine c_tellsMore r3 ho ha hl (Or.inr rfl) fun r4 => ⟨rfl, rfl, ?_⟩
      have o4 : OKs (σ.setW (updW σ.w (85 + 16 * a + l) (σ.w (85 + 16 * a + l) + -1))) := OK_w ho (upd_WK ho.1 ⟨by omega, by omega⟩ ⟨by omega, by omega⟩)
      refine c_tellsMore r4 o4 ha hm (Or.inl rfl) fun r5 => ⟨rfl, rfl, ?_⟩
      have em : (σ.setW (updW σ.w (85 + 16 * a + l) (σ.w (85 + 16 * a + l) + -1))).w (85 + 16 * a + m) = σ.w (85 + 16 * a + m) := by
        show updW _ _ _ _ = _
        unfold updW
        rw [if_neg (by omega)]
      have e5 : (σ.setW (updW σ.w (85 + 16 * a + l) (σ.w (85 + 16 * a + l) + -1))).setW (updW (σ.setW (updW σ.w (85 + 16 * a + l) (σ.w (85 + 16 * a + l) + -1))).w (85 + 16 * a + m) ((σ.setW (updW σ.w (85 + 16 * a + l) (σ.w (85 + 16 * a + l) + -1))).w (85 + 16 * a + m) + 1)) = σ.setW (mvW σ.w a l m) := by
        rw [em]
        rfl
      rw [e5] at r5
      generalize hμ5 : up (up μ3 494 (85 + 16 * a + l) (σ.w (85 + 16 * a + l) + -1)) 494 (85 + 16 * a + m) ((σ.setW (updW σ.w (85 + 16 * a + l) (σ.w (85 + 16 * a + l) + -1))).w (85 + 16 * a + m) + 1) = μ5 at *
      have f5 : frR' μ μ5 := fun x i hx => by rw [← hμ5, up_ne (Or.inl (by omega)), up_ne (Or.inl (by omega)), f3 x i hx]
      have o5 : OKs (σ.setW (mvW σ.w a l m)) := OK_w ho (mvW_WK ho.1 ha hl hm ⟨y1, y2, y3⟩)
      have e1 : (σ.setW (mvW σ.w a l m)).w 1 = σ.w 1 := mvW_low ha.1 hl.1 hm.1 (by decide)
      obtain ⟨v1, v2⟩ := mvW_at (w := σ.w) (a := a) y1
      -- tells as before
      have back : ∀ (q : Int × Pt) (μ6 : Mem), RSt μ6 (σ.setW (mvW σ.w a l m)) → frR' μ μ6 → (∀ μ7, RSt μ7 σ → frR' μ μ7 → WA mX10_lie 9 (0, 0) 62 [(2, 493), (0, way), (0, f), (0, a), (0, what), (1, q.2.1), (9, 0), (1, q.2.2), (9, 0), (0, q.1), (0, (k : Int) + 1), (9, 0), (9, 0), (9, 0)] [] (L0 n) μ7 Q) → WA mX10_lie 9 (0, 0) 207 [(2, 493), (0, way), (0, f), (0, a), (0, what), (1, q.2.1), (9, 0), (9, 0), (9, 0), (0, q.1), (0, (k : Int)), (0, l), (0, m), (9, 0)] [(1, q.2.2)] (L0 n) μ6 Q := by
        intro q μ6 r6 f6 nx
        apply s_X10_lie_207 (layOK n) k493
        refine c_tellsMore r6 o5 ha hl (Or.inl rfl) fun r7 => ⟨rfl, rfl, ?_⟩
        have ev1 : (σ.setW (mvW σ.w a l m)).w (85 + 16 * a + l) = σ.w (85 + 16 * a + l) - 1 := v1
        have o7 : OKs ((σ.setW (mvW σ.w a l m)).setW (updW (σ.setW (mvW σ.w a l m)).w (85 + 16 * a + l) ((σ.setW (mvW σ.w a l m)).w (85 + 16 * a + l) + 1))) := OK_w o5 (upd_WK o5.1 ⟨by omega, by omega⟩ ⟨by omega, by omega⟩)
        refine c_tellsMore r7 o7 ha hm (Or.inr rfl) fun r8 => ⟨rfl, rfl, ⟨by omega, by omega⟩, ?_⟩
        have e8 : ∀ τ : Sg, τ = σ.setW (mvW σ.w a l m) → (τ.setW (updW τ.w (85 + 16 * a + l) (τ.w (85 + 16 * a + l) + 1))).setW (updW (τ.setW (updW τ.w (85 + 16 * a + l) (τ.w (85 + 16 * a + l) + 1))).w (85 + 16 * a + m) ((τ.setW (updW τ.w (85 + 16 * a + l) (τ.w (85 + 16 * a + l) + 1))).w (85 + 16 * a + m) + -1)) = σ := by
          intro τ hτ
          subst hτ
          show σ.setW (updW (updW (mvW σ.w a l m) (85 + 16 * a + l) (mvW σ.w a l m (85 + 16 * a + l) + 1)) (85 + 16 * a + m) (updW (mvW σ.w a l m) (85 + 16 * a + l) (mvW σ.w a l m (85 + 16 * a + l) + 1) (85 + 16 * a + m) + -1)) = σ
          have ew : updW (updW (mvW σ.w a l m) (85 + 16 * a + l) (mvW σ.w a l m (85 + 16 * a + l) + 1)) (85 + 16 * a + m) (updW (mvW σ.w a l m) (85 + 16 * a + l) (mvW σ.w a l m (85 + 16 * a + l) + 1) (85 + 16 * a + m) + -1) = σ.w := by
            have eu : updW (mvW σ.w a l m) (85 + 16 * a + l) (mvW σ.w a l m (85 + 16 * a + l) + 1) (85 + 16 * a + m) = σ.w (85 + 16 * a + m) + 1 := by
              unfold updW
              rw [if_neg (by omega), v2]
            rw [eu]
            funext i
            show (if i = 85 + 16 * a + m then σ.w (85 + 16 * a + m) + 1 + -1 else if i = 85 + 16 * a + l then mvW σ.w a l m (85 + 16 * a + l) + 1 else mvW σ.w a l m i) = σ.w i
            by_cases z1 : i = 85 + 16 * a + m
            · rw [if_pos z1, z1]; omega
            · rw [if_neg z1]
              by_cases z2 : i = 85 + 16 * a + l
              · rw [if_pos z2, v1, z2]; omega
              · rw [if_neg z2]
                unfold mvW updW
                rw [if_neg z1, if_neg z2]
          rw [ew]
          rfl
        rw [e8 _ rfl] at r8
        exact nx _ r8 (fun x i hx => by rw [up_ne (Or.inl (by omega)), up_ne (Or.inl (by omega)), f6 x i hx])
      refine c_wouldB r5 o5 hway (by rw [e1]; exact hf) (by rw [e1]; exact ha'.2) ha (fun q eq hq μ6 r6 f6 fr6 => ⟨_, rfl, rfl, fun y => absurd y (by decide), fun _ => ?_⟩) (fun eq μ6 r6 f6 => ⟨_, rfl, rfl, fun _ => ?_, fun y => absurd rfl y⟩)
      · have eq : wb (mvW σ.w a l m) way f a = some q := eq
        have ew : lie1 σ.w way f a l m r = if r.2.1 * q.2 < q.1 * r.2.2 then (100 * l + m, q) else r := by
          unfold lie1
          rw [if_pos ⟨y1, y2, y3⟩, eq]
        rw [ew] at next
        have F6 := frR'_tr f5 f6
        rw [fr6.1, fr6.2]
        have mm := mulLB (show 0 ≤ r.2.2 by have := b.1.2.1; omega) (show 0 ≤ q.2 by have := hq.2.1; omega) b.1.2.2 hq.2.2
        refine c_X10_isLess b.1.1 (by have := b.1.2.1; omega) hq.1 (by have := hq.2.1; omega) (by omega) fun v hv2 => ⟨v, rfl, rfl, fun y => ?_, fun y => ?_⟩
        · have lt : ¬ r.2.1 * q.2 < q.1 * r.2.2 := by omega
          rw [if_neg lt] at next
          have nx := back r μ6 r6 F6 (fun μ7 r7 f7 => next μ7 (by omega) r7 f7)
          apply s_X10_lie_155 (layOK n) k493
          refine ⟨fun _ => ?_, fun x => absurd rfl x⟩
          apply s_X10_lie_175 (layOK n) k493
          exact ⟨fun _ => ⟨fun _ => nx, fun x => absurd rfl x⟩, fun x => absurd rfl x⟩
        · have lt : r.2.1 * q.2 < q.1 * r.2.2 := by omega
          rw [if_pos lt] at next
          have nx := back (100 * l + m, q) μ6 r6 F6 (fun μ7 r7 f7 => next μ7 (by omega) r7 f7)
          apply s_X10_lie_155 (layOK n) k493
          refine ⟨fun x => absurd x (by decide), fun _ => ⟨⟨by omega, by omega⟩, ⟨by omega, by omega⟩, ?_⟩⟩
          apply s_X10_lie_175 (layOK n) k493
          rw [fr6.1, fr6.2]
          exact ⟨fun x => absurd x (by decide), fun _ => ⟨fun x => absurd x (by decide), fun _ => nx⟩⟩
      · have eq : wb (mvW σ.w a l m) way f a = none := eq
        have ew : lie1 σ.w way f a l m r = r := by
          unfold lie1
          rw [if_pos ⟨y1, y2, y3⟩, eq]
        rw [ew] at next
        have nx := back r μ6 r6 (frR'_tr f5 f6) (fun μ7 r7 f7 => next μ7 (by omega) r7 f7)
        apply s_X10_lie_155 (layOK n) k493
        refine ⟨fun _ => ?_, fun x => absurd rfl x⟩
        apply s_X10_lie_175 (layOK n) k493
        exact ⟨fun _ => ⟨fun _ => nx, fun x => absurd rfl x⟩, fun x => absurd rfl x⟩
  exact key (σ.w 0 * σ.w 0).toNat 0 μ2 (by omega) r2 f2
theorem R_best {σ : Sg} {a f : Int} (hR : RSt μ σ) (ho : OKs σ)
    (hy : (0 ≤ a ∧ a < σ.w 1) ∧ (0 ≤ f ∧ f < σ.w 1) → ∀ μ', RSt μ' σ → frR' μ μ' → Q (some (0, (bestS σ.w f a 5).1)) (L0 n) μ')
    (hn : ¬ ((0 ≤ a ∧ a < σ.w 1) ∧ (0 ≤ f ∧ f < σ.w 1)) → Q (some (0, -1)) (L0 n) μ) : TR mX10_best 9 (0, 0) [(2, 493), (0, a), (0, f)] (L0 n) μ Q := by
  have hN := ho.1.1.2.1
  apply t_X10_best (layOK n) k493
  refine c_X10_isAgent hR.1 ho.1.1 fun r2 h2 => ⟨r2, rfl, rfl, fun q2 => hn (by omega), fun q2 => c_X10_isAgent hR.1 ho.1.1 fun r3 h3 => ⟨r3, rfl, rfl, fun q3 => ?_, fun q3 => hn (by omega)⟩⟩
  have ha : 0 ≤ a ∧ a < 5 := by omega
  have hf : 0 ≤ f ∧ f < σ.w 1 := by omega
  have hy := hy (by omega)
  have key : ∀ (d k : Nat) (μ1 : Mem), k + d = 5 → RSt μ1 σ → frR' μ μ1 → WA mX10_best 9 (0, 0) 30 [(2, 493), (0, a), (0, f), (0, (bestS σ.w f a k).1), (1, (bestS σ.w f a k).2.1), (9, 0), (1, (bestS σ.w f a k).2.2), (9, 0), (0, (k : Int)), (9, 0)] [] (L0 n) μ1 Q := by
    intro d
    induction d with
    | zero =>
      intro k μ1 hk r1 f1
      have hk : k = 5 := by omega
      subst hk
      apply s_X10_best_30 (layOK n) k493
      exact ⟨fun _ => hy μ1 r1 f1, fun z => absurd (show (5 : Int) ≤ ((5 : Nat) : Int) by omega) z⟩
    | succ d ih =>
      intro k μ1 hk r1 f1
      have b := bestS_b ho.1 hf ha k (by omega)
      have next := ih (k + 1)
      have es : bestS σ.w f a (k + 1) = best1 σ.w f a k (bestS σ.w f a k) := rfl
      rw [es] at next
      generalize bestS σ.w f a k = r at *
      have stay : best1 σ.w f a k r = r → ∀ μ2, RSt μ2 σ → frR' μ μ2 → WA mX10_best 9 (0, 0) 97 [(2, 493), (0, a), (0, f), (9, 0), (1, r.2.1), (9, 0), (1, r.2.2), (9, 0), (0, (k : Int)), (0, 0)] [(0, r.1)] (L0 n) μ2 Q := by
        intro e μ2 r2 f2
        rw [e] at next
        apply s_X10_best_97 (layOK n) k493
        exact ⟨fun _ => ⟨fun _ => ⟨⟨by omega, by omega⟩, next μ2 (by omega) r2 f2⟩, fun x => absurd rfl x⟩, fun x => absurd rfl x⟩
      have go : ∀ q : Pt, best1 σ.w f a k r = ((k : Int), q) → ∀ μ2, RSt μ2 σ → frR' μ μ2 → FR μ2 q.1 q.2 → WA mX10_best 9 (0, 0) 97 [(2, 493), (0, a), (0, f), (9, 0), (1, r.2.1), (9, 0), (1, r.2.2), (9, 0), (0, (k : Int)), (0, 1)] [(0, (k : Int))] (L0 n) μ2 Q := by
        intro q e μ2 r2 f2 fr2
        rw [e] at next
        apply s_X10_best_97 (layOK n) k493
        rw [fr2.1, fr2.2]
        exact ⟨fun x => absurd x (by decide), fun _ => ⟨fun x => absurd x (by decide), fun _ => ⟨⟨by omega, by omega⟩, next μ2 (by omega) r2 f2⟩⟩⟩
      apply s_X10_best_30 (layOK n) k493
      refine ⟨fun z => absurd z (by omega), fun _ => c_mayWay r1.1 ho.1.1 fun v hv => ⟨v, rfl, rfl, fun z => stay ?_ μ1 r1 f1, fun z => ?_⟩⟩
      · have na : ¬ alw σ.w k := by
          rcases hv with y | y | y
          · exact absurd ⟨⟨by omega, by omega⟩, hf⟩ y.2
          · exact y.2.2
          · exact absurd y.1 z
        unfold best1
        rw [if_neg na]
      have ya : alw σ.w k := by
        rcases hv with y | y | y
        · omega
        · omega
        · exact y.2.2
      refine c_wouldB r1 ho ⟨by omega, by omega⟩ hf ya.2 ha (fun q eq hq μ2 r2 f2 fr2 => ⟨_, rfl, rfl, fun y => absurd y (by decide), fun _ => ?_⟩) (fun eq μ2 r2 f2 => ⟨_, rfl, rfl, fun _ => ?_, fun y => absurd rfl y⟩)
      · have eb : best1 σ.w f a k r = if r.1 = -2 then ((k : Int), q) else if r.2.1 * q.2 < q.1 * r.2.2 then ((k : Int), q) else r := by
          unfold best1
          rw [if_pos ya, eq]
        have F2 := frR'_tr f1 f2
        refine ⟨fun y => ?_, fun y => ?_⟩
        · rw [if_pos (by omega)] at eb
          exact go q eb μ2 r2 F2 fr2
        · rw [if_neg (by omega)] at eb
          rw [fr2.1, fr2.2]
          have mm := mulLB (show 0 ≤ r.2.2 by have := b.1.2.1; omega) (show 0 ≤ q.2 by have := hq.2.1; omega) b.1.2.2 hq.2.2
          refine c_X10_isLess b.1.1 (by have := b.1.2.1; omega) hq.1 (by have := hq.2.1; omega) (by omega) fun v hv2 => ⟨v, rfl, rfl, fun x => ?_, fun x => ?_⟩
          · rw [if_neg (by omega)] at eb
            exact stay eb μ2 r2 F2
          · rw [if_pos (by omega)] at eb
            exact go q eb μ2 r2 F2 fr2
      · refine stay ?_ μ2 r2 (frR'_tr f1 f2)
        unfold best1
        rw [if_pos ya, eq]
  exact key 5 0 μ (by omega) hR (fun _ _ _ => rfl)
end
