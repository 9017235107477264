/-! feed, paper, on both sides -/
theorem CSt_T {μ μ' : Mem} {σ : Sg} {m : Int} {t : Int → Int} (h : CSt μ σ) (ho : OKs σ) (h1 : μ' 473 0 = m) (h2 : ∀ i : Int, 0 ≤ i → i < m → μ' 474 i = t i) (hf : ∀ x i : Int, (x ≤ 14 ∨ 28 ≤ x ∧ x ≤ 45 ∨ 48 ≤ x ∧ x ≤ 153 ∨ 307 ≤ x ∧ x ≤ 311 ∨ 314 ≤ x ∧ x ≤ 419 ∨ x = 442 ∨ 479 ≤ x ∧ x ≤ 487) → μ' x i = μ x i) : CSt μ' (σ.setT m t) := by
  obtain ⟨g1, g2, g3, g4, g5, g6, g7⟩ := h
  have cn := WK_cn ho.1
  refine ⟨CKr_fr g1 (fun x i x0 x1 => hf x i (by omega)), DVr_fr g2 cn.1.2 (fun a a0 a1 => (cn.2 a a0 a1).2) (fun x i hx => hf x i (by omega)), ⟨by rw [hf 442 0 (by omega), g3.1], by rw [hf 442 1 (by omega), g3.2]⟩, ⟨by rw [hf 1 6 (by omega), g4.1]; rfl, fun e => ?_⟩, ⟨h1, h2⟩, ⟨by rw [hf 479 0 (by omega), g6.1]; rfl, fun i i0 i1 => by rw [hf 480 i (by omega), g6.2 i i0 i1]; rfl⟩, fun k k0 k1 => by rw [hf 487 k (by omega), g7.1 k k0 k1]; rfl, fun k i k0 k1 i0 i1 => by rw [hf (483 + k) i (by omega), g7.2 k i k0 k1 i0 i1]; rfl⟩
  have e : σ.hi = 1 := e
  obtain ⟨y1, y2⟩ := g4.2 e
  have cn2 := WK_cn (ho.2.2.1 e)
  exact ⟨CKr_fr y1 (fun x i x0 x1 => hf x i (by omega)), DVr_fr y2 cn2.1.2 (fun a a0 a1 => (cn2.2 a a0 a1).2) (fun x i hx => hf x i (by omega))⟩
theorem RSt_T {μ μ' : Mem} {σ : Sg} {m : Int} {t : Int → Int} (h : RSt μ σ) (h1 : μ' 493 7 = m) (h2 : ∀ i : Int, 0 ≤ i → i < m → μ' 497 i = t i) (hf : ∀ x i : Int, (x = 493 ∧ (i = 3 ∨ i = 21) ∨ x = 494 ∨ x = 496 ∨ x = 503 ∨ x = 508 ∨ x = 509) → μ' x i = μ x i) : RSt μ' (σ.setT m t) := by
  obtain ⟨g1, g2, g3, g4, g5⟩ := h
  exact ⟨RWm_fr g1 (fun i => hf 494 i (by omega)), ⟨by rw [hf 493 3 (by omega), g2.1]; rfl, fun e i i0 i1 => by rw [hf 496 i (by omega), g2.2 e i i0 i1]; rfl⟩, ⟨h1, h2⟩, ⟨by rw [hf 493 21 (by omega), g4.1]; rfl, fun i i0 i1 => by rw [hf 503 i (by omega), g4.2 i i0 i1]; rfl⟩, fun k k0 k1 => by rw [hf 508 k (by omega), g5.1 k k0 k1]; rfl, fun i i0 i1 => by rw [hf 509 i (by omega), g5.2 i i0 i1]; rfl⟩
theorem OK_T {σ : Sg} {m : Int} {t : Int → Int} (h : OKs σ) (hm : 0 ≤ m ∧ m ≤ 160 ∧ ∀ i : Int, 0 ≤ i → i < m → 1 ≤ t i ∧ t i ≤ 127) : OKs (σ.setT m t) := ⟨h.1, h.2.1, h.2.2.1, hm, h.2.2.2.2⟩
theorem feed_OK {σ : Sg} {v : Int} (h : OKs σ) (hv : 1 ≤ v ∧ v ≤ 127) (hn : σ.tn < 160) : OKs (σ.setT (σ.tn + 1) (updW σ.tp σ.tn v)) := by
  obtain ⟨t0, t1, t2⟩ := h.2.2.2.1
  refine OK_T h ⟨by omega, by omega, fun i i0 i1 => ?_⟩
  unfold updW
  by_cases z : i = σ.tn
  · rw [if_pos z]; exact hv
  · rw [if_neg z]; exact t2 i i0 (by omega)
section
variable {n : Int} {μ : Mem} {Q : Option AV → Lay → Mem → Prop}
theorem k473 : isK (L0 n) 473 (8, 0) := isK0 (by decide) (by decide) (by decide +kernel)
theorem C_feed {σ : Sg} {v : Int} (hC : CSt μ σ) (ho : OKs σ)
    (hy : (1 ≤ v ∧ v ≤ 127) ∧ σ.tn < 160 → ∀ μ', CSt μ' (σ.setT (σ.tn + 1) (updW σ.tp σ.tn v)) → frC μ μ' → Q (some (0, σ.tn + 1)) (L0 n) μ')
    (hs : (1 ≤ v ∧ v ≤ 127) ∧ ¬ σ.tn < 160 → Q (some (0, -3)) (L0 n) μ)
    (hn : ¬ (1 ≤ v ∧ v ≤ 127) → Q (some (0, -1)) (L0 n) μ) : TR mX9_feed 1 (0, 0) [(2, 1), (0, v)] (L0 n) μ Q := by
  obtain ⟨t0, t1, t2⟩ := ho.2.2.2.1
  have hT := hC.2.2.2.2.1
  apply t_X9_feed (layOK n) k1
  rw [rf_desk.2.2.2.2.2.2.2.1]
  refine ⟨fun q => hn (by omega), fun q => ⟨fun q2 => ?_, fun q2 => hn (by omega)⟩⟩
  apply t_X8_add (layOK n) k473
  rw [rf_tape.1, hT.1]
  refine ⟨fun q3 => ⟨⟨by omega, by omega⟩, ⟨by omega, by omega⟩, ?_⟩, fun q3 => ⟨_, rfl, rfl, fun _ => hs (by omega), fun z => absurd rfl z⟩⟩
  rw [up_ne (a := 473) (i := 0) (Or.inl (by decide)), hT.1]
  refine ⟨⟨by omega, by omega⟩, _, rfl, rfl, fun z => absurd z (by decide), fun _ => ?_⟩
  rw [up_eq]
  refine hy (by omega) _ (CSt_T hC ho (up_eq _ _ _ _) (fun i i0 i1 => ?_) (fun x i hx => by rw [up_ne (by omega), up_ne (by omega)])) (fun x i hx => by rw [up_ne (by omega), up_ne (by omega)])
  unfold updW
  rw [up_ne (by omega)]
  by_cases z : i = σ.tn
  · rw [z, up_eq, if_pos rfl]
  · rw [up_ne (by omega), if_neg z]; exact hT.2 i i0 (by omega)
theorem R_feed {σ : Sg} {v : Int} (hR : RSt μ σ) (ho : OKs σ)
    (hy : (1 ≤ v ∧ v ≤ 127) ∧ σ.tn < 160 → ∀ μ', RSt μ' (σ.setT (σ.tn + 1) (updW σ.tp σ.tn v)) → frR' μ μ' → Q (some (0, σ.tn + 1)) (L0 n) μ')
    (hs : (1 ≤ v ∧ v ≤ 127) ∧ ¬ σ.tn < 160 → Q (some (0, -3)) (L0 n) μ)
    (hn : ¬ (1 ≤ v ∧ v ≤ 127) → Q (some (0, -1)) (L0 n) μ) : TR mX10_feed 1 (0, 0) [(2, 493), (0, v)] (L0 n) μ Q := by
  obtain ⟨t0, t1, t2⟩ := ho.2.2.2.1
  have hT := hR.2.2.1
  apply t_X10_feed (layOK n) k493
  rw [rf_ref.2.2.2.1]
  refine c_X10_in fun r h => ⟨r, rfl, rfl, fun q => ?_, fun q => hn (by omega)⟩
  rw [hT.1]
  refine ⟨fun q2 => ⟨⟨by omega, by omega⟩, ?_⟩, fun q2 => hs (by omega)⟩
  rw [up_eq, up_ne (a := 493) (i := 7) (Or.inl (by decide)), hT.1]
  refine ⟨⟨by omega, by omega⟩, hy (by omega) _ (RSt_T hR (up_eq _ _ _ _) (fun i i0 i1 => ?_) (fun x i hx => by rw [up_ne (by omega), up_ne (by omega)])) (fun x i hx => by rw [up_ne (by omega), up_ne (by omega)])⟩
  unfold updW
  rw [up_ne (by omega)]
  by_cases z : i = σ.tn
  · rw [z, up_eq, if_pos rfl]
  · rw [up_ne (by omega), if_neg z]; exact hT.2 i i0 (by omega)
theorem C_paper {σ : Sg} {v : Int} (hC : CSt μ σ) (ho : OKs σ)
    (hy : 0 ≤ v ∧ v < σ.pn → Q (some (0, σ.pp v)) (L0 n) μ) (hl : v = -1 → Q (some (0, σ.pn)) (L0 n) μ)
    (hs : σ.pn ≤ v → Q (some (0, -2)) (L0 n) μ) (hn : v < -1 → Q (some (0, -1)) (L0 n) μ) : TR mX9_paper 0 (0, 0) [(2, 1), (0, v)] (L0 n) μ Q := by
  obtain ⟨t0, t1, t2⟩ := ho.2.2.2.2.1
  have hP := hC.2.2.2.2.2.1
  apply t_X9_paper (layOK n) k1
  rw [rf_desk.2.2.2.2.2.2.2.2.1, rf_sheet, hP.1]
  refine ⟨fun q => ⟨fun q2 => ⟨fun q3 => hs q3, fun q3 => ⟨⟨by omega, by omega⟩, ?_⟩⟩, fun q2 => hl q2⟩, fun q => hn (by omega)⟩
  rw [hP.2 v (by omega) (by omega)]
  exact hy (by omega)
theorem R_paper {σ : Sg} {v : Int} (hR : RSt μ σ) (ho : OKs σ)
    (hy : 0 ≤ v ∧ v < σ.pn → Q (some (0, σ.pp v)) (L0 n) μ) (hl : v = -1 → Q (some (0, σ.pn)) (L0 n) μ)
    (hs : σ.pn ≤ v → Q (some (0, -2)) (L0 n) μ) (hn : v < -1 → Q (some (0, -1)) (L0 n) μ) : TR mX10_paper 0 (0, 0) [(2, 493), (0, v)] (L0 n) μ Q := by
  obtain ⟨t0, t1, t2⟩ := ho.2.2.2.2.1
  have hP := hR.2.2.2.1
  apply t_X10_paper (layOK n) k493
  rw [rf_ref.2.2.2.2.2.2.2.2.2.1, hP.1]
  refine ⟨fun q => ⟨fun q2 => ⟨fun q3 => hs q3, fun q3 => ⟨⟨by omega, by omega⟩, ?_⟩⟩, fun q2 => hl q2⟩, fun q => hn (by omega)⟩
  rw [hP.2 v (by omega) (by omega)]
  exact hy (by omega)
end
