/-! the law: each call on both sides -/
/-- both sides stand for one state -/
def NX (μ : Mem) : Prop := ∃ σ : Sg, CSt μ σ ∧ RSt μ σ ∧ OKs σ
theorem RSt_C {μ μ' : Mem} {σ : Sg} (h : RSt μ σ) (hf : frC μ μ') : RSt μ' σ := by
  obtain ⟨h1, h2, h3, h4, h5⟩ := h
  have hf := fun x i (hx : (493 : Int) ≤ x) => hf x i (Or.inr hx)
  exact ⟨RWm_fr h1 (fun i => hf 494 i (by decide)), ⟨by rw [hf 493 3 (by decide), h2.1], fun e i i0 i1 => by rw [hf 496 i (by decide), h2.2 e i i0 i1]⟩, ⟨by rw [hf 493 7 (by decide), h3.1], fun i i0 i1 => by rw [hf 497 i (by decide), h3.2 i i0 i1]⟩, ⟨by rw [hf 493 21 (by decide), h4.1], fun i i0 i1 => by rw [hf 503 i (by decide), h4.2 i i0 i1]⟩, fun k k0 k1 => by rw [hf 508 k (by decide), h5.1 k k0 k1], fun i i0 i1 => by rw [hf 509 i (by decide), h5.2 i i0 i1]⟩
theorem CSt_R {μ μ' : Mem} {σ : Sg} (h : CSt μ σ) (ho : OKs σ) (hf : frR' μ μ') : CSt μ' σ := by
  have hf2 : frX μ (fun x i => if x ≤ 492 then μ' x i else μ x i) := fun x i _ => by
    show (if x ≤ 492 then μ' x i else μ x i) = μ x i
    split
    · rename_i z; exact hf x i z
    · rfl
  have h2 := CSt_fr h ho hf2
  have e : ∀ x i : Int, x ≤ 492 → μ' x i = (fun x i => if x ≤ 492 then μ' x i else μ x i) x i := fun x i hx => by
    show μ' x i = if x ≤ 492 then μ' x i else μ x i
    rw [if_pos hx]
  generalize (fun x i => if x ≤ 492 then μ' x i else μ x i : Mem) = ν at *
  obtain ⟨h1, h2, h3, h4, h5, h6, h7⟩ := h2
  have cn := WK_cn ho.1
  refine ⟨CKr_fr h1 (fun x i x0 x1 => e x i (by omega)), DVr_fr h2 cn.1.2 (fun a a0 a1 => (cn.2 a a0 a1).2) (fun x i hx => e x i (by omega)), ⟨by rw [e 442 0 (by decide), h3.1], by rw [e 442 1 (by decide), h3.2]⟩, ⟨by rw [e 1 6 (by decide), h4.1], fun z => ?_⟩, ⟨by rw [e 473 0 (by decide), h5.1], fun i i0 i1 => by rw [e 474 i (by decide), h5.2 i i0 i1]⟩, ⟨by rw [e 479 0 (by decide), h6.1], fun i i0 i1 => by rw [e 480 i (by decide), h6.2 i i0 i1]⟩, fun k k0 k1 => by rw [e 487 k (by decide), h7.1 k k0 k1], fun k i k0 k1 i0 i1 => by rw [e (483 + k) i (by omega), h7.2 k i k0 k1 i0 i1]⟩
  obtain ⟨g1, g2⟩ := h4.2 z
  have cn2 := WK_cn (ho.2.2.1 z)
  exact ⟨CKr_fr g1 (fun x i x0 x1 => e x i (by omega)), DVr_fr g2 cn2.1.2 (fun a a0 a1 => (cn2.2 a a0 a1).2) (fun x i hx => e x i (by omega))⟩
theorem okS0 {n j : Int} (hn : n ≤ 4096) (h0 : 0 ≤ j) (h1 : j < n) : okS (L0 n) j := ⟨rfl, by show n < 2147483648; omega, h0, h1⟩
theorem layM_b {σ : Sg} {k v : Int} (ho : OKs σ) (q : (0 ≤ k ∧ k < 4) ∧ v ≤ 20 ∧ 0 ≤ v) : ∀ j : Int, 0 ≤ j → j < 4 → -1 ≤ layM σ.lm k v j ∧ layM σ.lm k v j ≤ 20 := fun j j0 j1 => by
  unfold layM
  split
  · omega
  · exact ho.2.2.2.2.2 j j0 j1
theorem UNp_cm {P : Int → Prop} {u : Int} (h : UNp P 0 u) : cmP P u := by
  obtain ⟨-, h | h⟩ := h
  · exact h.2.1
  · exact absurd h.1 (by decide)
section
variable {nm : String} {n i : Int} {μ : Mem} {Q : Option AV → Lay → Mem → Prop}
theorem k_begin (hN : NX μ) (hi : 0 ≤ i ∧ i + 8 ≤ n) (hn : n ≤ 4096) (next : ∀ μ', NX μ' → WA (mLaw nm) 10 (0, 0) 1335 [(2, 0), (2, 1), (2, 493), (0, i)] [] (L0 n) μ' Q) : WA (mLaw nm) 10 (0, 0) 180 [(2, 0), (2, 1), (2, 493), (0, i)] [] (L0 n) μ Q := by
  obtain ⟨σ, hC, hR, ho⟩ := hN
  have hp0 := ho.2.2.2.2.1.1
  have hS := ho.1.1.1
  have hA := ho.1.1.2.1
  apply s_L_law_180 (layOK n) k1 k493
  refine ⟨⟨by omega, by omega⟩, okS0 hn (by omega) (by omega), ⟨by omega, by omega⟩, okS0 hn (by omega) (by omega), C_begin hC ho (fun q1 μ1 c1 f1 => ⟨_, rfl, rfl, ?_⟩) (fun q1 => ⟨_, rfl, rfl, ?_⟩)⟩
  · rw [f1 0 (i + 1) (Or.inl (by decide)), f1 0 (i + 2) (Or.inl (by decide))]
    have o' : OKs (σ.setW (frsh (μ 0 (i + 1)) (μ 0 (i + 2)))) := OK_w ho (frsh_WK q1.1 q1.2)
    exact R_begin (RSt_C hR f1) ho (fun r1 μ2 r0 f2 => ⟨_, rfl, rfl, fun _ => next μ2 ⟨_, CSt_R c1 o' f2, r0, o'⟩, fun z => absurd rfl z⟩) (fun r1 => by first | exact absurd q1 r1 | exact absurd r1 q1 | omega)
  · exact R_begin hR ho (fun r1 _ _ _ => by first | exact absurd q1 r1 | exact absurd r1 q1 | omega) (fun r1 => ⟨_, rfl, rfl, fun _ => next μ ⟨_, hC, hR, ho⟩, fun z => absurd rfl z⟩)
theorem k_worth (hN : NX μ) (hi : 0 ≤ i ∧ i + 8 ≤ n) (hn : n ≤ 4096) (next : ∀ μ', NX μ' → WA (mLaw nm) 10 (0, 0) 1335 [(2, 0), (2, 1), (2, 493), (0, i)] [] (L0 n) μ' Q) : WA (mLaw nm) 10 (0, 0) 213 [(2, 0), (2, 1), (2, 493), (0, i)] [] (L0 n) μ Q := by
  obtain ⟨σ, hC, hR, ho⟩ := hN
  have hp0 := ho.2.2.2.2.1.1
  have hS := ho.1.1.1
  have hA := ho.1.1.2.1
  apply s_L_law_213 (layOK n) k1 k493
  refine ⟨⟨by omega, by omega⟩, okS0 hn (by omega) (by omega), ⟨by omega, by omega⟩, okS0 hn (by omega) (by omega), ⟨by omega, by omega⟩, okS0 hn (by omega) (by omega), C_worth hC ho (fun q1 μ1 c1 f1 => ⟨_, rfl, rfl, ?_⟩) (fun q1 => ⟨_, rfl, rfl, ?_⟩)⟩
  · rw [f1 0 (i + 1) (Or.inl (by decide)), f1 0 (i + 2) (Or.inl (by decide)), f1 0 (i + 3) (Or.inl (by decide))]
    have o' : OKs (σ.setW (updW (updW σ.w (5 + 16 * (μ 0 (i + 1)) + (μ 0 (i + 2))) (μ 0 (i + 3))) (85 + 16 * (μ 0 (i + 1)) + (μ 0 (i + 2))) (μ 0 (i + 3)))) := OK_w ho (upd_WK (upd_WK ho.1 ⟨by omega, by omega⟩ q1.2.2) ⟨by omega, by omega⟩ q1.2.2)
    exact R_worth (RSt_C hR f1) ho (fun r1 μ2 r0 f2 => ⟨_, rfl, rfl, fun _ => next μ2 ⟨_, CSt_R c1 o' f2, r0, o'⟩, fun z => absurd rfl z⟩) (fun r1 => by first | exact absurd q1 r1 | exact absurd r1 q1 | omega)
  · exact R_worth hR ho (fun r1 _ _ _ => by first | exact absurd q1 r1 | exact absurd r1 q1 | omega) (fun r1 => ⟨_, rfl, rfl, fun _ => next μ ⟨_, hC, hR, ho⟩, fun z => absurd rfl z⟩)
theorem k_tells (hN : NX μ) (hi : 0 ≤ i ∧ i + 8 ≤ n) (hn : n ≤ 4096) (next : ∀ μ', NX μ' → WA (mLaw nm) 10 (0, 0) 1335 [(2, 0), (2, 1), (2, 493), (0, i)] [] (L0 n) μ' Q) : WA (mLaw nm) 10 (0, 0) 256 [(2, 0), (2, 1), (2, 493), (0, i)] [] (L0 n) μ Q := by
  obtain ⟨σ, hC, hR, ho⟩ := hN
  have hp0 := ho.2.2.2.2.1.1
  have hS := ho.1.1.1
  have hA := ho.1.1.2.1
  apply s_L_law_256 (layOK n) k1 k493
  refine ⟨⟨by omega, by omega⟩, okS0 hn (by omega) (by omega), ⟨by omega, by omega⟩, okS0 hn (by omega) (by omega), ⟨by omega, by omega⟩, okS0 hn (by omega) (by omega), C_tells hC ho (fun q1 μ1 c1 f1 => ⟨_, rfl, rfl, ?_⟩) (fun q1 => ⟨_, rfl, rfl, ?_⟩)⟩
  · rw [f1 0 (i + 1) (Or.inl (by decide)), f1 0 (i + 2) (Or.inl (by decide)), f1 0 (i + 3) (Or.inl (by decide))]
    have o' : OKs (σ.setW (updW σ.w (85 + 16 * (μ 0 (i + 1)) + (μ 0 (i + 2))) (μ 0 (i + 3)))) := OK_w ho (upd_WK ho.1 ⟨by omega, by omega⟩ q1.2.2)
    exact R_tells (RSt_C hR f1) ho (fun r1 μ2 r0 f2 => ⟨_, rfl, rfl, fun _ => next μ2 ⟨_, CSt_R c1 o' f2, r0, o'⟩, fun z => absurd rfl z⟩) (fun r1 => by first | exact absurd q1 r1 | exact absurd r1 q1 | omega)
  · exact R_tells hR ho (fun r1 _ _ _ => by first | exact absurd q1 r1 | exact absurd r1 q1 | omega) (fun r1 => ⟨_, rfl, rfl, fun _ => next μ ⟨_, hC, hR, ho⟩, fun z => absurd rfl z⟩)
theorem k_honest (hN : NX μ) (hi : 0 ≤ i ∧ i + 8 ≤ n) (hn : n ≤ 4096) (next : ∀ μ', NX μ' → WA (mLaw nm) 10 (0, 0) 1335 [(2, 0), (2, 1), (2, 493), (0, i)] [] (L0 n) μ' Q) : WA (mLaw nm) 10 (0, 0) 299 [(2, 0), (2, 1), (2, 493), (0, i)] [] (L0 n) μ Q := by
  obtain ⟨σ, hC, hR, ho⟩ := hN
  have hp0 := ho.2.2.2.2.1.1
  have hS := ho.1.1.1
  have hA := ho.1.1.2.1
  apply s_L_law_299 (layOK n) k1 k493
  refine ⟨⟨by omega, by omega⟩, okS0 hn (by omega) (by omega), C_honest hC ho (fun q1 μ1 c1 f1 => ⟨_, rfl, rfl, ?_⟩) (fun q1 => ⟨_, rfl, rfl, ?_⟩)⟩
  · rw [f1 0 (i + 1) (Or.inl (by decide))]
    have o' : OKs (σ.setW (honK σ.w (μ 0 (i + 1)) (σ.w 0))) := OK_w ho (honK_WK ho.1 ⟨by omega, by omega⟩ ⟨by omega, by omega⟩)
    exact R_honest (RSt_C hR f1) ho (fun r1 μ2 r0 f2 => ⟨_, rfl, rfl, fun _ => next μ2 ⟨_, CSt_R c1 o' f2, r0, o'⟩, fun z => absurd rfl z⟩) (fun r1 => by first | exact absurd q1 r1 | exact absurd r1 q1 | omega)
  · exact R_honest hR ho (fun r1 _ _ _ => by first | exact absurd q1 r1 | exact absurd r1 q1 | omega) (fun r1 => ⟨_, rfl, rfl, fun _ => next μ ⟨_, hC, hR, ho⟩, fun z => absurd rfl z⟩)
theorem k_strip (hN : NX μ) (hi : 0 ≤ i ∧ i + 8 ≤ n) (hn : n ≤ 4096) (next : ∀ μ', NX μ' → WA (mLaw nm) 10 (0, 0) 1335 [(2, 0), (2, 1), (2, 493), (0, i)] [] (L0 n) μ' Q) : WA (mLaw nm) 10 (0, 0) 322 [(2, 0), (2, 1), (2, 493), (0, i)] [] (L0 n) μ Q := by
  obtain ⟨σ, hC, hR, ho⟩ := hN
  have hp0 := ho.2.2.2.2.1.1
  have hS := ho.1.1.1
  have hA := ho.1.1.2.1
  apply s_L_law_322 (layOK n) k1 k493
  refine ⟨⟨by omega, by omega⟩, okS0 hn (by omega) (by omega), ⟨by omega, by omega⟩, okS0 hn (by omega) (by omega), ⟨by omega, by omega⟩, okS0 hn (by omega) (by omega), C_strip hC ho (fun q1 => ⟨_, rfl, rfl, ?_⟩) (fun q1 => ⟨_, rfl, rfl, ?_⟩)⟩
  · exact R_strip hR ho (fun r1 => ⟨_, rfl, rfl, fun _ => next μ ⟨_, hC, hR, ho⟩, fun z => absurd rfl z⟩) (fun r1 => by first | exact absurd q1 r1 | exact absurd r1 q1 | omega)
  · exact R_strip hR ho (fun r1 => by first | exact absurd q1 r1 | exact absurd r1 q1 | omega) (fun r1 => ⟨_, rfl, rfl, fun _ => next μ ⟨_, hC, hR, ho⟩, fun z => absurd rfl z⟩)
theorem k_span (hN : NX μ) (hi : 0 ≤ i ∧ i + 8 ≤ n) (hn : n ≤ 4096) (next : ∀ μ', NX μ' → WA (mLaw nm) 10 (0, 0) 1335 [(2, 0), (2, 1), (2, 493), (0, i)] [] (L0 n) μ' Q) : WA (mLaw nm) 10 (0, 0) 365 [(2, 0), (2, 1), (2, 493), (0, i)] [] (L0 n) μ Q := by
  obtain ⟨σ, hC, hR, ho⟩ := hN
  have hp0 := ho.2.2.2.2.1.1
  have hS := ho.1.1.1
  have hA := ho.1.1.2.1
  apply s_L_law_365 (layOK n) k1 k493
  refine ⟨⟨by omega, by omega⟩, okS0 hn (by omega) (by omega), ⟨by omega, by omega⟩, okS0 hn (by omega) (by omega), ⟨by omega, by omega⟩, okS0 hn (by omega) (by omega), ⟨by omega, by omega⟩, okS0 hn (by omega) (by omega), ⟨by omega, by omega⟩, okS0 hn (by omega) (by omega), ⟨by omega, by omega⟩, okS0 hn (by omega) (by omega), ⟨by omega, by omega⟩, okS0 hn (by omega) (by omega), C_span hC ho (fun q1 μ1 c1 f1 => ⟨_, rfl, rfl, ?_⟩) (fun q1 => ⟨_, rfl, rfl, ?_⟩)⟩
  · rw [f1 0 (i + 1) (Or.inl (by decide)), f1 0 (i + 2) (Or.inl (by decide)), f1 0 (i + 3) (Or.inl (by decide)), f1 0 (i + 4) (Or.inl (by decide)), f1 0 (i + 5) (Or.inl (by decide)), f1 0 (i + 6) (Or.inl (by decide)), f1 0 (i + 7) (Or.inl (by decide))]
    exact R_span (RSt_C hR f1) ho (fun r1 μ2 r0 f2 => ⟨_, rfl, rfl, fun _ => next μ2 ⟨_, CSt_R c1 ho f2, r0, ho⟩, fun z => absurd rfl z⟩) (fun r1 => by first | exact absurd q1 r1 | exact absurd r1 q1 | omega)
  · exact R_span hR ho (fun r1 _ _ _ => by first | exact absurd q1 r1 | exact absurd r1 q1 | omega) (fun r1 => ⟨_, rfl, rfl, fun _ => next μ ⟨_, hC, hR, ho⟩, fun z => absurd rfl z⟩)
theorem k_mark (hN : NX μ) (hi : 0 ≤ i ∧ i + 8 ≤ n) (hn : n ≤ 4096) (next : ∀ μ', NX μ' → WA (mLaw nm) 10 (0, 0) 1335 [(2, 0), (2, 1), (2, 493), (0, i)] [] (L0 n) μ' Q) : WA (mLaw nm) 10 (0, 0) 453 [(2, 0), (2, 1), (2, 493), (0, i)] [] (L0 n) μ Q := by
  obtain ⟨σ, hC, hR, ho⟩ := hN
  have hp0 := ho.2.2.2.2.1.1
  have hS := ho.1.1.1
  have hA := ho.1.1.2.1
  apply s_L_law_453 (layOK n) k1 k493
  refine ⟨⟨by omega, by omega⟩, okS0 hn (by omega) (by omega), ⟨by omega, by omega⟩, okS0 hn (by omega) (by omega), ⟨by omega, by omega⟩, okS0 hn (by omega) (by omega), ⟨by omega, by omega⟩, okS0 hn (by omega) (by omega), ⟨by omega, by omega⟩, okS0 hn (by omega) (by omega), ⟨by omega, by omega⟩, okS0 hn (by omega) (by omega), C_mark hC ho (fun q1 μ1 c1 f1 => ⟨_, rfl, rfl, ?_⟩) (fun q1 => ⟨_, rfl, rfl, ?_⟩)⟩
  · rw [f1 0 (i + 1) (Or.inl (by decide)), f1 0 (i + 2) (Or.inl (by decide)), f1 0 (i + 3) (Or.inl (by decide)), f1 0 (i + 4) (Or.inl (by decide)), f1 0 (i + 5) (Or.inl (by decide)), f1 0 (i + 6) (Or.inl (by decide))]
    exact R_mark (RSt_C hR f1) ho (fun r1 μ2 r0 f2 => ⟨_, rfl, rfl, fun _ => next μ2 ⟨_, CSt_R c1 ho f2, r0, ho⟩, fun z => absurd rfl z⟩) (fun r1 => by first | exact absurd q1 r1 | exact absurd r1 q1 | omega)
  · exact R_mark hR ho (fun r1 _ _ _ => by first | exact absurd q1 r1 | exact absurd r1 q1 | omega) (fun r1 => ⟨_, rfl, rfl, fun _ => next μ ⟨_, hC, hR, ho⟩, fun z => absurd rfl z⟩)
theorem k_exact (hN : NX μ) (hi : 0 ≤ i ∧ i + 8 ≤ n) (hn : n ≤ 4096) (next : ∀ μ', NX μ' → WA (mLaw nm) 10 (0, 0) 1335 [(2, 0), (2, 1), (2, 493), (0, i)] [] (L0 n) μ' Q) : WA (mLaw nm) 10 (0, 0) 529 [(2, 0), (2, 1), (2, 493), (0, i)] [] (L0 n) μ Q := by
  obtain ⟨σ, hC, hR, ho⟩ := hN
  have hp0 := ho.2.2.2.2.1.1
  have hS := ho.1.1.1
  have hA := ho.1.1.2.1
  apply s_L_law_529 (layOK n) k1 k493
  refine ⟨⟨by omega, by omega⟩, okS0 hn (by omega) (by omega), ⟨by omega, by omega⟩, okS0 hn (by omega) (by omega), ⟨by omega, by omega⟩, okS0 hn (by omega) (by omega), C_exact hC ho (fun q1 μ1 c1 f1 => ⟨_, rfl, rfl, ?_⟩) (fun q1 => ⟨_, rfl, rfl, ?_⟩)⟩
  · rw [f1 0 (i + 1) (Or.inl (by decide)), f1 0 (i + 2) (Or.inl (by decide)), f1 0 (i + 3) (Or.inl (by decide))]
    exact R_exact (RSt_C hR f1) ho (fun r1 μ2 r0 f2 => ⟨_, rfl, rfl, fun _ => next μ2 ⟨_, CSt_R c1 ho f2, r0, ho⟩, fun z => absurd rfl z⟩) (fun r1 => by first | exact absurd q1 r1 | exact absurd r1 q1 | omega)
  · exact R_exact hR ho (fun r1 _ _ _ => by first | exact absurd q1 r1 | exact absurd r1 q1 | omega) (fun r1 => ⟨_, rfl, rfl, fun _ => next μ ⟨_, hC, hR, ho⟩, fun z => absurd rfl z⟩)
theorem k_feed (hN : NX μ) (hi : 0 ≤ i ∧ i + 8 ≤ n) (hn : n ≤ 4096) (next : ∀ μ', NX μ' → WA (mLaw nm) 10 (0, 0) 1335 [(2, 0), (2, 1), (2, 493), (0, i)] [] (L0 n) μ' Q) : WA (mLaw nm) 10 (0, 0) 573 [(2, 0), (2, 1), (2, 493), (0, i)] [] (L0 n) μ Q := by
  obtain ⟨σ, hC, hR, ho⟩ := hN
  have hp0 := ho.2.2.2.2.1.1
  have hS := ho.1.1.1
  have hA := ho.1.1.2.1
  apply s_L_law_573 (layOK n) k1 k493
  refine ⟨⟨by omega, by omega⟩, okS0 hn (by omega) (by omega), C_feed hC ho (fun q1 μ1 c1 f1 => ⟨_, rfl, rfl, ?_⟩) (fun q1 => ⟨_, rfl, rfl, ?_⟩) (fun q1 => ⟨_, rfl, rfl, ?_⟩)⟩
  · rw [f1 0 (i + 1) (Or.inl (by decide))]
    have o' : OKs (σ.setT (σ.tn + 1) (updW σ.tp σ.tn (μ 0 (i + 1)))) := feed_OK ho q1.1 q1.2
    exact R_feed (RSt_C hR f1) ho (fun r1 μ2 r0 f2 => ⟨_, rfl, rfl, fun _ => next μ2 ⟨_, CSt_R c1 o' f2, r0, o'⟩, fun z => absurd rfl z⟩) (fun r1 => by first | exact absurd q1 r1 | exact absurd r1 q1 | omega) (fun r1 => by first | exact absurd q1 r1 | exact absurd r1 q1 | omega)
  · exact R_feed hR ho (fun r1 _ _ _ => by first | exact absurd q1 r1 | exact absurd r1 q1 | omega) (fun r1 => ⟨_, rfl, rfl, fun _ => next μ ⟨_, hC, hR, ho⟩, fun z => absurd rfl z⟩) (fun r1 => by first | exact absurd q1 r1 | exact absurd r1 q1 | omega)
  · exact R_feed hR ho (fun r1 _ _ _ => by first | exact absurd q1 r1 | exact absurd r1 q1 | omega) (fun r1 => by first | exact absurd q1 r1 | exact absurd r1 q1 | omega) (fun r1 => ⟨_, rfl, rfl, fun _ => next μ ⟨_, hC, hR, ho⟩, fun z => absurd rfl z⟩)
theorem k_worths (hN : NX μ) (hi : 0 ≤ i ∧ i + 8 ≤ n) (hn : n ≤ 4096) (next : ∀ μ', NX μ' → WA (mLaw nm) 10 (0, 0) 1335 [(2, 0), (2, 1), (2, 493), (0, i)] [] (L0 n) μ' Q) : WA (mLaw nm) 10 (0, 0) 596 [(2, 0), (2, 1), (2, 493), (0, i)] [] (L0 n) μ Q := by
  obtain ⟨σ, hC, hR, ho⟩ := hN
  have hp0 := ho.2.2.2.2.1.1
  have hS := ho.1.1.1
  have hA := ho.1.1.2.1
  apply s_L_law_596 (layOK n) k1 k493
  refine C_worths hC ho (fun q1 rw1 μ1 c1 f1 => ⟨_, rfl, rfl, ?_⟩) (fun q1 μ1 c1 f1 => ⟨_, rfl, rfl, ?_⟩)
  · refine R_worths (RSt_C hR f1) ho (fun r1 _ μ2 r2 f2 => ?_) (fun r1 _ _ _ => absurd q1 r1)
    have o' : OKs ((σ.setW (wrR σ).2).setT 0 σ.tp) := OK_T (OK_w ho rw1.2) ⟨Int.le_refl 0, by decide, fun j j0 j1 => absurd j1 (by omega)⟩
    exact ⟨_, rfl, rfl, fun _ => next μ2 ⟨_, CSt_R c1 o' f2, r2, o'⟩, fun z => absurd rfl z⟩
  · refine R_worths (RSt_C hR f1) ho (fun r1 _ _ _ _ => absurd r1 q1) (fun r1 μ2 r2 f2 => ?_)
    have o' : OKs (σ.setT 0 σ.tp) := OK_T ho ⟨Int.le_refl 0, by decide, fun j j0 j1 => absurd j1 (by omega)⟩
    exact ⟨_, rfl, rfl, fun _ => next μ2 ⟨_, CSt_R c1 o' f2, r2, o'⟩, fun z => absurd rfl z⟩
theorem k_divides (hN : NX μ) (hi : 0 ≤ i ∧ i + 8 ≤ n) (hn : n ≤ 4096) (next : ∀ μ', NX μ' → WA (mLaw nm) 10 (0, 0) 1335 [(2, 0), (2, 1), (2, 493), (0, i)] [] (L0 n) μ' Q) : WA (mLaw nm) 10 (0, 0) 609 [(2, 0), (2, 1), (2, 493), (0, i)] [] (L0 n) μ Q := by
  obtain ⟨σ, hC, hR, ho⟩ := hN
  have hp0 := ho.2.2.2.2.1.1
  have hS := ho.1.1.1
  have hA := ho.1.1.2.1
  apply s_L_law_609 (layOK n) k1 k493
  refine C_divides hC ho (fun q1 rv u hu μ1 c1 f1 => ⟨_, rfl, rfl, ?_⟩) (fun q1 u hu μ1 c1 f1 => ⟨_, rfl, rfl, ?_⟩) (fun q1 μ1 c1 f1 => ⟨_, rfl, rfl, ?_⟩)
  · refine R_divides (RSt_C hR f1) ho (fun r1 rv2 u2 hu2 μ2 r2 f2 => ?_) (fun r1 u2 hu2 μ2 r2 f2 => absurd (UNp_one hu hu2).1 (by decide)) (fun r1 _ _ _ => absurd q1 r1)
    have eu := (UNp_one hu hu2).2 rfl
    subst eu
    have o' : OKs ((σ.setW (dvW (dvR σ).2 u)).setT 0 σ.tp) := OK_T (OK_w ho (RV_WK rv ho.1 hu.1 (UNp_cm hu))) ⟨Int.le_refl 0, by decide, fun j j0 j1 => absurd j1 (by omega)⟩
    exact ⟨_, rfl, rfl, fun _ => next μ2 ⟨_, CSt_R c1 o' f2, r2, o'⟩, fun z => absurd rfl z⟩
  · refine R_divides (RSt_C hR f1) ho (fun r1 rv2 u2 hu2 μ2 r2 f2 => absurd (UNp_one hu hu2).1 (by decide)) (fun r1 u2 hu2 μ2 r2 f2 => ?_) (fun r1 _ _ _ => absurd q1 r1)
    have o' : OKs (σ.setT 0 σ.tp) := OK_T ho ⟨Int.le_refl 0, by decide, fun j j0 j1 => absurd j1 (by omega)⟩
    exact ⟨_, rfl, rfl, fun _ => next μ2 ⟨_, CSt_R c1 o' f2, r2, o'⟩, fun z => absurd rfl z⟩
  · refine R_divides (RSt_C hR f1) ho (fun r1 _ _ _ _ _ _ => absurd r1 q1) (fun r1 _ _ _ _ _ => absurd r1 q1) (fun r1 μ2 r2 f2 => ?_)
    have o' : OKs (σ.setT 0 σ.tp) := OK_T ho ⟨Int.le_refl 0, by decide, fun j j0 j1 => absurd j1 (by omega)⟩
    exact ⟨_, rfl, rfl, fun _ => next μ2 ⟨_, CSt_R c1 o' f2, r2, o'⟩, fun z => absurd rfl z⟩
theorem k_prints (hN : NX μ) (hi : 0 ≤ i ∧ i + 8 ≤ n) (hn : n ≤ 4096) (next : ∀ μ', NX μ' → WA (mLaw nm) 10 (0, 0) 1335 [(2, 0), (2, 1), (2, 493), (0, i)] [] (L0 n) μ' Q) : WA (mLaw nm) 10 (0, 0) 622 [(2, 0), (2, 1), (2, 493), (0, i)] [] (L0 n) μ Q := by
  obtain ⟨σ, hC, hR, ho⟩ := hN
  have hp0 := ho.2.2.2.2.1.1
  have hS := ho.1.1.1
  have hA := ho.1.1.2.1
  apply s_L_law_622 (layOK n) k1 k493
  refine C_prints hC ho (fun q1 μ1 c1 f1 => ⟨_, rfl, rfl, ?_⟩) (fun q1 => ⟨_, rfl, rfl, ?_⟩)
  · skip
    have o' : OKs (σ.setP ((prL σ.w (σ.w 4).toNat).length : Nat) (fun i => (prL σ.w (σ.w 4).toNat).getD i.toNat 0)) := OK_P ho (prL_640 ho.1 _ (by have := (WK_cn ho.1).1; omega)) (prL_by _)
    exact R_prints (RSt_C hR f1) ho (fun r1 μ2 r0 f2 => ⟨_, rfl, rfl, fun _ => next μ2 ⟨_, CSt_R c1 o' f2, r0, o'⟩, fun z => absurd rfl z⟩) (fun r1 => by first | exact absurd q1 r1 | exact absurd r1 q1 | omega)
  · exact R_prints hR ho (fun r1 _ _ _ => by first | exact absurd q1 r1 | exact absurd r1 q1 | omega) (fun r1 => ⟨_, rfl, rfl, fun _ => next μ ⟨_, hC, hR, ho⟩, fun z => absurd rfl z⟩)
theorem k_paper (hN : NX μ) (hi : 0 ≤ i ∧ i + 8 ≤ n) (hn : n ≤ 4096) (next : ∀ μ', NX μ' → WA (mLaw nm) 10 (0, 0) 1335 [(2, 0), (2, 1), (2, 493), (0, i)] [] (L0 n) μ' Q) : WA (mLaw nm) 10 (0, 0) 635 [(2, 0), (2, 1), (2, 493), (0, i)] [] (L0 n) μ Q := by
  obtain ⟨σ, hC, hR, ho⟩ := hN
  have hp0 := ho.2.2.2.2.1.1
  have hS := ho.1.1.1
  have hA := ho.1.1.2.1
  apply s_L_law_635 (layOK n) k1 k493
  refine ⟨⟨by omega, by omega⟩, okS0 hn (by omega) (by omega), C_paper hC ho (fun q1 => ⟨_, rfl, rfl, ?_⟩) (fun q1 => ⟨_, rfl, rfl, ?_⟩) (fun q1 => ⟨_, rfl, rfl, ?_⟩) (fun q1 => ⟨_, rfl, rfl, ?_⟩)⟩
  · exact R_paper hR ho (fun r1 => ⟨_, rfl, rfl, fun _ => next μ ⟨_, hC, hR, ho⟩, fun z => absurd rfl z⟩) (fun r1 => by first | exact absurd q1 r1 | exact absurd r1 q1 | omega) (fun r1 => by first | exact absurd q1 r1 | exact absurd r1 q1 | omega) (fun r1 => by first | exact absurd q1 r1 | exact absurd r1 q1 | omega)
  · exact R_paper hR ho (fun r1 => by first | exact absurd q1 r1 | exact absurd r1 q1 | omega) (fun r1 => ⟨_, rfl, rfl, fun _ => next μ ⟨_, hC, hR, ho⟩, fun z => absurd rfl z⟩) (fun r1 => by first | exact absurd q1 r1 | exact absurd r1 q1 | omega) (fun r1 => by first | exact absurd q1 r1 | exact absurd r1 q1 | omega)
  · exact R_paper hR ho (fun r1 => by first | exact absurd q1 r1 | exact absurd r1 q1 | omega) (fun r1 => by first | exact absurd q1 r1 | exact absurd r1 q1 | omega) (fun r1 => ⟨_, rfl, rfl, fun _ => next μ ⟨_, hC, hR, ho⟩, fun z => absurd rfl z⟩) (fun r1 => by first | exact absurd q1 r1 | exact absurd r1 q1 | omega)
  · exact R_paper hR ho (fun r1 => by first | exact absurd q1 r1 | exact absurd r1 q1 | omega) (fun r1 => by first | exact absurd q1 r1 | exact absurd r1 q1 | omega) (fun r1 => by first | exact absurd q1 r1 | exact absurd r1 q1 | omega) (fun r1 => ⟨_, rfl, rfl, fun _ => next μ ⟨_, hC, hR, ho⟩, fun z => absurd rfl z⟩)
theorem k_shares (hN : NX μ) (hi : 0 ≤ i ∧ i + 8 ≤ n) (hn : n ≤ 4096) (next : ∀ μ', NX μ' → WA (mLaw nm) 10 (0, 0) 1335 [(2, 0), (2, 1), (2, 493), (0, i)] [] (L0 n) μ' Q) : WA (mLaw nm) 10 (0, 0) 658 [(2, 0), (2, 1), (2, 493), (0, i)] [] (L0 n) μ Q := by
  obtain ⟨σ, hC, hR, ho⟩ := hN
  have hp0 := ho.2.2.2.2.1.1
  have hS := ho.1.1.1
  have hA := ho.1.1.2.1
  apply s_L_law_658 (layOK n) k1 k493
  refine ⟨⟨by omega, by omega⟩, okS0 hn (by omega) (by omega), ⟨by omega, by omega⟩, okS0 hn (by omega) (by omega), C_shares hC ho (fun q1 => ⟨fun w' e rk μ1 c1 f1 => ⟨_, rfl, rfl, ?_⟩, fun e μ1 c1 f1 => ⟨_, rfl, rfl, ?_⟩⟩) (fun q1 => ⟨_, rfl, rfl, ?_⟩) (fun q1 => ⟨_, rfl, rfl, ?_⟩)⟩
  · rw [f1 0 (i + 1) (Or.inl (by decide)), f1 0 (i + 2) (Or.inl (by decide))]
    refine R_shares (RSt_C hR f1) ho (fun r1 => ⟨fun w2 e2 _ μ2 r2 f2 => ?_, fun e2 _ _ _ => absurd (e.symm.trans e2) (fun z => by cases z)⟩) (fun r1 => absurd q1.2 r1.2) (fun r1 => absurd q1.1 r1)
    rw [e] at e2
    cases e2
    have o' := OK_w ho rk.1
    exact ⟨_, rfl, rfl, fun _ => next μ2 ⟨_, CSt_R c1 o' f2, r2, o'⟩, fun z => absurd rfl z⟩
  · rw [f1 0 (i + 1) (Or.inl (by decide)), f1 0 (i + 2) (Or.inl (by decide))]
    refine R_shares (RSt_C hR f1) ho (fun r1 => ⟨fun w2 e2 _ _ _ _ => absurd (e.symm.trans e2) (fun z => by cases z), fun e2 μ2 r2 f2 => ?_⟩) (fun r1 => absurd q1.2 r1.2) (fun r1 => absurd q1.1 r1)
    exact ⟨_, rfl, rfl, fun _ => next μ2 ⟨_, CSt_R c1 ho f2, r2, ho⟩, fun z => absurd rfl z⟩
  · exact R_shares hR ho (fun r1 => absurd r1.2 q1.2) (fun r1 => ⟨_, rfl, rfl, fun _ => next μ ⟨_, hC, hR, ho⟩, fun z => absurd rfl z⟩) (fun r1 => absurd q1.1 r1)
  · exact R_shares hR ho (fun r1 => absurd r1.1 q1) (fun r1 => absurd r1.1 q1) (fun r1 => ⟨_, rfl, rfl, fun _ => next μ ⟨_, hC, hR, ho⟩, fun z => absurd rfl z⟩)
theorem k_event (hN : NX μ) (hi : 0 ≤ i ∧ i + 8 ≤ n) (hn : n ≤ 4096) (next : ∀ μ', NX μ' → WA (mLaw nm) 10 (0, 0) 1335 [(2, 0), (2, 1), (2, 493), (0, i)] [] (L0 n) μ' Q) : WA (mLaw nm) 10 (0, 0) 691 [(2, 0), (2, 1), (2, 493), (0, i)] [] (L0 n) μ Q := by
  obtain ⟨σ, hC, hR, ho⟩ := hN
  have hp0 := ho.2.2.2.2.1.1
  have hS := ho.1.1.1
  have hA := ho.1.1.2.1
  apply s_L_law_691 (layOK n) k1 k493
  refine ⟨⟨by omega, by omega⟩, okS0 hn (by omega) (by omega), ⟨by omega, by omega⟩, okS0 hn (by omega) (by omega), C_event hC ho (fun q1 => ⟨_, rfl, rfl, ?_⟩) (fun q1 => ⟨_, rfl, rfl, ?_⟩) (fun q1 q2 => ⟨_, rfl, rfl, ?_⟩)⟩
  · exact R_event hR ho (fun r1 => ⟨_, rfl, rfl, fun _ => next μ ⟨_, hC, hR, ho⟩, fun z => absurd rfl z⟩) (fun r1 => by first | exact absurd q1 r1 | exact absurd r1 q1 | omega) (fun r1 r2 => by first | exact absurd q1 r1 | exact absurd r1 q1 | exact absurd q1 r2 | exact absurd r2 q1 | omega)
  · exact R_event hR ho (fun r1 => by first | exact absurd q1 r1 | exact absurd r1 q1 | omega) (fun r1 => ⟨_, rfl, rfl, fun _ => next μ ⟨_, hC, hR, ho⟩, fun z => absurd rfl z⟩) (fun r1 r2 => by first | exact absurd q1 r1 | exact absurd r1 q1 | exact absurd q1 r2 | exact absurd r2 q1 | omega)
  · exact R_event hR ho (fun r1 => by first | exact absurd q1 r1 | exact absurd r1 q1 | exact absurd q2 r1 | exact absurd r1 q2 | omega) (fun r1 => by first | exact absurd q1 r1 | exact absurd r1 q1 | exact absurd q2 r1 | exact absurd r1 q2 | omega) (fun r1 r2 => ⟨_, rfl, rfl, fun _ => next μ ⟨_, hC, hR, ho⟩, fun z => absurd rfl z⟩)
theorem k_share (hN : NX μ) (hi : 0 ≤ i ∧ i + 8 ≤ n) (hn : n ≤ 4096) (next : ∀ μ', NX μ' → WA (mLaw nm) 10 (0, 0) 1335 [(2, 0), (2, 1), (2, 493), (0, i)] [] (L0 n) μ' Q) : WA (mLaw nm) 10 (0, 0) 725 [(2, 0), (2, 1), (2, 493), (0, i)] [] (L0 n) μ Q := by
  obtain ⟨σ, hC, hR, ho⟩ := hN
  have hp0 := ho.2.2.2.2.1.1
  have hS := ho.1.1.1
  have hA := ho.1.1.2.1
  apply s_L_law_725 (layOK n) k1 k493
  refine ⟨⟨by omega, by omega⟩, okS0 hn (by omega) (by omega), ⟨by omega, by omega⟩, okS0 hn (by omega) (by omega), ⟨by omega, by omega⟩, okS0 hn (by omega) (by omega), C_share hC ho (fun q1 => ⟨_, rfl, rfl, ?_⟩) (fun q1 => ⟨_, rfl, rfl, ?_⟩) (fun q1 q2 => ⟨_, rfl, rfl, ?_⟩)⟩
  · exact R_share hR ho (fun r1 => ⟨_, rfl, rfl, fun _ => next μ ⟨_, hC, hR, ho⟩, fun z => absurd rfl z⟩) (fun r1 => by first | exact absurd q1 r1 | exact absurd r1 q1 | omega) (fun r1 r2 => by first | exact absurd q1 r1 | exact absurd r1 q1 | exact absurd q1 r2 | exact absurd r2 q1 | omega)
  · exact R_share hR ho (fun r1 => by first | exact absurd q1 r1 | exact absurd r1 q1 | omega) (fun r1 => ⟨_, rfl, rfl, fun _ => next μ ⟨_, hC, hR, ho⟩, fun z => absurd rfl z⟩) (fun r1 r2 => by first | exact absurd q1 r1 | exact absurd r1 q1 | exact absurd q1 r2 | exact absurd r2 q1 | omega)
  · exact R_share hR ho (fun r1 => by first | exact absurd q1 r1 | exact absurd r1 q1 | exact absurd q2 r1 | exact absurd r1 q2 | omega) (fun r1 => by first | exact absurd q1 r1 | exact absurd r1 q1 | exact absurd q2 r1 | exact absurd r1 q2 | omega) (fun r1 r2 => ⟨_, rfl, rfl, fun _ => next μ ⟨_, hC, hR, ho⟩, fun z => absurd rfl z⟩)
theorem k_gets (hN : NX μ) (hi : 0 ≤ i ∧ i + 8 ≤ n) (hn : n ≤ 4096) (next : ∀ μ', NX μ' → WA (mLaw nm) 10 (0, 0) 1335 [(2, 0), (2, 1), (2, 493), (0, i)] [] (L0 n) μ' Q) : WA (mLaw nm) 10 (0, 0) 769 [(2, 0), (2, 1), (2, 493), (0, i)] [] (L0 n) μ Q := by
  obtain ⟨σ, hC, hR, ho⟩ := hN
  have hp0 := ho.2.2.2.2.1.1
  have hS := ho.1.1.1
  have hA := ho.1.1.2.1
  apply s_L_law_769 (layOK n) k1 k493
  refine ⟨⟨by omega, by omega⟩, okS0 hn (by omega) (by omega), ⟨by omega, by omega⟩, okS0 hn (by omega) (by omega), ⟨by omega, by omega⟩, okS0 hn (by omega) (by omega), ⟨by omega, by omega⟩, okS0 hn (by omega) (by omega), C_gets hC ho (fun q1 μ1 c1 f1 => ⟨_, rfl, rfl, ?_⟩) (fun q1 => ⟨_, rfl, rfl, ?_⟩)⟩
  · rw [f1 0 (i + 1) (Or.inl (by decide)), f1 0 (i + 2) (Or.inl (by decide)), f1 0 (i + 3) (Or.inl (by decide)), f1 0 (i + 4) (Or.inl (by decide))]
    exact R_gets (RSt_C hR f1) ho (fun r1 μ2 r0 f2 => ⟨_, rfl, rfl, fun _ => next μ2 ⟨_, CSt_R c1 ho f2, r0, ho⟩, fun z => absurd rfl z⟩) (fun r1 => by first | exact absurd q1 r1 | exact absurd r1 q1 | omega)
  · exact R_gets hR ho (fun r1 _ _ _ => by first | exact absurd q1 r1 | exact absurd r1 q1 | omega) (fun r1 => ⟨_, rfl, rfl, fun _ => next μ ⟨_, hC, hR, ho⟩, fun z => absurd rfl z⟩)
theorem k_envies (hN : NX μ) (hi : 0 ≤ i ∧ i + 8 ≤ n) (hn : n ≤ 4096) (next : ∀ μ', NX μ' → WA (mLaw nm) 10 (0, 0) 1335 [(2, 0), (2, 1), (2, 493), (0, i)] [] (L0 n) μ' Q) : WA (mLaw nm) 10 (0, 0) 823 [(2, 0), (2, 1), (2, 493), (0, i)] [] (L0 n) μ Q := by
  obtain ⟨σ, hC, hR, ho⟩ := hN
  have hp0 := ho.2.2.2.2.1.1
  have hS := ho.1.1.1
  have hA := ho.1.1.2.1
  apply s_L_law_823 (layOK n) k1 k493
  refine ⟨⟨by omega, by omega⟩, okS0 hn (by omega) (by omega), ⟨by omega, by omega⟩, okS0 hn (by omega) (by omega), C_envies hC ho (fun q1 => ⟨_, rfl, rfl, ?_⟩) (fun q1 => ⟨_, rfl, rfl, ?_⟩) (fun q1 => ⟨_, rfl, rfl, ?_⟩)⟩
  · exact R_envies hR ho (fun r1 μ2 r0 f2 => ⟨_, rfl, rfl, fun _ => next μ2 ⟨_, CSt_R hC ho f2, r0, ho⟩, fun z => absurd rfl z⟩) (fun r1 => by first | exact absurd q1 r1 | exact absurd r1 q1 | omega) (fun r1 => by first | exact absurd q1 r1 | exact absurd r1 q1 | omega)
  · exact R_envies hR ho (fun r1 _ _ _ => by first | exact absurd q1 r1 | exact absurd r1 q1 | omega) (fun r1 => ⟨_, rfl, rfl, fun _ => next μ ⟨_, hC, hR, ho⟩, fun z => absurd rfl z⟩) (fun r1 => by first | exact absurd q1 r1 | exact absurd r1 q1 | omega)
  · exact R_envies hR ho (fun r1 _ _ _ => by first | exact absurd q1 r1 | exact absurd r1 q1 | omega) (fun r1 => by first | exact absurd q1 r1 | exact absurd r1 q1 | omega) (fun r1 => ⟨_, rfl, rfl, fun _ => next μ ⟨_, hC, hR, ho⟩, fun z => absurd rfl z⟩)
theorem k_fair (hN : NX μ) (hi : 0 ≤ i ∧ i + 8 ≤ n) (hn : n ≤ 4096) (next : ∀ μ', NX μ' → WA (mLaw nm) 10 (0, 0) 1335 [(2, 0), (2, 1), (2, 493), (0, i)] [] (L0 n) μ' Q) : WA (mLaw nm) 10 (0, 0) 856 [(2, 0), (2, 1), (2, 493), (0, i)] [] (L0 n) μ Q := by
  obtain ⟨σ, hC, hR, ho⟩ := hN
  have hp0 := ho.2.2.2.2.1.1
  have hS := ho.1.1.1
  have hA := ho.1.1.2.1
  apply s_L_law_856 (layOK n) k1 k493
  refine ⟨⟨by omega, by omega⟩, okS0 hn (by omega) (by omega), C_fair hC ho (fun q1 => ⟨_, rfl, rfl, ?_⟩) (fun q1 => ⟨_, rfl, rfl, ?_⟩) (fun q1 => ⟨_, rfl, rfl, ?_⟩)⟩
  · exact R_fair hR ho (fun r1 μ2 r0 f2 => ⟨_, rfl, rfl, fun _ => next μ2 ⟨_, CSt_R hC ho f2, r0, ho⟩, fun z => absurd rfl z⟩) (fun r1 => by first | exact absurd q1 r1 | exact absurd r1 q1 | omega) (fun r1 => by first | exact absurd q1 r1 | exact absurd r1 q1 | omega)
  · exact R_fair hR ho (fun r1 _ _ _ => by first | exact absurd q1 r1 | exact absurd r1 q1 | omega) (fun r1 => ⟨_, rfl, rfl, fun _ => next μ ⟨_, hC, hR, ho⟩, fun z => absurd rfl z⟩) (fun r1 => by first | exact absurd q1 r1 | exact absurd r1 q1 | omega)
  · exact R_fair hR ho (fun r1 _ _ _ => by first | exact absurd q1 r1 | exact absurd r1 q1 | omega) (fun r1 => by first | exact absurd q1 r1 | exact absurd r1 q1 | omega) (fun r1 => ⟨_, rfl, rfl, fun _ => next μ ⟨_, hC, hR, ho⟩, fun z => absurd rfl z⟩)
theorem k_exchange (hN : NX μ) (hi : 0 ≤ i ∧ i + 8 ≤ n) (hn : n ≤ 4096) (next : ∀ μ', NX μ' → WA (mLaw nm) 10 (0, 0) 1335 [(2, 0), (2, 1), (2, 493), (0, i)] [] (L0 n) μ' Q) : WA (mLaw nm) 10 (0, 0) 879 [(2, 0), (2, 1), (2, 493), (0, i)] [] (L0 n) μ Q := by
  obtain ⟨σ, hC, hR, ho⟩ := hN
  have hp0 := ho.2.2.2.2.1.1
  have hS := ho.1.1.1
  have hA := ho.1.1.2.1
  apply s_L_law_879 (layOK n) k1 k493
  refine C_exchange hC ho (fun q1 μ1 c1 f1 => ⟨_, rfl, rfl, ?_⟩) (fun q1 => ⟨_, rfl, rfl, ?_⟩)
  · skip
    exact R_exchange (RSt_C hR f1) ho (fun r1 μ2 r0 f2 => ⟨_, rfl, rfl, fun _ => next μ2 ⟨_, CSt_R c1 ho f2, r0, ho⟩, fun z => absurd rfl z⟩) (fun r1 => by first | exact absurd q1 r1 | exact absurd r1 q1 | omega)
  · exact R_exchange hR ho (fun r1 _ _ _ => by first | exact absurd q1 r1 | exact absurd r1 q1 | omega) (fun r1 => ⟨_, rfl, rfl, fun _ => next μ ⟨_, hC, hR, ho⟩, fun z => absurd rfl z⟩)
theorem k_cuts (hN : NX μ) (hi : 0 ≤ i ∧ i + 8 ≤ n) (hn : n ≤ 4096) (next : ∀ μ', NX μ' → WA (mLaw nm) 10 (0, 0) 1335 [(2, 0), (2, 1), (2, 493), (0, i)] [] (L0 n) μ' Q) : WA (mLaw nm) 10 (0, 0) 892 [(2, 0), (2, 1), (2, 493), (0, i)] [] (L0 n) μ Q := by
  obtain ⟨σ, hC, hR, ho⟩ := hN
  have hp0 := ho.2.2.2.2.1.1
  have hS := ho.1.1.1
  have hA := ho.1.1.2.1
  apply s_L_law_892 (layOK n) k1 k493
  refine C_cuts hC ho (fun q1 μ1 c1 f1 => ⟨_, rfl, rfl, ?_⟩) (fun q1 => ⟨_, rfl, rfl, ?_⟩)
  · skip
    exact R_cuts (RSt_C hR f1) ho (fun r1 μ2 r0 f2 => ⟨_, rfl, rfl, fun _ => next μ2 ⟨_, CSt_R c1 ho f2, r0, ho⟩, fun z => absurd rfl z⟩) (fun r1 => by first | exact absurd q1 r1 | exact absurd r1 q1 | omega)
  · exact R_cuts hR ho (fun r1 _ _ _ => by first | exact absurd q1 r1 | exact absurd r1 q1 | omega) (fun r1 => ⟨_, rfl, rfl, fun _ => next μ ⟨_, hC, hR, ho⟩, fun z => absurd rfl z⟩)
theorem k_off (hN : NX μ) (hi : 0 ≤ i ∧ i + 8 ≤ n) (hn : n ≤ 4096) (next : ∀ μ', NX μ' → WA (mLaw nm) 10 (0, 0) 1335 [(2, 0), (2, 1), (2, 493), (0, i)] [] (L0 n) μ' Q) : WA (mLaw nm) 10 (0, 0) 905 [(2, 0), (2, 1), (2, 493), (0, i)] [] (L0 n) μ Q := by
  obtain ⟨σ, hC, hR, ho⟩ := hN
  have hp0 := ho.2.2.2.2.1.1
  have hS := ho.1.1.1
  have hA := ho.1.1.2.1
  apply s_L_law_905 (layOK n) k1 k493
  refine ⟨⟨by omega, by omega⟩, okS0 hn (by omega) (by omega), ⟨by omega, by omega⟩, okS0 hn (by omega) (by omega), ⟨by omega, by omega⟩, okS0 hn (by omega) (by omega), C_off hC ho (fun q1 μ1 c1 f1 => ⟨_, rfl, rfl, ?_⟩) (fun q1 => ⟨_, rfl, rfl, ?_⟩)⟩
  · rw [f1 0 (i + 1) (Or.inl (by decide)), f1 0 (i + 2) (Or.inl (by decide)), f1 0 (i + 3) (Or.inl (by decide))]
    exact R_off (RSt_C hR f1) ho (fun r1 μ2 r0 f2 => ⟨_, rfl, rfl, fun _ => next μ2 ⟨_, CSt_R c1 ho f2, r0, ho⟩, fun z => absurd rfl z⟩) (fun r1 => by first | exact absurd q1 r1 | exact absurd r1 q1 | omega)
  · exact R_off hR ho (fun r1 _ _ _ => by first | exact absurd q1 r1 | exact absurd r1 q1 | omega) (fun r1 => ⟨_, rfl, rfl, fun _ => next μ ⟨_, hC, hR, ho⟩, fun z => absurd rfl z⟩)
theorem k_would (hN : NX μ) (hi : 0 ≤ i ∧ i + 8 ≤ n) (hn : n ≤ 4096) (next : ∀ μ', NX μ' → WA (mLaw nm) 10 (0, 0) 1335 [(2, 0), (2, 1), (2, 493), (0, i)] [] (L0 n) μ' Q) : WA (mLaw nm) 10 (0, 0) 949 [(2, 0), (2, 1), (2, 493), (0, i)] [] (L0 n) μ Q := by
  obtain ⟨σ, hC, hR, ho⟩ := hN
  have hp0 := ho.2.2.2.2.1.1
  have hS := ho.1.1.1
  have hA := ho.1.1.2.1
  apply s_L_law_949 (layOK n) k1 k493
  refine ⟨⟨by omega, by omega⟩, okS0 hn (by omega) (by omega), ⟨by omega, by omega⟩, okS0 hn (by omega) (by omega), ⟨by omega, by omega⟩, okS0 hn (by omega) (by omega), ⟨by omega, by omega⟩, okS0 hn (by omega) (by omega), C_would hC ho (fun q1 μ1 c1 f1 => ⟨_, rfl, rfl, ?_⟩) (fun q1 => ⟨_, rfl, rfl, ?_⟩)⟩
  · rw [f1 0 (i + 1) (Or.inl (by decide)), f1 0 (i + 2) (Or.inl (by decide)), f1 0 (i + 3) (Or.inl (by decide)), f1 0 (i + 4) (Or.inl (by decide))]
    exact R_would (RSt_C hR f1) ho (fun r1 μ2 r0 f2 => ⟨_, rfl, rfl, fun _ => next μ2 ⟨_, CSt_R c1 ho f2, r0, ho⟩, fun z => absurd rfl z⟩) (fun r1 => by first | exact absurd q1 r1 | exact absurd r1 q1 | omega)
  · exact R_would hR ho (fun r1 _ _ _ => by first | exact absurd q1 r1 | exact absurd r1 q1 | omega) (fun r1 => ⟨_, rfl, rfl, fun _ => next μ ⟨_, hC, hR, ho⟩, fun z => absurd rfl z⟩)
theorem k_lie (hN : NX μ) (hi : 0 ≤ i ∧ i + 8 ≤ n) (hn : n ≤ 4096) (next : ∀ μ', NX μ' → WA (mLaw nm) 10 (0, 0) 1335 [(2, 0), (2, 1), (2, 493), (0, i)] [] (L0 n) μ' Q) : WA (mLaw nm) 10 (0, 0) 1003 [(2, 0), (2, 1), (2, 493), (0, i)] [] (L0 n) μ Q := by
  obtain ⟨σ, hC, hR, ho⟩ := hN
  have hp0 := ho.2.2.2.2.1.1
  have hS := ho.1.1.1
  have hA := ho.1.1.2.1
  apply s_L_law_1003 (layOK n) k1 k493
  refine ⟨⟨by omega, by omega⟩, okS0 hn (by omega) (by omega), ⟨by omega, by omega⟩, okS0 hn (by omega) (by omega), ⟨by omega, by omega⟩, okS0 hn (by omega) (by omega), ⟨by omega, by omega⟩, okS0 hn (by omega) (by omega), C_lie hC ho (fun q1 μ1 c1 f1 => ⟨_, rfl, rfl, ?_⟩) (fun q1 => ⟨_, rfl, rfl, ?_⟩)⟩
  · rw [f1 0 (i + 1) (Or.inl (by decide)), f1 0 (i + 2) (Or.inl (by decide)), f1 0 (i + 3) (Or.inl (by decide)), f1 0 (i + 4) (Or.inl (by decide))]
    exact R_lie (RSt_C hR f1) ho (fun r1 μ2 r0 f2 => ⟨_, rfl, rfl, fun _ => next μ2 ⟨_, CSt_R c1 ho f2, r0, ho⟩, fun z => absurd rfl z⟩) (fun r1 => by first | exact absurd q1 r1 | exact absurd r1 q1 | omega)
  · exact R_lie hR ho (fun r1 _ _ _ => by first | exact absurd q1 r1 | exact absurd r1 q1 | omega) (fun r1 => ⟨_, rfl, rfl, fun _ => next μ ⟨_, hC, hR, ho⟩, fun z => absurd rfl z⟩)
theorem k_best (hN : NX μ) (hi : 0 ≤ i ∧ i + 8 ≤ n) (hn : n ≤ 4096) (next : ∀ μ', NX μ' → WA (mLaw nm) 10 (0, 0) 1335 [(2, 0), (2, 1), (2, 493), (0, i)] [] (L0 n) μ' Q) : WA (mLaw nm) 10 (0, 0) 1057 [(2, 0), (2, 1), (2, 493), (0, i)] [] (L0 n) μ Q := by
  obtain ⟨σ, hC, hR, ho⟩ := hN
  have hp0 := ho.2.2.2.2.1.1
  have hS := ho.1.1.1
  have hA := ho.1.1.2.1
  apply s_L_law_1057 (layOK n) k1 k493
  refine ⟨⟨by omega, by omega⟩, okS0 hn (by omega) (by omega), ⟨by omega, by omega⟩, okS0 hn (by omega) (by omega), C_best hC ho (fun q1 μ1 c1 f1 => ⟨_, rfl, rfl, ?_⟩) (fun q1 => ⟨_, rfl, rfl, ?_⟩)⟩
  · rw [f1 0 (i + 1) (Or.inl (by decide)), f1 0 (i + 2) (Or.inl (by decide))]
    exact R_best (RSt_C hR f1) ho (fun r1 μ2 r0 f2 => ⟨_, rfl, rfl, fun _ => next μ2 ⟨_, CSt_R c1 ho f2, r0, ho⟩, fun z => absurd rfl z⟩) (fun r1 => by first | exact absurd q1 r1 | exact absurd r1 q1 | omega)
  · exact R_best hR ho (fun r1 _ _ _ => by first | exact absurd q1 r1 | exact absurd r1 q1 | omega) (fun r1 => ⟨_, rfl, rfl, fun _ => next μ ⟨_, hC, hR, ho⟩, fun z => absurd rfl z⟩)
theorem k_list (hN : NX μ) (hi : 0 ≤ i ∧ i + 8 ≤ n) (hn : n ≤ 4096) (next : ∀ μ', NX μ' → WA (mLaw nm) 10 (0, 0) 1335 [(2, 0), (2, 1), (2, 493), (0, i)] [] (L0 n) μ' Q) : WA (mLaw nm) 10 (0, 0) 1090 [(2, 0), (2, 1), (2, 493), (0, i)] [] (L0 n) μ Q := by
  obtain ⟨σ, hC, hR, ho⟩ := hN
  have hp0 := ho.2.2.2.2.1.1
  have hS := ho.1.1.1
  have hA := ho.1.1.2.1
  apply s_L_law_1090 (layOK n) k1 k493
  refine ⟨⟨by omega, by omega⟩, okS0 hn (by omega) (by omega), ⟨by omega, by omega⟩, okS0 hn (by omega) (by omega), C_list hC ho (fun q1 μ1 c1 f1 => ⟨_, rfl, rfl, ?_⟩) (fun q1 => ⟨_, rfl, rfl, ?_⟩) (fun q1 => ⟨_, rfl, rfl, ?_⟩)⟩
  · rw [f1 0 (i + 1) (Or.inl (by decide)), f1 0 (i + 2) (Or.inl (by decide))]
    have o' : OKs (σ.setL (layM σ.lm (μ 0 (i + 1)) (μ 0 (i + 2))) (layL σ.ls (μ 0 (i + 1)) 20)) := OK_L ho (layM_b ho q1)
    exact R_list (RSt_C hR f1) ho (fun r1 μ2 r0 f2 => ⟨_, rfl, rfl, fun _ => next μ2 ⟨_, CSt_R c1 o' f2, r0, o'⟩, fun z => absurd rfl z⟩) (fun r1 => by first | exact absurd q1 r1 | exact absurd r1 q1 | omega) (fun r1 => by first | exact absurd q1 r1 | exact absurd r1 q1 | omega)
  · exact R_list hR ho (fun r1 _ _ _ => by first | exact absurd q1 r1 | exact absurd r1 q1 | omega) (fun r1 => ⟨_, rfl, rfl, fun _ => next μ ⟨_, hC, hR, ho⟩, fun z => absurd rfl z⟩) (fun r1 => by first | exact absurd q1 r1 | exact absurd r1 q1 | omega)
  · exact R_list hR ho (fun r1 _ _ _ => by first | exact absurd q1 r1 | exact absurd r1 q1 | omega) (fun r1 => by first | exact absurd q1 r1 | exact absurd r1 q1 | omega) (fun r1 => ⟨_, rfl, rfl, fun _ => next μ ⟨_, hC, hR, ho⟩, fun z => absurd rfl z⟩)
theorem k_set (hN : NX μ) (hi : 0 ≤ i ∧ i + 8 ≤ n) (hn : n ≤ 4096) (next : ∀ μ', NX μ' → WA (mLaw nm) 10 (0, 0) 1335 [(2, 0), (2, 1), (2, 493), (0, i)] [] (L0 n) μ' Q) : WA (mLaw nm) 10 (0, 0) 1123 [(2, 0), (2, 1), (2, 493), (0, i)] [] (L0 n) μ Q := by
  obtain ⟨σ, hC, hR, ho⟩ := hN
  have hp0 := ho.2.2.2.2.1.1
  have hS := ho.1.1.1
  have hA := ho.1.1.2.1
  apply s_L_law_1123 (layOK n) k1 k493
  refine ⟨⟨by omega, by omega⟩, okS0 hn (by omega) (by omega), ⟨by omega, by omega⟩, okS0 hn (by omega) (by omega), ⟨by omega, by omega⟩, okS0 hn (by omega) (by omega), C_set hC ho (fun q1 μ1 c1 f1 => ⟨_, rfl, rfl, ?_⟩) (fun q1 => ⟨_, rfl, rfl, ?_⟩) (fun q1 => ⟨_, rfl, rfl, ?_⟩) (fun q1 => ⟨_, rfl, rfl, ?_⟩)⟩
  · rw [f1 0 (i + 1) (Or.inl (by decide)), f1 0 (i + 2) (Or.inl (by decide)), f1 0 (i + 3) (Or.inl (by decide))]
    have o' : OKs (σ.setL σ.lm (updW σ.ls (20 * (μ 0 ((μ 0 (i + 2)) + 1)) + (μ 0 (i + 2))) (μ 0 (i + 3)))) := OK_L ho ho.2.2.2.2.2
    exact R_set (RSt_C hR f1) ho (fun r1 μ2 r0 f2 => ⟨_, rfl, rfl, fun _ => next μ2 ⟨_, CSt_R c1 o' f2, r0, o'⟩, fun z => absurd rfl z⟩) (fun r1 => by first | exact absurd q1 r1 | exact absurd r1 q1 | omega) (fun r1 => by first | exact absurd q1 r1 | exact absurd r1 q1 | omega) (fun r1 => by first | exact absurd q1 r1 | exact absurd r1 q1 | omega)
  · exact R_set hR ho (fun r1 _ _ _ => by first | exact absurd q1 r1 | exact absurd r1 q1 | omega) (fun r1 => ⟨_, rfl, rfl, fun _ => next μ ⟨_, hC, hR, ho⟩, fun z => absurd rfl z⟩) (fun r1 => by first | exact absurd q1 r1 | exact absurd r1 q1 | omega) (fun r1 => by first | exact absurd q1 r1 | exact absurd r1 q1 | omega)
  · exact R_set hR ho (fun r1 _ _ _ => by first | exact absurd q1 r1 | exact absurd r1 q1 | omega) (fun r1 => by first | exact absurd q1 r1 | exact absurd r1 q1 | omega) (fun r1 => ⟨_, rfl, rfl, fun _ => next μ ⟨_, hC, hR, ho⟩, fun z => absurd rfl z⟩) (fun r1 => by first | exact absurd q1 r1 | exact absurd r1 q1 | omega)
  · exact R_set hR ho (fun r1 _ _ _ => by first | exact absurd q1 r1 | exact absurd r1 q1 | omega) (fun r1 => by first | exact absurd q1 r1 | exact absurd r1 q1 | omega) (fun r1 => by first | exact absurd q1 r1 | exact absurd r1 q1 | omega) (fun r1 => ⟨_, rfl, rfl, fun _ => next μ ⟨_, hC, hR, ho⟩, fun z => absurd rfl z⟩)
theorem k_get (hN : NX μ) (hi : 0 ≤ i ∧ i + 8 ≤ n) (hn : n ≤ 4096) (next : ∀ μ', NX μ' → WA (mLaw nm) 10 (0, 0) 1335 [(2, 0), (2, 1), (2, 493), (0, i)] [] (L0 n) μ' Q) : WA (mLaw nm) 10 (0, 0) 1166 [(2, 0), (2, 1), (2, 493), (0, i)] [] (L0 n) μ Q := by
  obtain ⟨σ, hC, hR, ho⟩ := hN
  have hp0 := ho.2.2.2.2.1.1
  have hS := ho.1.1.1
  have hA := ho.1.1.2.1
  apply s_L_law_1166 (layOK n) k1 k493
  refine ⟨⟨by omega, by omega⟩, okS0 hn (by omega) (by omega), ⟨by omega, by omega⟩, okS0 hn (by omega) (by omega), C_get hC ho (fun q1 => ⟨_, rfl, rfl, ?_⟩) (fun q1 => ⟨_, rfl, rfl, ?_⟩)⟩
  · exact R_get hR ho (fun r1 => ⟨_, rfl, rfl, fun _ => next μ ⟨_, hC, hR, ho⟩, fun z => absurd rfl z⟩) (fun r1 => by first | exact absurd q1 r1 | exact absurd r1 q1 | omega)
  · exact R_get hR ho (fun r1 => by first | exact absurd q1 r1 | exact absurd r1 q1 | omega) (fun r1 => ⟨_, rfl, rfl, fun _ => next μ ⟨_, hC, hR, ho⟩, fun z => absurd rfl z⟩)
theorem k_into (hN : NX μ) (hi : 0 ≤ i ∧ i + 8 ≤ n) (hn : n ≤ 4096) (next : ∀ μ', NX μ' → WA (mLaw nm) 10 (0, 0) 1335 [(2, 0), (2, 1), (2, 493), (0, i)] [] (L0 n) μ' Q) : WA (mLaw nm) 10 (0, 0) 1200 [(2, 0), (2, 1), (2, 493), (0, i)] [] (L0 n) μ Q := by
  obtain ⟨σ, hC, hR, ho⟩ := hN
  have hp0 := ho.2.2.2.2.1.1
  have hS := ho.1.1.1
  have hA := ho.1.1.2.1
  apply s_L_law_1200 (layOK n) k1 k493
  refine ⟨⟨by omega, by omega⟩, okS0 hn (by omega) (by omega), ⟨by omega, by omega⟩, okS0 hn (by omega) (by omega), ⟨by omega, by omega⟩, okS0 hn (by omega) (by omega), C_into hC ho (fun q1 μ1 c1 f1 => ⟨_, rfl, rfl, ?_⟩) (fun q1 => ⟨_, rfl, rfl, ?_⟩)⟩
  · rw [f1 0 (i + 1) (Or.inl (by decide)), f1 0 (i + 2) (Or.inl (by decide)), f1 0 (i + 3) (Or.inl (by decide))]
    have o' : OKs (σ.setL σ.lm (intL σ.ls σ.w (μ 0 (i + 1)) (20 * (μ 0 (i + 2)) + (μ 0 (i + 3))) (intN (σ.lm (μ 0 (i + 2))) (μ 0 (i + 3)) (σ.w 0).toNat 0 : Nat))) := OK_L ho ho.2.2.2.2.2
    exact R_into (RSt_C hR f1) ho (fun r1 μ2 r0 f2 => ⟨_, rfl, rfl, fun _ => next μ2 ⟨_, CSt_R c1 o' f2, r0, o'⟩, fun z => absurd rfl z⟩) (fun r1 => by first | exact absurd q1 r1 | exact absurd r1 q1 | omega)
  · exact R_into hR ho (fun r1 _ _ _ => by first | exact absurd q1 r1 | exact absurd r1 q1 | omega) (fun r1 => ⟨_, rfl, rfl, fun _ => next μ ⟨_, hC, hR, ho⟩, fun z => absurd rfl z⟩)
theorem k_from (hN : NX μ) (hi : 0 ≤ i ∧ i + 8 ≤ n) (hn : n ≤ 4096) (next : ∀ μ', NX μ' → WA (mLaw nm) 10 (0, 0) 1335 [(2, 0), (2, 1), (2, 493), (0, i)] [] (L0 n) μ' Q) : WA (mLaw nm) 10 (0, 0) 1243 [(2, 0), (2, 1), (2, 493), (0, i)] [] (L0 n) μ Q := by
  obtain ⟨σ, hC, hR, ho⟩ := hN
  have hp0 := ho.2.2.2.2.1.1
  have hS := ho.1.1.1
  have hA := ho.1.1.2.1
  apply s_L_law_1243 (layOK n) k1 k493
  refine ⟨⟨by omega, by omega⟩, okS0 hn (by omega) (by omega), ⟨by omega, by omega⟩, okS0 hn (by omega) (by omega), ⟨by omega, by omega⟩, okS0 hn (by omega) (by omega), C_from hC ho (fun q1 μ1 o1 c1 f1 => ⟨_, rfl, rfl, ?_⟩) (fun q1 => ⟨_, rfl, rfl, ?_⟩)⟩
  · rw [f1 0 (i + 1) (Or.inl (by decide)), f1 0 (i + 2) (Or.inl (by decide)), f1 0 (i + 3) (Or.inl (by decide))]
    have o' : OKs (σ.setW (frmW σ.w σ.ls (μ 0 (i + 1)) (20 * (μ 0 (i + 2)) + (μ 0 (i + 3))) (frmN σ.ls (σ.lm (μ 0 (i + 2))) (20 * (μ 0 (i + 2))) (μ 0 (i + 3)) (σ.w 0).toNat 0 : Nat))) := o1
    exact R_from (RSt_C hR f1) ho (fun r1 μ2 r0 f2 => ⟨_, rfl, rfl, fun _ => next μ2 ⟨_, CSt_R c1 o' f2, r0, o'⟩, fun z => absurd rfl z⟩) (fun r1 => by first | exact absurd q1 r1 | exact absurd r1 q1 | omega)
  · exact R_from hR ho (fun r1 _ _ _ => by first | exact absurd q1 r1 | exact absurd r1 q1 | omega) (fun r1 => ⟨_, rfl, rfl, fun _ => next μ ⟨_, hC, hR, ho⟩, fun z => absurd rfl z⟩)
theorem k_image (hN : NX μ) (hi : 0 ≤ i ∧ i + 8 ≤ n) (hn : n ≤ 4096) (next : ∀ μ', NX μ' → WA (mLaw nm) 10 (0, 0) 1335 [(2, 0), (2, 1), (2, 493), (0, i)] [] (L0 n) μ' Q) : WA (mLaw nm) 10 (0, 0) 1286 [(2, 0), (2, 1), (2, 493), (0, i)] [] (L0 n) μ Q := by
  obtain ⟨σ, hC, hR, ho⟩ := hN
  have hp0 := ho.2.2.2.2.1.1
  have hS := ho.1.1.1
  have hA := ho.1.1.2.1
  apply s_L_law_1286 (layOK n) k1 k493
  refine C_image hC ho (fun  μ1 c1 f1 => ⟨_, rfl, rfl, ?_⟩)
  · skip
    have o' : OKs (σ.setI 1 σ.w) := ⟨ho.1, Or.inr rfl, fun _ => ho.1, ho.2.2.2⟩
    exact R_image (RSt_C hR f1) ho (fun  μ2 r0 f2 => ⟨_, rfl, rfl, fun _ => next μ2 ⟨_, CSt_R c1 o' f2, r0, o'⟩, fun z => absurd rfl z⟩)
theorem k_back (hN : NX μ) (hi : 0 ≤ i ∧ i + 8 ≤ n) (hn : n ≤ 4096) (next : ∀ μ', NX μ' → WA (mLaw nm) 10 (0, 0) 1335 [(2, 0), (2, 1), (2, 493), (0, i)] [] (L0 n) μ' Q) : WA (mLaw nm) 10 (0, 0) 1299 [(2, 0), (2, 1), (2, 493), (0, i)] [] (L0 n) μ Q := by
  obtain ⟨σ, hC, hR, ho⟩ := hN
  have hp0 := ho.2.2.2.2.1.1
  have hS := ho.1.1.1
  have hA := ho.1.1.2.1
  apply s_L_law_1299 (layOK n) k1 k493
  refine C_back hC ho (fun q1 μ1 c1 f1 => ⟨_, rfl, rfl, ?_⟩) (fun q1 => ⟨_, rfl, rfl, ?_⟩)
  · skip
    have o' : OKs (σ.setW σ.im) := OK_w ho (ho.2.2.1 q1)
    exact R_back (RSt_C hR f1) ho (fun r1 μ2 r0 f2 => ⟨_, rfl, rfl, fun _ => next μ2 ⟨_, CSt_R c1 o' f2, r0, o'⟩, fun z => absurd rfl z⟩) (fun r1 => by first | exact absurd q1 r1 | exact absurd r1 q1 | omega)
  · exact R_back hR ho (fun r1 _ _ _ => by first | exact absurd q1 r1 | exact absurd r1 q1 | omega) (fun r1 => ⟨_, rfl, rfl, fun _ => next μ ⟨_, hC, hR, ho⟩, fun z => absurd rfl z⟩)
theorem k_count (hN : NX μ) (hi : 0 ≤ i ∧ i + 8 ≤ n) (hn : n ≤ 4096) (next : ∀ μ', NX μ' → WA (mLaw nm) 10 (0, 0) 1335 [(2, 0), (2, 1), (2, 493), (0, i)] [] (L0 n) μ' Q) : WA (mLaw nm) 10 (0, 0) 1312 [(2, 0), (2, 1), (2, 493), (0, i)] [] (L0 n) μ Q := by
  obtain ⟨σ, hC, hR, ho⟩ := hN
  have hp0 := ho.2.2.2.2.1.1
  have hS := ho.1.1.1
  have hA := ho.1.1.2.1
  apply s_L_law_1312 (layOK n) k1 k493
  refine ⟨⟨by omega, by omega⟩, okS0 hn (by omega) (by omega), C_count hC ho ⟨_, rfl, rfl, ?_⟩⟩
  · exact R_count hR ho ⟨_, rfl, rfl, fun _ => next μ ⟨_, hC, hR, ho⟩, fun z => absurd rfl z⟩
end
