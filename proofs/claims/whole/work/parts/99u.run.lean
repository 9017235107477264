/-! the law: its loop, its run from its entry -/
section
variable {X : MI} {ht : Nat} {k : Nat × Nat} {pc : Nat} {ls st : List AV} {L L' : Lay} {μ : Mem} {Q : Option AV → Lay → Mem → Prop}
/-- only what stands counts of a layout -/
theorem WA_lay (h1 : L'.1 = L.1) (hk : ∀ a, 0 ≤ a → a ≤ L.1 → kd L' a = kd L a) (hr : ∀ a i, 1 ≤ a → a ≤ L.1 → rf L' a i = rf L a i) (h : WA X ht k pc ls st L μ Q) : WA X ht k pc ls st L' μ Q := by
  intro a1 a2 p l e R s m args below meth c b B D dA Z C S H locs cells slots lsA cx hr' hR hS hc1 hc2 hl
  refine h a1 a2 p l e R s m args below meth c b B D dA Z C S H locs cells slots lsA cx hr' ?_ hS hc1 hc2 hl
  obtain ⟨r1, r2, r3, r4, r5⟩ := hR
  have ew : wld b B dA L' μ = wld b B dA L μ := by
    unfold wld
    rw [h1]
    refine List.map_congr_left fun n hn => ?_
    have hn := List.mem_range.mp hn
    rw [entry_congr (hk _ (by omega) (by omega)) (fun i => hr _ i (by omega) (by omega)) (fun _ => rfl)]
  rw [h1] at r2 r3
  refine ⟨by rw [← ew]; exact r1, r2, r3, ?_, fun o i o0 o1 => ?_⟩
  · rw [hk 0 (Int.le_refl 0) r3] at r4
    exact r4
  · have := r5 o i o0 (by rw [h1]; exact o1)
    unfold sty at this ⊢
    rw [hk o o0 o1] at this
    exact this
end
section
variable {nm : String} {n : Int}
/-- what the law answers -/
def QL : Option AV → Lay → Mem → Prop := fun r _ _ => r = some (0, 1)
theorem law_loop (h0 : 0 ≤ n) (h1 : n ≤ 4096) : ∀ (d : Nat) (i : Int) (μ : Mem), 0 ≤ i → n - 8 - i < 8 * (d : Int) → i ≤ 4096 → NX μ → WA (mLaw nm) 10 (0, 0) 18 [(2, 0), (2, 1), (2, 493), (0, i)] [] (L0 n) μ QL := by
  have ek : kd (L0 n) 0 = (20, n) := rfl
  intro d
  induction d with
  | zero =>
    intro i μ i0 hd i1 hN
    apply s_L_law_18 (layOK n) k1 k493
    rw [ek]
    exact ⟨⟨rfl, h0, by show n < 2147483648; omega⟩, ⟨by show -2147483648 ≤ n - 8; omega, by show n - 8 < 2147483648; omega⟩, fun _ => rfl, fun z => absurd (show n - 8 < i by omega) z⟩
  | succ d ih =>
    intro i μ i0 hd i1 hN
    apply s_L_law_18 (layOK n) k1 k493
    rw [ek]
    refine ⟨⟨rfl, h0, by show n < 2147483648; omega⟩, ⟨by show -2147483648 ≤ n - 8; omega, by show n - 8 < 2147483648; omega⟩, fun _ => rfl, fun z => ?_⟩
    have z : ¬ n - 8 < i := z
    have next : ∀ μ', NX μ' → WA (mLaw nm) 10 (0, 0) 1335 [(2, 0), (2, 1), (2, 493), (0, i)] [] (L0 n) μ' QL := fun μ' hN' => by
      apply s_L_law_1335 (layOK n) k1 k493
      exact ⟨⟨by omega, by omega⟩, ih (i + 8) μ' (by omega) (by omega) (by omega) hN'⟩
    exact ⟨okS0 h1 i0 (by omega), ⟨fun _ => k_begin hN ⟨i0, by omega⟩ h1 next, fun _ => k_worth hN ⟨i0, by omega⟩ h1 next, fun _ => k_tells hN ⟨i0, by omega⟩ h1 next, fun _ => k_honest hN ⟨i0, by omega⟩ h1 next, fun _ => k_strip hN ⟨i0, by omega⟩ h1 next, fun _ => k_span hN ⟨i0, by omega⟩ h1 next, fun _ => k_mark hN ⟨i0, by omega⟩ h1 next, fun _ => k_exact hN ⟨i0, by omega⟩ h1 next, fun _ => k_feed hN ⟨i0, by omega⟩ h1 next, fun _ => k_worths hN ⟨i0, by omega⟩ h1 next, fun _ => k_divides hN ⟨i0, by omega⟩ h1 next, fun _ => k_prints hN ⟨i0, by omega⟩ h1 next, fun _ => k_paper hN ⟨i0, by omega⟩ h1 next, fun _ => k_shares hN ⟨i0, by omega⟩ h1 next, fun _ => k_event hN ⟨i0, by omega⟩ h1 next, fun _ => k_share hN ⟨i0, by omega⟩ h1 next, fun _ => k_gets hN ⟨i0, by omega⟩ h1 next, fun _ => k_envies hN ⟨i0, by omega⟩ h1 next, fun _ => k_fair hN ⟨i0, by omega⟩ h1 next, fun _ => k_exchange hN ⟨i0, by omega⟩ h1 next, fun _ => k_cuts hN ⟨i0, by omega⟩ h1 next, fun _ => k_off hN ⟨i0, by omega⟩ h1 next, fun _ => k_would hN ⟨i0, by omega⟩ h1 next, fun _ => k_lie hN ⟨i0, by omega⟩ h1 next, fun _ => k_best hN ⟨i0, by omega⟩ h1 next, fun _ => k_list hN ⟨i0, by omega⟩ h1 next, fun _ => k_set hN ⟨i0, by omega⟩ h1 next, fun _ => k_get hN ⟨i0, by omega⟩ h1 next, fun _ => k_into hN ⟨i0, by omega⟩ h1 next, fun _ => k_from hN ⟨i0, by omega⟩ h1 next, fun _ => k_image hN ⟨i0, by omega⟩ h1 next, fun _ => k_back hN ⟨i0, by omega⟩ h1 next, fun _ => k_count hN ⟨i0, by omega⟩ h1 next⟩, fun _ => next μ hN⟩
/-- before all -/
def Ls (n : Int) : Lay := (0, kd (L0 n), fun _ _ => -1)
theorem PL_s : PL n (Ls n) 0 (fun _ _ => False) := ⟨rfl, fun _ _ => rfl, fun a i ha _ => by
  show (-1 : Int) = rf0 a i
  unfold rf0
  rw [if_pos (Or.inl ha)]⟩
theorem law_run (h0 : 0 ≤ n) (h1 : n ≤ 4096) (μ : Mem) : WA (mLaw nm) 10 (509, 9073) 0 [(2, 0), (9, 0), (9, 0), (9, 0)] [] (Ls n) μ QL := by
  refine a_L_law ⟨(508, 9059), rfl, fun o1 L1 μ1 eo eL em => ?_⟩
  have eo := PL_o (n := n) PL_s (c' := 1) (by decide) eo
  subst eo
  have P1 : PL n L1 1 (fun a i => a = 1 ∧ rf (L0 n) a i ≠ -1) := PL_weak (PL_at PL_s (c' := 1) (by decide) k1 eL) (fun a i z => z.elim id False.elim)
  have h6 : μ1 1 6 = 0 := by rw [em]; exact if_pos rfl
  refine ⟨PL_K P1 k1 (by decide), (491, 2610), (17, 6449), rfl, rfl, i_X9 P1 h6 fun L2 μ2 P2 c2 => ⟨rfl, PL_K P2 k1 (by decide), (16, 6421), rfl, fun o3 L3 μ3 eo3 eL3 em3 => ?_⟩⟩
  have eo3 := PL_o P2 (c' := 493) (by decide) eo3
  subst eo3
  have P3 : PL n L3 493 (fun a i => a = 493 ∧ rf (L0 n) a i ≠ -1) := PL_weak (PL_at P2 (c' := 493) (by decide) k493 eL3) (fun a i z => z.elim id False.elim)
  have f3 : ∀ x i : Int, x ≤ 492 → μ3 x i = μ2 x i := fun x i hx => by rw [em3, nwM_old (by rw [P2.1]; omega)]
  have z3 : ∀ i : Int, μ3 493 i = 0 := fun i => by rw [em3]; exact if_pos (by rw [P2.1]; rfl)
  refine ⟨PL_K P3 k1 (by decide), PL_K P3 k493 (by decide), (16, 6421), (0, 0), rfl, rfl, i_X10 P3 fun L4 μ4 P4 f4 w4 m4 l4 => ⟨rfl, PL_K P4 k1 (by decide), PL_K P4 k493 (by decide), ?_⟩⟩
  have hC : CSt μ4 sg0 := CSt_R c2 ok0 (fun x i hx => (f4 x i (by omega)).trans (f3 x i hx))
  have z4 : ∀ i : Int, μ4 493 i = 0 := fun i => (f4 493 i (by decide)).trans (z3 i)
  have hR : RSt μ4 sg0 := ⟨fun i i0 i1 => w4 i i0 i1, ⟨z4 3, fun e => absurd (show (0 : Int) = 1 from e) (by decide)⟩, ⟨z4 7, fun i i0 i1 => absurd (show i < 0 from i1) (by omega)⟩, ⟨z4 21, fun i i0 i1 => absurd (show i < 0 from i1) (by omega)⟩, fun k k0 k1 => m4 k k0 k1, fun i _ _ => l4 i⟩
  refine WA_lay (L := L0 n) P4.1 (fun a _ ha => P4.2.1 a ha) (fun a i _ ha => P4.2.2 a i ha id) (law_loop h0 h1 513 0 μ4 (Int.le_refl 0) (by omega) (by decide) ⟨sg0, hC, hR, ok0⟩)
end
/-! what the tables say at the start -/
theorem start_O {s : State} {A : Array Value} {C : String} (h : (Cond.arrayOver (.object C)).before A s = true) : ∃ cA, ArrOfT s cA (.object C) ∧ va_RA s cA (.object C) := by
  obtain ⟨comp, cA, kA, h1, -, h2, h3, h4⟩ := Cond.arrayOver_spec h
  exact ⟨cA, fun n z => ⟨fun k h => (by cases h), kA, h2, comp, h3⟩, kA, comp, h2, h3, h1, h4⟩
theorem start_KK {s : State} {A : Array Value} (hts : ∀ w ∈ lw_tbl, w.before A s = true) : ∃ (D : va_G) (dA : Nat → ClassId), KK D dA s := by
  have hg : ∀ w ∈ GW, w.before A s = true := fun w hw => hts w (List.mem_filter.mp hw).1
  obtain ⟨c0, i0, h0⟩ := u_known (C := RX0) (T := TX0) (N := 4) hg (wU 0 (by decide)) (hg _ wI_X0)
  obtain ⟨c1, i1, h1⟩ := u_known (C := RX1) (T := TX1) (N := 10) hg (wU 1 (by decide)) (hg _ wI_X1)
  obtain ⟨c2, i2, h2⟩ := u_known (C := RX2) (T := TX2) (N := 3) hg (wU 2 (by decide)) (hg _ wI_X2)
  obtain ⟨c3, i3, h3⟩ := u_known (C := RX3) (T := TX3) (N := 2) hg (wU 3 (by decide)) (hg _ wI_X3)
  obtain ⟨c4, i4, h4⟩ := u_known (C := RX4) (T := TX4) (N := 2) hg (wU 4 (by decide)) (hg _ wI_X4)
  obtain ⟨c5, i5, h5⟩ := u_known (C := RX5) (T := TX5) (N := 13) hg (wU 5 (by decide)) (hg _ wI_X5)
  obtain ⟨c6, i6, h6⟩ := u_known (C := RX6) (T := TX6) (N := 2) hg (wU 6 (by decide)) (hg _ wI_X6)
  obtain ⟨c7, i7, h7⟩ := u_known (C := RX7) (T := TX7) (N := 2) hg (wU 7 (by decide)) (hg _ wI_X7)
  obtain ⟨c8, i8, h8⟩ := u_known (C := RX8) (T := TX8) (N := 5) hg (wU 8 (by decide)) (hg _ wI_X8)
  obtain ⟨c9, i9, h9⟩ := u_known (C := RX9) (T := TX9) (N := 14) hg (wU 9 (by decide)) (hg _ wI_X9)
  obtain ⟨c10, i10, h10⟩ := u_known (C := RX10) (T := TX10) (N := 28) hg (wU 10 (by decide)) (hg _ wI_X10)
  obtain ⟨d0, k0, e0, x0, y0, z0⟩ := Cond.arrayClass_spec (hg _ wA_int)
  obtain ⟨d1, k1, e1, x1, y1, z1⟩ := Cond.arrayClass_spec (hg _ wA_long)
  obtain ⟨d2, k2, e2, x2, y2, z2⟩ := Cond.arrayClass_spec (hg _ wA_byte)
  obtain ⟨cm, d3, k3, b0, b1, b2, b3⟩ := Cond.arrayOver_specA (hts _ wOv_I)
  obtain ⟨d4, a4⟩ := start_O (hts _ wOv_X2)
  obtain ⟨d5, a5⟩ := start_O (hts _ wOv_X7)
  obtain ⟨d6, a6⟩ := start_O (hts _ wOv_X3)
  refine ⟨(fun k => if k = 0 then c0 else if k = 1 then c1 else if k = 2 then c2 else if k = 3 then c3 else if k = 4 then c4 else if k = 5 then c5 else if k = 6 then c6 else if k = 7 then c7 else if k = 8 then c8 else if k = 9 then c9 else c10, fun k => if k = 0 then i0 else if k = 1 then i1 else if k = 2 then i2 else if k = 3 then i3 else if k = 4 then i4 else if k = 5 then i5 else if k = 6 then i6 else if k = 7 then i7 else if k = 8 then i8 else if k = 9 then i9 else i10), fun k => if k = 0 then d0 else if k = 1 then d1 else if k = 2 then d2 else if k = 3 then d3 else if k = 4 then d4 else if k = 5 then d5 else d6, ⟨fun k q hq => ?_, fun k q hq => ?_⟩, fun w hw => ?_, hts _ wOv_I, hts _ wOv_X2, hts _ wOv_X7, hts _ wOv_X3⟩
  · match k, hq with
    | 0, hq => cases hq; exact h0
    | 1, hq => cases hq; exact h1
    | 2, hq => cases hq; exact h2
    | 3, hq => cases hq; exact h3
    | 4, hq => cases hq; exact h4
    | 5, hq => cases hq; exact h5
    | 6, hq => cases hq; exact h6
    | 7, hq => cases hq; exact h7
    | 8, hq => cases hq; exact h8
    | 9, hq => cases hq; exact h9
    | 10, hq => cases hq; exact h10
    | k + 11, hq => simp [clsL] at hq
  · match k, hq with
    | 0, hq => cases hq; exact ⟨fun n z => ⟨fun k h => (by cases h), k0, y0, e0, z0⟩, x0⟩
    | 1, hq => cases hq; exact ⟨fun n z => ⟨fun k h => (by cases h), k1, y1, e1, z1⟩, x1⟩
    | 2, hq => cases hq; exact ⟨fun n z => ⟨fun k h => (by cases h), k2, y2, e2, z2⟩, x2⟩
    | 3, hq => cases hq; exact ⟨fun n z => ⟨fun k h => (by cases h), k3, b1, cm, b2⟩, b3⟩
    | 4, hq => cases hq; exact a4
    | 5, hq => cases hq; exact a5
    | 6, hq => cases hq; exact a6
    | k + 7, hq => simp [tysL] at hq
  · have hb := hts w (nestW_in w hw)
    simp only [nestW, List.mem_cons, List.not_mem_nil, or_false] at hw
    rcases hw with rfl | rfl | rfl | rfl | rfl | rfl | rfl | rfl | rfl | rfl | rfl | rfl | rfl <;> exact va_Nw.of rfl hb
