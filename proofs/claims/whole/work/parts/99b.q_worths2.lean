/-! worths (the reference): the whole text -/
theorem RSt_mk {μ μ' : Mem} {σ : Sg} {w' : Dv} (h : RSt μ σ) (h1 : RWm μ' w') (h7 : μ' 493 7 = 0) (hf : ∀ x i : Int, (x = 493 ∧ (i = 3 ∨ i = 21) ∨ x = 496 ∨ x = 503 ∨ x = 508 ∨ x = 509) → μ' x i = μ x i) : RSt μ' ((σ.setW w').setT 0 σ.tp) := by
  obtain ⟨-, h2, -, h4, h5⟩ := h
  exact ⟨h1, ⟨by rw [hf 493 3 (by omega), h2.1]; rfl, fun e i i0 i1 => by rw [hf 496 i (by omega), h2.2 e i i0 i1]; rfl⟩, ⟨h7, fun i i0 i1 => absurd (show i < 0 from i1) (by omega)⟩, ⟨by rw [hf 493 21 (by omega), h4.1]; rfl, fun i i0 i1 => by rw [hf 503 i (by omega), h4.2 i i0 i1]; rfl⟩, fun k k0 k1 => by rw [hf 508 k (by omega), h5.1 k k0 k1]; rfl, fun i i0 i1 => by rw [hf 509 i (by omega), h5.2 i i0 i1]; rfl⟩
section
variable {n : Int} {μ : Mem} {Q : Option AV → Lay → Mem → Prop}
/-- the end of a text: read whole, or a fault and all as before -/
theorem q_ends {m p bad v : Int} {t : Int → Int} {w0 w : Dv} (h : TPr μ m t p bad) (hp : 0 ≤ p ∧ p ≤ m) (hm : m ≤ 160) (hb : bad = 0 ∨ bad = 1) (h5 : ∀ i : Int, 0 ≤ i → i < 510 → μ 495 i = w0 i)
    (hy : bad = 0 ∧ m ≤ p → ∀ μ', μ' 493 7 = 0 → (∀ x i : Int, (x ≠ 493 ∨ (i ≠ 7 ∧ i ≠ 9)) → μ' x i = μ x i) → Q (some (0, v)) (L0 n) μ')
    (hn : ¬ (bad = 0 ∧ m ≤ p) → ∀ μ', RWm μ' w0 → μ' 493 7 = 0 → (∀ x i : Int, (x ≠ 493 ∨ (i ≠ 7 ∧ i ≠ 9)) → x ≠ 494 → μ' x i = μ x i) → Q (some (0, -100 - p)) (L0 n) μ') : TR mX10_endsText 1 (0, 0) [(2, 493), (0, v)] (L0 n) μ Q := by
  have fr : ∀ a : Int, ∀ x i : Int, (x ≠ 493 ∨ (i ≠ 7 ∧ i ≠ 9)) → up (up μ 493 9 a) 493 7 0 x i = μ x i := fun a x i hx => by rw [up_ne (by omega), up_ne (by omega)]
  have n9 : ∀ a : Int, up (up μ 493 9 a) 493 7 0 493 9 = a := fun a => by rw [up_ne (Or.inr (by decide)), up_eq]
  have bads : ¬ (bad = 0 ∧ m ≤ p) → ((up (up μ 493 9 1) 493 7 0) 493 9 = 0 → Q (some (0, v)) (L0 n) (up (up μ 493 9 1) 493 7 0)) ∧ (¬ (up (up μ 493 9 1) 493 7 0) 493 9 = 0 → TR mX10_copies 0 (0, 0) [(2, 495), (2, 494)] (L0 n) (up (up μ 493 9 1) 493 7 0) (fun r3 L4 μ5 => r3 = none ∧ (L0 n) = L4 ∧ (inI ((-100) - (μ5 493 8))) ∧ Q (some (0, ((-100) - (μ5 493 8)))) (L0 n) μ5)) := by
    intro z
    rw [n9]
    refine ⟨fun y => absurd y (by decide), fun _ => c_X10_copies k495 k494 (by decide) fun μ1 g1 g2 => ⟨rfl, rfl, ?_⟩⟩
    have e8 : μ1 493 8 = p := by rw [g2 493 8 (by decide), fr 1 493 8 (by omega), h.2.1]
    rw [e8]
    exact ⟨⟨by omega, by omega⟩, hn z μ1 (fun i i0 i1 => by rw [g1 i i0 i1, fr 1 495 i (by omega), h5 i i0 i1]) (by rw [g2 493 7 (by decide), up_eq]) (fun x i h1 h2 => by rw [g2 x i h2, fr 1 x i h1])⟩
  apply t_X10_endsText (layOK n) k493
  rw [rf_ref.1, rf_ref.2.1, h.2.2.1, h.1, h.2.1]
  refine ⟨fun z => bads (fun y => z y.1), fun z => ⟨fun y => ?_, fun y => bads (fun x => y x.2)⟩⟩
  rw [n9]
  exact ⟨fun _ => hy ⟨z, y⟩ _ (up_eq _ _ _ _) (fr 0), fun x => absurd rfl x⟩
theorem R_worths {σ : Sg} (hR : RSt μ σ) (ho : OKs σ)
    (hy : 0 < (wrR σ).1 → RW2 σ.w (wrR σ).2 → ∀ μ', RSt μ' ((σ.setW (wrR σ).2).setT 0 σ.tp) → frR' μ μ' → Q (some (0, (wrR σ).1)) (L0 n) μ')
    (hn : ¬ 0 < (wrR σ).1 → ∀ μ', RSt μ' (σ.setT 0 σ.tp) → frR' μ μ' → Q (some (0, (wrR σ).1)) (L0 n) μ') : TR mX10_worths 5 (0, 0) [(2, 493)] (L0 n) μ Q := by
  obtain ⟨t0, t1, t2⟩ := ho.2.2.2.1
  unfold wrR at hy hn
  generalize hRR : rdAll σ.tn σ.tp (σ.w 0).toNat (σ.w 1) 160 0 0 σ.w = R at hy hn
  apply t_X10_worths (layOK n) k493
  rw [rf_ref.1, rf_ref.2.1]
  refine c_X10_copies k494 k495 (by decide) fun μ1 g1 g2 => ⟨rfl, rfl, ?_⟩
  have hf0 : ∀ x i : Int, (x ≠ 493 ∨ (i ≠ 8 ∧ i ≠ 9)) → x ≠ 495 → up (up μ1 493 8 0) 493 9 0 x i = μ x i := fun x i h1 h2 => by rw [up_ne (by omega), up_ne (by omega), g2 x i h2]
  have h50 : ∀ i : Int, 0 ≤ i → i < 510 → up (up μ1 493 8 0) 493 9 0 495 i = σ.w i := fun i i0 i1 => by rw [up_ne (Or.inl (by decide)), up_ne (Or.inl (by decide)), g1 i i0 i1, hR.1 i i0 i1]
  have ht0 : TPr (up (up μ1 493 8 0) 493 9 0) σ.tn σ.tp 0 0 := ⟨by rw [hf0 493 7 (by omega) (by decide)]; exact hR.2.2.1.1, by rw [up_ne (Or.inr (by decide)), up_eq], up_eq _ _ _ _, fun i i0 i1 => by rw [hf0 497 i (by omega) (by decide)]; exact hR.2.2.1.2 i i0 i1⟩
  have hr0 : RWm (up (up μ1 493 8 0) 493 9 0) σ.w := RWm_fr hR.1 (fun i => hf0 494 i (by omega) (by decide))
  generalize up (up μ1 493 8 0) 493 9 0 = μ0 at *
  -- what is left as it was
  have kept : ∀ μ', frN μ0 μ' → (∀ i : Int, 0 ≤ i → i < 510 → μ' 495 i = σ.w i) := fun μ' f i i0 i1 => by rw [f 495 i (Or.inl (by decide)) (by decide), h50 i i0 i1]
  have fin0 : ∀ (μ2 μ3 : Mem) (w' : Dv), frN μ0 μ2 → RWm μ3 w' → μ3 493 7 = 0 → (∀ x i : Int, (x ≠ 493 ∨ (i ≠ 7 ∧ i ≠ 9)) → x ≠ 494 → μ3 x i = μ2 x i) → RSt μ3 ((σ.setW w').setT 0 σ.tp) ∧ frR' μ μ3 := fun μ2 μ3 w' f r e7 g =>
    ⟨RSt_mk hR r e7 (fun x i hx => by rw [g x i (by omega) (by omega), f x i (by omega) (by omega), hf0 x i (by omega) (by omega)]), fun x i hx => by rw [g x i (by omega) (by omega), f x i (by omega) (by omega), hf0 x i (by omega) (by omega)]⟩
  have stop : ∀ (v p bad : Int) (w1 : Dv) (μ2 : Mem), (bad = 0 ∨ bad = 1) → ¬ (bad = 0 ∧ σ.tn ≤ p) → (-100 - p, w1) = R → 0 ≤ p → p ≤ σ.tn → TPr μ2 σ.tn σ.tp p bad → frN μ0 μ2 → TR mX10_endsText 1 (0, 0) [(2, 493), (0, v)] (L0 n) μ2 (fun r5 L6 μ7 => ∃ w8, r5 = some (0, w8) ∧ (L0 n) = L6 ∧ Q (some (0, w8)) (L0 n) μ7) := by
    intro v p bad w1 μ2 hb hbp e p0 p1 ht f
    rw [← e] at hn
    refine q_ends (w := w1) ht ⟨p0, p1⟩ t1 hb (kept μ2 f) (fun z => absurd z hbp) (fun _ μ3 r3 e7 g3 => ⟨_, rfl, rfl, ?_⟩)
    obtain ⟨a1, a2⟩ := fin0 μ2 μ3 σ.w f r3 e7 g3
    exact hn (by show ¬ 0 < -100 - p; omega) μ3 a1 a2
  have key : ∀ (d c : Nat) (p : Int) (w1 : Dv) (μ2 : Mem), c + d = 160 → rdAll σ.tn σ.tp (σ.w 0).toNat (σ.w 1) d c p w1 = R → 2 * (c : Int) ≤ p → p ≤ σ.tn → TPr μ2 σ.tn σ.tp p 0 → RWm μ2 w1 → RW2 σ.w w1 → frN μ0 μ2 → TR mX10_readWorths 4 (0, 0) [(2, 493)] (L0 n) μ2 (fun r6 L7 μ8 => r6 = none ∧ (L0 n) = L7 ∧ WA mX10_worths 5 (0, 0) 27 [(2, 493), (0, (c : Int) + 1)] [] (L0 n) μ8 Q) := by
    intro d
    induction d with
    | zero =>
      intro c p w1 μ2 hcd e p0 p1
      omega
    | succ d ih =>
      intro c p w1 μ2 hcd e p0 p1 ht hr hrw f
      unfold rdAll at e
      refine q_rdW ht t1 ⟨by omega, p1⟩ hr hrw fun μ3 r er r01 rp rok rno f3 => ⟨rfl, rfl, ?_⟩
      rw [← er] at e
      have F := frN_tr f f3
      apply s_X10_worths_27 (layOK n) k493
      rcases r01 with r0 | r1
      · rw [if_neg (by omega)] at e
        refine q_goesOn (rno r0) t1 ⟨by omega, rp.2⟩ (fun z => absurd z.1 (by decide)) (fun _ μ4 t4 f4 => ⟨_, rfl, rfl, fun _ => ?_, fun z => absurd rfl z⟩)
        exact stop _ r.2.1 1 r.2.2 μ4 (Or.inr rfl) (fun z => absurd z.1 (by decide)) e (by omega) rp.2 t4 (frN_tr F (frB_N f4))
      · obtain ⟨lt, t3, r3, rw3⟩ := rok r1
        rw [if_pos r1] at e
        refine q_goesOn t3 t1 ⟨by omega, rp.2⟩ (fun z μ4 t4 f4 => ⟨_, rfl, rfl, fun y => absurd y (by decide), fun _ => ?_⟩) (fun z μ4 t4 f4 => ⟨_, rfl, rfl, fun _ => ?_, fun y => absurd rfl y⟩)
        · have q3 := tb_in z.2 (by decide)
          rw [if_neg (by omega), if_pos z.2] at e
          have nx := ih (c + 1) (r.2.1 + 1) r.2.2 μ4 (by omega) e (by omega) (by omega) t4 (RWm_fr r3 (fun i => f4 494 i (Or.inl (by decide)))) rw3 (frN_tr F (frB_N f4))
          refine TR.mono nx fun r' L' μ' hq => ?_
          exact ⟨hq.1, hq.2.1, ⟨by omega, by omega⟩, hq.2.2⟩
        · by_cases y : σ.tn ≤ r.2.1
          · rw [if_pos y] at e
            rw [← e] at hy
            refine q_ends (w := r.2.2) t4 ⟨by omega, rp.2⟩ t1 (Or.inl rfl) (kept μ4 (frN_tr F (frB_N f4))) (fun _ μ5 e7 g5 => ⟨_, rfl, rfl, ?_⟩) (fun x => absurd ⟨rfl, y⟩ x)
            obtain ⟨a1, a2⟩ := fin0 μ4 μ5 r.2.2 (frN_tr F (frB_N f4)) (RWm_fr r3 (fun i => (g5 494 i (Or.inl (by decide))).trans (f4 494 i (Or.inl (by decide))))) e7 (fun x i h1 _ => g5 x i h1)
            exact hy (by show (0 : Int) < c + 1; omega) rw3 μ5 a1 a2
          · rw [if_neg y, if_neg (fun x => z ⟨rfl, x⟩)] at e
            exact stop _ r.2.1 0 r.2.2 μ4 (Or.inl rfl) (fun x => y x.2) e (by omega) rp.2 t4 (frN_tr F (frB_N f4))
  exact key 160 0 0 σ.w μ0 (by omega) hRR (by omega) t0 ht0 hr0 (RW2_rf ho.1) (fun _ _ _ _ => rfl)
end
