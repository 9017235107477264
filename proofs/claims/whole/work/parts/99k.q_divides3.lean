/-! divides (the reference): the unit, the whole text -/
theorem setU_dvW {w : Dv} {u u' : Int} (i : Int) : setU (dvW w u) u' i = dvW w u' i := by
  show (if i = 3 then u' else if i = 2 then 1 else if i = 3 then u else w i) = if i = 2 then 1 else if i = 3 then u' else w i
  by_cases z : i = 3
  · rw [if_pos z, if_neg (by omega), if_pos z]
  · rw [if_neg z, if_neg z, if_neg z]
section
variable {n : Int} {μ : Mem} {Q : Option AV → Lay → Mem → Prop}
theorem q_unite {w : Dv} {y u : Int} {P : Int → Prop} (hr : RWm μ (dvW w u)) (hu : UNp P (μ 493 11) u) (hy : 1 ≤ y ∧ y ≤ 999)
    (h : ∀ μ' u', RWm μ' (dvW w u') → UNp (fun z => P z ∨ z = y) (μ' 493 11) u' → (∀ x i, (x ≠ 493 ∨ i ≠ 11) → x ≠ 494 → μ' x i = μ x i) → Q none (L0 n) μ') : TR mX10_unites 1 (0, 0) [(2, 493), (1, y)] (L0 n) μ Q := by
  have e3 : dvW w u 3 = u := dvW_at.2.1
  by_cases z : μ 493 11 = 0
  · have hf : WFu (dvW w u) := by unfold WFu; rw [e3]; exact hu.1
    refine c_X10_unites hr hf (by omega) z (fun w' e μ' r1 f1 f2 => ?_) (fun e μ' r1 f1 f2 => ?_)
    · unfold unS at e
      rw [e3] at e
      split at e
      · cases e
      · rename_i q
        cases e
        refine h μ' _ (fun i i0 i1 => (r1 i i0 i1).trans (setU_dvW i)) ?_ (fun x i h1 h2 => f2 x i h1 (Or.inl h2))
        rw [f1, ← z]
        exact UNp_in hu (by omega) (by omega)
    · unfold unS at e
      rw [e3] at e
      split at e
      · rename_i q
        refine h μ' u r1 ?_ (fun x i h1 h2 => f2 x i h1 (Or.inl h2))
        rw [f1]
        exact UNp_out hu (by omega) (by omega)
      · cases e
  · have fl := UNp_fl hu
    have z1 : μ 493 11 = 1 := by omega
    rw [z1] at hu
    apply t_X10_unites (layOK n) k493
    refine ⟨fun _ => ?_, fun q => absurd q z⟩
    apply s_X10_unites_40 (layOK n) k493
    rw [rf_ref.1]
    refine ⟨fun q => absurd q (by decide), fun _ => ⟨fun q => absurd (q.symm.trans (up_eq μ 493 11 1)) (by decide), fun _ => ?_⟩⟩
    refine h _ u (fun i i0 i1 => ?_) ?_ (fun x i h1 h2 => by rw [up_ne (Or.inl h2), up_ne h1])
    · by_cases y : i = 3
      · rw [y, up_eq, up_ne (Or.inl (by decide))]; exact hr 3 (by decide) (by decide)
      · rw [up_ne (Or.inr y), up_ne (Or.inl (by decide))]; exact hr i i0 i1
    · rw [up_ne (Or.inl (by decide)), up_eq]
      exact UNp_keep hu (fun y hy => Or.inl hy)
/-- the lower numbers of the agents before one, and of its first points -/
def lowA (w : Dv) (a j : Int) (y : Int) : Prop := (∃ b k : Int, (0 ≤ b ∧ b < a) ∧ (0 ≤ k ∧ k < w (165 + b)) ∧ (y = w (171 + 8 * b + 4 * k) ∨ y = w (173 + 8 * b + 4 * k))) ∨ ∃ i : Int, (0 ≤ i ∧ i < j) ∧ y = w (171 + 8 * a + 2 * i)
theorem lowA_0 {w : Dv} (y : Int) : ¬ lowA w 0 0 y := by
  intro h
  rcases h with ⟨b, k, hb, -⟩ | ⟨i, hi, -⟩
  · omega
  · omega
theorem lowA_step {w : Dv} {a j : Int} (hj : 0 ≤ j) (y : Int) : (lowA w a j y ∨ y = w (171 + 8 * a + 2 * j)) ↔ lowA w a (j + 1) y := by
  constructor
  · intro h
    rcases h with (h | ⟨i, hi, e⟩) | e
    · exact Or.inl h
    · exact Or.inr ⟨i, by omega, e⟩
    · exact Or.inr ⟨j, by omega, e⟩
  · intro h
    rcases h with h | ⟨i, hi, e⟩
    · exact Or.inl (Or.inl h)
    · by_cases z : i = j
      · rw [z] at e; exact Or.inr e
      · exact Or.inl (Or.inr ⟨i, by omega, e⟩)
theorem lowA_next {w : Dv} {a j : Int} (ha : 0 ≤ a) (hj : j = 2 * w (165 + a)) (y : Int) : lowA w a j y ↔ lowA w (a + 1) 0 y := by
  constructor
  · intro h
    rcases h with ⟨b, k, hb, hk, e⟩ | ⟨i, hi, e⟩
    · exact Or.inl ⟨b, k, by omega, hk, e⟩
    · refine Or.inl ⟨a, i / 2, by omega, by omega, ?_⟩
      by_cases z : i % 2 = 0
      · left
        rw [e, show 171 + 8 * a + 2 * i = 171 + 8 * a + 4 * (i / 2) by omega]
      · right
        rw [e, show 171 + 8 * a + 2 * i = 173 + 8 * a + 4 * (i / 2) by omega]
  · intro h
    rcases h with ⟨b, k, hb, hk, e⟩ | ⟨i, hi, -⟩
    · by_cases z : b = a
      · rw [z] at hk e
        rcases e with e | e
        · exact Or.inr ⟨2 * k, by omega, by rw [e, show 171 + 8 * a + 2 * (2 * k) = 171 + 8 * a + 4 * k by omega]⟩
        · exact Or.inr ⟨2 * k + 1, by omega, by rw [e, show 171 + 8 * a + 2 * (2 * k + 1) = 173 + 8 * a + 4 * k by omega]⟩
      · exact Or.inl ⟨b, k, by omega, hk, e⟩
    · omega
theorem lowA_all {w0 w : Dv} (h : RV w0 w) (hN : 2 ≤ w0 1 ∧ w0 1 ≤ 5) (y : Int) : lowA w (w0 1) 0 y ↔ lowM w y := by
  constructor
  · intro h2
    rcases h2 with ⟨b, k, hb, hk, e⟩ | ⟨i, hi, -⟩
    · exact ⟨b, k, by omega, hk, e⟩
    · omega
  · intro h2
    obtain ⟨b, k, hb, hk, e⟩ := h2
    by_cases z : b < w0 1
    · exact Or.inl ⟨b, k, by omega, hk, e⟩
    · rw [h.2.2.1 b (by omega) hb.2] at hk
      omega
theorem R_divides {σ : Sg} (hR : RSt μ σ) (ho : OKs σ)
    (hy : 0 < (dvR σ).1 → RV σ.w (dvR σ).2 → ∀ u, UNp (lowM (dvR σ).2) 0 u → ∀ μ', RSt μ' ((σ.setW (dvW (dvR σ).2 u)).setT 0 σ.tp) → frR' μ μ' → Q (some (0, (dvR σ).1)) (L0 n) μ')
    (hf : 0 < (dvR σ).1 → ∀ u, UNp (lowM (dvR σ).2) 1 u → ∀ μ', RSt μ' (σ.setT 0 σ.tp) → frR' μ μ' → Q (some (0, -3)) (L0 n) μ')
    (hn : ¬ 0 < (dvR σ).1 → ∀ μ', RSt μ' (σ.setT 0 σ.tp) → frR' μ μ' → Q (some (0, (dvR σ).1)) (L0 n) μ') : TR mX10_divides 6 (0, 0) [(2, 493)] (L0 n) μ Q := by
  obtain ⟨t0, t1, t2⟩ := ho.2.2.2.1
  have hw := ho.1
  have hs0 := hw.1
  have N2 := hs0.2.1
  unfold dvR at hy hn hf
  generalize hRR : dvAll σ.tn σ.tp (σ.w 0) (σ.w 1) 160 0 0 (hsW (clrW σ.w) 0) = R at hy hn hf
  apply t_X10_divides (layOK n) k493
  rw [rf_ref.1, rf_ref.2.1]
  refine c_X10_copies k494 k495 (by decide) fun μ1 g1 g2 => ⟨rfl, rfl, ?_⟩
  have r1 : RWm μ1 σ.w := RWm_fr hR.1 (fun i => g2 494 i (by decide))
  refine c_X10_undivided r1 fun μ2 r2 g3 => ⟨rfl, rfl, ?_⟩
  have hf0 : ∀ x i : Int, (x ≠ 493 ∨ (i ≠ 8 ∧ i ≠ 9 ∧ i ≠ 10)) → x ≠ 494 → x ≠ 495 → up (up (up μ2 493 8 0) 493 9 0) 493 10 0 x i = μ x i := fun x i h1 h2 h3 => by rw [up_ne (by omega), up_ne (by omega), up_ne (by omega), g3 x i h2, g2 x i h3]
  have h50 : ∀ i : Int, 0 ≤ i → i < 510 → up (up (up μ2 493 8 0) 493 9 0) 493 10 0 495 i = σ.w i := fun i i0 i1 => by rw [up_ne (Or.inl (by decide)), up_ne (Or.inl (by decide)), up_ne (Or.inl (by decide)), g3 495 i (by decide), g1 i i0 i1, hR.1 i i0 i1]
  have ht0 : TPr (up (up (up μ2 493 8 0) 493 9 0) 493 10 0) σ.tn σ.tp 0 0 := ⟨by rw [hf0 493 7 (by omega) (by decide) (by decide)]; exact hR.2.2.1.1, by rw [up_ne (Or.inr (by decide)), up_ne (Or.inr (by decide)), up_eq], by rw [up_ne (Or.inr (by decide)), up_eq], fun i i0 i1 => by rw [hf0 497 i (by omega) (by decide) (by decide)]; exact hR.2.2.1.2 i i0 i1⟩
  have hr0 : RWm (up (up (up μ2 493 8 0) 493 9 0) 493 10 0) (hsW (clrW σ.w) 0) := RWm_fr r2 (fun i => by rw [up_ne (Or.inl (by decide)), up_ne (Or.inl (by decide)), up_ne (Or.inl (by decide))])
  have hk0 : mkI (up (up (up μ2 493 8 0) 493 9 0) 493 10 0 493 10) (hsW (clrW σ.w) 0) := by
    rw [up_eq]
    obtain ⟨-, -, ca, -⟩ := clrW_at (w := σ.w)
    refine ⟨⟨by decide, by decide⟩, fun a a0 a1 => ?_⟩
    rw [hsW_ne (by omega), ca a a0 a1]
    have hcase : a = 0 ∨ a = 1 ∨ a = 2 ∨ a = 3 ∨ a = 4 := by omega
    rcases hcase with rfl | rfl | rfl | rfl | rfl <;> decide
  generalize up (up (up μ2 493 8 0) 493 9 0) 493 10 0 = μ0 at *
  -- what is left as it was
  have kept : ∀ μ', frHD μ0 μ' → (∀ i : Int, 0 ≤ i → i < 510 → μ' 495 i = σ.w i) := fun μ' f i i0 i1 => by rw [f 495 i (Or.inl (by decide)) (by decide), h50 i i0 i1]
  have fin0 : ∀ (μ3 : Mem) (w' : Dv), RWm μ3 w' → μ3 493 7 = 0 → (∀ x i : Int, (x ≠ 493 ∨ (i ≠ 4 ∧ i ≠ 5 ∧ i ≠ 7 ∧ i ≠ 8 ∧ i ≠ 9 ∧ i ≠ 10 ∧ i ≠ 11)) → x ≠ 494 → μ3 x i = μ0 x i) → RSt μ3 ((σ.setW w').setT 0 σ.tp) ∧ frR' μ μ3 := fun μ3 w' r e7 g =>
    ⟨RSt_mk hR r e7 (fun x i hx => by rw [g x i (by omega) (by omega), hf0 x i (by omega) (by omega) (by omega)]), fun x i hx => by rw [g x i (by omega) (by omega), hf0 x i (by omega) (by omega) (by omega)]⟩
  have stop : ∀ (v p bad : Int) (w1 : Dv) (μ2 : Mem), (bad = 0 ∨ bad = 1) → ¬ (bad = 0 ∧ σ.tn ≤ p) → (-100 - p, w1) = R → 0 ≤ p → p ≤ σ.tn → TPr μ2 σ.tn σ.tp p bad → frHD μ0 μ2 → TR mX10_endsText 1 (0, 0) [(2, 493), (0, v)] (L0 n) μ2 (fun r5 L6 μ7 => ∃ w8, r5 = some (0, w8) ∧ (L0 n) = L6 ∧ (0 ≤ w8 → WA mX10_divides 6 (0, 0) 81 [(2, 493), (0, v), (9, 0), (0, 0), (9, 0)] [] (L0 n) (up (up μ7 494 2 1) 493 11 0) Q) ∧ (¬ 0 ≤ w8 → Q (some (0, w8)) (L0 n) μ7)) := by
    intro v p bad w1 μ2 hb hbp e p0 p1 ht f
    rw [← e] at hn
    refine q_ends (w := w1) ht ⟨p0, p1⟩ t1 hb (kept μ2 f) (fun z => absurd z hbp) (fun _ μ3 r3 e7 g3 => ⟨_, rfl, rfl, fun z => absurd z (by omega), fun _ => ?_⟩)
    obtain ⟨a1, a2⟩ := fin0 μ3 σ.w r3 e7 (fun x i h1 h2 => by rw [g3 x i (by omega) h2, f x i (by omega) h2])
    exact hn (by show ¬ 0 < -100 - p; omega) μ3 a1 a2
  -- the unit
  have units : ∀ (c : Int) (w1 : Dv), (c, w1) = R → 0 < c → RV σ.w w1 → ∀ (d a : Nat) (u : Int) (μ2 : Mem), a + d = (σ.w 1).toNat → RWm μ2 (dvW w1 u) → UNp (lowA w1 a 0) (μ2 493 11) u → μ2 493 7 = 0 → (∀ x i : Int, (x ≠ 493 ∨ (i ≠ 4 ∧ i ≠ 5 ∧ i ≠ 7 ∧ i ≠ 8 ∧ i ≠ 9 ∧ i ≠ 10 ∧ i ≠ 11)) → x ≠ 494 → μ2 x i = μ0 x i) → WA mX10_divides 6 (0, 0) 81 [(2, 493), (0, c), (9, 0), (0, (a : Int)), (9, 0)] [] (L0 n) μ2 Q := by
    intro c w1 e c0 hrv d
    rw [← e] at hy hf
    have hs1 : ∀ u : Int, SW (dvW w1 u) := fun u => SW_of hs0 (dvW_low hrv)
    have e1 : ∀ u : Int, dvW w1 u 1 = σ.w 1 := fun u => dvW_low hrv 1 (by decide) (by decide) (by decide) (by decide)
    induction d with
    | zero =>
      intro a u μ2 hd r2 hu e7 g
      have ea : (a : Int) = σ.w 1 := by omega
      rw [ea] at hu ⊢
      have hu := UNp_congr hu (lowA_all hrv N2)
      apply s_X10_divides_81 (layOK n) k493
      rw [rf_ref.1, rf_ref.2.1]
      refine c_X10_agents r2 (hs1 u) ⟨_, rfl, rfl, fun _ => ⟨fun z => ⟨fun _ => ?_, fun y => absurd z y⟩, fun z => ?_⟩, fun z => absurd (show dvW w1 u 1 ≤ σ.w 1 by rw [e1]; omega) z⟩
      · rw [z] at hu
        obtain ⟨a1, a2⟩ := fin0 μ2 (dvW w1 u) r2 e7 g
        exact hy c0 hrv u hu μ2 a1 a2
      · have z1 : μ2 493 11 = 1 := by have := UNp_fl hu; omega
        rw [z1] at hu
        refine c_X10_copies k495 k494 (by decide) fun μ3 g3 g4 => ⟨rfl, rfl, ?_⟩
        rw [g4 493 11 (by decide), z1]
        refine ⟨fun y => absurd y (by decide), fun _ => ?_⟩
        obtain ⟨a1, a2⟩ := fin0 μ3 σ.w (fun i i0 i1 => by rw [g3 i i0 i1, g 495 i (by omega) (by decide), h50 i i0 i1]) (by rw [g4 493 7 (by decide)]; exact e7) (fun x i h1 h2 => by rw [g4 x i h2, g x i h1 h2])
        exact hf c0 u hu μ3 a1 a2
    | succ d ih =>
      intro a u μ2 hd r2 hu e7 g
      have a5 : (a : Int) < 5 := by omega
      obtain ⟨hm, hpts⟩ := hrv.2.2.2.1 a (by omega) a5
      apply s_X10_divides_81 (layOK n) k493
      refine c_X10_agents r2 (hs1 u) ⟨_, rfl, rfl, fun z => absurd (show σ.w 1 ≤ a by rw [e1] at z; exact z) (by omega), fun _ => ?_⟩
      have inner : ∀ (f j : Nat) (u : Int) (μ2 : Mem), (j : Int) + f = 2 * w1 (165 + (a : Int)) → RWm μ2 (dvW w1 u) → UNp (lowA w1 a j) (μ2 493 11) u → μ2 493 7 = 0 → (∀ x i : Int, (x ≠ 493 ∨ (i ≠ 4 ∧ i ≠ 5 ∧ i ≠ 7 ∧ i ≠ 8 ∧ i ≠ 9 ∧ i ≠ 10 ∧ i ≠ 11)) → x ≠ 494 → μ2 x i = μ0 x i) → WA mX10_divides 6 (0, 0) 92 [(2, 493), (0, c), (9, 0), (0, (a : Int)), (0, (j : Int))] [] (L0 n) μ2 Q := by
        intro f
        induction f with
        | zero =>
          intro j u μ2 hj r2 hu e7 g
          apply s_X10_divides_92 (layOK n) k493
          rw [rf_ref.1, r2 (165 + a) (by omega) (by omega), dvW_at.2.2 (165 + (a : Int)) (by omega) (by omega)]
          refine ⟨⟨by omega, by omega⟩, ⟨by omega, by omega⟩, ⟨by omega, by omega⟩, fun _ => ⟨⟨by omega, by omega⟩, ?_⟩, fun z => absurd (show 2 * w1 (165 + (a : Int)) ≤ j by omega) z⟩
          exact ih (a + 1) u μ2 (by omega) r2 (UNp_congr hu (fun y => lowA_next (by omega) (by omega) y)) e7 g
        | succ f ihf =>
          intro j u μ2 hj r2 hu e7 g
          have eix : 170 + 8 * (a : Int) + 2 * (j : Int) + 1 = 171 + 8 * (a : Int) + 2 * (j : Int) := by omega
          have lo : 1 ≤ w1 (171 + 8 * (a : Int) + 2 * (j : Int)) ∧ w1 (171 + 8 * (a : Int) + 2 * (j : Int)) ≤ 999 := by
            refine RV_low hrv ⟨a, (j : Int) / 2, by omega, by omega, ?_⟩
            by_cases z : (j : Int) % 2 = 0
            · left; rw [show 171 + 8 * (a : Int) + 2 * (j : Int) = 171 + 8 * (a : Int) + 4 * ((j : Int) / 2) by omega]
            · right; rw [show 171 + 8 * (a : Int) + 2 * (j : Int) = 173 + 8 * (a : Int) + 4 * ((j : Int) / 2) by omega]
          apply s_X10_divides_92 (layOK n) k493
          rw [rf_ref.1, eix, r2 (165 + a) (by omega) (by omega), dvW_at.2.2 (165 + (a : Int)) (by omega) (by omega), r2 (171 + 8 * (a : Int) + 2 * (j : Int)) (by omega) (by omega), dvW_at.2.2 (171 + 8 * (a : Int) + 2 * (j : Int)) (by omega) (by omega)]
          refine ⟨⟨by omega, by omega⟩, ⟨by omega, by omega⟩, ⟨by omega, by omega⟩, fun z => absurd z (by omega), fun _ => ⟨⟨by omega, by omega⟩, ⟨by omega, by omega⟩, ⟨by omega, by omega⟩, ⟨by omega, by omega⟩, ⟨by omega, by omega⟩, ⟨by omega, by omega⟩, ?_⟩⟩
          refine q_unite r2 hu lo fun μ3 u3 r3 hu3 g3 => ⟨rfl, rfl, ⟨by omega, by omega⟩, ?_⟩
          exact ihf (j + 1) u3 μ3 (by omega) r3 (UNp_congr hu3 (fun y => lowA_step (by omega) y)) (by rw [g3 493 7 (by omega) (by decide)]; exact e7) (fun x i h1 h2 => by rw [g3 x i (by omega) h2]; exact g x i h1 h2)
      exact inner (2 * w1 (165 + (a : Int))).toNat 0 u μ2 (by omega) r2 hu e7 g
  have key : ∀ (d c : Nat) (p : Int) (w1 : Dv) (μ2 : Mem), c + d = 160 → dvAll σ.tn σ.tp (σ.w 0) (σ.w 1) d c p w1 = R → 2 * (c : Int) ≤ p → p ≤ σ.tn → TPr μ2 σ.tn σ.tp p 0 → RWm μ2 w1 → RV σ.w w1 → mkI (μ2 493 10) w1 → frHD μ0 μ2 → TR mX10_readShare 5 (0, 0) [(2, 493)] (L0 n) μ2 (fun r6 L7 μ8 => r6 = none ∧ (L0 n) = L7 ∧ WA mX10_divides 6 (0, 0) 36 [(2, 493), (0, (c : Int) + 1), (9, 0), (9, 0), (9, 0)] [] (L0 n) μ8 Q) := by
    intro d
    induction d with
    | zero =>
      intro c p w1 μ2 hcd e p0 p1
      omega
    | succ d ih =>
      intro c p w1 μ2 hcd e p0 p1 ht hr hrv hk f
      unfold dvAll at e
      obtain ⟨r01, rp, rok⟩ := shS_ok (m := σ.tn) (t := σ.tp) (p := p) hrv N2.2 p1
      refine q_shS ht t1 ⟨by omega, p1⟩ hs0 hrv hr hk (fun z μ3 t3 R3 k3 f3 => ⟨rfl, rfl, ?_⟩) (fun z μ3 t3 f3 => ⟨rfl, rfl, ?_⟩)
      · obtain ⟨lt, rv, -⟩ := rok z
        rw [if_pos z] at e
        generalize shS σ.tn σ.tp (σ.w 0) (σ.w 1) p w1 = r at *
        have F := frHD_tr f f3
        apply s_X10_divides_36 (layOK n) k493
        rw [rf_ref.1]
        refine q_goesOn t3 t1 ⟨by omega, rp.2⟩ (fun z2 μ4 t4 f4 => ⟨_, rfl, rfl, fun y => absurd y (by decide), fun _ => ?_⟩) (fun z2 μ4 t4 f4 => ⟨_, rfl, rfl, fun _ => ?_, fun y => absurd rfl y⟩)
        · have q3 := tb_in z2.2 (by decide)
          rw [if_neg (by omega), if_pos z2.2] at e
          have nx := ih (c + 1) (r.2.1 + 1) r.2.2 μ4 (by omega) e (by omega) (by omega) t4 (RWm_fr R3 (fun i => f4 494 i (Or.inl (by decide)))) rv (by rw [f4 493 10 (by omega)]; exact k3) (frHD_tr F (frB_H f4))
          refine TR.mono nx fun r' L' μ' hq => ?_
          exact ⟨hq.1, hq.2.1, ⟨by omega, by omega⟩, hq.2.2⟩
        · by_cases y : σ.tn ≤ r.2.1
          · rw [if_pos y] at e
            refine q_ends (w := r.2.2) t4 ⟨by omega, rp.2⟩ t1 (Or.inl rfl) (kept μ4 (frHD_tr F (frB_H f4))) (fun _ μ5 e7 g5 => ⟨_, rfl, rfl, fun _ => ?_, fun z => absurd (show (0 : Int) ≤ c + 1 by omega) z⟩) (fun x => absurd ⟨rfl, y⟩ x)
            have R5 : RWm μ5 r.2.2 := RWm_fr R3 (fun i => (g5 494 i (Or.inl (by decide))).trans (f4 494 i (Or.inl (by decide))))
            refine units (c + 1) r.2.2 e (by omega) rv (σ.w 1).toNat 0 1 _ (by omega) (fun i i0 i1 => ?_) ?_ ?_ (fun x i h1 h2 => ?_)
            · obtain ⟨d2, d3, di⟩ := dvW_at (w := r.2.2) (u := 1)
              rw [up_ne (Or.inl (by decide))]
              by_cases y2 : i = 2
              · rw [y2, up_eq, d2]
              · rw [up_ne (Or.inr y2), R5 i i0 i1]
                by_cases y3 : i = 3
                · rw [y3, d3, rv.2.1.2.1]
                · rw [di i y2 y3]
            · rw [up_eq]; exact UNp_nil lowA_0
            · rw [up_ne (Or.inr (by decide)), up_ne (Or.inl (by decide))]; exact e7
            · rw [up_ne (by omega), up_ne (Or.inl h2), g5 x i (by omega), f4 x i (by omega), F x i (by omega) h2]
          · rw [if_neg y, if_neg (fun x => z2 ⟨rfl, x⟩)] at e
            exact stop _ r.2.1 0 r.2.2 μ4 (Or.inl rfl) (fun x => y x.2) e (by omega) rp.2 t4 (frHD_tr F (frB_H f4))
      · rw [if_neg (by omega)] at e
        apply s_X10_divides_36 (layOK n) k493
        rw [rf_ref.1]
        refine q_goesOn t3 t1 ⟨by omega, rp.2⟩ (fun z2 => absurd z2.1 (by decide)) (fun _ μ4 t4 f4 => ⟨_, rfl, rfl, fun _ => ?_, fun y => absurd rfl y⟩)
        exact stop _ _ 1 _ μ4 (Or.inr rfl) (fun z2 => absurd z2.1 (by decide)) e (by omega) rp.2 t4 (frHD_tr (frHD_tr f f3) (frB_H f4))
  exact key 160 0 0 _ μ0 (by omega) hRR (by omega) t0 ht0 hr0 (RV_0 N2.1) hk0 (fun _ _ _ _ => rfl)
end
