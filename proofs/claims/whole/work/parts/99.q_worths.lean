/-! worths (the reference) -/
/-- the tape is read: its bytes, where the reader is, whether it found a fault -/
def TPr (μ : Mem) (m : Int) (t : Int → Int) (p bad : Int) : Prop := μ 493 7 = m ∧ μ 493 8 = p ∧ μ 493 9 = bad ∧ ∀ i : Int, 0 ≤ i → i < m → μ 497 i = t i
def frB (μ μ' : Mem) : Prop := ∀ x i : Int, (x ≠ 493 ∨ (i ≠ 8 ∧ i ≠ 9)) → μ' x i = μ x i
theorem frB_rf {μ : Mem} : frB μ μ := fun _ _ _ => rfl
theorem frB_tr {μ μ' μ'' : Mem} (h : frB μ μ') (h' : frB μ' μ'') : frB μ μ'' := fun x i hx => (h' x i hx).trans (h x i hx)
theorem frB_up {μ : Mem} {i v : Int} (hi : i = 8 ∨ i = 9) : frB μ (up μ 493 i v) := fun x j hx => up_ne (by omega)
theorem TPr_8 {μ : Mem} {m p bad q : Int} {t : Int → Int} (h : TPr μ m t p bad) : TPr (up μ 493 8 q) m t q bad := ⟨by rw [up_ne (Or.inr (by decide))]; exact h.1, up_eq _ _ _ _, by rw [up_ne (Or.inr (by decide))]; exact h.2.2.1, fun i i0 i1 => by rw [up_ne (Or.inl (by decide))]; exact h.2.2.2 i i0 i1⟩
theorem TPr_9 {μ : Mem} {m p bad q : Int} {t : Int → Int} (h : TPr μ m t p bad) : TPr (up μ 493 9 q) m t p q := ⟨by rw [up_ne (Or.inr (by decide))]; exact h.1, by rw [up_ne (Or.inr (by decide))]; exact h.2.1, up_eq _ _ _ _, fun i i0 i1 => by rw [up_ne (Or.inl (by decide))]; exact h.2.2.2 i i0 i1⟩
theorem TPr_fr {μ μ' : Mem} {m p bad : Int} {t : Int → Int} (h : TPr μ m t p bad) (hf : ∀ x i : Int, x ≠ 494 → μ' x i = μ x i) : TPr μ' m t p bad := ⟨by rw [hf 493 7 (by decide)]; exact h.1, by rw [hf 493 8 (by decide)]; exact h.2.1, by rw [hf 493 9 (by decide)]; exact h.2.2.1, fun i i0 i1 => by rw [hf 497 i (by decide)]; exact h.2.2.2 i i0 i1⟩
section
variable {n : Int} {μ : Mem} {Q : Option AV → Lay → Mem → Prop}
theorem q_here {m p bad : Int} {t : Int → Int} (h : TPr μ m t p bad) (hm : m ≤ 160) (hp : 0 ≤ p) (hy : Q (some (0, tb m t p)) (L0 n) μ) : TR mX10_here 0 (0, 0) [(2, 493)] (L0 n) μ Q := by
  unfold tb at hy
  apply t_X10_here (layOK n) k493
  rw [rf_ref.2.2.2.1, h.1, h.2.1]
  refine ⟨fun q => ?_, fun q => ?_⟩
  · rw [if_neg (by omega)] at hy; exact hy
  · rw [if_pos (by omega)] at hy
    rw [h.2.2.2 p hp (by omega)]
    exact ⟨⟨hp, by omega⟩, hy⟩
theorem q_isFig {m p bad : Int} {t : Int → Int} (h : TPr μ m t p bad) (hm : m ≤ 160) (hp : 0 ≤ p) (hy : ∀ r : Int, (r = 1 ∧ bad = 0 ∧ 48 ≤ tb m t p ∧ tb m t p ≤ 57 ∨ r = 0 ∧ ¬ (bad = 0 ∧ 48 ≤ tb m t p ∧ tb m t p ≤ 57)) → Q (some (0, r)) (L0 n) μ) : TR mX10_isFigure 1 (0, 0) [(2, 493)] (L0 n) μ Q := by
  apply t_X10_isFigure (layOK n) k493
  rw [h.2.2.1]
  exact ⟨fun q => hy 0 (Or.inr ⟨rfl, fun z => q z.1⟩), fun q => q_here h hm hp ⟨_, rfl, rfl, c_X10_in fun r hr => ⟨r, rfl, rfl, fun z => hy 0 (Or.inr ⟨rfl, fun y => by omega⟩), fun z => hy 1 (Or.inl ⟨rfl, q, by omega, by omega⟩)⟩⟩⟩
/-- a number of one figure -/
theorem q_num1 {m p : Int} {t : Int → Int} (h : TPr μ m t p 0) (hm : m ≤ 160) (hp : 0 ≤ p ∧ p ≤ m)
    (hy : ¬ fgS m t p < 0 → ∀ μ', TPr μ' m t (p + 1) 0 → frB μ μ' → Q (some (0, fgS m t p)) (L0 n) μ') (hn : fgS m t p < 0 → ∀ μ', TPr μ' m t p 1 → frB μ μ' → Q (some (0, 0)) (L0 n) μ') : TR mX10_number 2 (0, 0) [(2, 493), (0, 1)] (L0 n) μ Q := by
  apply t_X10_number (layOK n) k493
  rw [h.2.2.1]
  refine ⟨fun z => absurd rfl z, fun _ => q_isFig h hm hp.1 fun r hr => ⟨r, rfl, rfl, fun z => ?_, fun z => ?_⟩⟩
  · have hb : 48 ≤ tb m t p ∧ tb m t p ≤ 57 := by omega
    have ef : fgS m t p = tb m t p - 48 := by unfold fgS; rw [if_pos hb]
    have h2 := TPr_9 (q := 0) h
    generalize hμ1 : up μ 493 9 0 = μ1 at *
    have f1 : frB μ μ1 := by rw [← hμ1]; exact frB_up (Or.inr rfl)
    apply s_X10_number_27 (layOK n) k493
    refine ⟨fun z => absurd z (by decide), fun _ => q_isFig h2 hm hp.1 fun r2 hr2 => ⟨r2, rfl, rfl, fun z2 => absurd hb (fun y => by omega), fun _ => ⟨⟨by decide, by decide⟩, q_here h2 hm hp.1 ⟨_, rfl, rfl, ?_⟩⟩⟩⟩
    rw [h2.2.1, show (10 : Int) * 0 + tb m t p - 48 = fgS m t p by omega]
    refine ⟨⟨by omega, by omega⟩, ⟨by omega, by omega⟩, ⟨by omega, by omega⟩, ⟨by decide, by decide⟩, ?_⟩
    apply s_X10_number_27 (layOK n) k493
    exact ⟨fun _ => hy (by omega) _ (TPr_8 h2) (frB_tr f1 (frB_up (Or.inl rfl))), fun z => absurd (show (1 : Int) ≤ 0 + 1 by decide) z⟩
  · have ef : fgS m t p = -1 := by unfold fgS; rw [if_neg (by omega)]
    have h2 := TPr_9 (q := 1) h
    apply s_X10_number_27 (layOK n) k493
    exact ⟨fun z => absurd z (by decide), fun _ => q_isFig h2 hm hp.1 fun r2 hr2 => ⟨r2, rfl, rfl, fun _ => hn (by omega) _ h2 (frB_up (Or.inr rfl)), fun z2 => absurd z2 (by omega)⟩⟩
theorem q_num1b {m p : Int} {t : Int → Int} (h : TPr μ m t p 1) (hm : m ≤ 160) (hp : 0 ≤ p) (hy : ∀ μ', TPr μ' m t p 1 → frB μ μ' → Q (some (0, 0)) (L0 n) μ') : TR mX10_number 2 (0, 0) [(2, 493), (0, 1)] (L0 n) μ Q := by
  apply t_X10_number (layOK n) k493
  rw [h.2.2.1]
  have h2 := TPr_9 (q := 1) h
  refine ⟨fun _ => ?_, fun z => absurd z (by decide)⟩
  apply s_X10_number_27 (layOK n) k493
  exact ⟨fun z => absurd z (by decide), fun _ => q_isFig h2 hm hp fun r2 hr2 => ⟨r2, rfl, rfl, fun _ => hy _ h2 (frB_up (Or.inr rfl)), fun z2 => absurd z2 (by omega)⟩⟩
theorem q_wants {m p c : Int} {t : Int → Int} (h : TPr μ m t p 0) (hm : m ≤ 160) (hp : 0 ≤ p ∧ p ≤ m) (hc : c ≠ -1)
    (hy : tb m t p = c → ∀ μ', TPr μ' m t (p + 1) 0 → frB μ μ' → Q none (L0 n) μ') (hn : tb m t p ≠ c → ∀ μ', TPr μ' m t p 1 → frB μ μ' → Q none (L0 n) μ') : TR mX10_wants 1 (0, 0) [(2, 493), (0, c)] (L0 n) μ Q := by
  apply t_X10_wants (layOK n) k493
  rw [h.2.2.1]
  refine ⟨fun z => absurd rfl z, fun _ => q_here h hm hp.1 ⟨_, rfl, rfl, fun z => ?_, fun z => ?_⟩⟩
  · have h2 := TPr_9 (q := 0) h
    rw [h2.2.1, h2.2.2.1]
    exact ⟨fun _ => ⟨⟨by omega, by omega⟩, hy z _ (TPr_8 h2) (frB_tr (frB_up (Or.inr rfl)) (frB_up (Or.inl rfl)))⟩, fun y => absurd rfl y⟩
  · have h2 := TPr_9 (q := 1) h
    rw [h2.2.1, h2.2.2.1, Int.add_zero]
    exact ⟨fun y => absurd y (by decide), fun _ => ⟨⟨by omega, by omega⟩, hn z _ (TPr_8 h2) (frB_tr (frB_up (Or.inr rfl)) (frB_up (Or.inl rfl)))⟩⟩
theorem q_wantsb {m p c : Int} {t : Int → Int} (h : TPr μ m t p 1) (hm : m ≤ 160) (hp : 0 ≤ p ∧ p ≤ m) (hy : ∀ μ', TPr μ' m t p 1 → frB μ μ' → Q none (L0 n) μ') : TR mX10_wants 1 (0, 0) [(2, 493), (0, c)] (L0 n) μ Q := by
  apply t_X10_wants (layOK n) k493
  have h2 := TPr_9 (q := 1) h
  rw [h.2.2.1, h2.2.1, h2.2.2.1, Int.add_zero]
  exact ⟨fun _ => ⟨fun y => absurd y (by decide), fun _ => ⟨⟨by omega, by omega⟩, hy _ (TPr_8 h2) (frB_tr (frB_up (Or.inr rfl)) (frB_up (Or.inl rfl)))⟩⟩, fun z => absurd z (by decide)⟩
theorem q_goesOn {m p bad c : Int} {t : Int → Int} (h : TPr μ m t p bad) (hm : m ≤ 160) (hp : 0 ≤ p ∧ p ≤ m)
    (hy : bad = 0 ∧ tb m t p = c → ∀ μ', TPr μ' m t (p + 1) 0 → frB μ μ' → Q (some (0, 1)) (L0 n) μ') (hn : ¬ (bad = 0 ∧ tb m t p = c) → ∀ μ', TPr μ' m t p bad → frB μ μ' → Q (some (0, 0)) (L0 n) μ') : TR mX10_goesOn 1 (0, 0) [(2, 493), (0, c)] (L0 n) μ Q := by
  apply t_X10_goesOn (layOK n) k493
  rw [h.2.2.1, h.2.1, Int.add_zero]
  refine ⟨fun z => ⟨⟨by omega, by omega⟩, hn (fun y => z y.1) _ (TPr_8 h) (frB_up (Or.inl rfl))⟩, fun z => q_here h hm hp.1 ⟨_, rfl, rfl, fun y => ?_, fun y => ?_⟩⟩
  · rw [h.2.1, Int.add_zero]
    exact ⟨⟨by omega, by omega⟩, hn (fun x => y x.2) _ (TPr_8 h) (frB_up (Or.inl rfl))⟩
  · rw [h.2.1]
    have h8 := TPr_8 (q := p + 1) h
    rw [z] at h8
    exact ⟨⟨by omega, by omega⟩, hy ⟨z, y⟩ _ h8 (frB_up (Or.inl rfl))⟩
theorem q_badAt {m p v : Int} {t : Int → Int} (h : TPr μ m t p 0) (hy : ∀ μ', TPr μ' m t v 1 → frB μ μ' → Q none (L0 n) μ') : TR mX10_badAt 0 (0, 0) [(2, 493), (0, v)] (L0 n) μ Q := by
  apply t_X10_badAt (layOK n) k493
  rw [h.2.2.1]
  exact ⟨fun z => absurd rfl z, fun _ => hy _ (TPr_8 (TPr_9 h)) (frB_tr (frB_up (Or.inr rfl)) (frB_up (Or.inl rfl)))⟩
theorem q_agent {m p : Int} {t : Int → Int} {w : Dv} (h : TPr μ m t p 0) (hm : m ≤ 160) (hp : 0 ≤ p ∧ p ≤ m) (hr : RWm μ w) (hs : SW w)
    (hy : 0 ≤ fgS m t p ∧ fgS m t p < w 1 → ∀ μ', TPr μ' m t (p + 1) 0 → frB μ μ' → Q (some (0, fgS m t p)) (L0 n) μ') (hn : ¬ (0 ≤ fgS m t p ∧ fgS m t p < w 1) → ∀ μ', TPr μ' m t p 1 → frB μ μ' → Q (some (0, 0)) (L0 n) μ') : TR mX10_agentHere 3 (0, 0) [(2, 493)] (L0 n) μ Q := by
  apply t_X10_agentHere (layOK n) k493
  refine q_num1 h hm hp (fun z μ1 h1 f1 => ⟨_, rfl, rfl, ?_⟩) (fun z μ1 h1 f1 => ⟨_, rfl, rfl, ?_⟩)
  · have R1 : RWm μ1 w := RWm_fr hr (fun i => f1 494 i (Or.inl (by decide)))
    rw [h1.2.2.1, h.2.1]
    refine ⟨fun y => absurd rfl y, fun _ => c_X10_isAgent R1 hs fun r hr' => ⟨r, rfl, rfl, fun y => ?_, fun y => ?_⟩⟩
    · rw [h1.2.2.1]
      exact ⟨fun _ => hy (by omega) μ1 h1 f1, fun x => absurd rfl x⟩
    · refine q_badAt h1 fun μ2 h2 f2 => ⟨rfl, rfl, ?_⟩
      rw [h2.2.2.1]
      exact ⟨fun x => absurd x (by decide), fun _ => hn (by omega) μ2 h2 (frB_tr f1 f2)⟩
  · rw [h1.2.2.1]
    exact ⟨fun _ => ⟨fun x => absurd x (by decide), fun _ => hn (by omega) μ1 h1 f1⟩, fun y => absurd y (by decide)⟩
/-- what reading worths changes -/
def frN (μ μ' : Mem) : Prop := ∀ x i : Int, (x ≠ 493 ∨ (i ≠ 8 ∧ i ≠ 9)) → x ≠ 494 → μ' x i = μ x i
theorem frN_tr {μ μ' μ'' : Mem} (h : frN μ μ') (h' : frN μ' μ'') : frN μ μ'' := fun x i h1 h2 => (h' x i h1 h2).trans (h x i h1 h2)
theorem frB_N {μ μ' : Mem} (h : frB μ μ') : frN μ μ' := fun x i h1 _ => h x i h1
theorem q_rdW {m p : Int} {t : Int → Int} {w0 w : Dv} (h : TPr μ m t p 0) (hm : m ≤ 160) (hp : 0 ≤ p ∧ p ≤ m) (hr : RWm μ w) (hw : RW2 w0 w)
    (hy : ∀ μ' r, r = rdW m t (w0 0).toNat (w0 1) p w → (r.1 = 0 ∨ r.1 = 1) → (p ≤ r.2.1 ∧ r.2.1 ≤ m) → (r.1 = 1 → p < r.2.1 ∧ TPr μ' m t r.2.1 0 ∧ RWm μ' r.2.2 ∧ RW2 w0 r.2.2) → (r.1 = 0 → TPr μ' m t r.2.1 1) → frN μ μ' → Q none (L0 n) μ') : TR mX10_readWorths 4 (0, 0) [(2, 493)] (L0 n) μ Q := by
  have e0 := hw.1 0 (Or.inl (by decide))
  have e1 := hw.1 1 (Or.inl (by decide))
  have S16 := hw.2.1.1
  have N5 := hw.2.1.2.1
  rw [e0] at S16
  rw [e1] at N5
  -- a fault is found
  have fault : ∀ (q : Int) (w1 : Dv) (μ1 : Mem), rdW m t (w0 0).toNat (w0 1) p w = (0, q, w1) → p ≤ q → q ≤ m → TPr μ1 m t q 1 → frN μ μ1 → Q none (L0 n) μ1 := fun q w1 μ1 er q0 q1 ht f =>
    hy μ1 _ er.symm (Or.inl rfl) ⟨q0, q1⟩ (fun z => absurd (show (0 : Int) = 1 from z) (by decide)) (fun _ => ht) f
  have tail : ∀ (q tr a k : Int) (w1 : Dv) (μ1 : Mem), 0 ≤ k → k ≤ 17 → rdW m t (w0 0).toNat (w0 1) p w = (0, q, w1) → p ≤ q → q ≤ m → TPr μ1 m t q 1 → frN μ μ1 → WA mX10_readWorths 4 (0, 0) 96 [(2, 493), (0, tr), (0, a), (0, k), (9, 0), (9, 0)] [] (L0 n) μ1 Q := by
    intro q tr a k w1 μ1 k0 k1 er q0 q1 ht f
    apply s_X10_readWorths_96 (layOK n) k493
    refine q_num1b ht hm (by omega) fun μ2 t2 f2 => ⟨_, rfl, rfl, ?_⟩
    rw [t2.2.2.1]
    refine ⟨fun _ => ⟨⟨by omega, by omega⟩, q_goesOn t2 hm ⟨by omega, q1⟩ (fun z => absurd z.1 (by decide)) (fun _ μ3 t3 f3 => ⟨_, rfl, rfl, ?_⟩)⟩, fun z => absurd z (by decide)⟩
    apply s_X10_readWorths_68 (layOK n) k493
    exact ⟨fun _ => fault q w1 μ3 er q0 q1 t3 (frN_tr f (frN_tr (frB_N f2) (frB_N f3))), fun z => absurd rfl z⟩
  have head : ∀ (q tr a k : Int) (w1 : Dv) (μ1 : Mem), 0 ≤ k → k ≤ 17 → rdW m t (w0 0).toNat (w0 1) p w = (0, q, w1) → p ≤ q → q ≤ m → TPr μ1 m t q 1 → frN μ μ1 → WA mX10_readWorths 4 (0, 0) 68 [(2, 493), (0, tr), (0, a), (0, k), (0, 1), (9, 0)] [] (L0 n) μ1 Q := by
    intro q tr a k w1 μ1 k0 k1 er q0 q1 ht f
    apply s_X10_readWorths_68 (layOK n) k493
    exact ⟨fun z => absurd z (by decide), fun _ => q_isFig ht hm (by omega) fun r hr' => ⟨r, rfl, rfl, fun _ => tail q tr a k w1 μ1 k0 k1 er q0 q1 ht f, fun z => absurd z (by omega)⟩⟩
  -- the numbers
  have nums : ∀ (a tr : Int), 0 ≤ a → a < w0 1 → (tr = 0 ∨ tr = 1) → ∀ (d k : Nat) (q : Int) (w1 : Dv) (μ1 : Mem), k + d = (w0 0).toNat → p < q → q ≤ m → rdW m t (w0 0).toNat (w0 1) p w = wlp m t a tr d k q w1 → TPr μ1 m t q 0 → RWm μ1 w1 → RW2 w0 w1 → frN μ μ1 → WA mX10_readWorths 4 (0, 0) 68 [(2, 493), (0, tr), (0, a), (0, (k : Int)), (0, 1), (9, 0)] [] (L0 n) μ1 Q := by
    intro a tr a0 a1 htr d
    induction d with
    | zero =>
      intro k q w1 μ1 hk q0 q1 er ht hrm hrw f
      have e5 : w1 0 = w0 0 := hrw.1 0 (Or.inl (by decide))
      have er : rdW m t (w0 0).toNat (w0 1) p w = (0, q, w1) := er
      apply s_X10_readWorths_68 (layOK n) k493
      refine ⟨fun z => absurd z (by decide), fun _ => q_isFig ht hm (by omega) fun r hr' => ⟨r, rfl, rfl, fun z => ?_, fun z => c_X10_strips hrm hrw.2.1 ⟨_, rfl, rfl, fun y => absurd y (by omega), fun _ => ?_⟩⟩⟩
      · -- no number follows
        have ef : fgS m t q < 0 := by unfold fgS; rw [if_neg (by omega)]; decide
        apply s_X10_readWorths_96 (layOK n) k493
        refine q_num1 ht hm ⟨by omega, q1⟩ (fun y => absurd ef y) (fun _ μ2 t2 f2 => ⟨_, rfl, rfl, ?_⟩)
        rw [t2.2.2.1]
        refine ⟨fun _ => ⟨⟨by omega, by omega⟩, q_goesOn t2 hm ⟨by omega, q1⟩ (fun z => absurd z.1 (by decide)) (fun _ μ3 t3 f3 => ⟨_, rfl, rfl, ?_⟩)⟩, fun z => absurd z (by decide)⟩
        apply s_X10_readWorths_68 (layOK n) k493
        exact ⟨fun _ => fault q w1 μ3 er (by omega) q1 t3 (frN_tr f (frN_tr (frB_N f2) (frB_N f3))), fun z => absurd rfl z⟩
      · rw [ht.2.1]
        exact q_badAt ht fun μ2 t2 f2 => ⟨rfl, rfl, tail q tr a k w1 μ2 (by omega) (by omega) er (by omega) q1 t2 (frN_tr f (frB_N f2))⟩
    | succ d ih =>
      intro k q w1 μ1 hk q0 q1 er ht hrm hrw f
      have e5 : w1 0 = w0 0 := hrw.1 0 (Or.inl (by decide))
      unfold wlp at er
      have go : WA mX10_readWorths 4 (0, 0) 96 [(2, 493), (0, tr), (0, a), (0, (k : Int)), (9, 0), (9, 0)] [] (L0 n) μ1 Q := by
        apply s_X10_readWorths_96 (layOK n) k493
        rw [rf_ref.1]
        refine q_num1 ht hm ⟨by omega, q1⟩ (fun y μ2 t2 f2 => ⟨_, rfl, rfl, ?_⟩) (fun y μ2 t2 f2 => ⟨_, rfl, rfl, ?_⟩)
        · obtain ⟨g1, g2, g3⟩ := fgS_in y
          rw [if_neg y] at er
          rw [t2.2.2.1]
          generalize fgS m t q = v at *
          refine ⟨fun z => absurd rfl z, fun _ => ⟨⟨by omega, by omega⟩, ⟨by omega, by omega⟩, ⟨by omega, by omega⟩, ⟨by omega, by omega⟩, ?_⟩⟩
          have R2 : RWm μ2 w1 := RWm_fr hrm (fun i => f2 494 i (Or.inl (by decide)))
          have twice : updW (updW w1 (85 + 16 * a + k) v) (85 + 16 * a + k) v = updW w1 (85 + 16 * a + k) v := by
            funext i
            unfold updW
            split
            · rfl
            · rfl
          have w3 : RW2 w0 (updW w1 (85 + 16 * a + k) v) := RW2_up hrw ⟨by omega, by omega⟩ ⟨g2, g3⟩
          have R3 := RWm_up (v := v) (i := 85 + 16 * a + k) R2
          have next : ∀ (w2 : Dv) (μ3 : Mem), w2 = (if tr = 0 then updW w1 (85 + 16 * a + k) v else updW (updW w1 (85 + 16 * a + k) v) (5 + 16 * a + k) v) → TPr μ3 m t (q + 1) 0 → RWm μ3 w2 → RW2 w0 w2 → frN μ μ3 → TR mX10_goesOn 1 (0, 0) [(2, 493), (0, 44)] (L0 n) μ3 (fun r16 L17 μ18 => ∃ w19, r16 = some (0, w19) ∧ (L0 n) = L17 ∧ WA mX10_readWorths 4 (0, 0) 68 [(2, 493), (0, tr), (0, a), (0, ((k : Int) + 1)), (0, w19), (9, 0)] [] (L0 n) μ18 Q) := by
            intro w2 μ3 ew t3 r3 rw3 f3
            rw [← ew] at er
            refine q_goesOn t3 hm ⟨by omega, by omega⟩ (fun z μ4 t4 f4 => ⟨_, rfl, rfl, ?_⟩) (fun z μ4 t4 f4 => ⟨_, rfl, rfl, ?_⟩)
            · rw [if_pos z.2] at er
              have q3 := tb_in z.2 (by decide)
              rw [show q + 1 + 1 = q + 2 by omega] at t4
              exact ih (k + 1) (q + 2) w2 μ4 (by omega) (by omega) (by omega) er t4 (RWm_fr r3 (fun i => f4 494 i (Or.inl (by decide)))) rw3 (frN_tr f3 (frB_N f4))
            · rw [if_neg (fun x => z ⟨rfl, x⟩)] at er
              apply s_X10_readWorths_68 (layOK n) k493
              exact ⟨fun _ => hy μ4 _ er.symm (Or.inr rfl) ⟨by show p ≤ q + 1; omega, by show q + 1 ≤ m; omega⟩ (fun _ => ⟨by show p < q + 1; omega, t4, RWm_fr r3 (fun i => f4 494 i (Or.inl (by decide))), rw3⟩) (fun z => absurd (show (1 : Int) = 0 from z) (by decide)) (frN_tr f3 (frB_N f4)), fun z => absurd rfl z⟩
          have fup : ∀ (μ3 : Mem) (i v : Int), frN μ μ3 → frN μ (up μ3 494 i v) := fun μ3 i v f x j h1 h2 => by rw [up_ne (Or.inl h2)]; exact f x j h1 h2
          have tup : ∀ (μ3 : Mem) (i v q : Int), TPr μ3 m t q 0 → TPr (up μ3 494 i v) m t q 0 := fun μ3 i v q ht => TPr_fr ht (fun x j hx => up_ne (Or.inl hx))
          refine ⟨fun z => ⟨⟨by omega, by omega⟩, ?_⟩, fun z => ⟨⟨by omega, by omega⟩, ⟨by omega, by omega⟩, ⟨by omega, by omega⟩, ⟨by omega, by omega⟩, ?_⟩⟩
          · have R4 := RWm_up (v := v) (i := 85 + 16 * a + k) R3
            rw [twice] at R4
            exact next _ _ (by rw [if_pos z]) (tup _ _ _ _ (tup _ _ _ _ t2)) R4 w3 (fup _ _ _ (fup _ _ _ (frN_tr f (frB_N f2))))
          · have R4 := RWm_up (v := v) (i := 5 + 16 * a + k) R3
            exact next _ _ (by rw [if_neg z]) (tup _ _ _ _ (tup _ _ _ _ t2)) R4 (RW2_up w3 ⟨by omega, by omega⟩ ⟨g2, g3⟩) (fup _ _ _ (fup _ _ _ (frN_tr f (frB_N f2))))
        · rw [if_pos y] at er
          rw [t2.2.2.1]
          refine ⟨fun _ => ⟨⟨by omega, by omega⟩, q_goesOn t2 hm ⟨by omega, q1⟩ (fun z => absurd z.1 (by decide)) (fun _ μ3 t3 f3 => ⟨_, rfl, rfl, ?_⟩)⟩, fun z => absurd z (by decide)⟩
          apply s_X10_readWorths_68 (layOK n) k493
          exact ⟨fun _ => fault q w1 μ3 er (by omega) q1 t3 (frN_tr f (frN_tr (frB_N f2) (frB_N f3))), fun z => absurd rfl z⟩
      apply s_X10_readWorths_68 (layOK n) k493
      exact ⟨fun z => absurd z (by decide), fun _ => q_isFig ht hm (by omega) fun r hr' => ⟨r, rfl, rfl, fun _ => go, fun _ => c_X10_strips hrm hrw.2.1 ⟨_, rfl, rfl, fun _ => go, fun y => absurd (show (k : Int) < w1 0 by omega) y⟩⟩⟩
  -- whose
  have whose : ∀ (tr : Int) (μ1 : Mem), (tr = 0 ∨ tr = 1) → p < m → tr = (if tb m t p = 119 then 1 else 0) → (tb m t p = 119 ∨ tb m t p = 116) → TPr μ1 m t (p + 1) 0 → RWm μ1 w → frN μ μ1 → TR mX10_agentHere 3 (0, 0) [(2, 493)] (L0 n) μ1 (fun r6 L7 μ8 => ∃ w9, r6 = some (0, w9) ∧ (L0 n) = L7 ∧ TR mX10_wants 1 (0, 0) [(2, 493), (0, 58)] (L0 n) μ8 (fun r10 L11 μ12 => r10 = none ∧ (L0 n) = L11 ∧ WA mX10_readWorths 4 (0, 0) 68 [(2, 493), (0, tr), (0, w9), (0, 0), (0, 1), (9, 0)] [] (L0 n) μ12 Q)) := by
    intro tr μ1 htr hpm etr hb t1 r1 f1
    have er : rdW m t (w0 0).toNat (w0 1) p w = (if 0 ≤ fgS m t (p + 1) ∧ fgS m t (p + 1) < w0 1 then (if tb m t (p + 2) = 58 then wlp m t (fgS m t (p + 1)) (if tb m t p = 119 then 1 else 0) (w0 0).toNat 0 (p + 3) w else (0, p + 2, w)) else (0, p + 1, w)) := by
      unfold rdW
      rw [if_pos hb]
    rw [← etr] at er
    refine q_agent t1 hm ⟨by omega, by omega⟩ r1 hw.2.1 (fun z μ2 t2 f2 => ⟨_, rfl, rfl, ?_⟩) (fun z μ2 t2 f2 => ⟨_, rfl, rfl, ?_⟩)
    · rw [e1] at z
      rw [if_pos z] at er
      obtain ⟨f5, -, -⟩ := fgS_in (show ¬ fgS m t (p + 1) < 0 by omega)
      rw [show p + 1 + 1 = p + 2 by omega] at t2
      refine q_wants t2 hm ⟨by omega, by omega⟩ (by decide) (fun y μ3 t3 f3 => ⟨rfl, rfl, ?_⟩) (fun y μ3 t3 f3 => ⟨rfl, rfl, ?_⟩)
      · rw [if_pos y] at er
        have q3 := tb_in y (by decide)
        rw [show p + 2 + 1 = p + 3 by omega] at t3
        exact nums (fgS m t (p + 1)) tr z.1 z.2 htr (w0 0).toNat 0 (p + 3) w μ3 (by omega) (by omega) (by omega) er t3 (RWm_fr r1 (fun i => (f3 494 i (Or.inl (by decide))).trans (f2 494 i (Or.inl (by decide))))) hw (frN_tr f1 (frN_tr (frB_N f2) (frB_N f3)))
      · rw [if_neg y] at er
        exact head (p + 2) tr _ 0 w μ3 (by decide) (by decide) er (by omega) (by omega) t3 (frN_tr f1 (frN_tr (frB_N f2) (frB_N f3)))
    · rw [e1] at z
      rw [if_neg z] at er
      exact q_wantsb t2 hm ⟨by omega, by omega⟩ fun μ3 t3 f3 => ⟨rfl, rfl, head (p + 1) tr 0 0 w μ3 (by decide) (by decide) er (by omega) (by omega) t3 (frN_tr f1 (frN_tr (frB_N f2) (frB_N f3)))⟩
  have at14 : ∀ s0 : Int, s0 = (if tb m t p = 119 then 1 else 0) → WA mX10_readWorths 4 (0, 0) 14 [(2, 493), (9, 0), (9, 0), (9, 0), (9, 0), (9, 0)] [(0, s0)] (L0 n) μ Q := by
    intro s0 es
    apply s_X10_readWorths_14 (layOK n) k493
    refine q_here h hm hp.1 ⟨_, rfl, rfl, fun y => ?_, fun y => q_here h hm hp.1 ⟨_, rfl, rfl, fun y2 => ?_, fun y2 => ?_⟩⟩
    · have := tb_in y (by decide)
      rw [h.2.1]
      exact ⟨⟨by omega, by omega⟩, whose s0 _ (by rw [es, if_pos y]; exact Or.inr rfl) this es (Or.inl y) (TPr_8 h) (RWm_fr hr (fun i => up_ne (Or.inl (by decide)))) (frB_N (frB_up (Or.inl rfl)))⟩
    · have := tb_in y2 (by decide)
      rw [h.2.1]
      exact ⟨⟨by omega, by omega⟩, whose s0 _ (by rw [es, if_neg y]; exact Or.inl rfl) this es (Or.inr y2) (TPr_8 h) (RWm_fr hr (fun i => up_ne (Or.inl (by decide)))) (frB_N (frB_up (Or.inl rfl)))⟩
    · rw [h.2.1]
      refine q_badAt h fun μ2 t2 f2 => ⟨rfl, rfl, fault p w μ2 ?_ (Int.le_refl _) hp.2 t2 (frB_N f2)⟩
      unfold rdW
      rw [if_neg (by omega)]
  apply t_X10_readWorths (layOK n) k493
  exact q_here h hm hp.1 ⟨_, rfl, rfl, fun y => at14 0 (by rw [if_neg y]), fun y => at14 1 (by rw [if_pos y])⟩
end
