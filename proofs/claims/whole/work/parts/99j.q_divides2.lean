/-! divides (the reference): spans, shares -/
theorem low_eqD {x y x' y' : Int} (h : lowT x y) (h' : lowT x' y') (e : x * y' = x' * y) : x = x' ∧ y = y' := by
  obtain ⟨a1, a2⟩ := rd_of_low h
  obtain ⟨b1, b2⟩ := rd_of_low h'
  obtain ⟨c1, c2⟩ := rd_eq h.2.1 h'.2.1 e
  exact ⟨by omega, by omega⟩
theorem RV_SW {w0 w : Dv} (h : RV w0 w) (hs : SW w0) : SW w := SW_of hs h.1
theorem TPr_E {μ μ' : Mem} {m p bad : Int} {t : Int → Int} (h : TPr μ m t p bad) (hf : ∀ x i : Int, x ≠ 494 → (x ≠ 493 ∨ i = 7 ∨ i = 8 ∨ i = 9) → μ' x i = μ x i) : TPr μ' m t p bad := ⟨by rw [hf 493 7 (by decide) (by decide)]; exact h.1, by rw [hf 493 8 (by decide) (by decide)]; exact h.2.1, by rw [hf 493 9 (by decide) (by decide)]; exact h.2.2.1, fun i i0 i1 => by rw [hf 497 i (by decide) (Or.inl (by decide))]; exact h.2.2.2 i i0 i1⟩
section
variable {n : Int} {μ : Mem} {Q : Option AV → Lay → Mem → Prop}
/-- a fault was found before: nothing but the point read last is new -/
theorem q_spb66 {m p a v2 v3 v5 : Int} {t : Int → Int} (h : TPr μ m t p 1) (hy : Q none (L0 n) μ) : WA mX10_readSpan 4 (0, 0) 66 [(2, 493), (0, a), (0, v2), (1, v3), (9, 0), (1, v5), (9, 0), (9, 0), (9, 0)] [] (L0 n) μ Q := by
  have e9 := h.2.2.1
  apply s_X10_readSpan_66 (layOK n) k493
  rw [e9]
  refine ⟨fun _ => ?_, fun z => absurd z (by decide)⟩
  apply s_X10_readSpan_97 (layOK n) k493
  rw [e9]
  refine ⟨fun _ => ?_, fun z => absurd z (by decide)⟩
  apply s_X10_readSpan_134 (layOK n) k493
  rw [e9]
  exact ⟨fun _ => hy, fun z => absurd z (by decide)⟩
theorem q_spb {m p a : Int} {t : Int → Int} (h : TPr μ m t p 1) (hm : m ≤ 160) (hp : 0 ≤ p ∧ p ≤ m) (hy : ∀ μ', TPr μ' m t p 1 → frED μ μ' → Q none (L0 n) μ') : TR mX10_readSpan 4 (0, 0) [(2, 493), (0, a)] (L0 n) μ Q := by
  apply t_X10_readSpan (layOK n) k493
  refine q_ptb h hm hp fun μ1 t1 f1 => ⟨rfl, rfl, q_wantsb t1 hm hp fun μ2 t2 f2 => ⟨rfl, rfl, q_ptb t2 hm hp fun μ3 t3 f3 => ⟨rfl, rfl, ?_⟩⟩⟩
  rw [t3.2.2.1]
  exact ⟨fun _ => q_spb66 t3 (hy μ3 t3 (frP_E (frP_tr f1 (frP_tr (frB_P f2) f3)))), fun z => absurd z (by decide)⟩
theorem q_spS {m p a : Int} {t : Int → Int} {w0 w : Dv} (h : TPr μ m t p 0) (hm : m ≤ 160) (hp : 0 ≤ p ∧ p ≤ m) (hs0 : SW w0) (hrv : RV w0 w) (ha : 0 ≤ a ∧ a < 5) (hc : 0 ≤ w (165 + a) ∧ w (165 + a) < 2) (hr : RWm μ w)
    (hy : (spS m t (w0 0) a p w).1 = 1 → ∀ μ', TPr μ' m t (spS m t (w0 0) a p w).2.1 0 → RWm μ' (spS m t (w0 0) a p w).2.2 → frED μ μ' → Q none (L0 n) μ')
    (hn : (spS m t (w0 0) a p w).1 = 0 → ∀ μ', TPr μ' m t (spS m t (w0 0) a p w).2.1 1 → frED μ μ' → Q none (L0 n) μ') : TR mX10_readSpan 4 (0, 0) [(2, 493), (0, a)] (L0 n) μ Q := by
  generalize hR : spS m t (w0 0) a p w = R at hy hn
  unfold spS at hR
  have hmn : ∀ b : Int, 0 ≤ b → b < 5 → w (165 + b) ≤ 2 := (RV_lim hrv).2
  have hs := RV_SW hrv hs0
  have l0 : w 0 = w0 0 := hrv.1 0 (by decide) (by decide) (by decide) (by decide)
  have l1 : w 1 = w0 1 := hrv.1 1 (by decide) (by decide) (by decide) (by decide)
  have S2 : 0 ≤ w 0 ∧ w 0 ≤ 16 := by have := hs.1; omega
  have hLB : LB (w 0) w := by rw [l0]; exact hrv.2.2.2.1
  rw [← l0] at hR
  have no : ∀ (q v2 v3 v5 : Int) (μ1 : Mem), (0, q, w) = R → TPr μ1 m t q 1 → frED μ μ1 → WA mX10_readSpan 4 (0, 0) 66 [(2, 493), (0, a), (0, v2), (1, v3), (9, 0), (1, v5), (9, 0), (9, 0), (9, 0)] [] (L0 n) μ1 Q := fun q v2 v3 v5 μ1 e ht f => by
    rw [← e] at hn
    exact q_spb66 ht (hn rfl μ1 ht f)
  obtain ⟨a1, a2, a3⟩ := ptS_ok (t := t) (S := w 0) hp.2
  apply t_X10_readSpan (layOK n) k493
  rw [h.2.1]
  refine q_ptD h hm hp hr S2 (fun z μ1 t1 r1 f1 => ⟨rfl, rfl, ?_⟩) (fun z μ1 t1 f1 => ⟨rfl, rfl, ?_⟩)
  · rw [if_neg (by omega)] at hR
    obtain ⟨a4, a5⟩ := a3 z
    generalize ptS m t (w 0) p = P1 at *
    have R1 : RWm μ1 w := RWm_fr hr (fun i => f1 494 i (Or.inl (by decide)))
    rw [r1.1, r1.2]
    refine q_wants t1 hm ⟨by omega, a2.2⟩ (by decide) (fun y μ2 t2 f2 => ⟨rfl, rfl, ?_⟩) (fun y μ2 t2 f2 => ⟨rfl, rfl, ?_⟩)
    · rw [if_neg (fun x => x y)] at hR
      have lt := tb_in y (by decide)
      obtain ⟨b1, b2, b3⟩ := ptS_ok (t := t) (S := w 0) (p := P1.2.1 + 1) (show P1.2.1 + 1 ≤ m by omega)
      have R2 : RWm μ2 w := RWm_fr R1 (fun i => f2 494 i (Or.inl (by decide)))
      rw [t2.2.1]
      refine q_ptD t2 hm ⟨by omega, by omega⟩ R2 S2 (fun x μ3 t3 r3 f3 => ⟨rfl, rfl, ?_⟩) (fun x μ3 t3 f3 => ⟨rfl, rfl, ?_⟩)
      · rw [if_neg (by omega)] at hR
        obtain ⟨b4, b5⟩ := b3 x
        generalize ptS m t (w 0) (P1.2.1 + 1) = P2 at *
        have F3 : frED μ μ3 := frP_E (frP_tr f1 (frP_tr (frB_P f2) f3))
        have R3 : RWm μ3 w := RWm_fr R2 (fun i => f3 494 i (Or.inl (by decide)))
        have n1 := pnB_num a5 S2
        have n2 := pnB_num b5 S2
        rw [t3.2.2.1, r3.1, r3.2]
        refine ⟨fun v => absurd rfl v, fun _ => ?_⟩
        refine c_X10_isLess n2.1 (by omega) n1.1 (by omega) (den_mul ⟨n2.2.2.1, by omega⟩ ⟨n1.2.2.1, by omega⟩) fun r hr1 => ⟨r, rfl, rfl, fun v => ?_, fun v => ?_⟩
        · rw [if_neg (by omega)] at hR
          -- the end, with the span given
          have give : ¬ ovB w P1.2.2 P2.2.2 = true → WA mX10_readSpan 4 (0, 0) 134 [(2, 493), (0, a), (9, 0), (1, P1.2.2.1), (9, 0), (1, P1.2.2.2), (9, 0), (9, 0), (9, 0)] [] (L0 n) μ3 Q := fun nov => by
            rw [if_neg nov] at hR
            apply s_X10_readSpan_134 (layOK n) k493
            rw [t3.2.2.1, r3.1, r3.2]
            refine ⟨fun s => absurd rfl s, fun _ => c_X10_adds R3 ha hc fun μ4 R4 f4 => ⟨rfl, rfl, ?_⟩⟩
            rw [← hR] at hy
            exact hy rfl μ4 (TPr_E t3 (fun x i hx _ => f4 x i hx)) R4 (frED_tr F3 (fun x i _ hx => f4 x i hx))
          have at97 : ∀ s0 : Int, (¬ s0 = 0 → ¬ P1.2.2.1 * P2.2.2.2 < P2.2.2.1 * P1.2.2.2) → (s0 = 0 → ¬ P1.2.2.1 * P2.2.2.2 = P2.2.2.1 * P1.2.2.2) → WA mX10_readSpan 4 (0, 0) 97 [(2, 493), (0, a), (0, p), (1, P1.2.2.1), (9, 0), (1, P1.2.2.2), (9, 0), (9, 0), (9, 0)] [(0, s0)] (L0 n) μ3 Q := fun s0 es es2 => by
            apply s_X10_readSpan_97 (layOK n) k493
            rw [t3.2.2.1, r3.1, r3.2]
            refine ⟨fun s => absurd rfl s, fun _ => ⟨fun s => give (fun q => es s ((ovB_iff hmn).mp q).1), fun s => ?_⟩⟩
            refine q_apart R3 hs hLB ⟨n1.1, n1.2.2⟩ ⟨n2.1, n2.2.2⟩ fun r2 hr2 => ⟨r2, rfl, rfl, fun q => give (fun ov => ?_), fun q => ?_⟩
            · obtain ⟨-, b, k, b0, b1, k0, k1, q2⟩ := (ovB_iff hmn).mp ov
              rcases hr2 with ⟨-, hr2⟩ | ⟨hr2, -⟩
              · by_cases y : b < w 1
                · exact hr2 b k b0 y k0 k1 q2
                · rw [hrv.2.2.1 b (by omega) b1] at k1
                  omega
              · exact q hr2
            · rcases hr2 with ⟨hr2, -⟩ | ⟨-, b, k, b0, b1, k0, k1, q2⟩
              · omega
              · have ov : ovB w P1.2.2 P2.2.2 = true := (ovB_iff hmn).mpr ⟨by have := es2 s; omega, b, k, b0, by have := hs.2.1.2; omega, k0, k1, q2⟩
                rw [if_pos ov] at hR
                rw [← hR] at hn
                refine q_badAt t3 fun μ4 t4 f4 => ⟨rfl, rfl, ?_⟩
                apply s_X10_readSpan_134 (layOK n) k493
                rw [t4.2.2.1]
                exact ⟨fun _ => hn rfl μ4 t4 (frED_tr F3 (frB_E f4)), fun z => absurd z (by decide)⟩
          have g1 : lowT P1.2.2.1 P1.2.2.2 := ⟨a5.1, by omega, a5.2.2.2.2⟩
          have g2 : lowT P2.2.2.1 P2.2.2.2 := ⟨b5.1, by omega, b5.2.2.2.2⟩
          apply s_X10_readSpan_66 (layOK n) k493
          rw [t3.2.2.1, r3.1, r3.2]
          refine ⟨fun s => absurd rfl s, fun _ => ⟨fun s => at97 0 (fun q => absurd rfl q) (fun _ q => s (low_eqD g1 g2 q).1.symm), fun s => ⟨fun s2 => at97 0 (fun q => absurd rfl q) (fun _ q => s2 (low_eqD g1 g2 q).2.symm), fun s2 => at97 1 (fun _ q => ?_) (fun q => absurd q (by decide))⟩⟩⟩
          rw [s, s2] at q
          omega
        · rw [if_pos (by omega)] at hR
          exact q_badAt t3 fun μ4 t4 f4 => ⟨rfl, rfl, no _ _ _ _ μ4 hR t4 (frED_tr F3 (frB_E f4))⟩
      · rw [if_pos x] at hR
        rw [t3.2.2.1]
        exact ⟨fun _ => no _ _ _ _ μ3 hR t3 (frP_E (frP_tr f1 (frP_tr (frB_P f2) f3))), fun v => absurd v (by decide)⟩
    · rw [if_pos y] at hR
      refine q_ptb t2 hm ⟨by omega, a2.2⟩ fun μ3 t3 f3 => ⟨rfl, rfl, ?_⟩
      rw [t3.2.2.1]
      exact ⟨fun _ => no _ _ _ _ μ3 hR t3 (frP_E (frP_tr f1 (frP_tr (frB_P f2) f3))), fun v => absurd v (by decide)⟩
  · rw [if_pos z] at hR
    refine q_wantsb t1 hm ⟨by omega, a2.2⟩ fun μ2 t2 f2 => ⟨rfl, rfl, q_ptb t2 hm ⟨by omega, a2.2⟩ fun μ3 t3 f3 => ⟨rfl, rfl, ?_⟩⟩
    rw [t3.2.2.1]
    exact ⟨fun _ => no _ _ _ _ μ3 hR t3 (frP_E (frP_tr f1 (frP_tr (frB_P f2) f3))), fun v => absurd v (by decide)⟩
/-- what reading a share changes -/
def frHD (μ μ' : Mem) : Prop := ∀ x i : Int, (x ≠ 493 ∨ (i ≠ 4 ∧ i ≠ 5 ∧ i ≠ 8 ∧ i ≠ 9 ∧ i ≠ 10)) → x ≠ 494 → μ' x i = μ x i
theorem frHD_tr {μ μ' μ'' : Mem} (h : frHD μ μ') (h' : frHD μ' μ'') : frHD μ μ'' := fun x i h1 h2 => (h' x i h1 h2).trans (h x i h1 h2)
theorem frED_H {μ μ' : Mem} (h : frED μ μ') : frHD μ μ' := fun x i h1 h2 => h x i (by omega) h2
theorem frB_H {μ μ' : Mem} (h : frB μ μ') : frHD μ μ' := frED_H (frB_E h)
theorem frH_10 {μ : Mem} {v : Int} : frHD μ (up μ 493 10 v) := fun x i h1 _ => up_ne (by omega)
theorem q_shS {m p : Int} {t : Int → Int} {w0 w : Dv} (h : TPr μ m t p 0) (hm : m ≤ 160) (hp : 0 ≤ p ∧ p ≤ m) (hs0 : SW w0) (hrv : RV w0 w) (hr : RWm μ w) (hk : mkI (μ 493 10) w)
    (hy : (shS m t (w0 0) (w0 1) p w).1 = 1 → ∀ μ', TPr μ' m t (shS m t (w0 0) (w0 1) p w).2.1 0 → RWm μ' (shS m t (w0 0) (w0 1) p w).2.2 → mkI (μ' 493 10) (shS m t (w0 0) (w0 1) p w).2.2 → frHD μ μ' → Q none (L0 n) μ')
    (hn : (shS m t (w0 0) (w0 1) p w).1 = 0 → ∀ μ', TPr μ' m t (shS m t (w0 0) (w0 1) p w).2.1 1 → frHD μ μ' → Q none (L0 n) μ') : TR mX10_readShare 5 (0, 0) [(2, 493)] (L0 n) μ Q := by
  obtain ⟨-, -, cnt⟩ := shS_ok (m := m) (t := t) (p := p) hrv hs0.2.1.2 hp.2
  generalize hR : shS m t (w0 0) (w0 1) p w = R at hy hn cnt
  unfold shS at hR
  have hs := RV_SW hrv hs0
  have l1 : w 1 = w0 1 := hrv.1 1 (by decide) (by decide) (by decide) (by decide)
  -- a fault
  have bad : ∀ (q a : Int) (μ1 : Mem), (∀ μ', TPr μ' m t q 1 → frHD μ μ' → Q none (L0 n) μ') → 0 ≤ q → q ≤ m → TPr μ1 m t q 1 → frHD μ μ1 → WA mX10_readShare 5 (0, 0) 34 [(2, 493), (9, 0), (0, a)] [] (L0 n) μ1 Q := fun q a μ1 hq q0 q1 ht f => by
    apply s_X10_readShare_34 (layOK n) k493
    have t2 : TPr (up μ1 493 10 (bOr (μ1 493 10) (bShl 1 a))) m t q 1 := TPr_E ht (fun x i h1 h2 => up_ne (by omega))
    refine q_wantsb t2 hm ⟨q0, q1⟩ fun μ3 t3 f3 => ⟨rfl, rfl, q_spb t3 hm ⟨q0, q1⟩ fun μ4 t4 f4 => ⟨rfl, rfl, q_goesOn t4 hm ⟨q0, q1⟩ (fun z => absurd z.1 (by decide)) (fun _ μ5 t5 f5 => ⟨_, rfl, rfl, fun _ => ?_, fun z => absurd rfl z⟩)⟩⟩
    exact hq μ5 t5 (frHD_tr f (frHD_tr frH_10 (frHD_tr (frB_H f3) (frHD_tr (frED_H f4) (frB_H f5)))))
  have no : ∀ (q a : Int) (μ1 : Mem), (0, q, w) = R → 0 ≤ q → q ≤ m → TPr μ1 m t q 1 → frHD μ μ1 → WA mX10_readShare 5 (0, 0) 34 [(2, 493), (9, 0), (0, a)] [] (L0 n) μ1 Q := fun q a μ1 e q0 q1 ht f => by
    rw [← e] at hn
    exact bad q a μ1 (hn rfl) q0 q1 ht f
  apply t_X10_readShare (layOK n) k493
  rw [h.2.1]
  refine q_agent h hm hp hr hs (fun z μ1 t1 f1 => ⟨_, rfl, rfl, ?_⟩) (fun z μ1 t1 f1 => ⟨_, rfl, rfl, ?_⟩)
  · rw [l1] at z
    rw [if_neg (fun x => x z)] at hR
    obtain ⟨g1, -, -⟩ := fgS_in (show ¬ fgS m t p < 0 by omega)
    have ha : 0 ≤ fgS m t p ∧ fgS m t p < 5 := by have := hs0.2.1.2; omega
    have hc := (hrv.2.2.2.1 (fgS m t p) ha.1 ha.2).1
    have e10 : μ1 493 10 = μ 493 10 := f1 493 10 (by omega)
    rw [t1.2.2.1, e10]
    have hk2 := hk.2 (fgS m t p) ha.1 ha.2
    unfold bt at hk2
    generalize fgS m t p = a at *
    refine ⟨fun x => absurd rfl x, fun _ => ⟨fun x => ?_, fun x => ?_⟩⟩
    · have n0 : ¬ 0 < w (165 + a) := fun q => x (hk2.mpr q)
      rw [if_neg n0] at hR
      -- the mask
      have mk : ∀ (w' : Dv), 0 < w' (165 + a) → (∀ b : Int, 0 ≤ b ∧ b < 5 → b ≠ a → w' (165 + b) = w (165 + b)) → mkI (bOr (μ 493 10) (bShl 1 a)) w' := fun w' h1 h2 => by
        refine ⟨(or_bt hk.1 ha ha).2, fun b b0 b1 => ?_⟩
        rw [(or_bt hk.1 ha ⟨b0, b1⟩).1]
        by_cases y : b = a
        · rw [y]; exact ⟨fun _ => h1, fun _ => Or.inr rfl⟩
        · rw [h2 b ⟨b0, b1⟩ y, ← hk.2 b b0 b1]
          exact ⟨fun v => v.elim id (fun v => absurd v y), Or.inl⟩
      apply s_X10_readShare_34 (layOK n) k493
      rw [e10]
      have t2 : TPr (up μ1 493 10 (bOr (μ 493 10) (bShl 1 a))) m t (p + 1) 0 := TPr_E t1 (fun x i h1 h2 => up_ne (by omega))
      have R2 : RWm (up μ1 493 10 (bOr (μ 493 10) (bShl 1 a))) w := RWm_fr hr (fun i => by rw [up_ne (Or.inl (by decide))]; exact f1 494 i (Or.inl (by decide)))
      have F2 : frHD μ (up μ1 493 10 (bOr (μ 493 10) (bShl 1 a))) := frHD_tr (frB_H f1) frH_10
      have m2 : up μ1 493 10 (bOr (μ 493 10) (bShl 1 a)) 493 10 = bOr (μ 493 10) (bShl 1 a) := up_eq _ _ _ _
      generalize up μ1 493 10 (bOr (μ 493 10) (bShl 1 a)) = μ2 at *
      refine q_wants t2 hm ⟨by omega, by omega⟩ (by decide) (fun y μ3 t3 f3 => ⟨rfl, rfl, ?_⟩) (fun y μ3 t3 f3 => ⟨rfl, rfl, ?_⟩)
      · rw [if_neg (fun v => v y)] at hR
        have lt := tb_in y (by decide)
        rw [show p + 1 + 1 = p + 2 by omega] at t3
        have F3 := frHD_tr F2 (frB_H f3)
        have R3 : RWm μ3 w := RWm_fr R2 (fun i => f3 494 i (Or.inl (by decide)))
        have m3 : μ3 493 10 = bOr (μ 493 10) (bShl 1 a) := (f3 493 10 (by omega)).trans m2
        obtain ⟨a1, a2, a3⟩ := spS_ok (m := m) (t := t) (p := p + 2) hrv ha z.2 ⟨hc.1, by omega⟩ (by omega)
        refine q_spS t3 hm ⟨by omega, by omega⟩ hs0 hrv ha ⟨hc.1, by omega⟩ R3 (fun v μ4 t4 R4 f4 => ⟨rfl, rfl, ?_⟩) (fun v μ4 t4 f4 => ⟨rfl, rfl, ?_⟩)
        · rw [if_neg (by omega)] at hR
          obtain ⟨a4, a5, a6⟩ := a3 v
          generalize spS m t (w0 0) a (p + 2) w = R1 at *
          have F4 := frHD_tr F3 (frED_H f4)
          have m4 : μ4 493 10 = bOr (μ 493 10) (bShl 1 a) := (f4 493 10 (by omega) (by decide)).trans m3
          have c2 := a6 a ha
          rw [if_pos rfl] at c2
          refine q_goesOn t4 hm ⟨by omega, a2.2⟩ (fun s μ5 t5 f5 => ⟨_, rfl, rfl, fun s1 => absurd s1 (by decide), fun _ => ?_⟩) (fun s μ5 t5 f5 => ⟨_, rfl, rfl, fun _ => ?_, fun s1 => absurd rfl s1⟩)
          · rw [if_pos s.2] at hR
            have lt2 := tb_in s.2 (by decide)
            have R5 : RWm μ5 R1.2.2 := RWm_fr R4 (fun i => f5 494 i (Or.inl (by decide)))
            obtain ⟨d1, d2, d3⟩ := spS_ok (m := m) (t := t) (p := R1.2.1 + 1) a5 ha z.2 ⟨by omega, by omega⟩ (by omega)
            rw [← hR] at hy hn
            refine q_spS t5 hm ⟨by omega, by omega⟩ hs0 a5 ha ⟨by omega, by omega⟩ R5 (fun q μ6 t6 R6 f6 => ⟨rfl, rfl, ?_⟩) (fun q μ6 t6 f6 => ⟨rfl, rfl, hn q μ6 t6 (frHD_tr F4 (frHD_tr (frB_H f5) (frED_H f6)))⟩)
            obtain ⟨d4, d5, d6⟩ := d3 q
            refine hy q μ6 t6 R6 ?_ (frHD_tr F4 (frHD_tr (frB_H f5) (frED_H f6)))
            rw [f6 493 10 (by omega) (by decide), f5 493 10 (by omega), m4]
            refine mk _ ?_ (fun b hb hne => ?_)
            · rw [d6 a ha, if_pos rfl]; omega
            · rw [d6 b hb, if_neg hne, a6 b hb, if_neg hne]
          · rw [if_neg (fun s1 => s ⟨rfl, s1⟩)] at hR
            rw [← hR] at hy
            refine hy v μ5 t5 (RWm_fr R4 (fun i => f5 494 i (Or.inl (by decide)))) ?_ (frHD_tr F4 (frB_H f5))
            rw [f5 493 10 (by omega), m4]
            exact mk _ (by omega) (fun b hb hne => by rw [a6 b hb, if_neg hne])
        · rw [if_pos v] at hR
          rw [← hR] at hn
          refine q_goesOn t4 hm ⟨by omega, a2.2⟩ (fun s => absurd s.1 (by decide)) (fun _ μ5 t5 f5 => ⟨_, rfl, rfl, fun _ => hn v μ5 t5 (frHD_tr F3 (frHD_tr (frED_H f4) (frB_H f5))), fun s1 => absurd rfl s1⟩)
      · rw [if_pos y] at hR
        rw [← hR] at hn
        refine q_spb t3 hm ⟨by omega, by omega⟩ fun μ4 t4 f4 => ⟨rfl, rfl, q_goesOn t4 hm ⟨by omega, by omega⟩ (fun s => absurd s.1 (by decide)) (fun _ μ5 t5 f5 => ⟨_, rfl, rfl, fun _ => ?_, fun s1 => absurd rfl s1⟩)⟩
        exact hn rfl μ5 t5 (frHD_tr F2 (frHD_tr (frB_H f3) (frHD_tr (frED_H f4) (frB_H f5))))
    · rw [if_pos (hk2.mp x)] at hR
      exact q_badAt t1 fun μ2 t2 f2 => ⟨rfl, rfl, no p a μ2 hR hp.1 hp.2 t2 (frHD_tr (frB_H f1) (frB_H f2))⟩
  · rw [l1] at z
    rw [if_pos z] at hR
    rw [t1.2.2.1]
    exact ⟨fun _ => no p 0 μ1 hR hp.1 hp.2 t1 (frB_H f1), fun x => absurd x (by decide)⟩
end
