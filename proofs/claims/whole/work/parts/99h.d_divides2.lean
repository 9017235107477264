/-! divides (the class): the whole text -/
def dvR (σ : Sg) : Int × Dv := dvAll σ.tn σ.tp (σ.w 0) (σ.w 1) 160 0 0 (hsW (clrW σ.w) 0)
theorem RV_lim {w0 w : Dv} (h : RV w0 w) : w 4 ≤ 19 ∧ ∀ a : Int, 0 ≤ a → a < 5 → w (165 + a) ≤ 2 := ⟨by rw [h.2.1.2.2]; decide, fun a a0 a1 => (h.2.2.2.1 a a0 a1).1.2⟩
section
variable {n : Int} {μ : Mem} {Q : Option AV → Lay → Mem → Prop}
theorem c_readD {m : Int} {t : Int → Int} {w0 : Dv} (h0 : μ 473 0 = m) (h2 : ∀ i : Int, 0 ≤ i → i < m → μ 474 i = t i) (hm : 0 ≤ m ∧ m ≤ 160) (hc : CKr μ 2 w0) (hw : WK w0) (hr : TRu μ (hsW (clrW w0) 0))
    (hy : 0 < (dvAll m t (w0 0) (w0 1) 160 0 0 (hsW (clrW w0) 0)).1 → RV w0 (dvAll m t (w0 0) (w0 1) 160 0 0 (hsW (clrW w0) 0)).2 → ∀ μ', TRu μ' (dvAll m t (w0 0) (w0 1) 160 0 0 (hsW (clrW w0) 0)).2 → μ' 473 0 = 0 → (∀ x i : Int, (x < 174 ∨ 306 < x) → x ≠ 473 → (x < 476 ∨ 478 < x) → μ' x i = μ x i) → Q (some (0, (dvAll m t (w0 0) (w0 1) 160 0 0 (hsW (clrW w0) 0)).1)) (L0 n) μ')
    (hn : ¬ 0 < (dvAll m t (w0 0) (w0 1) 160 0 0 (hsW (clrW w0) 0)).1 → ∀ μ', μ' 473 0 = 0 → (∀ x i : Int, (x < 174 ∨ 306 < x) → x ≠ 473 → (x < 476 ∨ 478 < x) → μ' x i = μ x i) → Q (some (0, (dvAll m t (w0 0) (w0 1) 160 0 0 (hsW (clrW w0) 0)).1)) (L0 n) μ') : TR mX8_read 6 (0, 0) [(2, 473), (0, 0), (2, 2), (2, 174)] (L0 n) μ Q := by
  generalize hR : dvAll m t (w0 0) (w0 1) 160 0 0 (hsW (clrW w0) 0) = R at hy hn
  have S2 := hw.1.1
  have N2 := hw.1.2.1
  apply t_X8_read (layOK n) k473 k2 k174'
  have ckV : ∀ (μ1 : Mem), frD μ μ1 → CKr μ1 2 w0 := fun μ1 f => CKr_fr hc (fun x j x0 x1 => f x j (by omega) (by omega) (by omega))
  have fin : ∀ (μ1 : Mem), frD μ μ1 → ∀ x i : Int, (x < 174 ∨ 306 < x) → x ≠ 473 → (x < 476 ∨ 478 < x) → up μ1 473 0 0 x i = μ x i := fun μ1 f x i h1 h3 h4 => by rw [up_ne (Or.inl h3), f x i h1 (Or.inl h3) h4]
  have stop : ∀ (c p : Int) (w1 : Dv) (μ1 : Mem), (-100 - p, w1) = R → 0 ≤ p → p ≤ m → TPs μ1 m t p → frD μ μ1 → WA mX8_read 6 (0, 0) 11 [(2, 473), (0, 0), (2, 2), (2, 174), (0, c), (0, 0)] [] (L0 n) μ1 Q := by
    intro c p w1 μ1 e p0 p1 ht f
    rw [← e] at hn
    apply s_X8_read_11 (layOK n) k473 k2 k174'
    rw [up_ne (a := 473) (i := 1) (Or.inr (by decide)), ht.2.1]
    exact ⟨fun _ => ⟨⟨by omega, by omega⟩, hn (by show ¬ 0 < -100 - p; omega) _ (up_eq _ _ _ _) (fin μ1 f)⟩, fun z => absurd rfl z⟩
  have key : ∀ (d c : Nat) (p : Int) (w1 : Dv) (μ1 : Mem), c + d = 160 → dvAll m t (w0 0) (w0 1) d c p w1 = R → 0 ≤ p → p ≤ m → TPs μ1 m t p → RV w0 w1 → TRu μ1 w1 → frD μ μ1 → WA mX8_read 6 (0, 0) 11 [(2, 473), (0, 0), (2, 2), (2, 174), (0, (c : Int)), (0, 1)] [] (L0 n) μ1 Q := by
    intro d
    induction d with
    | zero =>
      intro c p w1 μ1 hcd e p0 p1 ht hrw hT f
      have e : (-100 - p, w1) = R := e
      rw [← e] at hn
      apply s_X8_read_11 (layOK n) k473 k2 k174'
      rw [up_ne (a := 473) (i := 1) (Or.inr (by decide)), ht.2.1]
      exact ⟨fun z => absurd z (by decide), fun _ => ⟨fun _ => ⟨⟨by omega, by omega⟩, hn (by show ¬ 0 < -100 - p; omega) _ (up_eq _ _ _ _) (fin μ1 f)⟩, fun z => absurd (show (160 : Int) ≤ (c : Int) by omega) z⟩⟩
    | succ d ih =>
      intro c p w1 μ1 hcd e p0 p1 ht hrw hT f
      unfold dvAll at e
      obtain ⟨r01, rp, rok⟩ := shS_ok (m := m) (t := t) (p := p) hrw N2.2 p1
      apply s_X8_read_11 (layOK n) k473 k2 k174'
      refine ⟨fun z => absurd z (by decide), fun _ => ⟨fun z => absurd z (by omega), fun _ => ⟨fun _ => ?_, fun z => absurd rfl z⟩⟩⟩
      refine c_shS ht hm.2 ⟨p0, p1⟩ S2 N2.2 (ckV μ1 f) hrw hT (fun z μ2 t2 T2 f2 => ⟨_, rfl, rfl, fun y => absurd y (by decide), fun _ => ?_⟩) (fun z μ2 t2 f2 => ⟨_, rfl, rfl, fun _ => ?_, fun y => absurd rfl y⟩)
      · obtain ⟨lt, rv, -⟩ := rok z
        rw [if_pos z] at e
        generalize shS m t (w0 0) (w0 1) p w1 = r at *
        rw [t2.1, t2.2.1]
        refine ⟨⟨by omega, by omega⟩, fun y => ?_, fun y => ?_⟩
        · rw [if_neg (by omega)] at e
          refine c_skips t2 hm.2 (by omega) (by decide) (fun x => ⟨_, rfl, rfl, ?_⟩) (fun x => ⟨_, rfl, rfl, ?_⟩)
          · rw [if_pos x] at e
            exact ih (c + 1) (r.2.1 + 1) r.2.2 _ (by omega) e (by omega) (by have := tb_in x (by decide); omega) (TPs_up t2) rv (TRu_fr T2 (RV_lim rv).1 (RV_lim rv).2 (fun x i x0 x1 => up_ne (by omega))) (frD_tr (frD_tr f f2) (frT_D frT_up))
          · rw [if_neg x] at e
            exact stop (c + 1) r.2.1 r.2.2 μ2 e (by omega) rp.2 t2 (frD_tr f f2)
        · rw [if_pos (by omega)] at e
          rw [← e] at hy
          exact hy (by show (0 : Int) < c + 1; omega) rv _ (TRu_fr T2 (RV_lim rv).1 (RV_lim rv).2 (fun x i x0 x1 => up_ne (by omega))) (up_eq _ _ _ _) (fin μ2 (frD_tr f f2))
      · rw [if_neg (by omega)] at e
        exact stop c _ _ μ2 e (by omega) rp.2 t2 (frD_tr f f2)
  exact key 160 0 0 _ (up μ 473 1 0) (by omega) hR (by omega) hm.1 ⟨by rw [up_ne (Or.inr (by decide))]; exact h0, up_eq _ _ _ _, fun i i0 i1 => by rw [up_ne (Or.inl (by decide))]; exact h2 i i0 i1⟩ (RV_0 N2.1) (TRu_fr hr (RV_lim (RV_0 N2.1)).1 (RV_lim (RV_0 N2.1)).2 (fun x i x0 x1 => up_ne (by omega))) (frT_D frT_up)
theorem CKr_low {c : Int} {w w' : Dv} (h : CKr μ c w) (he : ∀ i : Int, i < 165 → i ≠ 2 → i ≠ 3 → i ≠ 4 → w' i = w i) : CKr μ c w' :=
  ⟨by rw [he 0 (by decide) (by decide) (by decide) (by decide)]; exact h.1, by rw [he 1 (by decide) (by decide) (by decide) (by decide)]; exact h.2.1, fun a s a0 a1 s0 s1 => by
    rw [he (5 + 16 * a + s) (by omega) (by omega) (by omega) (by omega), he (85 + 16 * a + s) (by omega) (by omega) (by omega) (by omega)]
    exact h.2.2 a s a0 a1 s0 s1⟩
theorem dvW_low {w0 w : Dv} {u : Int} (h : RV w0 w) : ∀ i : Int, i < 165 → i ≠ 2 → i ≠ 3 → i ≠ 4 → dvW w u i = w0 i := fun i i0 i2 i3 i4 => by
  rw [dvW_at.2.2 i i2 i3]
  exact h.1 i i0 i2 i3 i4
theorem C_divides {σ : Sg} (hC : CSt μ σ) (ho : OKs σ)
    (hy : 0 < (dvR σ).1 → RV σ.w (dvR σ).2 → ∀ u, UNp (lowM (dvR σ).2) 0 u → ∀ μ', CSt μ' ((σ.setW (dvW (dvR σ).2 u)).setT 0 σ.tp) → frC μ μ' → Q (some (0, (dvR σ).1)) (L0 n) μ')
    (hf : 0 < (dvR σ).1 → ∀ u, UNp (lowM (dvR σ).2) 1 u → ∀ μ', CSt μ' (σ.setT 0 σ.tp) → frC μ μ' → Q (some (0, -3)) (L0 n) μ')
    (hn : ¬ 0 < (dvR σ).1 → ∀ μ', CSt μ' (σ.setT 0 σ.tp) → frC μ μ' → Q (some (0, (dvR σ).1)) (L0 n) μ') : TR mX9_divides 7 (0, 0) [(2, 1)] (L0 n) μ Q := by
  have cn := WK_cn ho.1
  obtain ⟨t0, t1, t2⟩ := ho.2.2.2.1
  have hC0 := hC
  obtain ⟨h1, h2, h3, h4, h5, h6, h7⟩ := hC
  apply t_X9_divides (layOK n) k1
  rw [rf_desk.1, rf_desk.2.2.2.1, rf_desk.2.2.2.2.1, rf_desk.2.2.2.2.2.2.2.1]
  refine c_X1_clear k174 fun μ1 g0 g1 g2 g3 g4 g5 => ⟨rfl, rfl, ?_⟩
  have f1 : ∀ x i, (x < 174 ∨ 306 < x) → μ1 x i = μ x i := fun x i hx => g5 x i (by omega) (by omega)
  obtain ⟨c3, c4, ca, ci⟩ := clrW_at (w := σ.w)
  have ca2 : ∀ a : Int, 0 ≤ a → a < 5 → hsW (clrW σ.w) 0 (165 + a) = 0 := fun a a0 a1 => by rw [hsW_ne (by omega)]; exact ca a a0 a1
  have T1 : TRu μ1 (hsW (clrW σ.w) 0) := by
    refine ⟨1, ⟨?_, ⟨?_, fun k k0 k1 => ?_⟩, fun a a0 a1 => ?_, fun a k a0 a1 k0 k1 => ?_⟩, ?_⟩
    · unfold DRu; rw [setU_3]; exact g2
    · rw [setU_ne (by decide), hsW_ne (by decide), c4]; exact g3
    · rw [setU_ne (by decide), hsW_ne (by decide), c4] at k1; omega
    · rw [setU_ne (by omega), ca2 a a0 a1]; exact g4 a a0 a1
    · rw [setU_ne (by omega), ca2 a a0 a1] at k1; omega
    · rw [g1]; exact UNp_nil lowM_0
  have tS : ∀ μ2 : Mem, μ2 473 0 = 0 → (∀ x i : Int, (x < 174 ∨ 306 < x) → x ≠ 473 → (x < 476 ∨ 478 < x) → μ2 x i = μ1 x i) → CSt μ2 (σ.setT 0 σ.tp) ∧ frC μ μ2 := fun μ2 e0 f2 =>
    ⟨CSt_T hC0 ho e0 (fun i i0 i1 => absurd i1 (by omega)) (fun x i hx => (f2 x i (by omega) (by omega) (by omega)).trans (f1 x i (by omega))), fun x i hx => (f2 x i (by omega) (by omega) (by omega)).trans (f1 x i (by omega))⟩
  refine c_readD (t := σ.tp) ((f1 473 0 (by omega)).trans h5.1) (fun i i0 i1 => (f1 474 i (by omega)).trans (h5.2 i i0 i1)) ⟨t0, t1⟩ (CKr_fr h1 (fun x i x0 x1 => f1 x i (by omega))) ho.1 T1 (fun pos rv μ2 T2 e0 f2 => ⟨_, rfl, rfl, fun z => absurd pos (by omega), fun _ => ?_⟩) (fun npos μ2 e0 f2 => ⟨_, rfl, rfl, fun z => ⟨fun _ => ?_, fun z2 => absurd z z2⟩, fun z => absurd (show 0 < (dvAll σ.tn σ.tp (σ.w 0) (σ.w 1) 160 0 0 (hsW (clrW σ.w) 0)).1 by omega) npos⟩)
  · obtain ⟨S2, F2⟩ := tS μ2 e0 f2
    obtain ⟨u, D2, U2⟩ := T2
    have hy := hy pos rv
    have hf := hf pos
    have er : (dvR σ).2 = (dvAll σ.tn σ.tp (σ.w 0) (σ.w 1) 160 0 0 (hsW (clrW σ.w) 0)).2 := rfl
    have e1 : (dvR σ).1 = (dvAll σ.tn σ.tp (σ.w 0) (σ.w 1) 160 0 0 (hsW (clrW σ.w) 0)).1 := rfl
    rw [er] at hy hf
    rw [e1] at hy
    generalize dvAll σ.tn σ.tp (σ.w 0) (σ.w 1) 160 0 0 (hsW (clrW σ.w) 0) = R at *
    have o : OKs (σ.setT 0 σ.tp) := OK_T ho ⟨by decide, by decide, fun i i0 i1 => absurd i1 (by omega)⟩
    obtain ⟨l4, lm⟩ := RV_lim rv
    refine ⟨fun z => ⟨fun y => absurd pos (by omega), fun _ => ?_⟩, fun z => ?_⟩
    · rw [z] at U2
      have D3 : DR (up μ2 174 0 1) 174 (setU R.2 u) := DR_frame D2 (by rw [setU_ne (by decide)]; exact l4) (fun a a0 a1 => by rw [setU_ne (by omega)]; exact lm a a0 a1) (fun x i hx => up_ne (by omega))
      refine c_X1_copy k41 k174 (by decide) D3 ⟨by rw [setU_ne (by decide), rv.2.1.2.2]; decide, by rw [setU_ne (by decide)]; exact l4⟩ (fun a a0 a1 => by rw [setU_ne (by omega)]; exact (rv.2.2.2.1 a a0 a1).1) (Or.inr (up_eq _ _ _ _)) (Or.inl (by rw [up_ne (Or.inr (by decide))]; exact z)) fun μ3 D4 e3 e4 f3 => ⟨rfl, rfl, ?_⟩
      have f3' : ∀ x i, (x < 41 ∨ 173 < x) → x ≠ 174 → μ3 x i = μ2 x i := fun x i hx hx2 => by rw [f3 x i (by unfold outD; omega), up_ne (Or.inl hx2)]
      have CK : CKr μ3 2 (dvW R.2 u) := CKr_low (CKr_fr h1 (fun x i x0 x1 => (f3' x i (by omega) (by omega)).trans ((f2 x i (by omega) (by omega) (by omega)).trans (f1 x i (by omega))))) (dvW_low rv)
      have DV : DVr μ3 41 (dvW R.2 u) := ⟨by rw [dvW_at.1, e3, up_eq], DR_congr D4 (fun i hi => hsW_ne (by omega))⟩
      exact hy u U2 μ3 (CSt_w S2 o CK DV (fun x i hx => f3' x i (by omega) (by omega))) (fun x i hx => (f3' x i (by omega) (by omega)).trans (F2 x i hx))
    · have fl := UNp_fl U2
      rw [show μ2 174 1 = 1 by omega] at U2
      exact hf u U2 μ2 S2 F2
  · obtain ⟨S2, F2⟩ := tS μ2 e0 f2
    exact hn npos μ2 S2 F2
end
