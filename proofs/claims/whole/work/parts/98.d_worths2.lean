/-! worths (the class) -/
def wrR (σ : Sg) : Int × Dv := rdAll σ.tn σ.tp (σ.w 0).toNat (σ.w 1) 160 0 0 σ.w
theorem RW2_DV {μ : Mem} {D : Int} {w w' : Dv} (h : DVr μ D w) (hr : RW2 w w') : DVr μ D w' := ⟨by rw [h.1, hr.1 2 (Or.inl (by decide))], DR_congr h.2 (fun i hi => hr.1 i (by omega))⟩
section
variable {n : Int} {μ : Mem} {Q : Option AV → Lay → Mem → Prop}
theorem c_readW {m : Int} {t : Int → Int} {w0 : Dv} (h0 : μ 473 0 = m) (h2 : ∀ i : Int, 0 ≤ i → i < m → μ 474 i = t i) (hm : 0 ≤ m ∧ m ≤ 160) (hc : CKr μ 15 w0) (hw : WK w0)
    (hy : ∀ μ', CKr μ' 15 (rdAll m t (w0 0).toNat (w0 1) 160 0 0 w0).2 → RW2 w0 (rdAll m t (w0 0).toNat (w0 1) 160 0 0 w0).2 → μ' 473 0 = 0 → (∀ x i : Int, (x < 15 ∨ 27 < x) → x ≠ 473 → μ' x i = μ x i) → Q (some (0, (rdAll m t (w0 0).toNat (w0 1) 160 0 0 w0).1)) (L0 n) μ') : TR mX8_read 6 (0, 0) [(2, 473), (0, 1), (2, 15), (2, 174)] (L0 n) μ Q := by
  generalize hR : rdAll m t (w0 0).toNat (w0 1) 160 0 0 w0 = R at hy
  apply t_X8_read (layOK n) k473 k15 k174'
  have ckV : ∀ (μ1 : Mem) (i v : Int) (w1 : Dv), CKr μ1 15 w1 → CKr (up μ1 473 i v) 15 w1 := fun μ1 i v w1 hc => CKr_fr hc (fun x j x0 x1 => up_ne (Or.inl (by omega)))
  have stop : ∀ (c p : Int) (w1 : Dv) (μ1 : Mem), (-100 - p, w1) = R → 0 ≤ p → p ≤ m → TPs μ1 m t p → CKr μ1 15 w1 → RW2 w0 w1 → frV μ μ1 → WA mX8_read 6 (0, 0) 11 [(2, 473), (0, 1), (2, 15), (2, 174), (0, c), (0, 0)] [] (L0 n) μ1 Q := by
    intro c p w1 μ1 e p0 p1 ht hck hrw f
    have hy := hy (up μ1 473 0 0)
    rw [← e] at hy
    apply s_X8_read_11 (layOK n) k473 k15 k174'
    rw [up_ne (a := 473) (i := 1) (Or.inr (by decide)), ht.2.1]
    exact ⟨fun _ => ⟨⟨by omega, by omega⟩, hy (ckV μ1 0 0 w1 hck) hrw (up_eq _ _ _ _) (fun x i h1 h2 => by rw [up_ne (Or.inl h2), f x i h1 (Or.inl h2)])⟩, fun z => absurd rfl z⟩
  have key : ∀ (d c : Nat) (p : Int) (w1 : Dv) (μ1 : Mem), c + d = 160 → rdAll m t (w0 0).toNat (w0 1) d c p w1 = R → 0 ≤ p → p ≤ m → TPs μ1 m t p → CKr μ1 15 w1 → RW2 w0 w1 → frV μ μ1 → WA mX8_read 6 (0, 0) 11 [(2, 473), (0, 1), (2, 15), (2, 174), (0, (c : Int)), (0, 1)] [] (L0 n) μ1 Q := by
    intro d
    induction d with
    | zero =>
      intro c p w1 μ1 hcd e p0 p1 ht hck hrw f
      have e : (-100 - p, w1) = R := e
      have hy := hy (up μ1 473 0 0)
      rw [← e] at hy
      apply s_X8_read_11 (layOK n) k473 k15 k174'
      rw [up_ne (a := 473) (i := 1) (Or.inr (by decide)), ht.2.1]
      exact ⟨fun z => absurd z (by decide), fun _ => ⟨fun _ => ⟨⟨by omega, by omega⟩, hy (ckV μ1 0 0 w1 hck) hrw (up_eq _ _ _ _) (fun x i h1 h2 => by rw [up_ne (Or.inl h2), f x i h1 (Or.inl h2)])⟩, fun z => absurd (show (160 : Int) ≤ (c : Int) by omega) z⟩⟩
    | succ d ih =>
      intro c p w1 μ1 hcd e p0 p1 ht hck hrw f
      unfold rdAll at e
      apply s_X8_read_11 (layOK n) k473 k15 k174'
      refine ⟨fun z => absurd z (by decide), fun _ => ⟨fun z => absurd z (by omega), fun _ => ⟨fun z => absurd z (by decide), fun _ => ?_⟩⟩⟩
      refine c_rdW (p := p) (w := w1) ht hm.2 ⟨p0, p1⟩ hck hrw fun μ2 r hr r01 rp rlt ht2 hck2 hrw2 f2 => ⟨_, rfl, rfl, fun z => ?_, fun z => ?_⟩
      · rw [← hr, if_neg (by omega)] at e
        rw [z]
        exact stop c r.2.1 r.2.2 μ2 e (by omega) rp.2 ht2 hck2 hrw2 (frV_tr f f2)
      · have r1 : r.1 = 1 := by omega
        have lt := rlt r1
        rw [← hr, if_pos r1] at e
        rw [ht2.1, ht2.2.1]
        refine ⟨⟨by omega, by omega⟩, fun y => ?_, fun y => ?_⟩
        · rw [if_neg (by omega)] at e
          refine c_skips ht2 hm.2 (by omega) (by decide) (fun x => ⟨_, rfl, rfl, ?_⟩) (fun x => ⟨_, rfl, rfl, ?_⟩)
          · rw [if_pos x] at e
            exact ih (c + 1) (r.2.1 + 1) r.2.2 _ (by omega) e (by omega) (by omega) (TPs_up ht2) (ckV μ2 _ _ _ hck2) hrw2 (fun x i h1 h2 => by rw [up_ne h2]; exact (frV_tr f f2) x i h1 h2)
          · rw [if_neg x] at e
            exact stop (c + 1) r.2.1 r.2.2 μ2 e (by omega) rp.2 ht2 hck2 hrw2 (frV_tr f f2)
        · rw [if_pos (by omega)] at e
          have hy := hy (up μ2 473 0 0)
          rw [← e] at hy
          exact hy (ckV μ2 0 0 _ hck2) hrw2 (up_eq _ _ _ _) (fun x i h1 h2 => by rw [up_ne (Or.inl h2), (frV_tr f f2) x i h1 (Or.inl h2)])
  refine key 160 0 0 w0 (up μ 473 1 0) (by omega) hR (by omega) hm.1 ⟨by rw [up_ne (Or.inr (by decide))]; exact h0, up_eq _ _ _ _, fun i i0 i1 => by rw [up_ne (Or.inl (by decide))]; exact h2 i i0 i1⟩ (ckV μ 1 0 w0 hc) (RW2_rf hw) (fun x i h1 h2 => up_ne h2)
theorem C_worths {σ : Sg} (hC : CSt μ σ) (ho : OKs σ)
    (hy : 0 < (wrR σ).1 → RW2 σ.w (wrR σ).2 → ∀ μ', CSt μ' ((σ.setW (wrR σ).2).setT 0 σ.tp) → frC μ μ' → Q (some (0, (wrR σ).1)) (L0 n) μ')
    (hn : ¬ 0 < (wrR σ).1 → ∀ μ', CSt μ' (σ.setT 0 σ.tp) → frC μ μ' → Q (some (0, (wrR σ).1)) (L0 n) μ') : TR mX9_worths 7 (0, 0) [(2, 1)] (L0 n) μ Q := by
  have cn := WK_cn ho.1
  obtain ⟨t0, t1, t2⟩ := ho.2.2.2.1
  obtain ⟨h1, h2, h3, h4, h5, h6, h7⟩ := hC
  apply t_X9_worths (layOK n) k1
  rw [rf_desk.1, rf_desk.2.1, rf_desk.2.2.2.2.1, rf_desk.2.2.2.2.2.2.2.1]
  refine c_X0_copy k15 k2 (by decide) fun μ1 g1 g2 g3 g4 => ⟨rfl, rfl, ?_⟩
  have f1 : ∀ x i, (x < 15 ∨ 27 < x) → μ1 x i = μ x i := fun x i hx => g4 x i (by omega) (by unfold inRow; omega)
  have c15 : CKr μ1 15 σ.w := CKr_copy h1 g1 g2 g3
  refine c_readW (t := σ.tp) ((f1 473 0 (by omega)).trans h5.1) (fun i i0 i1 => (f1 474 i (by omega)).trans (h5.2 i i0 i1)) ⟨t0, t1⟩ c15 ho.1 fun μ2 y1 y2 y3 y4 => ⟨_, rfl, rfl, fun z => ?_, fun z => ?_⟩
  · have c : CSt μ2 (σ.setT 0 σ.tp) := CSt_T ⟨h1, h2, h3, h4, h5, h6, h7⟩ ho y3 (fun i i0 i1 => absurd i1 (by omega)) (fun x i hx => (y4 x i (by omega) (by omega)).trans (f1 x i (by omega)))
    exact hn (by show ¬ 0 < (rdAll σ.tn σ.tp (σ.w 0).toNat (σ.w 1) 160 0 0 σ.w).1; omega) μ2 c (fun x i hx => (y4 x i (by omega) (by omega)).trans (f1 x i (by omega)))
  · have c : CSt μ2 (σ.setT 0 σ.tp) := CSt_T ⟨h1, h2, h3, h4, h5, h6, h7⟩ ho y3 (fun i i0 i1 => absurd i1 (by omega)) (fun x i hx => (y4 x i (by omega) (by omega)).trans (f1 x i (by omega)))
    have o : OKs (σ.setT 0 σ.tp) := OK_T ho ⟨by decide, by decide, fun i i0 i1 => absurd i1 (by omega)⟩
    refine c_X0_copy k2 k15 (by decide) fun μ3 x1 x2 x3 x4 => ⟨rfl, rfl, ?_⟩
    have f3 : ∀ x i, (x < 2 ∨ 14 < x) → μ3 x i = μ2 x i := fun x i hx => x4 x i (by omega) (by unfold inRow; omega)
    have d2 : DVr μ3 41 σ.w := DVr_fr h2 cn.1.2 (fun a a0 a1 => (cn.2 a a0 a1).2) (fun x i hx => (f3 x i (by omega)).trans ((y4 x i (by omega) (by omega)).trans (f1 x i (by omega))))
    have c3 : CSt μ3 ((σ.setT 0 σ.tp).setW (wrR σ).2) := CSt_w c o (CKr_copy y1 x1 x2 x3) (RW2_DV d2 y2) (fun x i hx => f3 x i (by omega))
    exact hy (by show 0 < (rdAll σ.tn σ.tp (σ.w 0).toNat (σ.w 1) 160 0 0 σ.w).1; omega) y2 μ3 c3 (fun x i hx => (f3 x i (by omega)).trans ((y4 x i (by omega) (by omega)).trans (f1 x i (by omega))))
end
