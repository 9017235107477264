/-! worths: reading a text (the class) -/
def tb (m : Int) (t : Int → Int) (p : Int) : Int := if p < m then t p else -1
def fgS (m : Int) (t : Int → Int) (p : Int) : Int := if 48 ≤ tb m t p ∧ tb m t p ≤ 57 then tb m t p - 48 else -1
def wlp (m : Int) (t : Int → Int) (a tr : Int) : Nat → Nat → Int → Dv → Int × Int × Dv
  | 0, _, p, w => (0, p, w)
  | d + 1, k, p, w => if fgS m t p < 0 then (0, p, w) else if tb m t (p + 1) = 44 then wlp m t a tr d (k + 1) (p + 2) (if tr = 0 then updW w (85 + 16 * a + k) (fgS m t p) else updW (updW w (85 + 16 * a + k) (fgS m t p)) (5 + 16 * a + k) (fgS m t p)) else (1, p + 1, if tr = 0 then updW w (85 + 16 * a + k) (fgS m t p) else updW (updW w (85 + 16 * a + k) (fgS m t p)) (5 + 16 * a + k) (fgS m t p))
def rdW (m : Int) (t : Int → Int) (S : Nat) (N p : Int) (w : Dv) : Int × Int × Dv :=
  if tb m t p = 119 ∨ tb m t p = 116 then (if 0 ≤ fgS m t (p + 1) ∧ fgS m t (p + 1) < N then (if tb m t (p + 2) = 58 then wlp m t (fgS m t (p + 1)) (if tb m t p = 119 then 1 else 0) S 0 (p + 3) w else (0, p + 2, w)) else (0, p + 1, w)) else (0, p, w)
def rdAll (m : Int) (t : Int → Int) (S : Nat) (N : Int) : Nat → Int → Int → Dv → Int × Dv
  | 0, _, p, w => (-100 - p, w)
  | d + 1, c, p, w => if (rdW m t S N p w).1 = 1 then (if m ≤ (rdW m t S N p w).2.1 then (c + 1, (rdW m t S N p w).2.2) else if tb m t (rdW m t S N p w).2.1 = 59 then rdAll m t S N d (c + 1) ((rdW m t S N p w).2.1 + 1) (rdW m t S N p w).2.2 else (-100 - (rdW m t S N p w).2.1, (rdW m t S N p w).2.2)) else (-100 - (rdW m t S N p w).2.1, (rdW m t S N p w).2.2)
theorem tb_in {m p v : Int} {t : Int → Int} (h : tb m t p = v) (hv : v ≠ -1) : p < m := by
  unfold tb at h
  split at h
  · assumption
  · exact absurd h.symm hv
theorem fgS_in {m p : Int} {t : Int → Int} (h : ¬ fgS m t p < 0) : p < m ∧ 0 ≤ fgS m t p ∧ fgS m t p ≤ 9 := by
  unfold fgS at *
  split at h
  · rename_i q
    rw [if_pos q]
    refine ⟨?_, by omega, by omega⟩
    unfold tb at q
    split at q
    · assumption
    · omega
  · omega
/-- only worths are new, and the form is kept -/
def RW2 (w w' : Dv) : Prop := (∀ i : Int, i < 5 ∨ 165 ≤ i → w' i = w i) ∧ WK w'
theorem RW2_rf {w : Dv} (h : WK w) : RW2 w w := ⟨fun _ _ => rfl, h⟩
theorem RW2_up {w w' : Dv} {i v : Int} (h : RW2 w w') (hi : 5 ≤ i ∧ i < 165) (hv : 0 ≤ v ∧ v ≤ 9) : RW2 w (updW w' i v) := ⟨fun j hj => by
  unfold updW
  rw [if_neg (by omega)]
  exact h.1 j hj, upd_WK h.2 hi hv⟩
/-- a tape is read: its bytes, where the reader is -/
def TPs (μ : Mem) (m : Int) (t : Int → Int) (p : Int) : Prop := μ 473 0 = m ∧ μ 473 1 = p ∧ ∀ i : Int, 0 ≤ i → i < m → μ 474 i = t i
section
variable {n : Int} {μ : Mem} {Q : Option AV → Lay → Mem → Prop}
theorem k15 : isK (L0 n) 15 (0, 0) := isK0 (by decide) (by decide) (by decide +kernel)
theorem TPs_up {m p q : Int} {t : Int → Int} (h : TPs μ m t p) : TPs (up μ 473 1 q) m t q := ⟨by rw [up_ne (Or.inr (by decide))]; exact h.1, up_eq _ _ _ _, fun i i0 i1 => by rw [up_ne (Or.inl (by decide))]; exact h.2.2 i i0 i1⟩
theorem c_skips {m p c : Int} {t : Int → Int} (h : TPs μ m t p) (hm : m ≤ 160) (hp : 0 ≤ p) (hc : c ≠ -1) (hy : tb m t p = c → Q (some (0, 1)) (L0 n) (up μ 473 1 (p + 1))) (hn : tb m t p ≠ c → Q (some (0, 0)) (L0 n) μ) : TR mX8_skips 0 (0, 0) [(2, 473), (0, c)] (L0 n) μ Q := by
  apply t_X8_skips (layOK n) k473
  rw [rf_tape.1, h.1, h.2.1]
  unfold tb at hy hn
  refine ⟨fun q => ?_, fun q => ?_⟩
  · rw [if_neg (by omega)] at hn
    exact hn (fun e => hc e.symm)
  · rw [if_pos (by omega)] at hy hn
    rw [h.2.2 p hp (by omega)]
    exact ⟨⟨hp, by omega⟩, fun e => ⟨⟨by omega, by omega⟩, hy e⟩, hn⟩
theorem c_figure {m p : Int} {t : Int → Int} (h : TPs μ m t p) (hm : m ≤ 160) (hp : 0 ≤ p) (hy : Q (some (0, fgS m t p)) (L0 n) μ) : TR mX8_figure 0 (0, 0) [(2, 473)] (L0 n) μ Q := by
  apply t_X8_figure (layOK n) k473
  rw [rf_tape.1, h.1, h.2.1]
  unfold fgS at hy
  refine ⟨fun q => ?_, fun q => ?_⟩
  · have et : tb m t p = -1 := by unfold tb; rw [if_neg (by omega)]
    rw [et, if_neg (by omega)] at hy
    exact hy
  · have et : tb m t p = t p := by unfold tb; rw [if_pos (by omega)]
    rw [et] at hy
    rw [h.2.2 p hp (by omega)]
    refine ⟨⟨hp, by omega⟩, fun q2 => ?_, fun q2 => ⟨fun q3 => ⟨⟨by omega, by omega⟩, ?_⟩, fun q3 => ?_⟩⟩
    · rw [if_neg (by omega)] at hy; exact hy
    · rw [if_pos (by omega)] at hy; exact hy
    · rw [if_neg (by omega)] at hy; exact hy
theorem told15 {a : Int} (ha : 0 ≤ a ∧ a < 5) : rf (L0 n) (rf (L0 n) 15 3) a = 23 + a ∧ rf (L0 n) (rf (L0 n) 15 2) a = 17 + a := by
  rw [(ck_rf (Or.inr (Or.inl rfl))).1, (ck_rf (Or.inr (Or.inl rfl))).2, (ck_rows (Or.inr (Or.inl rfl)) ha).1, (ck_rows (Or.inr (Or.inl rfl)) ha).2]
  omega
/-- what reading changes -/
def frV (μ μ' : Mem) : Prop := ∀ x i : Int, (x < 15 ∨ 27 < x) → (x ≠ 473 ∨ i ≠ 1) → μ' x i = μ x i
theorem frV_tr {μ μ' μ'' : Mem} (h : frV μ μ') (h' : frV μ' μ'') : frV μ μ'' := fun x i h1 h2 => (h' x i h1 h2).trans (h x i h1 h2)
theorem CKr_15 {w : Dv} {a s v : Int} (h : CKr μ 15 w) (ha : 0 ≤ a ∧ a < 5) (hs : 0 ≤ s ∧ s < 16) : CKr (up μ (23 + a) s v) 15 (updW w (85 + 16 * a + s) v) ∧ CKr (up μ (17 + a) s v) 15 (updW w (5 + 16 * a + s) v) := by
  constructor
  · refine ⟨?_, ?_, fun b r b0 b1 r0 r1 => ?_⟩
    · rw [up_ne (by omega), h.1]; unfold updW; rw [if_neg (by omega)]
    · rw [up_ne (by omega), h.2.1]; unfold updW; rw [if_neg (by omega)]
    · obtain ⟨e1, e2⟩ := h.2.2 b r b0 b1 r0 r1
      unfold updW
      refine ⟨by rw [up_ne (by omega), if_neg (by omega)]; exact e1, ?_⟩
      by_cases z : b = a ∧ r = s
      · obtain ⟨rfl, rfl⟩ := z
        rw [show (15 : Int) + 8 + b = 23 + b by omega, up_eq, if_pos rfl]
      · rw [up_ne (by omega), if_neg (by omega)]; exact e2
  · refine ⟨?_, ?_, fun b r b0 b1 r0 r1 => ?_⟩
    · rw [up_ne (by omega), h.1]; unfold updW; rw [if_neg (by omega)]
    · rw [up_ne (by omega), h.2.1]; unfold updW; rw [if_neg (by omega)]
    · obtain ⟨e1, e2⟩ := h.2.2 b r b0 b1 r0 r1
      unfold updW
      refine ⟨?_, by rw [up_ne (by omega), if_neg (by omega)]; exact e2⟩
      by_cases z : b = a ∧ r = s
      · obtain ⟨rfl, rfl⟩ := z
        rw [show (15 : Int) + 2 + b = 17 + b by omega, up_eq, if_pos rfl]
      · rw [up_ne (by omega), if_neg (by omega)]; exact e1
theorem c_rdW {m p : Int} {t : Int → Int} {w0 w : Dv} (h : TPs μ m t p) (hm : m ≤ 160) (hp : 0 ≤ p ∧ p ≤ m) (hc : CKr μ 15 w) (hw : RW2 w0 w)
    (hy : ∀ μ' r, r = rdW m t (w0 0).toNat (w0 1) p w → (r.1 = 0 ∨ r.1 = 1) → (p ≤ r.2.1 ∧ r.2.1 ≤ m) → (r.1 = 1 → p < r.2.1) → TPs μ' m t r.2.1 → CKr μ' 15 r.2.2 → RW2 w0 r.2.2 → frV μ μ' → Q (some (0, r.1)) (L0 n) μ') : TR mX8_readWorths 1 (0, 0) [(2, 473), (2, 15)] (L0 n) μ Q := by
  have S16 := hw.2.1.1
  have N5 := hw.2.1.2.1
  have e0 := hw.1 0 (Or.inl (by decide))
  have e1 := hw.1 1 (Or.inl (by decide))
  rw [e0] at S16
  rw [e1] at N5
  have upV : ∀ (μ1 : Mem) (q : Int), frV μ μ1 → frV μ (up μ1 473 1 q) := fun μ1 q f x i h1 h2 => by rw [up_ne h2]; exact f x i h1 h2
  have ckV : ∀ (μ1 : Mem) (q : Int) (w1 : Dv), CKr μ1 15 w1 → CKr (up μ1 473 1 q) 15 w1 := fun μ1 q w1 hc => CKr_fr hc (fun x i x0 x1 => up_ne (Or.inl (by omega)))
  -- the numbers
  have nums : ∀ (a tr : Int), 0 ≤ a → a < w0 1 → (tr = 0 ∨ tr = 1) → ∀ (d k : Nat) (q : Int) (w1 : Dv) (μ1 : Mem), k + d = (w0 0).toNat → p < q → q ≤ m → rdW m t (w0 0).toNat (w0 1) p w = wlp m t a tr d k q w1 → TPs μ1 m t q → CKr μ1 15 w1 → RW2 w0 w1 → frV μ μ1 → WA mX8_readWorths 1 (0, 0) 61 [(2, 473), (2, 15), (0, tr), (0, a), (0, (k : Int)), (9, 0)] [] (L0 n) μ1 Q := by
    intro a tr a0 a1 htr d
    induction d with
    | zero =>
      intro k q w1 μ1 hk q0 q1 er ht hck hrw f
      have e5 : μ1 15 0 = w0 0 := by rw [hck.1, hrw.1 0 (Or.inl (by decide))]
      have er : rdW m t (w0 0).toNat (w0 1) p w = (0, q, w1) := er
      apply s_X8_readWorths_61 (layOK n) k473 k15
      rw [e5]
      exact ⟨fun _ => hy μ1 _ er.symm (Or.inl rfl) ⟨by show p ≤ q; omega, q1⟩ (fun z => absurd (show (0 : Int) = 1 from z) (by decide)) ht hck hrw f, fun z => absurd (show w0 0 ≤ (k : Int) by omega) z⟩
    | succ d ih =>
      intro k q w1 μ1 hk q0 q1 er ht hck hrw f
      have e5 : μ1 15 0 = w0 0 := by rw [hck.1, hrw.1 0 (Or.inl (by decide))]
      have ha : 0 ≤ a ∧ a < 5 := by omega
      have hs : 0 ≤ (k : Int) ∧ (k : Int) < 16 := by omega
      unfold wlp at er
      apply s_X8_readWorths_61 (layOK n) k473 k15
      rw [e5]
      refine ⟨fun z => absurd z (by omega), fun _ => c_figure ht hm (by omega) ⟨_, rfl, rfl, fun z => ?_, fun z => ?_⟩⟩
      · obtain ⟨f1, f2, f3⟩ := fgS_in (show ¬ fgS m t q < 0 by omega)
        rw [if_neg (by omega)] at er
        rw [ht.2.1, (told15 ha).1, (told15 ha).2]
        generalize fgS m t q = v at *
        have t2 : TPs (up μ1 473 1 (q + 1)) m t (q + 1) := TPs_up ht
        have c2 := ckV μ1 (q + 1) w1 hck
        have v2 := upV μ1 (q + 1) f
        generalize up μ1 473 1 (q + 1) = μ2 at *
        have tell : ∀ (w2 : Dv) (μ3 : Mem), w2 = (if tr = 0 then updW w1 (85 + 16 * a + k) v else updW (updW w1 (85 + 16 * a + k) v) (5 + 16 * a + k) v) → TPs μ3 m t (q + 1) → CKr μ3 15 w2 → RW2 w0 w2 → frV μ μ3 → TR mX8_skips 0 (0, 0) [(2, 473), (0, 44)] (L0 n) μ3 (fun r10 L11 μ12 => ∃ w13, r10 = some (0, w13) ∧ (L0 n) = L11 ∧ (¬ w13 = 0 → (inI ((k : Int) + 1)) ∧ WA mX8_readWorths 1 (0, 0) 61 [(2, 473), (2, 15), (0, tr), (0, a), (0, ((k : Int) + 1)), (9, 0)] [] (L0 n) μ12 Q) ∧ (w13 = 0 → Q (some (0, 1)) (L0 n) μ12)) := by
          intro w2 μ3 ew t3 c3 r3 f3'
          rw [← ew] at er
          refine c_skips t3 hm (by omega) (by decide) (fun y => ⟨_, rfl, rfl, fun _ => ⟨⟨by omega, by omega⟩, ?_⟩, fun y2 => absurd y2 (by decide)⟩) (fun y => ⟨_, rfl, rfl, fun y2 => absurd rfl y2, fun _ => ?_⟩)
          · rw [if_pos y] at er
            have q3 := tb_in y (by decide)
            rw [show q + 1 + 1 = q + 2 by omega]
            exact ih (k + 1) (q + 2) w2 _ (by omega) (by omega) (by omega) er (TPs_up t3) (ckV μ3 _ w2 c3) r3 (upV μ3 _ f3')
          · rw [if_neg y] at er
            exact hy μ3 _ er.symm (Or.inr rfl) ⟨by show p ≤ q + 1; omega, by show q + 1 ≤ m; omega⟩ (fun _ => by show p < q + 1; omega) t3 c3 r3 f3'
        have g1 : RW2 w0 (updW w1 (85 + 16 * a + k) v) := RW2_up hrw ⟨by omega, by omega⟩ ⟨f2, f3⟩
        have c3 := (CKr_15 (v := v) c2 ha hs).1
        have t3 : TPs (up μ2 (23 + a) k v) m t (q + 1) := ⟨by rw [up_ne (by omega)]; exact t2.1, by rw [up_ne (by omega)]; exact t2.2.1, fun i i0 i1 => by rw [up_ne (by omega)]; exact t2.2.2 i i0 i1⟩
        have v3 : frV μ (up μ2 (23 + a) k v) := fun x i h1 h2 => by rw [up_ne (by omega)]; exact v2 x i h1 h2
        refine ⟨⟨by omega, by omega⟩, ha, hs, fun y => ?_, fun y => ?_⟩
        · exact tell _ _ (by rw [if_pos y]) t3 c3 g1 v3
        · refine tell _ _ (by rw [if_neg y]) ⟨by rw [up_ne (by omega)]; exact t3.1, by rw [up_ne (by omega)]; exact t3.2.1, fun i i0 i1 => by rw [up_ne (by omega)]; exact t3.2.2 i i0 i1⟩ (CKr_15 (v := v) c3 ha hs).2 (RW2_up g1 ⟨by omega, by omega⟩ ⟨f2, f3⟩) (fun x i h1 h2 => by rw [up_ne (by omega)]; exact v3 x i h1 h2)
      · rw [if_pos (by omega)] at er
        exact hy μ1 _ er.symm (Or.inl rfl) ⟨by show p ≤ q; omega, q1⟩ (fun z => absurd (show (0 : Int) = 1 from z) (by decide)) ht hck hrw f
  -- whose
  have whose : ∀ (tr : Int) (μ1 : Mem), (tr = 0 ∨ tr = 1) → p < m → tr = (if tb m t p = 119 then 1 else 0) → (tb m t p = 119 ∨ tb m t p = 116) → TPs μ1 m t (p + 1) → CKr μ1 15 w → frV μ μ1 → TR mX8_figure 0 (0, 0) [(2, 473)] (L0 n) μ1 (fun r5 L6 μ7 => ∃ w8, r5 = some (0, w8) ∧ (L0 n) = L6 ∧ TR mX0_hasAgent 0 (0, 0) [(2, 15), (0, w8)] (L0 n) μ7 (fun r9 L10 μ11 => ∃ w12, r9 = some (0, w12) ∧ (L0 n) = L10 ∧ (¬ w12 = 0 → (inI ((μ11 473 1) + 1)) ∧ TR mX8_skips 0 (0, 0) [(2, 473), (0, 58)] (L0 n) (up μ11 473 1 (((μ11 473 1) + 1))) (fun r14 L15 μ16 => ∃ w17, r14 = some (0, w17) ∧ (L0 n) = L15 ∧ (¬ w17 = 0 → WA mX8_readWorths 1 (0, 0) 61 [(2, 473), (2, 15), (0, tr), (0, w8), (0, 0), (9, 0)] [] (L0 n) μ16 Q) ∧ (w17 = 0 → Q (some (0, 0)) (L0 n) μ16))) ∧ (w12 = 0 → Q (some (0, 0)) (L0 n) μ11))) := by
    intro tr μ1 htr hpm etr hb t1 c1 f1
    have er : rdW m t (w0 0).toNat (w0 1) p w = (if 0 ≤ fgS m t (p + 1) ∧ fgS m t (p + 1) < w0 1 then (if tb m t (p + 2) = 58 then wlp m t (fgS m t (p + 1)) (if tb m t p = 119 then 1 else 0) (w0 0).toNat 0 (p + 3) w else (0, p + 2, w)) else (0, p + 1, w)) := by
      unfold rdW
      rw [if_pos hb]
    rw [← etr] at er
    refine c_figure t1 hm (by omega) ⟨_, rfl, rfl, c_hasA (w := w) k15 c1 fun r hr => ⟨r, rfl, rfl, fun z => ?_, fun z => ?_⟩⟩
    · have hr2 : 0 ≤ fgS m t (p + 1) ∧ fgS m t (p + 1) < w 1 := by omega
      rw [e1] at hr2
      rw [if_pos hr2] at er
      obtain ⟨f5, -, -⟩ := fgS_in (show ¬ fgS m t (p + 1) < 0 by omega)
      rw [t1.2.1]
      refine ⟨⟨by omega, by omega⟩, ?_⟩
      rw [show p + 1 + 1 = p + 2 by omega]
      refine c_skips (TPs_up t1) hm (by omega) (by decide) (fun y => ⟨_, rfl, rfl, fun _ => ?_, fun y2 => absurd y2 (by decide)⟩) (fun y => ⟨_, rfl, rfl, fun y2 => absurd rfl y2, fun _ => ?_⟩)
      · rw [if_pos y] at er
        have q3 := tb_in y (by decide)
        have nx := nums (fgS m t (p + 1)) tr hr2.1 hr2.2 htr (w0 0).toNat 0 (p + 3) w (up (up μ1 473 1 (p + 2)) 473 1 (p + 2 + 1)) (by omega) (by omega) (by omega) er
        rw [show p + 2 + 1 = p + 3 by omega] at nx ⊢
        exact nx (TPs_up (TPs_up t1)) (ckV _ _ w (ckV μ1 _ w c1)) hw (upV _ _ (upV μ1 _ f1))
      · rw [if_neg y] at er
        exact hy _ _ er.symm (Or.inl rfl) ⟨by show p ≤ p + 2; omega, by show p + 2 ≤ m; omega⟩ (fun z => absurd (show (0 : Int) = 1 from z) (by decide)) (TPs_up t1) (ckV μ1 _ w c1) hw (upV μ1 _ f1)
    · have hr2 : ¬ (0 ≤ fgS m t (p + 1) ∧ fgS m t (p + 1) < w 1) := by omega
      rw [e1] at hr2
      rw [if_neg hr2] at er
      exact hy _ _ er.symm (Or.inl rfl) ⟨by show p ≤ p + 1; omega, by show p + 1 ≤ m; omega⟩ (fun z => absurd (show (0 : Int) = 1 from z) (by decide)) t1 c1 hw f1
  apply t_X8_readWorths (layOK n) k473 k15
  refine c_skips h hm hp.1 (by decide) (fun y => ⟨_, rfl, rfl, fun _ => ?_, fun z => absurd z (by decide)⟩) (fun y => ⟨_, rfl, rfl, fun z => absurd rfl z, fun _ => ?_⟩)
  · exact whose 1 _ (Or.inr rfl) (tb_in y (by decide)) (by rw [if_pos y]) (Or.inl y) (TPs_up h) (ckV μ _ w hc) (upV μ _ (fun _ _ _ _ => rfl))
  · refine c_skips h hm hp.1 (by decide) (fun y2 => ⟨_, rfl, rfl, fun _ => ?_, fun z => absurd z (by decide)⟩) (fun y2 => ⟨_, rfl, rfl, fun z => absurd rfl z, fun _ => ?_⟩)
    · exact whose 0 _ (Or.inl rfl) (tb_in y2 (by decide)) (by rw [if_neg y]) (Or.inr y2) (TPs_up h) (ckV μ _ w hc) (upV μ _ (fun _ _ _ _ => rfl))
    · have er : rdW m t (w0 0).toNat (w0 1) p w = (0, p, w) := by unfold rdW; rw [if_neg (by omega)]
      exact hy μ _ er.symm (Or.inl rfl) ⟨by show p ≤ p; omega, hp.2⟩ (fun z => absurd (show (0 : Int) = 1 from z) (by decide)) h hc hw (fun _ _ _ _ => rfl)
end
