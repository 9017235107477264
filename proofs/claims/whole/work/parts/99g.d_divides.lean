/-! divides (the class): numbers, points, spans, shares -/
theorem DR_newU {μ μ' : Mem} {D : Int} {w : Dv} {u' : Int} (h : DR μ D w) (h4 : w 4 ≤ 19) (hm : ∀ a : Int, 0 ≤ a → a < 5 → w (165 + a) ≤ 2) (hu : μ' D 2 = u')
    (hf : ∀ x i, (x = D ∧ i = 3) ∨ x = D + 2 ∨ (D + 7 ≤ x ∧ x ≤ D + 112) → μ' x i = μ x i) : DR μ' D (setU w u') := by
  obtain ⟨-, ⟨r2, r3⟩, r4, r5⟩ := h
  refine ⟨by unfold DRu; rw [hu, setU_3], ⟨by rw [hf D 3 (by omega), r2, setU_ne (by decide)], fun k k0 k1 => ?_⟩, fun a a0 a1 => by rw [hf (D + 2) a (by omega), r4 a a0 a1, setU_ne (by omega)], fun a k a0 a1 k0 k1 => ?_⟩
  · rw [setU_ne (by decide)] at k1
    have e := r3 k k0 k1
    unfold evA at *
    rw [setU_ne (by omega), setU_ne (by omega), setU_ne (by omega), setU_ne (by omega), setU_ne (by omega), setU_ne (by omega), hf _ 0 (by omega), hf _ 1 (by omega), hf (D + 7 + 4 * k + 2) 0 (by omega), hf (D + 7 + 4 * k + 2) 1 (by omega), hf (D + 7 + 4 * k + 3) 0 (by omega), hf (D + 7 + 4 * k + 3) 1 (by omega)]
    exact e
  · rw [setU_ne (by omega)] at k1
    have e := r5 a k a0 a1 k0 k1
    have := hm a a0 a1
    unfold hl at *
    rw [setU_ne (by omega), setU_ne (by omega), setU_ne (by omega), setU_ne (by omega), hf _ 0 (by omega), hf _ 1 (by omega), hf (D + 83 + 3 * (2 * a + k) + 2) 0 (by omega), hf (D + 83 + 3 * (2 * a + k) + 2) 1 (by omega)]
    exact e
theorem setU_two {w : Dv} {u u' : Int} : setU (setU w u) u' = setU w u' := by
  funext i
  unfold setU
  split
  · rfl
  · rfl
theorem giveS_setU {w : Dv} {u a : Int} {l r : Pt} (ha : 0 ≤ a) (hm : 0 ≤ w (165 + a)) : ∀ i : Int, giveS (setU w u) a l r i = setU (giveS w a l r) u i := fun i => by
  have e : setU w u (165 + a) = w (165 + a) := setU_ne (by omega)
  unfold giveS addS
  rw [e]
  unfold setU
  by_cases z : i = 3
  · rw [if_pos z, if_pos z, if_neg (by omega), if_neg (by omega), if_neg (by omega), if_neg (by omega), if_neg (by omega)]
  · rw [if_neg z, if_neg z]
def frTD (μ μ' : Mem) : Prop := ∀ x i : Int, (x ≠ 473 ∨ i ≠ 1) → μ' x i = μ x i
theorem frT_rf {μ : Mem} : frTD μ μ := fun _ _ _ => rfl
theorem frT_tr {μ μ' μ'' : Mem} (h : frTD μ μ') (h' : frTD μ' μ'') : frTD μ μ'' := fun x i hx => (h' x i hx).trans (h x i hx)
theorem frT_up {μ : Mem} {v : Int} : frTD μ (up μ 473 1 v) := fun x i hx => up_ne hx
section
variable {n : Int} {μ : Mem} {Q : Option AV → Lay → Mem → Prop}
theorem k476 : isK (L0 n) 476 (7, 0) := isK0 (by decide) (by decide) (by decide +kernel)
theorem k477 : isK (L0 n) 477 (3, 0) := isK0 (by decide) (by decide) (by decide +kernel)
theorem k478 : isK (L0 n) 478 (3, 0) := isK0 (by decide) (by decide) (by decide +kernel)
theorem c_numD {m p most : Int} {t : Int → Int} {d : Nat} (hmo : most = (d : Int) + 1) (hd : tnB d 9 ≤ 999 ∧ d ≤ 5) (h : TPs μ m t p) (hm : m ≤ 160) (hp : 0 ≤ p ∧ p ≤ m)
    (hy : ¬ fgS m t p < 0 → ∀ μ', TPs μ' m t (nmS m t d p).2 → frTD μ μ' → Q (some (0, (nmS m t d p).1)) (L0 n) μ')
    (hn : fgS m t p < 0 → Q (some (0, -1)) (L0 n) μ) : TR mX8_readNumber 1 (0, 0) [(2, 473), (0, most)] (L0 n) μ Q := by
  apply t_X8_readNumber (layOK n) k473
  refine c_figure h hm hp.1 ⟨_, rfl, rfl, fun z => ?_, fun z => hn (by omega)⟩
  have z : ¬ fgS m t p < 0 := by omega
  have hy := hy z
  obtain ⟨f1, f2, f3⟩ := fgS_in z
  have e0 := ((nmS_ok (t := t) (d := d)).2 z).1
  rw [e0] at hy
  rw [h.2.1]
  refine ⟨⟨by omega, by omega⟩, ?_⟩
  have key : ∀ (e : Nat) (k q v : Int) (μ1 : Mem), k + e = most → 0 ≤ k → nmF m t d (p + 1) (fgS m t p) = nmF m t e q v → 0 ≤ v → tnB e v ≤ 999 → p < q → q ≤ m → TPs μ1 m t q → frTD μ μ1 → WA mX8_readNumber 1 (0, 0) 23 [(2, 473), (0, most), (0, v), (0, k)] [] (L0 n) μ1 Q := by
    intro e
    induction e with
    | zero =>
      intro k q v μ1 hk k0 er v0 v1 q0 q1 ht f
      apply s_X8_readNumber_23 (layOK n) k473
      rw [er] at hy
      exact ⟨fun _ => hy μ1 ht f, fun y => absurd (show most ≤ k by omega) y⟩
    | succ e ih =>
      intro k q v μ1 hk k0 er v0 v1 q0 q1 ht f
      apply s_X8_readNumber_23 (layOK n) k473
      refine ⟨fun y => absurd y (by omega), fun _ => c_figure ht hm (by omega) ⟨_, rfl, rfl, fun y => ?_, fun y => ?_⟩⟩
      · have e1 : nmF m t (e + 1) q v = (v, q) := by unfold nmF; rw [if_pos y]
        rw [er, e1] at hy
        exact hy μ1 ht f
      · obtain ⟨g1, g2, g3⟩ := fgS_in y
        have e1 : nmF m t (e + 1) q v = nmF m t e (q + 1) (v * 10 + fgS m t q) := by
          show (if fgS m t q < 0 then (v, q) else nmF m t e (q + 1) (v * 10 + fgS m t q)) = _
          rw [if_neg y]
        have b1 : tnB (e + 1) v = tnB e (v * 10 + 9) := rfl
        have b2 := tnB_mono e (v * 10 + fgS m t q) (v * 10 + 9) (by omega)
        have b3 := tnB_ge e (v * 10 + 9) (by omega)
        refine ⟨⟨by omega, by omega⟩, c_figure ht hm (by omega) ⟨_, rfl, rfl, ⟨by omega, by omega⟩, ?_⟩⟩
        rw [ht.2.1]
        exact ⟨⟨by omega, by omega⟩, ⟨by omega, by omega⟩, ih (k + 1) (q + 1) _ _ (by omega) (by omega) (er.trans e1) (by omega) (by omega) (by omega) (by omega) (TPs_up ht) (frT_tr f frT_up)⟩
  exact key d 1 (p + 1) (fgS m t p) _ (by omega) (by decide) rfl f2 (Int.le_trans (tnB_mono d _ 9 f3) hd.1) (by omega) (by omega) (TPs_up h) frT_up
theorem TPs_pt {m p v x y : Int} {t : Int → Int} (hv : v ≠ 473 ∧ v ≠ 474) (h : TPs μ m t p) : TPs (up (up μ v 0 x) v 1 y) m t p := by
  have e : ∀ o i, o ≠ v → up (up μ v 0 x) v 1 y o i = μ o i := fun o i ho => by rw [up_ne (Or.inl ho), up_ne (Or.inl ho)]
  exact ⟨by rw [e _ _ (fun z => hv.1 z.symm)]; exact h.1, by rw [e _ _ (fun z => hv.1 z.symm)]; exact h.2.1, fun i i0 i1 => by rw [e _ _ (fun z => hv.2 z.symm)]; exact h.2.2 i i0 i1⟩
theorem c_ptD {m p S v : Int} {t : Int → Int} (kv : isK (L0 n) v (3, 0)) (hv : v ≠ 473 ∧ v ≠ 474) (hS : 0 ≤ S ∧ S ≤ 16) (h : TPs μ m t p) (hm : m ≤ 160) (hp : 0 ≤ p ∧ p ≤ m)
    (hy : (ptS m t S p).1 = 1 → ∀ μ', TPs μ' m t (ptS m t S p).2.1 → μ' v 0 = (ptS m t S p).2.2.1 → μ' v 1 = (ptS m t S p).2.2.2 → (∀ x i, (x ≠ 473 ∨ i ≠ 1) → x ≠ v → μ' x i = μ x i) → Q (some (0, 1)) (L0 n) μ')
    (hn : (ptS m t S p).1 = 0 → ∀ μ', TPs μ' m t (ptS m t S p).2.1 → frTD μ μ' → Q (some (0, 0)) (L0 n) μ') : TR mX8_readPoint 2 (0, 0) [(2, 473), (2, v), (0, S)] (L0 n) μ Q := by
  generalize hr : ptS m t S p = r at hy hn
  unfold ptS at hr
  have no : ∀ (q : Int) (μ1 : Mem), (0, q, ((0, 1) : Pt)) = r → TPs μ1 m t q → frTD μ μ1 → Q (some (0, 0)) (L0 n) μ1 := fun q μ1 e ht f => by
    rw [← e] at hn
    exact hn rfl μ1 ht f
  have yes : ∀ (q x y : Int) (μ1 : Mem), (1, q, ((rdN x y, rdD x y) : Pt)) = r → 0 ≤ x → 0 < y → y ≤ 999 → TPs μ1 m t q → frTD μ μ1 → TR mX3_put 1 (0, 0) [(2, v), (1, x), (1, y)] (L0 n) μ1 (fun r10 L11 μ12 => r10 = none ∧ (L0 n) = L11 ∧ Q (some (0, 1)) (L0 n) μ12) := fun q x y μ1 e hx hy1 hy2 ht f => by
    rw [← e] at hy
    exact c_X3_put kv hx hy1 (by omega) ⟨rfl, rfl, hy rfl _ (TPs_pt hv ht) (by rw [up_ne (Or.inr (by decide)), up_eq]) (up_eq _ _ _ _) (fun x i h1 h2 => by rw [up_ne (Or.inl h2), up_ne (Or.inl h2)]; exact f x i h1)⟩
  apply t_X8_readPoint (layOK n) k473 kv
  refine c_numD (d := 1) rfl (by decide) h hm hp (fun z μ1 t1 f1 => ⟨_, rfl, rfl, fun z1 => ?_, fun z1 => ?_⟩) (fun z => ⟨_, rfl, rfl, fun z1 => absurd z1 (by decide), fun _ => ?_⟩)
  · obtain ⟨-, ⟨a1, a2⟩, a3, a4⟩ := (nmS_ok (t := t) (d := 1)).2 z
    have a2 : (nmS m t 1 p).1 ≤ 99 := a2
    rw [if_neg (by omega)] at hr
    generalize (nmS m t 1 p).1 = x at *
    generalize (nmS m t 1 p).2 = q at *
    rw [h.2.1, Int.mul_one]
    refine c_skips t1 hm (by omega) (by decide) (fun y => ⟨_, rfl, rfl, fun y1 => absurd y1 (by decide), fun _ => ?_⟩) (fun y => ⟨_, rfl, rfl, fun _ => ?_, fun y1 => absurd rfl y1⟩)
    · rw [if_pos y] at hr
      have lt := tb_in y (by decide)
      refine c_numD (d := 2) rfl (by decide) (TPs_up t1) hm ⟨by omega, by omega⟩ (fun z2 μ2 t2 f2 => ⟨_, rfl, rfl, fun z3 => ?_, fun z3 => ?_⟩) (fun z2 => ⟨_, rfl, rfl, fun z3 => absurd z3 (by decide), fun _ => ⟨fun z4 => absurd z4 (by decide), fun _ => ?_⟩⟩)
      · obtain ⟨-, ⟨b1, b2⟩, b3, b4⟩ := (nmS_ok (t := t) (d := 2)).2 z2
        have b2 : (nmS m t 2 (q + 1)).1 ≤ 999 := b2
        rw [if_neg (by omega)] at hr
        generalize (nmS m t 2 (q + 1)).1 = dn at *
        generalize (nmS m t 2 (q + 1)).2 = q2 at *
        have bm := mulLB hS.1 b1 hS.2 b2
        have f12 := frT_tr f1 (frT_tr frT_up f2)
        refine ⟨⟨by omega, by omega⟩, fun y2 => ?_, fun y2 => ?_⟩
        · rw [if_neg (by omega)] at hr
          exact yes q2 x dn μ2 hr a1 (by omega) b2 t2 f12
        · rw [if_pos (by omega)] at hr
          exact no p _ hr (TPs_up t2) (frT_tr f12 frT_up)
      · obtain ⟨-, ⟨b1, b2⟩, b3, b4⟩ := (nmS_ok (t := t) (d := 2)).2 z2
        rw [if_pos (by omega)] at hr
        rw [up_eq]
        exact ⟨fun _ => no (q + 1) _ hr (TPs_up t2) (frT_tr (frT_tr f1 (frT_tr frT_up f2)) frT_up), fun y2 => absurd b1 y2⟩
      · have e := (nmS_ok (t := t) (d := 2)).1 z2
        rw [e, if_pos (show (-1 : Int) < 1 by decide)] at hr
        rw [up_eq]
        exact no (q + 1) _ hr (TPs_up (TPs_up t1)) (frT_tr f1 (frT_tr frT_up frT_up))
    · rw [if_neg y] at hr
      refine ⟨⟨by omega, by omega⟩, fun y2 => ?_, fun y2 => ?_⟩
      · rw [if_neg (by omega)] at hr
        exact yes q x 1 μ1 hr a1 (by decide) (by decide) t1 f1
      · rw [if_pos (by omega)] at hr
        exact no p _ hr (TPs_up t1) (frT_tr f1 frT_up)
  · obtain ⟨-, ⟨a1, a2⟩, -⟩ := (nmS_ok (t := t) (d := 1)).2 z
    exact absurd a1 z1
  · have e := (nmS_ok (t := t) (d := 1)).1 z
    rw [e, if_pos (show (-1 : Int) < 0 by decide)] at hr
    exact no p μ hr h frT_rf
/-- what reading shares changes -/
def frD (μ μ' : Mem) : Prop := ∀ x i : Int, (x < 174 ∨ 306 < x) → (x ≠ 473 ∨ i ≠ 1) → (x < 476 ∨ 478 < x) → μ' x i = μ x i
theorem frD_rf {μ : Mem} : frD μ μ := fun _ _ _ _ _ => rfl
theorem frD_tr {μ μ' μ'' : Mem} (h : frD μ μ') (h' : frD μ' μ'') : frD μ μ'' := fun x i h1 h2 h3 => (h' x i h1 h2 h3).trans (h x i h1 h2 h3)
theorem frT_D {μ μ' : Mem} (h : frTD μ μ') : frD μ μ' := fun x i _ h2 _ => h x i h2
/-- a trial holds a row, with a unit -/
def TRu (μ : Mem) (w : Dv) : Prop := ∃ u, DR μ 174 (setU w u) ∧ UNp (lowM w) (μ 174 1) u
theorem TRu_fr {μ μ' : Mem} {w : Dv} (h : TRu μ w) (h4 : w 4 ≤ 19) (hm : ∀ a : Int, 0 ≤ a → a < 5 → w (165 + a) ≤ 2) (hf : ∀ x i, 174 ≤ x → x ≤ 306 → μ' x i = μ x i) : TRu μ' w := by
  obtain ⟨u, h1, h2⟩ := h
  refine ⟨u, DR_frame h1 (by rw [setU_ne (by decide)]; exact h4) (fun a a0 a1 => by rw [setU_ne (by omega)]; exact hm a a0 a1) (fun x i hx => hf x i (by omega) (by omega)), ?_⟩
  rw [hf 174 1 (by decide) (by decide)]
  exact h2
theorem c_takeD {p u : Int} {w : Dv} {P : Int → Prop} (kp : isK (L0 n) p (3, 0)) (hp : outD 174 p) (hr : DR μ 174 (setU w u)) (h4 : w 4 ≤ 19) (hm : ∀ a : Int, 0 ≤ a → a < 5 → w (165 + a) ≤ 2) (hu : UNp P (μ 174 1) u) (hy : 1 ≤ μ p 1 ∧ μ p 1 ≤ 999)
    (h : ∀ μ' u' r, DR μ' 174 (setU w u') → UNp (fun z => P z ∨ z = μ p 1) (μ' 174 1) u' → (∀ x i, x ≠ 174 → x ≠ 180 → μ' x i = μ x i) → Q (some (0, r)) (L0 n) μ') : TR mX1_takesIn 2 (0, 0) [(2, 174), (2, p)] (L0 n) μ Q := by
  have e2 : μ 174 2 = u := hr.1.trans setU_3
  have h4' : setU w u 4 ≤ 19 := by rw [setU_ne (by decide)]; exact h4
  have hm' : ∀ a : Int, 0 ≤ a → a < 5 → setU w u (165 + a) ≤ 2 := fun a a0 a1 => by rw [setU_ne (by omega)]; exact hm a a0 a1
  refine c_X1_takesIn k174 kp hp (by rw [e2]; exact hu.1) ⟨hy.1, by omega⟩ (fun q1 q2 μ' g1 g2 => ?_) (fun q μ' g1 g2 => ?_)
  · rw [e2] at g1 q2
    have d := DR_newU hr h4' hm' g1 (fun x i hx => g2 x i (by omega) (by omega))
    rw [setU_two] at d
    refine h μ' _ 1 d ?_ (fun x i h1 h2 => g2 x i (Or.inl h1) h2)
    rw [g2 174 1 (by decide) (by decide)]
    exact UNp_in hu (by omega) q2
  · rw [e2] at q
    have d := DR_newU hr h4' hm' (show μ' 174 2 = u by rw [g2 174 2 (by decide) (by decide), e2]) (fun x i hx => g2 x i (by omega) (by omega))
    rw [setU_two] at d
    refine h μ' _ 0 d ?_ (fun x i h1 h2 => g2 x i (Or.inl h1) h2)
    rw [g1]
    exact UNp_out hu (by omega) (by omega)
theorem c_spS {m p a : Int} {t : Int → Int} {w0 w : Dv} (h : TPs μ m t p) (hm : m ≤ 160) (hp : 0 ≤ p ∧ p ≤ m) (hS : 2 ≤ w0 0 ∧ w0 0 ≤ 16) (hrv : RV w0 w) (ha : 0 ≤ a ∧ a < 5) (hc : 0 ≤ w (165 + a) ∧ w (165 + a) < 2) (hr : TRu μ w)
    (hy : (spS m t (w0 0) a p w).1 = 1 → ∀ μ', TPs μ' m t (spS m t (w0 0) a p w).2.1 → TRu μ' (spS m t (w0 0) a p w).2.2 → frD μ μ' → Q (some (0, 1)) (L0 n) μ')
    (hn : (spS m t (w0 0) a p w).1 = 0 → ∀ μ', TPs μ' m t (spS m t (w0 0) a p w).2.1 → frD μ μ' → Q (some (0, 0)) (L0 n) μ') : TR mX8_readSpan 4 (0, 0) [(2, 473), (0, a), (0, w0 0), (2, 174)] (L0 n) μ Q := by
  generalize hR : spS m t (w0 0) a p w = R at hy hn
  unfold spS at hR
  have hw4 : w 4 ≤ 19 := by rw [hrv.2.1.2.2]; decide
  have hmn : ∀ b : Int, 0 ≤ b → b < 5 → w (165 + b) ≤ 2 := fun b b0 b1 => (hrv.2.2.2.1 b b0 b1).1.2
  have no : ∀ (q : Int) (μ1 : Mem), (0, q, w) = R → TPs μ1 m t q → frD μ μ1 → Q (some (0, 0)) (L0 n) μ1 := fun q μ1 e ht f => by
    rw [← e] at hn
    exact hn rfl μ1 ht f
  have S2 : 0 ≤ w0 0 ∧ w0 0 ≤ 16 := by omega
  obtain ⟨s1, s2, -, -⟩ := sp_at (k476 (n := n))
  have s1 : rf (L0 n) 476 0 = 477 := s1
  have s2 : rf (L0 n) 476 1 = 478 := s2
  obtain ⟨a1, a2, a3⟩ := ptS_ok (t := t) (S := w0 0) hp.2
  apply t_X8_readSpan (layOK n) k473 k174
  rw [rf_tape.2.2, s1, s2, h.2.1]
  refine c_ptD k477 ⟨by decide, by decide⟩ S2 h hm hp (fun z μ1 t1 l1 l2 f1 => ⟨_, rfl, rfl, fun y => absurd y (by decide), fun _ => ?_⟩) (fun z μ1 t1 f1 => ⟨_, rfl, rfl, fun _ => ?_, fun y => absurd rfl y⟩)
  · rw [if_neg (by omega)] at hR
    obtain ⟨a4, a5⟩ := a3 z
    generalize ptS m t (w0 0) p = P1 at *
    have F1 : frD μ μ1 := fun x i _ h2 h3 => f1 x i h2 (by omega)
    refine c_skips t1 hm (by omega) (by decide) (fun y => ⟨_, rfl, rfl, fun _ => ?_, fun x => absurd x (by decide)⟩) (fun y => ⟨_, rfl, rfl, fun x => absurd rfl x, fun _ => ?_⟩)
    · rw [if_neg (fun x => x y)] at hR
      have lt := tb_in y (by decide)
      obtain ⟨b1, b2, b3⟩ := ptS_ok (t := t) (S := w0 0) (p := P1.2.1 + 1) (show P1.2.1 + 1 ≤ m by omega)
      rw [up_eq]
      refine c_ptD k478 ⟨by decide, by decide⟩ S2 (TPs_up t1) hm ⟨by omega, by omega⟩ (fun x μ2 t2 r1 r2 f2 => ⟨_, rfl, rfl, fun _ => ?_, fun v => absurd v (by decide)⟩) (fun x μ2 t2 f2 => ⟨_, rfl, rfl, fun v => absurd rfl v, fun _ => ?_⟩)
      · rw [if_neg (by omega)] at hR
        obtain ⟨b4, b5⟩ := b3 x
        generalize ptS m t (w0 0) (P1.2.1 + 1) = P2 at *
        have F2 : frD μ μ2 := fun x i h1 h2 h3 => by rw [f2 x i h2 (by omega), up_ne h2]; exact F1 x i h1 h2 h3
        have e1 : μ2 477 0 = P1.2.2.1 := by rw [f2 477 0 (by omega) (by decide), up_ne (Or.inl (by decide))]; exact l1
        have e2 : μ2 477 1 = P1.2.2.2 := by rw [f2 477 1 (by omega) (by decide), up_ne (Or.inl (by decide))]; exact l2
        have T2 : TRu μ2 w := TRu_fr hr hw4 hmn (fun x i x0 x1 => by rw [f2 x i (by omega) (by omega), up_ne (by omega), f1 x i (by omega) (by omega)])
        obtain ⟨x0, y0, y1, -, -⟩ := a5
        obtain ⟨x0', y0', y1', -, -⟩ := b5
        have den := den_mul (show 1 ≤ P2.2.2.2 ∧ P2.2.2.2 ≤ 1000000000 by omega) (show 1 ≤ P1.2.2.2 ∧ P1.2.2.2 ≤ 1000000000 by omega)
        refine c_X3_isBelow k478 k477 ⟨by rw [r1]; exact x0', by rw [r2]; exact y0'⟩ ⟨by rw [e1]; exact x0, by rw [e2]; exact y0⟩ (by rw [r2, e2]; exact den) fun r hr1 => ⟨r, rfl, rfl, fun v => ?_, fun v => ?_⟩
        · rw [r1, r2, e1, e2] at hr1
          rw [if_neg (by omega)] at hR
          obtain ⟨u, D2, U2⟩ := T2
          have cb : WFb (setU w u) := fun b b0 b1 => by
            rw [setU_ne (by omega)]
            refine ⟨(hrv.2.2.2.1 b b0 b1).1, fun k k0 k1 => ?_⟩
            obtain ⟨g1, g2, -⟩ := (hrv.2.2.2.1 b b0 b1).2 k k0 k1
            rw [setU_ne (by omega), setU_ne (by omega), setU_ne (by omega), setU_ne (by omega)]
            obtain ⟨q0, q1, q2, -, -⟩ := g1
            obtain ⟨q0', q1', q2', -, -⟩ := g2
            exact ⟨⟨q0, q1, by omega⟩, q0', q1', by omega⟩
          have em : ∀ x y x' y' b k : Int, 0 ≤ b → 0 ≤ k → meetS (setU w u) x y x' y' b k = meetS w x y x' y' b k := fun x y x' y' b k b0 k0 => by
            unfold meetS neS
            rw [setU_ne (by omega), setU_ne (by omega), setU_ne (by omega), setU_ne (by omega)]
          refine c_X1_overlaps k174 k476 D2 cb ⟨by show 0 ≤ μ2 477 0; rw [e1]; exact x0, by show 1 ≤ μ2 477 1; rw [e2]; exact y0, by show μ2 477 1 ≤ 1000000000; rw [e2]; omega⟩ ⟨by show 0 ≤ μ2 478 0; rw [r1]; exact x0', by show 1 ≤ μ2 478 1; rw [r2]; exact y0', by show μ2 478 1 ≤ 1000000000; rw [r2]; omega⟩ fun r' hr2 => ⟨r', rfl, rfl, fun s => ?_, fun s => ?_⟩
          · have nov : ¬ ovB w P1.2.2 P2.2.2 = true := fun q => by
              obtain ⟨q1, b, k, b0, b1, k0, k1, q2⟩ := (ovB_iff hmn).mp q
              rcases hr2 with hr2 | ⟨-, hr2⟩
              · omega
              · have e3 : μ2 (476 + 1) 0 = P1.2.2.1 := e1
                have e4 : μ2 (476 + 1) 1 = P1.2.2.2 := e2
                have e5 : μ2 (476 + 2) 0 = P2.2.2.1 := r1
                have e6 : μ2 (476 + 2) 1 = P2.2.2.2 := r2
                rw [e3, e4, e5, e6] at hr2
                rcases hr2 with hr2 | hr2
                · omega
                · have := hr2 b k b0 b1 k0 (by rw [setU_ne (by omega)]; exact k1)
                  rw [em _ _ _ _ _ _ b0 k0] at this
                  exact this q2
            rw [if_neg nov] at hR
            refine c_takeD k477 (Or.inr (by decide)) D2 hw4 hmn U2 (by rw [e2]; omega) fun μ3 u3 r3 D3 U3 f3 => ⟨_, rfl, rfl, ?_⟩
            have e7 : μ3 478 1 = P2.2.2.2 := by rw [f3 478 1 (by decide) (by decide), r2]
            refine c_takeD k478 (Or.inr (by decide)) D3 hw4 hmn U3 (by rw [e7]; omega) fun μ4 u4 r4 D4 U4 f4 => ⟨_, rfl, rfl, ?_⟩
            have c4 : setU w u4 4 ≤ 19 := by rw [setU_ne (by decide)]; exact hw4
            have ca : setU w u4 (165 + a) = w (165 + a) := setU_ne (by omega)
            refine c_X1_give k174 k477 k478 (Or.inr (by decide)) (Or.inr (by decide)) D4 ha (by rw [ca]; exact hc) c4 (fun b b0 b1 => by rw [setU_ne (by omega)]; exact hmn b b0 b1) fun μ5 D5 f5 => ⟨rfl, rfl, ?_⟩
            have g34 : ∀ x i, x ≠ 174 → x ≠ 180 → μ4 x i = μ2 x i := fun x i h1 h2 => by rw [f4 x i h1 h2, f3 x i h1 h2]
            rw [g34 477 0 (by decide) (by decide), g34 477 1 (by decide) (by decide), g34 478 0 (by decide) (by decide), g34 478 1 (by decide) (by decide), e1, e2, r1, r2] at D5
            rw [← hR] at hy
            have g5 : ∀ x i, (x < 174 ∨ 306 < x) → μ5 x i = μ2 x i := fun x i hx => by rw [f5 x i (Or.inl (by unfold outD; omega)), g34 x i (by omega) (by omega)]
            refine hy rfl μ5 ⟨by rw [g5 473 0 (by decide)]; exact t2.1, by rw [g5 473 1 (by decide)]; exact t2.2.1, fun i i0 i1 => by rw [g5 474 i (by decide)]; exact t2.2.2 i i0 i1⟩ ⟨u4, ?_, ?_⟩ (fun x i h1 h2 h3 => by rw [g5 x i h1]; exact F2 x i h1 h2 h3)
            · exact DR_congr D5 (fun i _ => (giveS_setU (l := P1.2.2) (r := P2.2.2) ha.1 hc.1 i).symm)
            · rw [f5 174 1 (Or.inr rfl)]
              rw [e2, e7] at U4
              exact UNp_congr U4 (fun y => lowM_give ha hc hmn y)
          · have ov : ovB w P1.2.2 P2.2.2 = true := by
              rcases hr2 with ⟨-, q1, b, k, b0, b1, k0, k1, q2⟩ | hr2
              · have e3 : μ2 (476 + 1) 0 = P1.2.2.1 := e1
                have e4 : μ2 (476 + 1) 1 = P1.2.2.2 := e2
                have e5 : μ2 (476 + 2) 0 = P2.2.2.1 := r1
                have e6 : μ2 (476 + 2) 1 = P2.2.2.2 := r2
                rw [e3, e4, e5, e6] at q1 q2
                rw [em _ _ _ _ _ _ b0 k0] at q2
                rw [setU_ne (by omega)] at k1
                exact (ovB_iff hmn).mpr ⟨q1, b, k, b0, b1, k0, k1, q2⟩
              · omega
            rw [if_pos ov] at hR
            exact no p _ hR (TPs_up t2) (frD_tr F2 (frT_D frT_up))
        · rw [r1, r2, e1, e2] at hr1
          rw [if_pos (by omega)] at hR
          exact no _ _ hR (TPs_up t2) (frD_tr F2 (frT_D frT_up))
      · rw [if_pos x] at hR
        exact no _ μ2 hR t2 (frD_tr F1 (frT_D (frT_tr frT_up f2)))
    · rw [if_pos y] at hR
      exact no _ μ1 hR t1 F1
  · rw [if_pos z] at hR
    exact no _ μ1 hR t1 (frT_D f1)
theorem c_shS {m p : Int} {t : Int → Int} {w0 w : Dv} (h : TPs μ m t p) (hm : m ≤ 160) (hp : 0 ≤ p ∧ p ≤ m) (hS : 2 ≤ w0 0 ∧ w0 0 ≤ 16) (hN : w0 1 ≤ 5) (hck : CKr μ 2 w0) (hrv : RV w0 w) (hr : TRu μ w)
    (hy : (shS m t (w0 0) (w0 1) p w).1 = 1 → ∀ μ', TPs μ' m t (shS m t (w0 0) (w0 1) p w).2.1 → TRu μ' (shS m t (w0 0) (w0 1) p w).2.2 → frD μ μ' → Q (some (0, 1)) (L0 n) μ')
    (hn : (shS m t (w0 0) (w0 1) p w).1 = 0 → ∀ μ', TPs μ' m t (shS m t (w0 0) (w0 1) p w).2.1 → frD μ μ' → Q (some (0, 0)) (L0 n) μ') : TR mX8_readShare 5 (0, 0) [(2, 473), (2, 2), (2, 174)] (L0 n) μ Q := by
  generalize hR : shS m t (w0 0) (w0 1) p w = R at hy hn
  unfold shS at hR
  have hw4 : w 4 ≤ 19 := by rw [hrv.2.1.2.2]; decide
  have hmn : ∀ b : Int, 0 ≤ b → b < 5 → w (165 + b) ≤ 2 := fun b b0 b1 => (hrv.2.2.2.1 b b0 b1).1.2
  have no : ∀ (q : Int) (μ1 : Mem), (0, q, w) = R → TPs μ1 m t q → frD μ μ1 → Q (some (0, 0)) (L0 n) μ1 := fun q μ1 e ht f => by
    rw [← e] at hn
    exact hn rfl μ1 ht f
  have e0 := hck.1
  apply t_X8_readShare (layOK n) k473 k2 k174
  rw [(dv_rf (dv_is (k174 (n := n)))).2.1]
  refine c_figure h hm hp.1 ⟨_, rfl, rfl, c_hasA (w := w0) k2 hck fun r hr' => ⟨r, rfl, rfl, fun z => ?_, fun z => ?_⟩⟩
  · rw [if_pos (by omega)] at hR
    exact no p μ hR h frD_rf
  · have hr2 : 0 ≤ fgS m t p ∧ fgS m t p < w0 1 := by omega
    rw [if_neg (fun x => x hr2)] at hR
    obtain ⟨f1, -, -⟩ := fgS_in (show ¬ fgS m t p < 0 by omega)
    have ha : 0 ≤ fgS m t p ∧ fgS m t p < 5 := by omega
    have hc := (hrv.2.2.2.1 (fgS m t p) ha.1 ha.2).1
    generalize fgS m t p = a at *
    obtain ⟨u, D0, U0⟩ := hr
    have em : μ (174 + 2) a = w (165 + a) := by rw [D0.2.2.1 a ha.1 ha.2, setU_ne (by omega)]
    rw [em, h.2.1]
    refine ⟨ha, fun y => ?_, fun y => ?_⟩
    · rw [if_neg (by omega)] at hR
      refine ⟨⟨by omega, by omega⟩, ?_⟩
      refine c_skips (TPs_up h) hm (by omega) (by decide) (fun x => ⟨_, rfl, rfl, fun x1 => absurd x1 (by decide), fun _ => ?_⟩) (fun x => ⟨_, rfl, rfl, fun _ => ?_, fun x1 => absurd rfl x1⟩)
      · rw [if_neg (fun x1 => x1 x)] at hR
        have lt := tb_in x (by decide)
        rw [show p + 1 + 1 = p + 2 by omega, up_ne (a := 2) (i := 0) (Or.inl (by decide)), up_ne (a := 2) (i := 0) (Or.inl (by decide)), e0]
        have T1 : TRu (up (up μ 473 1 (p + 1)) 473 1 (p + 2)) w := TRu_fr ⟨u, D0, U0⟩ hw4 hmn (fun x i x0 x1 => by rw [up_ne (by omega), up_ne (by omega)])
        have F1 : frD μ (up (up μ 473 1 (p + 1)) 473 1 (p + 2)) := frT_D (frT_tr frT_up frT_up)
        obtain ⟨a1, a2, a3⟩ := spS_ok (m := m) (t := t) (p := p + 2) hrv ha hr2.2 ⟨hc.1, by omega⟩ (by omega)
        refine c_spS (TPs_up (TPs_up h)) hm ⟨by omega, by omega⟩ hS hrv ha ⟨hc.1, by omega⟩ T1 (fun v μ2 t2 T2 f2 => ⟨_, rfl, rfl, fun _ => ?_, fun v1 => absurd v1 (by decide)⟩) (fun v μ2 t2 f2 => ⟨_, rfl, rfl, fun v1 => absurd rfl v1, fun _ => ?_⟩)
        · rw [if_neg (by omega)] at hR
          obtain ⟨a4, a5, a6⟩ := a3 v
          generalize spS m t (w0 0) a (p + 2) w = R1 at *
          have F2 := frD_tr F1 f2
          refine c_skips t2 hm (by omega) (by decide) (fun s => ⟨_, rfl, rfl, fun s1 => absurd s1 (by decide), fun _ => ?_⟩) (fun s => ⟨_, rfl, rfl, fun _ => ?_, fun s1 => absurd rfl s1⟩)
          · rw [if_pos s] at hR
            have lt2 := tb_in s (by decide)
            have c2 := a6 a ha
            rw [if_pos rfl] at c2
            have hmn1 : ∀ b : Int, 0 ≤ b → b < 5 → R1.2.2 (165 + b) ≤ 2 := fun b b0 b1 => (a5.2.2.2.1 b b0 b1).1.2
            have T3 : TRu (up μ2 473 1 (R1.2.1 + 1)) R1.2.2 := TRu_fr T2 (by rw [a5.2.1.2.2]; decide) hmn1 (fun x i x0 x1 => by rw [up_ne (by omega)])
            have e20 : up μ2 473 1 (R1.2.1 + 1) 2 0 = w0 0 := by rw [up_ne (Or.inl (by decide)), F2 2 0 (by decide) (by decide) (by decide), e0]
            rw [e20]
            rw [← hR] at hy hn
            have F3 := frD_tr F2 (frT_D (frT_up (μ := μ2) (v := R1.2.1 + 1)))
            exact c_spS (TPs_up t2) hm ⟨by omega, by omega⟩ hS a5 ha ⟨by omega, by omega⟩ T3 (fun q μ3 t3 T3' f3 => ⟨_, rfl, rfl, fun q1 => absurd q1 (by decide), fun _ => hy q μ3 t3 T3' (frD_tr F3 f3)⟩) (fun q μ3 t3 f3 => ⟨_, rfl, rfl, fun _ => hn q μ3 t3 (frD_tr F3 f3), fun q1 => absurd rfl q1⟩)
          · rw [if_neg s] at hR
            rw [← hR] at hy
            exact hy v μ2 t2 T2 F2
        · rw [if_pos v] at hR
          rw [← hR] at hn
          exact hn v μ2 t2 (frD_tr F1 f2)
      · rw [if_pos x] at hR
        exact no _ _ hR (TPs_up h) (frT_D frT_up)
    · rw [if_pos (by omega)] at hR
      exact no p μ hR h frD_rf
end
