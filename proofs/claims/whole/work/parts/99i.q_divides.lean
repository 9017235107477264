/-! divides (the reference): numbers, points, spans, shares -/
theorem or_bt {g p q : Int} (hg : 0 ≤ g ∧ g < 32) (hp : 0 ≤ p ∧ p < 5) (hq : 0 ≤ q ∧ q < 5) : (bt (bOr g (bShl 1 p)) q ↔ bt g q ∨ q = p) ∧ 0 ≤ bOr g (bShl 1 p) ∧ bOr g (bShl 1 p) < 32 := by
  have := mk3255 (P := fun g p q => decide ((bt (bOr g (bShl 1 p)) q ↔ bt g q ∨ q = p) ∧ 0 ≤ bOr g (bShl 1 p) ∧ bOr g (bShl 1 p) < 32)) (by decide +kernel) g p q hg.1 hg.2 hp.1 hp.2 hq.1 hq.2
  exact of_decide_eq_true this
/-- who has been read -/
def mkI (M : Int) (w : Dv) : Prop := (0 ≤ M ∧ M < 32) ∧ ∀ a : Int, 0 ≤ a → a < 5 → (bt M a ↔ 0 < w (165 + a))
/-- what reading a span changes -/
def frPD (μ μ' : Mem) : Prop := ∀ x i : Int, (x ≠ 493 ∨ (i ≠ 4 ∧ i ≠ 5 ∧ i ≠ 8 ∧ i ≠ 9)) → μ' x i = μ x i
theorem frP_rf {μ : Mem} : frPD μ μ := fun _ _ _ => rfl
theorem frP_tr {μ μ' μ'' : Mem} (h : frPD μ μ') (h' : frPD μ' μ'') : frPD μ μ'' := fun x i hx => (h' x i hx).trans (h x i hx)
theorem frB_P {μ μ' : Mem} (h : frB μ μ') : frPD μ μ' := fun x i hx => h x i (by omega)
def frED (μ μ' : Mem) : Prop := ∀ x i : Int, (x ≠ 493 ∨ (i ≠ 4 ∧ i ≠ 5 ∧ i ≠ 8 ∧ i ≠ 9)) → x ≠ 494 → μ' x i = μ x i
theorem frED_rf {μ : Mem} : frED μ μ := fun _ _ _ _ => rfl
theorem frED_tr {μ μ' μ'' : Mem} (h : frED μ μ') (h' : frED μ' μ'') : frED μ μ'' := fun x i h1 h2 => (h' x i h1 h2).trans (h x i h1 h2)
theorem frP_E {μ μ' : Mem} (h : frPD μ μ') : frED μ μ' := fun x i hx _ => h x i hx
theorem frB_E {μ μ' : Mem} (h : frB μ μ') : frED μ μ' := frP_E (frB_P h)
theorem TPr_Q {μ μ' : Mem} {m p bad : Int} {t : Int → Int} (h : TPr μ m t p bad) (hf : frQ μ μ') : TPr μ' m t p bad := ⟨by rw [hf 493 7 (by decide)]; exact h.1, by rw [hf 493 8 (by decide)]; exact h.2.1, by rw [hf 493 9 (by decide)]; exact h.2.2.1, fun i i0 i1 => by rw [hf 497 i (Or.inl (by decide))]; exact h.2.2.2 i i0 i1⟩
section
variable {n : Int} {μ : Mem} {Q : Option AV → Lay → Mem → Prop}
theorem q_numD {m p most : Int} {t : Int → Int} {d : Nat} (hmo : most = (d : Int) + 1) (hd : tnB d 9 ≤ 999 ∧ d ≤ 5) (h : TPr μ m t p 0) (hm : m ≤ 160) (hp : 0 ≤ p ∧ p ≤ m)
    (hy : ¬ fgS m t p < 0 → ∀ μ', TPr μ' m t (nmS m t d p).2 0 → frB μ μ' → Q (some (0, (nmS m t d p).1)) (L0 n) μ') (hn : fgS m t p < 0 → ∀ μ', TPr μ' m t p 1 → frB μ μ' → Q (some (0, 0)) (L0 n) μ') : TR mX10_number 2 (0, 0) [(2, 493), (0, most)] (L0 n) μ Q := by
  have fb : ∀ q : Int, fgS m t q < 0 ↔ ¬ (48 ≤ tb m t q ∧ tb m t q ≤ 57) := fun q => by
    unfold fgS
    split
    · omega
    · omega
  have fv : ∀ q : Int, ¬ fgS m t q < 0 → fgS m t q = tb m t q - 48 := fun q z => by
    have := (not_congr (fb q)).mp z
    unfold fgS
    rw [if_pos (Decidable.not_not.mp this)]
  apply t_X10_number (layOK n) k493
  rw [h.2.2.1]
  refine ⟨fun z => absurd rfl z, fun _ => q_isFig h hm hp.1 fun r hr => ⟨r, rfl, rfl, fun z => ?_, fun z => ?_⟩⟩
  · have z : ¬ fgS m t p < 0 := by rw [fb p]; omega
    have hy := hy z
    obtain ⟨f1, f2, f3⟩ := fgS_in z
    have e0 := ((nmS_ok (t := t) (d := d)).2 z).1
    rw [e0] at hy
    have h2 := TPr_9 (q := 0) h
    generalize hμ1 : up μ 493 9 0 = μ1 at *
    have F1 : frB μ μ1 := by rw [← hμ1]; exact frB_up (Or.inr rfl)
    have key : ∀ (e : Nat) (k q v : Int) (μ2 : Mem), k + e = most → 0 ≤ k → nmF m t d (p + 1) (fgS m t p) = nmF m t e q v → 0 ≤ v → tnB e v ≤ 999 → p < q → q ≤ m → TPr μ2 m t q 0 → frB μ μ2 → WA mX10_number 2 (0, 0) 27 [(2, 493), (0, most), (0, v), (0, k)] [] (L0 n) μ2 Q := by
      intro e
      induction e with
      | zero =>
        intro k q v μ2 hk k0 er v0 v1 q0 q1 ht f
        apply s_X10_number_27 (layOK n) k493
        rw [er] at hy
        exact ⟨fun _ => hy μ2 ht f, fun y => absurd (show most ≤ k by omega) y⟩
      | succ e ih =>
        intro k q v μ2 hk k0 er v0 v1 q0 q1 ht f
        apply s_X10_number_27 (layOK n) k493
        refine ⟨fun y => absurd y (by omega), fun _ => q_isFig ht hm (by omega) fun r2 hr2 => ⟨r2, rfl, rfl, fun y => ?_, fun y => ?_⟩⟩
        · have y2 : fgS m t q < 0 := by rw [fb q]; omega
          have e1 : nmF m t (e + 1) q v = (v, q) := by unfold nmF; rw [if_pos y2]
          rw [er, e1] at hy
          exact hy μ2 ht f
        · have y2 : ¬ fgS m t q < 0 := by rw [fb q]; omega
          obtain ⟨g1, g2, g3⟩ := fgS_in y2
          have ev := fv q y2
          have e1 : nmF m t (e + 1) q v = nmF m t e (q + 1) (v * 10 + fgS m t q) := by
            show (if fgS m t q < 0 then (v, q) else nmF m t e (q + 1) (v * 10 + fgS m t q)) = _
            rw [if_neg y2]
          have b1 : tnB (e + 1) v = tnB e (v * 10 + 9) := rfl
          have b2 := tnB_mono e (v * 10 + fgS m t q) (v * 10 + 9) (by omega)
          have b3 := tnB_ge e (v * 10 + 9) (by omega)
          refine ⟨⟨by omega, by omega⟩, q_here ht hm (by omega) ⟨_, rfl, rfl, ⟨by omega, by omega⟩, ⟨by omega, by omega⟩, ?_⟩⟩
          rw [ht.2.1, show 10 * v + tb m t q - 48 = v * 10 + fgS m t q by omega]
          exact ⟨⟨by omega, by omega⟩, ⟨by omega, by omega⟩, ih (k + 1) (q + 1) _ _ (by omega) (by omega) (er.trans e1) (by omega) (by omega) (by omega) (by omega) (TPr_8 ht) (frB_tr f (frB_up (Or.inl rfl)))⟩
    have ev := fv p z
    apply s_X10_number_27 (layOK n) k493
    refine ⟨fun y => absurd y (by omega), fun _ => q_isFig h2 hm hp.1 fun r2 hr2 => ⟨r2, rfl, rfl, fun y => absurd ((fb p).mpr (by omega)) z, fun _ => ⟨⟨by decide, by decide⟩, q_here h2 hm hp.1 ⟨_, rfl, rfl, ?_⟩⟩⟩⟩
    rw [h2.2.1, show (10 : Int) * 0 + tb m t p - 48 = fgS m t p by omega]
    exact ⟨⟨by omega, by omega⟩, ⟨by omega, by omega⟩, ⟨by omega, by omega⟩, ⟨by decide, by decide⟩, key d 1 (p + 1) (fgS m t p) _ (by omega) (by decide) rfl f2 (Int.le_trans (tnB_mono d _ 9 f3) hd.1) (by omega) (by omega) (TPr_8 h2) (frB_tr F1 (frB_up (Or.inl rfl)))⟩
  · have z : fgS m t p < 0 := by rw [fb p]; omega
    have h2 := TPr_9 (q := 1) h
    apply s_X10_number_27 (layOK n) k493
    exact ⟨fun y => absurd y (by omega), fun _ => q_isFig h2 hm hp.1 fun r2 hr2 => ⟨r2, rfl, rfl, fun _ => hn z _ h2 (frB_up (Or.inr rfl)), fun z2 => absurd z2 (by omega)⟩⟩
theorem q_numb {m p most : Int} {t : Int → Int} (h : TPr μ m t p 1) (hm : m ≤ 160) (hp : 0 ≤ p) (hy : ∀ μ', TPr μ' m t p 1 → frB μ μ' → Q (some (0, 0)) (L0 n) μ') : TR mX10_number 2 (0, 0) [(2, 493), (0, most)] (L0 n) μ Q := by
  apply t_X10_number (layOK n) k493
  rw [h.2.2.1]
  have h2 := TPr_9 (q := 1) h
  refine ⟨fun _ => ?_, fun z => absurd z (by decide)⟩
  apply s_X10_number_27 (layOK n) k493
  exact ⟨fun _ => hy _ h2 (frB_up (Or.inr rfl)), fun _ => q_isFig h2 hm hp fun r2 hr2 => ⟨r2, rfl, rfl, fun _ => hy _ h2 (frB_up (Or.inr rfl)), fun z2 => absurd z2 (by omega)⟩⟩
theorem q_ptb {m p : Int} {t : Int → Int} (h : TPr μ m t p 1) (hm : m ≤ 160) (hp : 0 ≤ p ∧ p ≤ m) (hy : ∀ μ', TPr μ' m t p 1 → frPD μ μ' → Q none (L0 n) μ') : TR mX10_readPoint 3 (0, 0) [(2, 493)] (L0 n) μ Q := by
  apply t_X10_readPoint (layOK n) k493
  refine q_numb h hm hp.1 fun μ1 t1 f1 => ⟨_, rfl, rfl, q_goesOn t1 hm hp (fun z => absurd z.1 (by decide)) (fun _ μ2 t2 f2 => ⟨_, rfl, rfl, fun _ => ?_, fun z => absurd rfl z⟩)⟩
  apply s_X10_readPoint_58 (layOK n) k493
  rw [t2.2.2.1]
  exact ⟨fun _ => ⟨fun _ => hy μ2 t2 (frB_P (frB_tr f1 f2)), fun z => absurd z (by decide)⟩, fun z => absurd z (by decide)⟩
theorem q_ptD {m p : Int} {t : Int → Int} {w : Dv} (h : TPr μ m t p 0) (hm : m ≤ 160) (hp : 0 ≤ p ∧ p ≤ m) (hr : RWm μ w) (hS : 0 ≤ w 0 ∧ w 0 ≤ 16)
    (hy : (ptS m t (w 0) p).1 = 1 → ∀ μ', TPr μ' m t (ptS m t (w 0) p).2.1 0 → FR μ' (ptS m t (w 0) p).2.2.1 (ptS m t (w 0) p).2.2.2 → frPD μ μ' → Q none (L0 n) μ')
    (hn : (ptS m t (w 0) p).1 = 0 → ∀ μ', TPr μ' m t (ptS m t (w 0) p).2.1 1 → frPD μ μ' → Q none (L0 n) μ') : TR mX10_readPoint 3 (0, 0) [(2, 493)] (L0 n) μ Q := by
  generalize hR : ptS m t (w 0) p = r at hy hn
  unfold ptS at hR
  have no : ∀ (q x y : Int) (μ1 : Mem), (0, q, ((0, 1) : Pt)) = r → TPr μ1 m t q 1 → frPD μ μ1 → WA mX10_readPoint 3 (0, 0) 58 [(2, 493), (0, p), (1, x), (9, 0), (1, y), (9, 0), (9, 0)] [] (L0 n) μ1 Q := fun q x y μ1 e ht f => by
    rw [← e] at hn
    apply s_X10_readPoint_58 (layOK n) k493
    rw [ht.2.2.1]
    exact ⟨fun _ => ⟨fun _ => hn rfl μ1 ht f, fun z => absurd z (by decide)⟩, fun z => absurd z (by decide)⟩
  have yes : ∀ (q x y : Int) (μ1 : Mem), (if w 0 * y < x then (0, p, ((0, 1) : Pt)) else (1, q, ((rdN x y, rdD x y) : Pt))) = r → 0 ≤ x → 1 ≤ y → y ≤ 999 → TPr μ1 m t q 0 → frPD μ μ1 → WA mX10_readPoint 3 (0, 0) 58 [(2, 493), (0, p), (1, x), (9, 0), (1, y), (9, 0), (9, 0)] [] (L0 n) μ1 Q := fun q x y μ1 e hx hy1 hy2 ht f => by
    have R1 : RWm μ1 w := RWm_fr hr (fun i => f 494 i (Or.inl (by decide)))
    have bm := mulLB hS.1 (show 0 ≤ y by omega) hS.2 hy2
    apply s_X10_readPoint_58 (layOK n) k493
    rw [rf_ref.1, R1 0 (by decide) (by decide), ht.2.2.1]
    refine ⟨fun z => absurd rfl z, fun _ => ⟨⟨by omega, by omega⟩, fun z => ⟨fun y => absurd rfl y, fun _ => ?_⟩, fun z => ?_⟩⟩
    · rw [if_neg (by omega)] at e
      rw [← e] at hy
      exact c_X10_becomes hx (by omega) fun μ2 f2 fr2 => ⟨rfl, rfl, hy rfl μ2 (TPr_Q ht f2) fr2 (frP_tr f (fun x i hx => f2 x i (by omega)))⟩
    · rw [if_pos (by omega)] at e
      rw [← e] at hn
      refine q_badAt ht fun μ2 t2 f2 => ⟨rfl, rfl, ?_⟩
      rw [t2.2.2.1]
      exact ⟨fun _ => hn rfl μ2 t2 (frP_tr f (frB_P f2)), fun z => absurd z (by decide)⟩
  apply t_X10_readPoint (layOK n) k493
  rw [h.2.1]
  refine q_numD (d := 1) rfl (by decide) h hm hp (fun z μ1 t1 f1 => ⟨_, rfl, rfl, ?_⟩) (fun z μ1 t1 f1 => ⟨_, rfl, rfl, ?_⟩)
  · obtain ⟨-, ⟨a1, a2⟩, a3, a4⟩ := (nmS_ok (t := t) (d := 1)).2 z
    have a2 : (nmS m t 1 p).1 ≤ 99 := a2
    rw [if_neg (by omega)] at hR
    generalize (nmS m t 1 p).1 = x at *
    generalize (nmS m t 1 p).2 = q at *
    refine q_goesOn t1 hm ⟨by omega, a4⟩ (fun y μ2 t2 f2 => ⟨_, rfl, rfl, fun y1 => absurd y1 (by decide), fun _ => ?_⟩) (fun y μ2 t2 f2 => ⟨_, rfl, rfl, fun _ => ?_, fun y1 => absurd rfl y1⟩)
    · rw [if_pos y.2] at hR
      have lt := tb_in y.2 (by decide)
      rw [t2.2.1]
      have F2 := frB_P (frB_tr f1 f2)
      refine q_numD (d := 2) rfl (by decide) t2 hm ⟨by omega, by omega⟩ (fun z2 μ3 t3 f3 => ⟨_, rfl, rfl, ?_⟩) (fun z2 μ3 t3 f3 => ⟨_, rfl, rfl, ?_⟩)
      · obtain ⟨-, ⟨b1, b2⟩, b3, b4⟩ := (nmS_ok (t := t) (d := 2)).2 z2
        have b2 : (nmS m t 2 (q + 1)).1 ≤ 999 := b2
        generalize (nmS m t 2 (q + 1)).1 = dn at *
        generalize (nmS m t 2 (q + 1)).2 = q2 at *
        rw [t3.2.2.1]
        refine ⟨fun v => absurd rfl v, fun _ => ⟨fun v => ?_, fun v => ?_⟩⟩
        · rw [if_neg (by omega)] at hR
          exact yes q2 x dn μ3 hR a1 (by omega) b2 t3 (frP_tr F2 (frB_P f3))
        · rw [if_pos (by omega)] at hR
          exact q_badAt t3 fun μ4 t4 f4 => ⟨rfl, rfl, no (q + 1) x dn μ4 hR t4 (frP_tr F2 (frB_P (frB_tr f3 f4)))⟩
      · have e := (nmS_ok (t := t) (d := 2)).1 z2
        rw [e, if_pos (show (-1 : Int) < 1 by decide)] at hR
        rw [t3.2.2.1]
        exact ⟨fun _ => no (q + 1) x 0 μ3 hR t3 (frP_tr F2 (frB_P f3)), fun v => absurd v (by decide)⟩
    · rw [if_neg (fun y1 => y ⟨rfl, y1⟩)] at hR
      exact yes q x 1 μ2 (by rw [Int.mul_one]; exact hR) a1 (by decide) (by decide) t2 (frB_P (frB_tr f1 f2))
  · have e := (nmS_ok (t := t) (d := 1)).1 z
    rw [e, if_pos (show (-1 : Int) < 0 by decide)] at hR
    exact q_goesOn t1 hm hp (fun y => absurd y.1 (by decide)) (fun _ μ2 t2 f2 => ⟨_, rfl, rfl, fun _ => no p 0 1 μ2 hR t2 (frB_P (frB_tr f1 f2)), fun v => absurd rfl v⟩)
theorem pnB_num {S x y : Int} (h : pnB S x y) (hS : 0 ≤ S ∧ S ≤ 16) : 0 ≤ x ∧ x ≤ 15984 ∧ 1 ≤ y ∧ y ≤ 999 := by
  obtain ⟨h1, h2, h3, h4, -⟩ := h
  have := mulLB hS.1 (show 0 ≤ y by omega) hS.2 h3
  exact ⟨h1, by omega, h2, h3⟩
theorem q_apart {w : Dv} {x y x' y' : Int} (hr : RWm μ w) (hs : SW w) (hb : LB (w 0) w) (h1 : 0 ≤ x ∧ 1 ≤ y ∧ y ≤ 999) (h2 : 0 ≤ x' ∧ 1 ≤ y' ∧ y' ≤ 999)
    (h : ∀ r : Int, (r = 1 ∧ (∀ a k : Int, 0 ≤ a → a < w 1 → 0 ≤ k → k < w (165 + a) → ¬ meetS w x y x' y' a k) ∨ r = 0 ∧ ∃ a k : Int, 0 ≤ a ∧ a < w 1 ∧ 0 ≤ k ∧ k < w (165 + a) ∧ meetS w x y x' y' a k) → Q (some (0, r)) (L0 n) μ) : TR mX10_areApart 1 (0, 0) [(2, 493), (1, x), (1, y), (1, x'), (1, y')] (L0 n) μ Q := by
  have N5 := hs.2.1
  have S16 := hs.1
  apply t_X10_areApart (layOK n) k493
  have key : ∀ (d k : Nat), k + d = (w 1).toNat → (∀ a j : Int, 0 ≤ a → a < k → 0 ≤ j → j < w (165 + a) → ¬ meetS w x y x' y' a j) → WA mX10_areApart 1 (0, 0) 3 [(2, 493), (1, x), (9, 0), (1, y), (9, 0), (1, x'), (9, 0), (1, y'), (9, 0), (0, (k : Int)), (9, 0), (9, 0), (9, 0), (9, 0)] [] (L0 n) μ Q := by
    intro d
    induction d with
    | zero =>
      intro k hk hall
      apply s_X10_areApart_3 (layOK n) k493
      exact c_X10_agents hr hs ⟨_, rfl, rfl, fun _ => h 1 (Or.inl ⟨rfl, fun a j a0 a1 => hall a j a0 (by omega)⟩), fun z => absurd (show w 1 ≤ (k : Int) by omega) z⟩
    | succ d ih =>
      intro k hk hall
      have k5 : (k : Int) < w 1 := by omega
      obtain ⟨hm, hpts⟩ := hb k (by omega) (by omega)
      apply s_X10_areApart_3 (layOK n) k493
      refine c_X10_agents hr hs ⟨_, rfl, rfl, fun z => absurd z (by omega), fun _ => ?_⟩
      have inner : ∀ (f j : Nat), (j : Int) + f = w (165 + (k : Int)) → (∀ i : Int, 0 ≤ i → i < j → ¬ meetS w x y x' y' k i) → WA mX10_areApart 1 (0, 0) 15 [(2, 493), (1, x), (9, 0), (1, y), (9, 0), (1, x'), (9, 0), (1, y'), (9, 0), (0, (k : Int)), (0, (j : Int)), (9, 0), (9, 0), (9, 0)] [] (L0 n) μ Q := by
        intro f
        induction f with
        | zero =>
          intro j hj hno
          apply s_X10_areApart_15 (layOK n) k493
          rw [rf_ref.1, hr (165 + k) (by omega) (by omega)]
          refine ⟨⟨by omega, by omega⟩, ⟨by omega, by omega⟩, fun _ => ⟨⟨by omega, by omega⟩, ih (k + 1) (by omega) fun a i a0 a1 i0 i1 => ?_⟩, fun z => absurd (show w (165 + (k : Int)) ≤ j by omega) z⟩
          by_cases z : a = k
          · subst z; exact hno i i0 (by omega)
          · exact hall a i a0 (by omega) i0 i1
        | succ f ihf =>
          intro j hj hno
          obtain ⟨p1, p2, p3⟩ := hpts j (by omega) (by omega)
          have b1 := pnB_num p1 ⟨by omega, by omega⟩
          have b2 := pnB_num p2 ⟨by omega, by omega⟩
          have next : ¬ meetS w x y x' y' k j → WA mX10_areApart 1 (0, 0) 15 [(2, 493), (1, x), (9, 0), (1, y), (9, 0), (1, x'), (9, 0), (1, y'), (9, 0), (0, (k : Int)), (0, ((j : Int) + 1)), (9, 0), (9, 0), (9, 0)] [] (L0 n) μ Q := fun z => ihf (j + 1) (by omega) fun i i0 i1 => by
            by_cases y : i = j
            · rw [y]; exact z
            · exact hno i i0 (by omega)
          have e0 : (170 + 8 * (k : Int)) + 4 * (j : Int) = 170 + 8 * (k : Int) + 4 * (j : Int) := rfl
          have i1 : 170 + 8 * (k : Int) + 4 * (j : Int) + 1 = 171 + 8 * (k : Int) + 4 * (j : Int) := by omega
          have i2 : 170 + 8 * (k : Int) + 4 * (j : Int) + 2 = 172 + 8 * (k : Int) + 4 * (j : Int) := by omega
          have i3 : 170 + 8 * (k : Int) + 4 * (j : Int) + 3 = 173 + 8 * (k : Int) + 4 * (j : Int) := by omega
          have at94 : ∀ s0 : Int, (s0 = 0 ↔ neS w k j) → WA mX10_areApart 1 (0, 0) 94 [(2, 493), (1, x), (9, 0), (1, y), (9, 0), (1, x'), (9, 0), (1, y'), (9, 0), (0, (k : Int)), (0, (j : Int)), (0, 170 + 8 * (k : Int) + 4 * (j : Int)), (9, 0), (9, 0)] [(0, s0)] (L0 n) μ Q := by
            intro s0 es
            have nxt : ¬ meetS w x y x' y' k j → (¬ s0 = 0 → (inI ((j : Int) + 1)) ∧ WA mX10_areApart 1 (0, 0) 15 [(2, 493), (1, x), (9, 0), (1, y), (9, 0), (1, x'), (9, 0), (1, y'), (9, 0), (0, (k : Int)), (0, ((j : Int) + 1)), (9, 0), (9, 0), (9, 0)] [] (L0 n) μ Q) ∧ (s0 = 0 → (inI ((j : Int) + 1)) ∧ WA mX10_areApart 1 (0, 0) 15 [(2, 493), (1, x), (9, 0), (1, y), (9, 0), (1, x'), (9, 0), (1, y'), (9, 0), (0, (k : Int)), (0, ((j : Int) + 1)), (9, 0), (9, 0), (9, 0)] [] (L0 n) μ Q) := fun z => ⟨fun _ => ⟨⟨by omega, by omega⟩, next z⟩, fun _ => ⟨⟨by omega, by omega⟩, next z⟩⟩
            apply s_X10_areApart_94 (layOK n) k493
            rw [rf_ref.1, i1, i2, i3, hr _ (by omega) (by omega), hr (171 + 8 * (k : Int) + 4 * (j : Int)) (by omega) (by omega)]
            refine ⟨⟨by omega, by omega⟩, ⟨by omega, by omega⟩, ⟨by omega, by omega⟩, ?_⟩
            refine c_X10_isLess b1.1 (by omega) h2.1 (by omega) (den_mul ⟨b1.2.2.1, by omega⟩ ⟨h2.2.1, by omega⟩) fun r hr1 => ⟨r, rfl, rfl, fun z => nxt (fun q => ?_), fun z => ?_⟩
            · have := q.2.2; omega
            · rw [hr (172 + 8 * (k : Int) + 4 * (j : Int)) (by omega) (by omega), hr (173 + 8 * (k : Int) + 4 * (j : Int)) (by omega) (by omega)]
              refine ⟨⟨by omega, by omega⟩, ⟨by omega, by omega⟩, ⟨by omega, by omega⟩, ⟨by omega, by omega⟩, ?_⟩
              refine c_X10_isLess h1.1 (by omega) b2.1 (by omega) (den_mul ⟨h1.2.1, by omega⟩ ⟨b2.2.2.1, by omega⟩) fun r2 hr2 => ⟨r2, rfl, rfl, fun y => nxt (fun q => ?_), fun y => ⟨fun s => ?_, fun s => ?_⟩⟩
              · have := q.2.1; omega
              · exact ⟨⟨by omega, by omega⟩, next (fun q => s (es.mpr q.1))⟩
              · exact h 0 (Or.inr ⟨rfl, k, j, by omega, k5, by omega, by omega, es.mp s, by omega, by omega⟩)
          have m1 := mulLB b1.1 (show 0 ≤ w (173 + 8 * (k : Int) + 4 * (j : Int)) by omega) b1.2.1 b2.2.2.2
          have m2 := mulLB b2.1 (show 0 ≤ w (171 + 8 * (k : Int) + 4 * (j : Int)) by omega) b2.2.1 b1.2.2.2
          apply s_X10_areApart_15 (layOK n) k493
          rw [rf_ref.1, i1, i2, i3, hr (165 + k) (by omega) (by omega), hr (170 + 8 * (k : Int) + 4 * (j : Int)) (by omega) (by omega), hr (171 + 8 * (k : Int) + 4 * (j : Int)) (by omega) (by omega), hr (172 + 8 * (k : Int) + 4 * (j : Int)) (by omega) (by omega), hr (173 + 8 * (k : Int) + 4 * (j : Int)) (by omega) (by omega)]
          refine ⟨⟨by omega, by omega⟩, ⟨by omega, by omega⟩, fun z => absurd z (by omega), fun _ => ⟨⟨by omega, by omega⟩, ⟨by omega, by omega⟩, ⟨by omega, by omega⟩, ⟨by omega, by omega⟩, ⟨by omega, by omega⟩, ⟨by omega, by omega⟩, ⟨by omega, by omega⟩, ⟨by omega, by omega⟩, ⟨by omega, by omega⟩, ⟨by omega, by omega⟩, ⟨by omega, by omega⟩, ⟨by omega, by omega⟩, ⟨by omega, by omega⟩, fun z => at94 0 ⟨fun _ => ?_, fun _ => rfl⟩, fun z => at94 1 ⟨fun q => absurd q (by decide), fun q => ?_⟩⟩⟩
          · unfold neS; omega
          · unfold neS at q; omega
      exact inner (w (165 + (k : Int))).toNat 0 (by omega) (fun i i0 i1 => by omega)
  exact key (w 1).toNat 0 (by omega) (fun a j a0 a1 => by omega)
end
