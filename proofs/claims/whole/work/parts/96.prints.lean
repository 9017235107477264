/-! prints: events, both sides -/
theorem CSt_P {μ μ' : Mem} {σ : Sg} {l : List Int} (h : CSt μ σ) (ho : OKs σ) (h1 : HL μ' 479 0 480 l) (hf : ∀ x i : Int, (x ≤ 474 ∨ 481 ≤ x) → μ' x i = μ x i) : CSt μ' (σ.setP (l.length : Nat) (fun i => l.getD i.toNat 0)) := by
  obtain ⟨g1, g2, g3, g4, g5, g6, g7⟩ := h
  have cn := WK_cn ho.1
  refine ⟨CKr_fr g1 (fun x i x0 x1 => hf x i (by omega)), DVr_fr g2 cn.1.2 (fun a a0 a1 => (cn.2 a a0 a1).2) (fun x i hx => hf x i (by omega)), ⟨by rw [hf 442 0 (by omega), g3.1], by rw [hf 442 1 (by omega), g3.2]⟩, ⟨by rw [hf 1 6 (by omega), g4.1]; rfl, fun e => ?_⟩, ⟨by rw [hf 473 0 (by omega), g5.1]; rfl, fun i i0 i1 => by rw [hf 474 i (by omega), g5.2 i i0 i1]; rfl⟩, ⟨h1.1, fun i i0 i1 => ?_⟩, fun k k0 k1 => by rw [hf 487 k (by omega), g7.1 k k0 k1]; rfl, fun k i k0 k1 i0 i1 => by rw [hf (483 + k) i (by omega), g7.2 k i k0 k1 i0 i1]; rfl⟩
  · have e : σ.hi = 1 := e
    obtain ⟨y1, y2⟩ := g4.2 e
    have cn2 := WK_cn (ho.2.2.1 e)
    exact ⟨CKr_fr y1 (fun x i x0 x1 => hf x i (by omega)), DVr_fr y2 cn2.1.2 (fun a a0 a1 => (cn2.2 a a0 a1).2) (fun x i hx => hf x i (by omega))⟩
  · have i1 : i < ((l.length : Nat) : Int) := i1
    have := h1.2 i.toNat (by omega)
    show μ' 480 i = l.getD i.toNat 0
    rw [List.getD_eq_getElem?_getD, this, show ((i.toNat : Nat) : Int) = i by omega]
    rfl
theorem RSt_P {μ μ' : Mem} {σ : Sg} {l : List Int} (h : RSt μ σ) (h1 : HL μ' 493 21 503 l) (hf : ∀ x i : Int, (x = 493 ∧ (i = 3 ∨ i = 7) ∨ x = 494 ∨ x = 496 ∨ x = 497 ∨ x = 508 ∨ x = 509) → μ' x i = μ x i) : RSt μ' (σ.setP (l.length : Nat) (fun i => l.getD i.toNat 0)) := by
  obtain ⟨g1, g2, g3, g4, g5⟩ := h
  refine ⟨RWm_fr g1 (fun i => hf 494 i (by omega)), ⟨by rw [hf 493 3 (by omega), g2.1]; rfl, fun e i i0 i1 => by rw [hf 496 i (by omega), g2.2 e i i0 i1]; rfl⟩, ⟨by rw [hf 493 7 (by omega), g3.1]; rfl, fun i i0 i1 => by rw [hf 497 i (by omega), g3.2 i i0 i1]; rfl⟩, ⟨h1.1, fun i i0 i1 => ?_⟩, fun k k0 k1 => by rw [hf 508 k (by omega), g5.1 k k0 k1]; rfl, fun i i0 i1 => by rw [hf 509 i (by omega), g5.2 i i0 i1]; rfl⟩
  have i1 : i < ((l.length : Nat) : Int) := i1
  have := h1.2 i.toNat (by omega)
  show μ' 503 i = l.getD i.toNat 0
  rw [List.getD_eq_getElem?_getD, this, show ((i.toNat : Nat) : Int) = i by omega]
  rfl
theorem OK_P {σ : Sg} {l : List Int} (h : OKs σ) (hl : l.length ≤ 640) (hb : byB l) : OKs (σ.setP (l.length : Nat) (fun i => l.getD i.toNat 0)) := by
  refine ⟨h.1, h.2.1, h.2.2.1, h.2.2.2.1, ⟨by show (0 : Int) ≤ (l.length : Nat); omega, by show ((l.length : Nat) : Int) ≤ 640; omega, fun i i0 i1 => ?_⟩, h.2.2.2.2.2⟩
  have i1 : i < ((l.length : Nat) : Int) := i1
  show 0 ≤ l.getD i.toNat 0 ∧ l.getD i.toNat 0 ≤ 127
  have hi : i.toNat < l.length := by omega
  rw [List.getD_eq_getElem?_getD, List.getElem?_eq_getElem hi]
  exact hb _ (List.getElem_mem hi)
section
variable {n : Int} {μ : Mem} {Q : Option AV → Lay → Mem → Prop}
theorem c_evt {l : List Int} {E kd a x y x' y' : Int} (kE : isK (L0 n) E (2, 0)) (hE : E < 440) (g0 : μ E 0 = kd) (g1 : μ E 1 = a) (g2 : μ (E + 2) 0 = x) (g3 : μ (E + 2) 1 = y) (g4 : μ (E + 3) 0 = x') (g5 : μ (E + 3) 1 = y')
    (hk : 0 ≤ kd ∧ kd ≤ 3) (ha : 0 ≤ a ∧ a < 5) (hx : 0 ≤ x ∧ x ≤ 16000000000) (hy : 0 ≤ y ∧ y ≤ 1000000000) (hx' : 0 ≤ x' ∧ x' ≤ 16000000000) (hy' : 0 ≤ y' ∧ y' ≤ 1000000000) (hl : HL μ 479 0 480 l) (h6 : l.length + (evL kd a x y x' y').length ≤ 640)
    (h : ∀ μ', HL μ' 479 0 480 (l ++ evL kd a x y x' y') → frS' μ μ' → Q none (L0 n) μ') : TR mX6_addEvent 3 (0, 0) [(2, 479), (2, E)] (L0 n) μ Q := by
  obtain ⟨e1, kS⟩ := ev_at kE
  obtain ⟨s1, s2, kp, kq⟩ := sp_at kS
  rw [show E + 1 + 1 = E + 2 by omega] at s1 kp
  rw [show E + 1 + 2 = E + 3 by omega] at s2 kq
  have lt := letL_b (kind := kd)
  unfold evL at h h6
  simp only [List.length_cons, List.length_append, List.length_nil] at h6
  apply t_X6_addEvent (layOK n) k479 kE
  rw [e1, s1, s2, g0]
  refine c_letter hk ⟨_, rfl, rfl, c_add hl (by omega) lt fun μ1 h1 f1 => ⟨rfl, rfl, ?_⟩⟩
  have a1 : ∀ x i : Int, x < 473 → μ1 x i = μ x i := fun x i hx => f1 x i (by omega) (by omega)
  rw [a1 E 1 (by omega), g1]
  refine c_num h1 (by rw [List.length_append, List.length_singleton]; omega) ⟨ha.1, by omega⟩ fun μ2 h2 f2 => ⟨rfl, rfl, ?_⟩
  have a2 : ∀ x i : Int, x < 473 → μ2 x i = μ x i := fun x i hx => (f2 x i (by omega) (by omega)).trans (a1 x i hx)
  rw [a2 E 0 (by omega), g0]
  have F2 := frS'_tr f1 f2
  refine ⟨fun q => ⟨fun _ => ?_, fun q2 => absurd (q.symm.trans q2) (by decide)⟩, fun q => ?_⟩
  · rw [if_pos q] at h6
    refine c_add h2 (by rw [List.length_append, List.length_append, List.length_singleton]; simp only [List.length_nil] at h6; omega) (by decide) fun μ3 h3 f3 => ⟨rfl, rfl, h μ3 ?_ (frS'_tr F2 f3)⟩
    rw [if_pos q, if_neg (by omega)]
    rw [List.append_assoc, List.append_assoc] at h3
    exact h3
  · rw [if_neg q, List.length_cons] at h6
    refine c_add h2 (by rw [List.length_append, List.length_append, List.length_singleton]; omega) (by decide) fun μ3 h3 f3 => ⟨rfl, rfl, ?_⟩
    have a3 : ∀ x i : Int, x < 473 → μ3 x i = μ x i := fun x i hx => (f3 x i (by omega) (by omega)).trans (a2 x i hx)
    refine c_pt kp (by omega) ((a3 (E + 2) 0 (by omega)).trans g2) ((a3 (E + 2) 1 (by omega)).trans g3) h3 (by rw [List.length_append, List.length_append, List.length_append, List.length_singleton, List.length_singleton]; omega) hx hy fun μ4 h4 f4 => ⟨rfl, rfl, ?_⟩
    have a4 : ∀ x i : Int, x < 473 → μ4 x i = μ x i := fun x i hx => (f4 x i (by omega) (by omega)).trans (a3 x i hx)
    rw [a4 E 0 (by omega), g0]
    have F4 := frS'_tr F2 (frS'_tr f3 f4)
    refine ⟨fun q2 => ?_, fun q2 => ?_⟩
    · rw [if_neg q2] at h6
      refine c_add h4 (by rw [List.length_append, List.length_append, List.length_append, List.length_append, List.length_singleton, List.length_singleton]; simp only [List.length_nil] at h6; omega) (by decide) fun μ5 h5 f5 => ⟨rfl, rfl, h μ5 ?_ (frS'_tr F4 f5)⟩
      rw [if_neg q, if_neg q2]
      simp only [List.append_assoc, List.singleton_append, List.cons_append, List.nil_append] at h5 ⊢
      exact h5
    · rw [if_pos q2, List.length_cons] at h6
      refine c_add h4 (by rw [List.length_append, List.length_append, List.length_append, List.length_append, List.length_singleton, List.length_singleton]; omega) (by decide) fun μ5 h5 f5 => ⟨rfl, rfl, ?_⟩
      have a5 : ∀ x i : Int, x < 473 → μ5 x i = μ x i := fun x i hx => (f5 x i (by omega) (by omega)).trans (a4 x i hx)
      refine c_pt kq (by omega) ((a5 (E + 3) 0 (by omega)).trans g4) ((a5 (E + 3) 1 (by omega)).trans g5) h5 (by rw [List.length_append, List.length_append, List.length_append, List.length_append, List.length_append, List.length_singleton, List.length_singleton, List.length_singleton]; omega) hx' hy' fun μ6 h6' f6 => ⟨rfl, rfl, ?_⟩
      refine c_add h6' (by rw [List.length_append, List.length_append, List.length_append, List.length_append, List.length_append, List.length_append, List.length_singleton, List.length_singleton, List.length_singleton]; omega) (by decide) fun μ7 h7 f7 => ⟨rfl, rfl, h μ7 ?_ (frS'_tr F4 (frS'_tr f5 (frS'_tr f6 f7)))⟩
      rw [if_neg q, if_pos q2]
      simp only [List.append_assoc, List.singleton_append, List.cons_append, List.nil_append] at h7 ⊢
      exact h7
theorem C_prints {σ : Sg} (hC : CSt μ σ) (ho : OKs σ)
    (hy : σ.w 2 = 1 → ∀ μ', CSt μ' (σ.setP ((prL σ.w (σ.w 4).toNat).length : Nat) (fun i => (prL σ.w (σ.w 4).toNat).getD i.toNat 0)) → frC μ μ' → Q (some (0, (((prL σ.w (σ.w 4).toNat).length : Nat) : Int))) (L0 n) μ')
    (hs : ¬ σ.w 2 = 1 → Q (some (0, -5)) (L0 n) μ) : TR mX9_prints 4 (0, 0) [(2, 1)] (L0 n) μ Q := by
  have h2 := ho.1.2.1
  have cn := WK_cn ho.1
  have c41 := cn.1.1
  have c42 := cn.1.2
  apply t_X9_prints (layOK n) k1
  rw [rf_desk.2.2.2.1, rf_desk.2.2.2.2.2.2.2.2.1, hC.2.1.1]
  refine ⟨fun q => ?_, fun q => hs (by omega)⟩
  have hy := hy (by omega)
  have key : ∀ (d k : Nat), k + d = (σ.w 4).toNat → ∀ μ1, HL μ1 479 0 480 (prL σ.w k) → frS' μ μ1 → WA mX9_prints 4 (0, 0) 23 [(2, 1), (0, (k : Int))] [] (L0 n) μ1 Q := by
    intro d
    induction d with
    | zero =>
      intro k hk μ1 h1 f1
      have hk : k = (σ.w 4).toNat := by omega
      subst hk
      have e4 : μ1 41 3 = σ.w 4 := (f1 41 3 (by omega) (by omega)).trans hC.2.1.2.2.1.1
      apply s_X9_prints_23 (layOK n) k1
      rw [rf_desk.2.2.2.1, rf_desk.2.2.2.2.2.2.2.2.1, e4, h1.1]
      exact ⟨fun _ => hy μ1 (CSt_P hC ho h1 (fun x i hx => f1 x i (by omega) (by omega))) (fun x i hx => f1 x i (by omega) (by omega)), fun z => absurd (show σ.w 4 ≤ (((σ.w 4).toNat : Nat) : Int) by omega) z⟩
    | succ d ih =>
      intro k hk μ1 h1 f1
      have a1 : ∀ x i : Int, x < 473 → μ1 x i = μ x i := fun x i hx => f1 x i (by omega) (by omega)
      have e4 : μ1 41 3 = σ.w 4 := (a1 41 3 (by omega)).trans hC.2.1.2.2.1.1
      obtain ⟨g0, g1, g2, g3, g4, g5⟩ := hC.2.1.2.2.1.2 k (by omega) (by omega)
      have kE := (dv_K (n := n) k41).1 k (by omega) (by omega)
      obtain ⟨p1, p2, p3, p4, p5, p6⟩ := evP_of ho.1 (k := (k : Int)) (by omega) (by omega)
      have l6 := prL_640 ho.1 (k + 1) (by omega)
      unfold prL at l6
      rw [List.length_append] at l6
      apply s_X9_prints_23 (layOK n) k1
      rw [rf_desk.2.2.2.1, rf_desk.2.2.2.2.2.2.2.2.1, e4, (dv_rf (Or.inl rfl)).1, (dv_all (Or.inl rfl)).1 k (by omega) (by omega)]
      unfold evA at g0 g1 g2 g3 g4 g5 kE
      refine ⟨fun z => absurd z (by omega), fun _ => ⟨⟨by omega, by omega⟩, ?_⟩⟩
      refine c_evt kE (by omega) ((a1 _ 0 (by omega)).trans g0) ((a1 _ 1 (by omega)).trans g1) ((a1 _ 0 (by omega)).trans g2) ((a1 _ 1 (by omega)).trans g3) ((a1 _ 0 (by omega)).trans g4) ((a1 _ 1 (by omega)).trans g5) p1 p2 p3 p4 p5 p6 h1 l6 fun μ2 h2' f2 => ⟨rfl, rfl, ⟨by omega, by omega⟩, ?_⟩
      exact ih (k + 1) (by omega) μ2 h2' (frS'_tr f1 f2)
  refine key (σ.w 4).toNat 0 (by omega) (up μ 479 0 0) ⟨up_eq _ _ _ _, fun k hk => absurd hk (by show ¬ k < 0; omega)⟩ (fun x i h1 _ => up_ne h1)
-- the reference
def frS2 (μ μ' : Mem) : Prop := ∀ x i : Int, (x ≠ 493 ∨ i ≠ 21) → x ≠ 503 → x ≠ 504 → μ' x i = μ x i
theorem frS2_tr {μ μ' μ'' : Mem} (h : frS2 μ μ') (h' : frS2 μ' μ'') : frS2 μ μ'' := fun x i h1 h2 h3 => (h' x i h1 h2 h3).trans (h x i h1 h2 h3)
theorem q_put {l : List Int} {v : Int} (hl : HL μ 493 21 503 l) (h6 : l.length < 640) (h : ∀ μ', HL μ' 493 21 503 (l ++ [v]) → (∀ x i : Int, (x ≠ 493 ∨ i ≠ 21) → x ≠ 503 → μ' x i = μ x i) → Q none (L0 n) μ') : TR mX10_prints 0 (0, 0) [(2, 493), (0, v)] (L0 n) μ Q := by
  apply t_X10_prints (layOK n) k493
  rw [rf_ref.2.2.2.2.2.2.2.2.2.1, hl.1]
  rw [up_ne (a := 493) (i := 21) (Or.inl (by decide)), hl.1]
  exact ⟨⟨by omega, by omega⟩, ⟨by omega, by omega⟩, h _ (HL_put hl (by decide)) (fun x i h1 h2 => by rw [up_ne (by omega), up_ne (Or.inl h2)])⟩
theorem q_num {l : List Int} {v : Int} (hl : HL μ 493 21 503 l) (h6 : l.length + (numL v).length ≤ 640) (hv : 0 ≤ v ∧ v ≤ 16000000000) (h : ∀ μ', HL μ' 493 21 503 (l ++ numL v) → frS2 μ μ' → Q none (L0 n) μ') : TR mX10_printsNumber 1 (0, 0) [(2, 493), (1, v)] (L0 n) μ Q := by
  apply t_X10_printsNumber (layOK n) k493
  have out : ∀ (k : Nat) (l1 : List Int) (μ1 : Mem), k ≤ 12 → HL μ1 493 21 503 l1 → frS2 μ μ1 → (∀ j : Nat, j < k → μ1 504 j = v / (10 : Int) ^ j % 10) → l1 ++ dgC v k = l ++ numL v → WA mX10_printsNumber 1 (0, 0) 43 [(2, 493), (9, 0), (9, 0), (0, (k : Int)), (9, 0), (9, 0)] [] (L0 n) μ1 Q := by
    intro k
    induction k with
    | zero =>
      intro l1 μ1 hk h1 f1 _ e
      have e : l1 ++ [] = l ++ numL v := e
      rw [List.append_nil] at e
      apply s_X10_printsNumber_43 (layOK n) k493
      exact ⟨fun _ => by rw [e] at h1; exact h μ1 h1 f1, fun z => absurd (Int.le_refl 0) z⟩
    | succ k ih =>
      intro l1 μ1 hk h1 f1 hd e
      have ee := congrArg List.length e
      rw [List.length_append, List.length_append, dgC_len] at ee
      have ed := hd k (by omega)
      apply s_X10_printsNumber_43 (layOK n) k493
      rw [rf_ref.2.2.2.2.2.2.2.2.2.2.1, show ((k + 1 : Nat) : Int) + -1 = (k : Int) by omega, ed]
      refine ⟨fun z => absurd z (by omega), fun _ => ⟨⟨by omega, by omega⟩, ⟨by omega, by omega⟩, ⟨by omega, by omega⟩, q_put h1 (by omega) fun μ2 h2 f2 => ⟨rfl, rfl, ?_⟩⟩⟩
      have e2 : l1 ++ [48 + v / (10 : Int) ^ k % 10] ++ dgC v k = l ++ numL v := by rw [← e, List.append_assoc]; rfl
      exact ih _ μ2 (by omega) h2 (frS2_tr f1 (fun x i h1 h2 _ => f2 x i h1 h2)) (fun j hj => by rw [f2 504 j (Or.inl (by decide)) (by decide), hd j (by omega)]) e2
  -- the figures
  have find : ∀ (f m : Nat) (μ1 : Mem), m + f = 11 → ndR v f m = ndR v 11 0 → frS2 μ μ1 → HL μ1 493 21 503 l → (∀ j : Nat, j < m + 1 → μ1 504 j = v / (10 : Int) ^ j % 10) → WA mX10_printsNumber 1 (0, 0) 5 [(2, 493), (9, 0), (9, 0), (0, (m : Int) + 1), (1, v / (10 : Int) ^ (m + 1)), (9, 0)] [] (L0 n) μ1 Q := by
    intro f
    induction f with
    | zero =>
      intro m μ1 hm e fr hl1 hd
      have hm : m = 11 := by omega
      subst hm
      have e : 12 = ndR v 11 0 := e
      have z : v / (10 : Int) ^ (11 + 1) ≤ 0 := by show v / 1000000000000 ≤ 0; omega
      apply s_X10_printsNumber_5 (layOK n) k493
      refine ⟨fun y => absurd y (by decide), fun _ => ⟨fun _ => out 12 l μ1 (by omega) hl1 fr hd (by unfold numL; rw [← e]), fun y => absurd z y⟩⟩
    | succ f ih =>
      intro m μ1 hm e fr hl1 hd
      have pp := p10 (show m ≤ 12 by omega)
      have e : (if v / (10 : Int) ^ m < 10 then m + 1 else ndR v f (m + 1)) = ndR v 11 0 := e
      have dd : v / (10 : Int) ^ (m + 1) = v / (10 : Int) ^ m / 10 := by rw [p10s, Int.ediv_ediv_of_nonneg (by omega)]
      have dd2 : v / (10 : Int) ^ (m + 1 + 1) = v / (10 : Int) ^ (m + 1) / 10 := by
        rw [p10s (m := m + 1), Int.ediv_ediv_of_nonneg (by have := p10 (show m + 1 ≤ 12 by omega); omega)]
      have q0 : 0 ≤ v / (10 : Int) ^ m := Int.ediv_nonneg hv.1 (by omega)
      apply s_X10_printsNumber_5 (layOK n) k493
      rw [rf_ref.2.2.2.2.2.2.2.2.2.2.1]
      refine ⟨fun y => absurd y (by omega), fun _ => ⟨fun z => ?_, fun z => ⟨by omega, ⟨by omega, by omega⟩, ⟨by omega, by omega⟩, ⟨by omega, by omega⟩, ?_⟩⟩⟩
      · rw [if_pos (by omega)] at e
        exact out (m + 1) l μ1 (by omega) hl1 fr hd (by unfold numL; rw [← e])
      · rw [if_neg (by omega)] at e
        rw [← dd2]
        refine ih (m + 1) _ (by omega) e (fun x i h1 h2 h3 => by rw [up_ne (Or.inl h3), fr x i h1 h2 h3]) ⟨by rw [up_ne (Or.inl (by decide)), hl1.1], fun k hk => by rw [up_ne (Or.inl (by decide))]; exact hl1.2 k hk⟩ (fun j hj => ?_)
        by_cases y : j = m + 1
        · subst y
          rw [show (m : Int) + 1 = ((m + 1 : Nat) : Int) by omega, up_eq]
        · rw [up_ne (Or.inr (by omega))]
          exact hd j (by omega)
  apply s_X10_printsNumber_5 (layOK n) k493
  rw [rf_ref.2.2.2.2.2.2.2.2.2.2.1]
  refine ⟨fun _ => ⟨hv.1, ⟨by omega, by omega⟩, ⟨by decide, by decide⟩, ⟨by decide, by decide⟩, ?_⟩, fun y => absurd rfl y⟩
  have := find 11 0 (up μ 504 0 (v % 10)) rfl rfl (fun x i h1 h2 h3 => up_ne (Or.inl h3)) ⟨by rw [up_ne (Or.inl (by decide)), hl.1], fun k hk => by rw [up_ne (Or.inl (by decide))]; exact hl.2 k hk⟩ (fun j hj => by
    have hj : j = 0 := by omega
    subst hj
    show up μ 504 0 (v % 10) 504 0 = v / 1 % 10
    rw [up_eq, Int.ediv_one])
  exact this
theorem q_pt {l : List Int} {w : Dv} {i : Int} (hr : RWm μ w) (hi : 0 ≤ i ∧ i ≤ 508) (hl : HL μ 493 21 503 l) (h6 : l.length + (ptL (w i) (w (i + 1))).length ≤ 640) (hx : 0 ≤ w i ∧ w i ≤ 16000000000) (hy : 0 ≤ w (i + 1) ∧ w (i + 1) ≤ 1000000000) (h : ∀ μ', HL μ' 493 21 503 (l ++ ptL (w i) (w (i + 1))) → frS2 μ μ' → Q none (L0 n) μ') : TR mX10_printsPoint 2 (0, 0) [(2, 493), (0, i)] (L0 n) μ Q := by
  unfold ptL at h h6
  apply t_X10_printsPoint (layOK n) k493
  rw [rf_ref.1, hr i (by omega) (by omega)]
  refine ⟨⟨by omega, by omega⟩, ?_⟩
  by_cases z : w (i + 1) = 1
  · rw [if_pos z] at h h6
    refine q_num hl h6 hx fun μ1 h1 f1 => ⟨rfl, rfl, ⟨by omega, by omega⟩, ⟨by omega, by omega⟩, fun _ => h μ1 h1 f1, fun y => absurd ?_ y⟩
    rw [f1 494 _ (Or.inl (by decide)) (by decide) (by decide), hr (i + 1) (by omega) (by omega), z]
  · rw [if_neg z] at h h6
    rw [List.length_append, List.length_cons] at h6
    refine q_num hl (by omega) hx fun μ1 h1 f1 => ⟨rfl, rfl, ⟨by omega, by omega⟩, ⟨by omega, by omega⟩, fun y => absurd ?_ z, fun _ => ?_⟩
    · rw [f1 494 _ (Or.inl (by decide)) (by decide) (by decide), hr (i + 1) (by omega) (by omega)] at y
      exact y
    · refine q_put h1 (by rw [List.length_append]; omega) fun μ2 h2 f2 => ⟨rfl, rfl, ?_⟩
      rw [f2 494 _ (Or.inl (by decide)) (by decide), f1 494 _ (Or.inl (by decide)) (by decide) (by decide), hr (i + 1) (by omega) (by omega)]
      refine q_num h2 (by rw [List.length_append, List.length_append, List.length_singleton]; omega) ⟨hy.1, by omega⟩ fun μ3 h3 f3 => ⟨rfl, rfl, ?_⟩
      refine h μ3 ?_ (frS2_tr f1 (frS2_tr (fun x i h1 h2 _ => f2 x i h1 h2) f3))
      rw [List.append_assoc, List.append_assoc] at h3
      exact h3
theorem R_prints {σ : Sg} (hR : RSt μ σ) (ho : OKs σ)
    (hy : σ.w 2 = 1 → ∀ μ', RSt μ' (σ.setP ((prL σ.w (σ.w 4).toNat).length : Nat) (fun i => (prL σ.w (σ.w 4).toNat).getD i.toNat 0)) → frR' μ μ' → Q (some (0, (((prL σ.w (σ.w 4).toNat).length : Nat) : Int))) (L0 n) μ')
    (hs : ¬ σ.w 2 = 1 → Q (some (0, -5)) (L0 n) μ) : TR mX10_prints_ 3 (0, 0) [(2, 493)] (L0 n) μ Q := by
  have cn := WK_cn ho.1
  have c41 := cn.1.1
  have c42 := cn.1.2
  apply t_X10_prints_ (layOK n) k493
  refine c_isDiv hR.1 fun r1 h1 => ⟨r1, rfl, rfl, fun q => ?_, fun q => hs (by omega)⟩
  have hy := hy (by omega)
  have key : ∀ (d k : Nat), k + d = (σ.w 4).toNat → ∀ μ1, HL μ1 493 21 503 (prL σ.w k) → frS2 μ μ1 → WA mX10_prints_ 3 (0, 0) 17 [(2, 493), (0, (k : Int)), (9, 0), (9, 0)] [] (L0 n) μ1 Q := by
    intro d
    induction d with
    | zero =>
      intro k hk μ1 h1 f1
      have hk : k = (σ.w 4).toNat := by omega
      subst hk
      have R1 : RWm μ1 σ.w := RWm_fr hR.1 (fun i => f1 494 i (by omega) (by omega) (by omega))
      apply s_X10_prints__17 (layOK n) k493
      rw [rf_ref.1, R1 4 (by decide) (by decide), h1.1]
      exact ⟨fun _ => hy μ1 (RSt_P hR h1 (fun x i hx => f1 x i (by omega) (by omega) (by omega))) (fun x i hx => f1 x i (by omega) (by omega) (by omega)), fun z => absurd (show σ.w 4 ≤ (((σ.w 4).toNat : Nat) : Int) by omega) z⟩
    | succ d ih =>
      intro k hk μ1 h1 f1
      have R1 : RWm μ1 σ.w := RWm_fr hR.1 (fun i => f1 494 i (by omega) (by omega) (by omega))
      obtain ⟨p1, p2, p3, p4, p5, p6⟩ := evP_of ho.1 (k := (k : Int)) (by omega) (by omega)
      have l6 := prL_640 ho.1 (k + 1) (by omega)
      have next := fun μ2 h2 f2 => ih (k + 1) (by omega) μ2 h2 (frS2_tr f1 f2)
      unfold prL at l6 next
      rw [List.length_append] at l6
      generalize hkd : σ.w (210 + 6 * (k : Int)) = kd at *
      have i1 : (210 : Int) + 6 * k + 1 = 211 + 6 * k := by omega
      have i2 : (210 : Int) + 6 * k + 2 = 212 + 6 * k := by omega
      have i4 : (210 : Int) + 6 * k + 4 = 214 + 6 * k := by omega
      have i3 : (212 : Int) + 6 * k + 1 = 213 + 6 * k := by omega
      have i5 : (214 : Int) + 6 * k + 1 = 215 + 6 * k := by omega
      have body : WA mX10_prints_ 3 (0, 0) 78 [(2, 493), (0, (k : Int)), (0, 210 + 6 * (k : Int)), (0, kd)] [(0, letL kd), (2, 493)] (L0 n) μ1 Q := by
        unfold evL at l6 next
        simp only [List.length_cons, List.length_append, List.length_nil] at l6
        apply s_X10_prints__78 (layOK n) k493 k493
        rw [rf_ref.1, i1, i2, i4]
        refine q_put h1 (by omega) fun μ2 h2 f2 => ⟨rfl, rfl, ⟨by omega, by omega⟩, ⟨by omega, by omega⟩, ?_⟩
        have f2 : frS2 μ1 μ2 := fun x i h1 h2 _ => f2 x i h1 h2
        rw [f2 494 _ (Or.inl (by decide)) (by decide) (by decide), R1 (211 + 6 * (k : Int)) (by omega) (by omega)]
        refine q_num h2 (by rw [List.length_append, List.length_singleton]; omega) ⟨p2.1, by omega⟩ fun μ3 h3 f3 => ⟨rfl, rfl, ?_⟩
        have F3 := frS2_tr f2 f3
        refine ⟨fun y => ⟨fun _ => ?_, fun y2 => absurd (y.symm.trans y2) (by decide)⟩, fun y => ?_⟩
        · rw [if_pos y] at l6 next
          rw [if_neg (by omega)] at next
          refine q_put h3 (by rw [List.length_append, List.length_append, List.length_singleton]; simp only [List.length_nil] at l6; omega) fun μ4 h4 f4 => ⟨rfl, rfl, ⟨by omega, by omega⟩, next μ4 ?_ (frS2_tr F3 (fun x i h1 h2 _ => f4 x i h1 h2))⟩
          simp only [List.append_assoc, List.singleton_append, List.cons_append, List.nil_append] at h4 ⊢
          exact h4
        · rw [if_neg y, List.length_cons] at l6
          rw [if_neg y] at next
          refine q_put h3 (by rw [List.length_append, List.length_append, List.length_singleton]; omega) fun μ4 h4 f4 => ⟨rfl, rfl, ⟨by omega, by omega⟩, ?_⟩
          have F4 := frS2_tr F3 (fun x i h1 h2 _ => f4 x i h1 h2 : frS2 μ3 μ4)
          have R4 : RWm μ4 σ.w := RWm_fr R1 (fun i => F4 494 i (by omega) (by omega) (by omega))
          have pt := q_pt (n := n) (μ := μ4) (w := σ.w) (i := 212 + 6 * (k : Int)) (l := prL σ.w k ++ [letL kd] ++ numL (σ.w (211 + 6 * (k : Int))) ++ [32]) (Q := (fun r29 L30 μ31 => r29 = none ∧ (L0 n) = L30 ∧ (¬ kd = 3 → TR mX10_prints 0 (0, 0) [(2, 493), (0, 59)] (L0 n) μ31 (fun r32 L33 μ34 => r32 = none ∧ (L0 n) = L33 ∧ (inI ((k : Int) + 1)) ∧ WA mX10_prints_ 3 (0, 0) 17 [(2, 493), (0, ((k : Int) + 1)), (9, 0), (9, 0)] [] (L0 n) μ34 Q)) ∧ (kd = 3 → TR mX10_prints 0 (0, 0) [(2, 493), (0, 45)] (L0 n) μ31 (fun r36 L37 μ38 => r36 = none ∧ (L0 n) = L37 ∧ (inI (214 + 6 * (k : Int))) ∧ TR mX10_printsPoint 2 (0, 0) [(2, 493), (0, (214 + 6 * (k : Int)))] (L0 n) μ38 (fun r40 L41 μ42 => r40 = none ∧ (L0 n) = L41 ∧ TR mX10_prints 0 (0, 0) [(2, 493), (0, 59)] (L0 n) μ42 (fun r43 L44 μ45 => r43 = none ∧ (L0 n) = L44 ∧ (inI ((k : Int) + 1)) ∧ WA mX10_prints_ 3 (0, 0) 17 [(2, 493), (0, ((k : Int) + 1)), (9, 0), (9, 0)] [] (L0 n) μ45 Q)))))) R4 ⟨by omega, by omega⟩ h4
          rw [i3] at pt
          refine pt (by rw [List.length_append, List.length_append, List.length_append, List.length_singleton, List.length_singleton]; omega) p3 p4 fun μ5 h5 f5 => ⟨rfl, rfl, fun y2 => ?_, fun y2 => ?_⟩
          · rw [if_neg y2] at l6 next
            refine q_put h5 (by rw [List.length_append, List.length_append, List.length_append, List.length_append, List.length_singleton, List.length_singleton]; simp only [List.length_nil] at l6; omega) fun μ6 h6 f6 => ⟨rfl, rfl, ⟨by omega, by omega⟩, next μ6 ?_ (frS2_tr F4 (frS2_tr f5 (fun x i h1 h2 _ => f6 x i h1 h2)))⟩
            simp only [List.append_assoc, List.singleton_append, List.cons_append, List.nil_append] at h6 ⊢
            exact h6
          · rw [if_pos y2, List.length_cons] at l6
            rw [if_pos y2] at next
            refine q_put h5 (by rw [List.length_append, List.length_append, List.length_append, List.length_append, List.length_singleton, List.length_singleton]; omega) fun μ6 h6 f6 => ⟨rfl, rfl, ⟨by omega, by omega⟩, ?_⟩
            have f6 : frS2 μ5 μ6 := fun x i h1 h2 _ => f6 x i h1 h2
            have R6 : RWm μ6 σ.w := RWm_fr R4 (fun i => (frS2_tr f5 f6) 494 i (by omega) (by omega) (by omega))
            have pt2 := q_pt (n := n) (μ := μ6) (w := σ.w) (i := 214 + 6 * (k : Int)) (Q := (fun r40 L41 μ42 => r40 = none ∧ (L0 n) = L41 ∧ TR mX10_prints 0 (0, 0) [(2, 493), (0, 59)] (L0 n) μ42 (fun r43 L44 μ45 => r43 = none ∧ (L0 n) = L44 ∧ (inI ((k : Int) + 1)) ∧ WA mX10_prints_ 3 (0, 0) 17 [(2, 493), (0, ((k : Int) + 1)), (9, 0), (9, 0)] [] (L0 n) μ45 Q))) R6 ⟨by omega, by omega⟩ h6
            rw [i5] at pt2
            refine pt2 (by rw [List.length_append, List.length_append, List.length_append, List.length_append, List.length_append, List.length_singleton, List.length_singleton, List.length_singleton]; omega) p5 p6 fun μ7 h7 f7 => ⟨rfl, rfl, ?_⟩
            refine q_put h7 (by rw [List.length_append, List.length_append, List.length_append, List.length_append, List.length_append, List.length_append, List.length_singleton, List.length_singleton, List.length_singleton]; omega) fun μ8 h8 f8 => ⟨rfl, rfl, ⟨by omega, by omega⟩, next μ8 ?_ (frS2_tr F4 (frS2_tr f5 (frS2_tr f6 (frS2_tr f7 (fun x i h1 h2 _ => f8 x i h1 h2)))))⟩
            simp only [List.append_assoc, List.singleton_append, List.cons_append, List.nil_append] at h8 ⊢
            exact h8
      unfold letL at body
      apply s_X10_prints__17 (layOK n) k493
      rw [rf_ref.1, R1 4 (by decide) (by decide), R1 (210 + 6 * (k : Int)) (by omega) (by omega), hkd]
      refine ⟨fun z => absurd z (by omega), fun _ => ⟨⟨by omega, by omega⟩, ⟨by omega, by omega⟩, ⟨by omega, by omega⟩, ⟨by omega, by omega⟩, fun z => ⟨fun z2 => ⟨fun z3 => ?_, fun z3 => ?_⟩, fun z2 => ?_⟩, fun z => ?_⟩⟩
      · rw [if_neg z, if_neg z2, if_neg z3] at body; exact body
      · rw [if_neg z, if_neg z2, if_pos z3] at body; exact body
      · rw [if_neg z, if_pos z2] at body; exact body
      · rw [if_pos z] at body; exact body
  exact key (σ.w 4).toNat 0 (by omega) (up μ 493 21 0) ⟨up_eq _ _ _ _, fun k hk => absurd hk (by show ¬ k < 0; omega)⟩ (fun x i h1 _ _ => up_ne h1)
end
