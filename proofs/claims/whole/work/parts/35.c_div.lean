/-! contracts: Division; its content as a row of numbers, in the reference's places: 2 there, 3 the unit, 4 events, 165 + a how many spans, 170 + 8a + 4k a span, 210 + 6k an event -/
/-- the span k of agent a of a division stands there -/
def hl (D a k : Int) : Int := D + 83 + 3 * (2 * a + k)
/-- the event k -/
def evA (D k : Int) : Int := D + 7 + 4 * k
def DRu (μ : Mem) (D : Int) (w : Int → Int) : Prop := μ D 2 = w 3
def DRe (μ : Mem) (D : Int) (w : Int → Int) : Prop := μ D 3 = w 4 ∧ ∀ k : Int, 0 ≤ k → k < w 4 → μ (evA D k) 0 = w (210 + 6 * k) ∧ μ (evA D k) 1 = w (211 + 6 * k) ∧ μ (evA D k + 2) 0 = w (212 + 6 * k) ∧ μ (evA D k + 2) 1 = w (213 + 6 * k) ∧ μ (evA D k + 3) 0 = w (214 + 6 * k) ∧ μ (evA D k + 3) 1 = w (215 + 6 * k)
def DRs (μ : Mem) (D : Int) (w : Int → Int) : Prop := (∀ a : Int, 0 ≤ a → a < 5 → μ (D + 2) a = w (165 + a)) ∧ ∀ a k : Int, 0 ≤ a → a < 5 → 0 ≤ k → k < w (165 + a) → μ (hl D a k + 1) 0 = w (170 + 8 * a + 4 * k) ∧ μ (hl D a k + 1) 1 = w (171 + 8 * a + 4 * k) ∧ μ (hl D a k + 2) 0 = w (172 + 8 * a + 4 * k) ∧ μ (hl D a k + 2) 1 = w (173 + 8 * a + 4 * k)
/-- the division at D holds w -/
def DR (μ : Mem) (D : Int) (w : Int → Int) : Prop := DRu μ D w ∧ DRe μ D w ∧ DRs μ D w
/-- a point of a cake of S strips in parts of the unit u -/
def ptW (S u x y : Int) : Prop := 0 ≤ x ∧ 1 ≤ y ∧ x ≤ S * y ∧ y ∣ u ∧ gc x y = 1
/-- what a row must be to be a division's -/
def WFu (w : Int → Int) : Prop := 1 ≤ w 3 ∧ w 3 ≤ 1000000000
def WFe (S : Int) (w : Int → Int) : Prop := 0 ≤ w 4 ∧ w 4 ≤ 19 ∧ ∀ k : Int, 0 ≤ k → k < w 4 → (0 ≤ w (210 + 6 * k) ∧ w (210 + 6 * k) ≤ 3) ∧ (0 ≤ w (211 + 6 * k) ∧ w (211 + 6 * k) < 5) ∧ ptW S (w 3) (w (212 + 6 * k)) (w (213 + 6 * k)) ∧ ptW S (w 3) (w (214 + 6 * k)) (w (215 + 6 * k)) ∧ (w (210 + 6 * k) = 1 → w (212 + 6 * k) * w (215 + 6 * k) ≤ w (214 + 6 * k) * w (213 + 6 * k))
def WFs (S : Int) (w : Int → Int) : Prop := ∀ a : Int, 0 ≤ a → a < 5 → (0 ≤ w (165 + a) ∧ w (165 + a) ≤ 2) ∧ ∀ k : Int, 0 ≤ k → k < w (165 + a) → ptW S (w 3) (w (170 + 8 * a + 4 * k)) (w (171 + 8 * a + 4 * k)) ∧ ptW S (w 3) (w (172 + 8 * a + 4 * k)) (w (173 + 8 * a + 4 * k)) ∧ w (170 + 8 * a + 4 * k) * w (173 + 8 * a + 4 * k) ≤ w (172 + 8 * a + 4 * k) * w (171 + 8 * a + 4 * k)
def WF (S : Int) (w : Int → Int) : Prop := WFu w ∧ WFe S w ∧ WFs S w
/-- outside the division's cells -/
def outD (D x : Int) : Prop := x < D ∨ D + 132 < x
/-- a point in parts of u -/
def prt (u x y : Int) : Int := x * (u / y)
theorem prt_b {S u x y : Int} (h : ptW S u x y) (hu : 1 ≤ u) (hS : 0 ≤ S) : 0 ≤ prt u x y ∧ prt u x y ≤ S * u ∧ prt u x y * y = x * u := by
  obtain ⟨h1, h2, h3, h4, -⟩ := h
  have e := Int.ediv_mul_cancel h4
  have q0 : 0 ≤ u / y := Int.ediv_nonneg (by omega) (by omega)
  unfold prt
  refine ⟨Int.mul_nonneg h1 q0, ?_, ?_⟩
  · have := Int.mul_le_mul_of_nonneg_right h3 q0
    rw [Int.mul_assoc, Int.mul_comm y, e] at this
    exact this
  · rw [Int.mul_assoc, e]
theorem S_mul_le {S u : Int} (hS : S ≤ 16) (hu : 0 ≤ u) : S * u ≤ 16 * u := Int.mul_le_mul_of_nonneg_right hS hu
/-- more below the line of the unit -/
theorem ptW_un {S u u' x y : Int} (h : ptW S u x y) (hd : u ∣ u') : ptW S u' x y := ⟨h.1, h.2.1, h.2.2.1, Int.dvd_trans h.2.2.2.1 hd, h.2.2.2.2⟩
section
variable {n : Int} {μ : Mem} {Q : Option AV → Lay → Mem → Prop}
theorem dv_K {D : Int} (kD : isK (L0 n) D (1, 0)) : (∀ k : Int, 0 ≤ k → k < 19 → isK (L0 n) (evA D k) (2, 0)) ∧ (∀ j : Int, 0 ≤ j → j < 10 → isK (L0 n) (D + 83 + 3 * j) (7, 0)) ∧ (∀ k : Int, 0 ≤ k → k < 20 → isK (L0 n) (D + 113 + k) (3, 0)) ∧ isK (L0 n) (D + 6) (3, 0) := by
  have hD := dv_is kD
  have e := dv_rf (n := n) hD
  have f := dv_all (n := n) hD
  refine ⟨fun k k0 k1 => ?_, fun k k0 k1 => ?_, fun k k0 k1 => ?_, ?_⟩
  · have g := lay_e (layOK n) kD 4 rfl (i := k) ⟨k0, k1⟩
    rw [show ((4 : Nat) : Int) = 4 from rfl, e.1, f.1 k k0 k1] at g
    exact g
  · have g := lay_e (layOK n) kD 6 rfl (i := k) ⟨k0, k1⟩
    rw [show ((6 : Nat) : Int) = 6 from rfl, e.2.2.1, f.2.1 k k0 k1] at g
    exact g
  · have g := lay_e (layOK n) kD 7 rfl (i := k) ⟨k0, k1⟩
    rw [show ((7 : Nat) : Int) = 7 from rfl, e.2.2.2.1, f.2.2 k k0 k1] at g
    exact g
  · have g := lay_f (layOK n) kD 9 rfl
    rw [show ((9 : Nat) : Int) = 9 from rfl, e.2.2.2.2.2] at g
    exact g
theorem hl_K {D a k : Int} (kD : isK (L0 n) D (1, 0)) (ha : 0 ≤ a ∧ a < 5) (hk : 0 ≤ k ∧ k < 2) : isK (L0 n) (hl D a k) (7, 0) := (dv_K kD).2.1 (2 * a + k) (by omega) (by omega)
theorem c_X1_held {D a k : Int} (kD : isK (L0 n) D (1, 0)) (ha : 0 ≤ a ∧ a < 5) (hk : 0 ≤ k ∧ k < 2) (h : Q (some (2, hl D a k)) (L0 n) μ) : TR mX1_held 0 (0, 0) [(2, D), (0, a), (0, k)] (L0 n) μ Q := by
  have hD := dv_is kD
  apply t_X1_held (layOK n) kD
  rw [(dv_rf hD).2.2.1, (dv_all hD).2.1 _ (by omega) (by omega)]
  refine ⟨⟨by omega, by omega⟩, ⟨by omega, by omega⟩, ⟨by omega, by omega⟩, ?_⟩
  unfold hl at h
  rw [show a * 2 + k = 2 * a + k by omega]
  exact h
theorem c_X1_clear {D : Int} (kD : isK (L0 n) D (1, 0)) (h : ∀ μ', μ' D 0 = 0 → μ' D 1 = 0 → μ' D 2 = 1 → μ' D 3 = 0 → (∀ a : Int, 0 ≤ a → a < 5 → μ' (D + 2) a = 0) → (∀ x i, x ≠ D → x ≠ D + 2 → μ' x i = μ x i) → Q none (L0 n) μ') : TR mX1_clear 0 (0, 0) [(2, D)] (L0 n) μ Q := by
  have hD := dv_is kD
  apply t_X1_clear (layOK n) kD
  have key : ∀ (d k : Nat), k + d = 5 → ∀ μ', μ' D 0 = 0 → μ' D 1 = 0 → μ' D 2 = 1 → μ' D 3 = 0 → (∀ a : Int, 0 ≤ a → a < k → μ' (D + 2) a = 0) → (∀ x i, x ≠ D → x ≠ D + 2 → μ' x i = μ x i) → WA mX1_clear 0 (0, 0) 22 [(2, D), (0, (k : Int))] [] (L0 n) μ' Q := by
    intro d
    induction d with
    | zero =>
      intro k hk μ' h1 h2 h3 h4 h5 h6
      apply s_X1_clear_22 (layOK n) kD
      exact ⟨fun _ => h μ' h1 h2 h3 h4 (fun a a0 a1 => h5 a a0 (by omega)) h6, fun q => absurd (show (5 : Int) ≤ k by omega) q⟩
    | succ d ih =>
      intro k hk μ' h1 h2 h3 h4 h5 h6
      apply s_X1_clear_22 (layOK n) kD
      rw [(dv_rf hD).2.1]
      refine ⟨fun q => absurd q (by omega), fun _ => ⟨⟨by omega, by omega⟩, ⟨by omega, by omega⟩, ?_⟩⟩
      refine ih (k + 1) (by omega) _ ?_ ?_ ?_ ?_ (fun a a0 a1 => ?_) (fun x i x1 x2 => ?_)
      · rw [up_ne (Or.inl (by omega))]; exact h1
      · rw [up_ne (Or.inl (by omega))]; exact h2
      · rw [up_ne (Or.inl (by omega))]; exact h3
      · rw [up_ne (Or.inl (by omega))]; exact h4
      · unfold up
        split
        · rfl
        · exact h5 a a0 (by omega)
      · rw [up_ne (Or.inl x2)]; exact h6 x i x1 x2
  refine key 5 0 (by omega) _ ?_ ?_ ?_ ?_ (fun a a0 a1 => by omega) (fun x i x1 x2 => ?_)
  · rw [up_ne (Or.inr (by omega)), up_ne (Or.inr (by omega)), up_ne (Or.inr (by omega)), up_eq]
  · rw [up_ne (Or.inr (by omega)), up_ne (Or.inr (by omega)), up_eq]
  · rw [up_ne (Or.inr (by omega)), up_eq]
  · rw [up_eq]
  · rw [up_ne (Or.inl x1), up_ne (Or.inl x1), up_ne (Or.inl x1), up_ne (Or.inl x1)]
/-- one more event -/
def happ (w : Int → Int) (e0 e1 e2 e3 e4 e5 : Int) : Int → Int := fun i => if i = 210 + 6 * w 4 then e0 else if i = 211 + 6 * w 4 then e1 else if i = 212 + 6 * w 4 then e2 else if i = 213 + 6 * w 4 then e3 else if i = 214 + 6 * w 4 then e4 else if i = 215 + 6 * w 4 then e5 else if i = 4 then w 4 + 1 else w i
/-- one more span of a -/
def addS (w : Int → Int) (a e0 e1 e2 e3 : Int) : Int → Int := fun i => if i = 170 + 8 * a + 4 * w (165 + a) then e0 else if i = 171 + 8 * a + 4 * w (165 + a) then e1 else if i = 172 + 8 * a + 4 * w (165 + a) then e2 else if i = 173 + 8 * a + 4 * w (165 + a) then e3 else if i = 165 + a then w (165 + a) + 1 else w i
theorem happ_ne {w : Int → Int} {e0 e1 e2 e3 e4 e5 i : Int} (h4 : i ≠ 4) (h : i < 210 + 6 * w 4 ∨ 215 + 6 * w 4 < i) : happ w e0 e1 e2 e3 e4 e5 i = w i := by
  unfold happ
  rw [if_neg (by omega), if_neg (by omega), if_neg (by omega), if_neg (by omega), if_neg (by omega), if_neg (by omega), if_neg h4]
theorem happ_4 {w : Int → Int} {e0 e1 e2 e3 e4 e5 : Int} (h : 0 ≤ w 4) : happ w e0 e1 e2 e3 e4 e5 4 = w 4 + 1 := by
  unfold happ
  rw [if_neg (by omega), if_neg (by omega), if_neg (by omega), if_neg (by omega), if_neg (by omega), if_neg (by omega), if_pos rfl]
theorem happ_at {w : Int → Int} {e0 e1 e2 e3 e4 e5 : Int} : happ w e0 e1 e2 e3 e4 e5 (210 + 6 * w 4) = e0 ∧ happ w e0 e1 e2 e3 e4 e5 (211 + 6 * w 4) = e1 ∧ happ w e0 e1 e2 e3 e4 e5 (212 + 6 * w 4) = e2 ∧ happ w e0 e1 e2 e3 e4 e5 (213 + 6 * w 4) = e3 ∧ happ w e0 e1 e2 e3 e4 e5 (214 + 6 * w 4) = e4 ∧ happ w e0 e1 e2 e3 e4 e5 (215 + 6 * w 4) = e5 := by
  refine ⟨?_, ?_, ?_, ?_, ?_, ?_⟩ <;> unfold happ
  · rw [if_pos rfl]
  · rw [if_neg (by omega), if_pos rfl]
  · rw [if_neg (by omega), if_neg (by omega), if_pos rfl]
  · rw [if_neg (by omega), if_neg (by omega), if_neg (by omega), if_pos rfl]
  · rw [if_neg (by omega), if_neg (by omega), if_neg (by omega), if_neg (by omega), if_pos rfl]
  · rw [if_neg (by omega), if_neg (by omega), if_neg (by omega), if_neg (by omega), if_neg (by omega), if_pos rfl]
theorem addS_ne {w : Int → Int} {a e0 e1 e2 e3 i : Int} (h4 : i ≠ 165 + a) (h : i < 170 + 8 * a + 4 * w (165 + a) ∨ 173 + 8 * a + 4 * w (165 + a) < i) : addS w a e0 e1 e2 e3 i = w i := by
  unfold addS
  rw [if_neg (by omega), if_neg (by omega), if_neg (by omega), if_neg (by omega), if_neg h4]
theorem addS_m {w : Int → Int} {a e0 e1 e2 e3 : Int} (ha : 0 ≤ a) (h : 0 ≤ w (165 + a)) : addS w a e0 e1 e2 e3 (165 + a) = w (165 + a) + 1 := by
  unfold addS
  rw [if_neg (by omega), if_neg (by omega), if_neg (by omega), if_neg (by omega), if_pos rfl]
theorem addS_at {w : Int → Int} {a e0 e1 e2 e3 : Int} : addS w a e0 e1 e2 e3 (170 + 8 * a + 4 * w (165 + a)) = e0 ∧ addS w a e0 e1 e2 e3 (171 + 8 * a + 4 * w (165 + a)) = e1 ∧ addS w a e0 e1 e2 e3 (172 + 8 * a + 4 * w (165 + a)) = e2 ∧ addS w a e0 e1 e2 e3 (173 + 8 * a + 4 * w (165 + a)) = e3 := by
  refine ⟨?_, ?_, ?_, ?_⟩ <;> unfold addS
  · rw [if_pos rfl]
  · rw [if_neg (by omega), if_pos rfl]
  · rw [if_neg (by omega), if_neg (by omega), if_pos rfl]
  · rw [if_neg (by omega), if_neg (by omega), if_neg (by omega), if_pos rfl]
theorem spW_in {μ : Mem} {s a b c d : Int} : spW μ s a b c d (s + 1) 0 = a ∧ spW μ s a b c d (s + 1) 1 = b ∧ spW μ s a b c d (s + 2) 0 = c ∧ spW μ s a b c d (s + 2) 1 = d := by
  refine ⟨?_, ?_, ?_, ?_⟩ <;> rw [spW_at]
  · rw [if_pos ⟨rfl, rfl⟩]
  · rw [if_neg (by omega), if_pos ⟨rfl, rfl⟩]
  · rw [if_neg (by omega), if_neg (by omega), if_pos ⟨rfl, rfl⟩]
  · rw [if_neg (by omega), if_neg (by omega), if_neg (by omega), if_pos ⟨rfl, rfl⟩]
theorem spW_ne {μ : Mem} {s a b c d x i : Int} (h : x ≠ s + 1 ∧ x ≠ s + 2) : spW μ s a b c d x i = μ x i := by
  rw [spW_at, if_neg (by omega), if_neg (by omega), if_neg (by omega), if_neg (by omega)]
theorem c_X1_note {D k a p q : Int} {w : Int → Int} (kD : isK (L0 n) D (1, 0)) (kp : isK (L0 n) p (3, 0)) (kq : isK (L0 n) q (3, 0)) (hp : outD D p) (hq : outD D q) (hr : DR μ D w) (hn : 0 ≤ w 4 ∧ w 4 < 19) (hmany : ∀ a : Int, 0 ≤ a → a < 5 → w (165 + a) ≤ 2)
    (h : ∀ μ', DR μ' D (happ w k a (μ p 0) (μ p 1) (μ q 0) (μ q 1)) → (∀ x i, outD D x ∨ x = D ∧ i ≠ 3 → μ' x i = μ x i) → Q none (L0 n) μ') : TR mX1_note 2 (0, 0) [(2, D), (0, k), (0, a), (2, p), (2, q)] (L0 n) μ Q := by
  have hD := dv_is kD
  obtain ⟨hu, ⟨he1, he2⟩, hs1, hs2⟩ := hr
  unfold DRu at hu
  have e1 : rf (L0 n) (rf (L0 n) D 4) (μ D 3) = evA D (w 4) := by
    rw [(dv_rf hD).1, he1, (dv_all hD).1 _ hn.1 hn.2]
    rfl
  have kE := (dv_K kD).1 (w 4) hn.1 hn.2
  obtain ⟨e2, kS⟩ := ev_at kE
  unfold outD at hp hq
  have eA : ∀ j, evA D j = D + 7 + 4 * j := fun _ => rfl
  apply t_X1_note (layOK n) kD kp kq
  rw [e1, e2]
  refine ⟨fun z => by omega, fun _ => ⟨⟨by omega, by omega⟩, ?_⟩⟩
  refine c_X7_put kS kp kq (by rw [eA]; omega) ⟨rfl, rfl, ?_⟩
  have pe : ∀ x i, x ≠ evA D (w 4) → up (up μ (evA D (w 4)) 0 k) (evA D (w 4)) 1 a x i = μ x i := fun x i hx => by rw [up_ne (Or.inl hx), up_ne (Or.inl hx)]
  rw [pe p 0 (by rw [eA]; omega), pe p 1 (by rw [eA]; omega), pe q 0 (by rw [eA]; omega), pe q 1 (by rw [eA]; omega)]
  generalize hM : spW (up (up μ (evA D (w 4)) 0 k) (evA D (w 4)) 1 a) (evA D (w 4) + 1) (μ p 0) (μ p 1) (μ q 0) (μ q 1) = M
  have m0 : M (evA D (w 4)) 0 = k ∧ M (evA D (w 4)) 1 = a := by
    rw [← hM, spW_ne ⟨by omega, by omega⟩, spW_ne ⟨by omega, by omega⟩, up_ne (Or.inr (by omega)), up_eq, up_eq]
    exact ⟨rfl, rfl⟩
  have m1 : M (evA D (w 4) + 2) 0 = μ p 0 ∧ M (evA D (w 4) + 2) 1 = μ p 1 ∧ M (evA D (w 4) + 3) 0 = μ q 0 ∧ M (evA D (w 4) + 3) 1 = μ q 1 := by
    have := spW_in (μ := up (up μ (evA D (w 4)) 0 k) (evA D (w 4)) 1 a) (s := evA D (w 4) + 1) (a := μ p 0) (b := μ p 1) (c := μ q 0) (d := μ q 1)
    rw [hM, show evA D (w 4) + 1 + 1 = evA D (w 4) + 2 by omega, show evA D (w 4) + 1 + 2 = evA D (w 4) + 3 by omega] at this
    exact this
  have m2 : ∀ x i, x ≠ evA D (w 4) → x ≠ evA D (w 4) + 2 → x ≠ evA D (w 4) + 3 → M x i = μ x i := fun x i x1 x2 x3 => by
    rw [← hM, spW_ne ⟨by omega, by omega⟩, pe x i x1]
  have mD : ∀ i, M D i = μ D i := fun i => m2 D i (by rw [eA]; omega) (by rw [eA]; omega) (by rw [eA]; omega)
  have hm3 : M D 3 = w 4 := by rw [mD, he1]
  rw [hm3]
  have hout : ∀ x i, x ≠ D → up M D 3 (w 4 + 1) x i = M x i := fun x i hx => up_ne (Or.inl hx)
  refine ⟨⟨by omega, by omega⟩, h _ ⟨?_, ⟨?_, fun j j0 j1 => ?_⟩, fun b b0 b1 => ?_, fun b j b0 b1 j0 j1 => ?_⟩ (fun x i hx => ?_)⟩
  · unfold DRu
    rw [up_ne (Or.inr (by omega)), mD, hu, happ_ne (by omega) (by omega)]
  · rw [up_eq, happ_4 hn.1]
  · rw [happ_4 hn.1] at j1
    rw [hout _ _ (by rw [eA]; omega), hout _ _ (by rw [eA]; omega), hout _ _ (by rw [eA]; omega), hout _ _ (by rw [eA]; omega), hout _ _ (by rw [eA]; omega), hout _ _ (by rw [eA]; omega)]
    by_cases z : j = w 4
    · subst z
      obtain ⟨a0, a1, a2, a3, a4, a5⟩ := happ_at (w := w) (e0 := k) (e1 := a) (e2 := μ p 0) (e3 := μ p 1) (e4 := μ q 0) (e5 := μ q 1)
      rw [a0, a1, a2, a3, a4, a5]
      exact ⟨m0.1, m0.2, m1⟩
    · have hj := he2 j j0 (by omega)
      rw [happ_ne (by omega) (by omega), happ_ne (by omega) (by omega), happ_ne (by omega) (by omega), happ_ne (by omega) (by omega), happ_ne (by omega) (by omega), happ_ne (by omega) (by omega)]
      have mj : ∀ (c i : Int), 0 ≤ c → c ≤ 3 → M (evA D j + c) i = μ (evA D j + c) i := fun c i c0 c1 => m2 _ _ (by rw [eA, eA]; omega) (by rw [eA, eA]; omega) (by rw [eA, eA]; omega)
      have mj0 := fun i => mj 0 i (by omega) (by omega)
      rw [Int.add_zero] at mj0
      rw [mj0, mj0, mj 2 _ (by omega) (by omega), mj 2 _ (by omega) (by omega), mj 3 _ (by omega) (by omega), mj 3 _ (by omega) (by omega)]
      exact hj
  · rw [happ_ne (by omega) (by omega), ← hs1 b b0 b1, hout _ _ (by omega), m2 _ _ (by rw [eA]; omega) (by rw [eA]; omega) (by rw [eA]; omega)]
  · rw [happ_ne (by omega) (by omega)] at j1
    have hb2 := hmany b b0 b1
    have hj := hs2 b j b0 b1 j0 j1
    have eH : hl D b j = D + 83 + 3 * (2 * b + j) := rfl
    rw [happ_ne (by omega) (by omega), happ_ne (by omega) (by omega), happ_ne (by omega) (by omega), happ_ne (by omega) (by omega)]
    have mj : ∀ (c i : Int), 1 ≤ c → c ≤ 2 → up M D 3 (w 4 + 1) (hl D b j + c) i = μ (hl D b j + c) i := fun c i c0 c1 => by
      rw [hout _ _ (by rw [eH]; omega)]
      exact m2 _ _ (by rw [eA, eH]; omega) (by rw [eA, eH]; omega) (by rw [eA, eH]; omega)
    rw [mj 1 _ (by omega) (by omega), mj 1 _ (by omega) (by omega), mj 2 _ (by omega) (by omega), mj 2 _ (by omega) (by omega)]
    exact hj
  · unfold outD at hx
    rw [up_ne (by omega), m2 _ _ (by rw [eA]; omega) (by rw [eA]; omega) (by rw [eA]; omega)]
theorem c_X1_give {D a p q : Int} {w : Int → Int} (kD : isK (L0 n) D (1, 0)) (kp : isK (L0 n) p (3, 0)) (kq : isK (L0 n) q (3, 0)) (hp : outD D p) (hq : outD D q) (hr : DR μ D w) (ha : 0 ≤ a ∧ a < 5) (hn : 0 ≤ w (165 + a) ∧ w (165 + a) < 2) (he4 : w 4 ≤ 19) (hmany : ∀ a : Int, 0 ≤ a → a < 5 → w (165 + a) ≤ 2)
    (h : ∀ μ', DR μ' D (addS w a (μ p 0) (μ p 1) (μ q 0) (μ q 1)) → (∀ x i, outD D x ∨ x = D → μ' x i = μ x i) → Q none (L0 n) μ') : TR mX1_give 2 (0, 0) [(2, D), (0, a), (2, p), (2, q)] (L0 n) μ Q := by
  have hD := dv_is kD
  obtain ⟨hu, ⟨he1, he2⟩, hs1, hs2⟩ := hr
  unfold DRu at hu
  have kH := hl_K kD ha hn
  have eA : ∀ j, evA D j = D + 7 + 4 * j := fun _ => rfl
  have eH : ∀ b j, hl D b j = D + 83 + 3 * (2 * b + j) := fun _ _ => rfl
  unfold outD at hp hq
  apply t_X1_give (layOK n) kD kp kq
  rw [(dv_rf hD).2.1, hs1 a ha.1 ha.2]
  refine ⟨ha, fun z => by omega, fun _ => ?_⟩
  refine c_X1_held kD ha hn ⟨_, rfl, rfl, kH, ?_⟩
  refine c_X7_put kH kp kq (by rw [eH]; omega) ⟨rfl, rfl, ?_⟩
  generalize hM : spW μ (hl D a (w (165 + a))) (μ p 0) (μ p 1) (μ q 0) (μ q 1) = M
  have m1 := spW_in (μ := μ) (s := hl D a (w (165 + a))) (a := μ p 0) (b := μ p 1) (c := μ q 0) (d := μ q 1)
  rw [hM] at m1
  have m2 : ∀ x i, x ≠ hl D a (w (165 + a)) + 1 → x ≠ hl D a (w (165 + a)) + 2 → M x i = μ x i := fun x i x1 x2 => by
    rw [← hM, spW_ne ⟨x1, x2⟩]
  have mS : ∀ i, M (D + 2) i = μ (D + 2) i := fun i => m2 _ i (by rw [eH]; omega) (by rw [eH]; omega)
  rw [mS, hs1 a ha.1 ha.2]
  have hout : ∀ x i, x ≠ D + 2 → up M (D + 2) a (w (165 + a) + 1) x i = M x i := fun x i hx => up_ne (Or.inl hx)
  refine ⟨⟨by omega, by omega⟩, h _ ⟨?_, ⟨?_, fun j j0 j1 => ?_⟩, fun b b0 b1 => ?_, fun b j b0 b1 j0 j1 => ?_⟩ (fun x i hx => ?_)⟩
  · unfold DRu
    rw [hout _ _ (by omega), m2 _ _ (by rw [eH]; omega) (by rw [eH]; omega), hu, addS_ne (by omega) (by omega)]
  · rw [hout _ _ (by omega), m2 _ _ (by rw [eH]; omega) (by rw [eH]; omega), he1, addS_ne (by omega) (by omega)]
  · rw [addS_ne (by omega) (by omega)] at j1
    have hj := he2 j j0 j1
    rw [addS_ne (by omega) (by omega), addS_ne (by omega) (by omega), addS_ne (by omega) (by omega), addS_ne (by omega) (by omega), addS_ne (by omega) (by omega), addS_ne (by omega) (by omega)]
    have mj : ∀ (c i : Int), 0 ≤ c → c ≤ 3 → up M (D + 2) a (w (165 + a) + 1) (evA D j + c) i = μ (evA D j + c) i := fun c i c0 c1 => by
      rw [hout _ _ (by rw [eA]; omega)]
      exact m2 _ _ (by rw [eA, eH]; omega) (by rw [eA, eH]; omega)
    have mj0 := fun i => mj 0 i (by omega) (by omega)
    rw [Int.add_zero] at mj0
    rw [mj0, mj0, mj 2 _ (by omega) (by omega), mj 2 _ (by omega) (by omega), mj 3 _ (by omega) (by omega), mj 3 _ (by omega) (by omega)]
    exact hj
  · by_cases z : b = a
    · subst z
      rw [up_eq, addS_m b0 hn.1]
    · rw [up_ne (Or.inr z), mS, addS_ne (by omega) (by omega)]
      exact hs1 b b0 b1
  · have hb2 := hmany b b0 b1
    have upH : ∀ (c i : Int), 1 ≤ c → c ≤ 2 → up M (D + 2) a (w (165 + a) + 1) (hl D b j + c) i = M (hl D b j + c) i := fun c i c0 c1 => hout _ _ (by rw [eH]; omega)
    rw [upH 1 _ (by omega) (by omega), upH 1 _ (by omega) (by omega), upH 2 _ (by omega) (by omega), upH 2 _ (by omega) (by omega)]
    by_cases z : b = a ∧ j = w (165 + a)
    · obtain ⟨rfl, rfl⟩ := z
      obtain ⟨a0, a1, a2, a3⟩ := addS_at (w := w) (a := b) (e0 := μ p 0) (e1 := μ p 1) (e2 := μ q 0) (e3 := μ q 1)
      rw [a0, a1, a2, a3]
      exact m1
    · have jlt : j < w (165 + b) ∧ j < 2 := by
        by_cases zb : b = a
        · subst zb
          rw [addS_m b0 hn.1] at j1
          omega
        · rw [addS_ne (by omega) (by omega)] at j1
          omega
      have hj := hs2 b j b0 b1 j0 jlt.1
      rw [addS_ne (by omega) (by omega), addS_ne (by omega) (by omega), addS_ne (by omega) (by omega), addS_ne (by omega) (by omega)]
      have mj : ∀ (c i : Int), 1 ≤ c → c ≤ 2 → M (hl D b j + c) i = μ (hl D b j + c) i := fun c i c0 c1 => m2 _ _ (by rw [eH, eH]; omega) (by rw [eH, eH]; omega)
      rw [mj 1 _ (by omega) (by omega), mj 1 _ (by omega) (by omega), mj 2 _ (by omega) (by omega), mj 2 _ (by omega) (by omega)]
      exact hj
  · unfold outD at hx
    rw [hout _ _ (by omega), m2 _ _ (by rw [eH]; omega) (by rw [eH]; omega)]
end
