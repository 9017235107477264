/-! prints: the text of a division, on both sides -/
def dgC (v : Int) : Nat → List Int
  | 0 => []
  | k + 1 => (48 + v / (10 : Int) ^ k % 10) :: dgC v k
/-- how many figures -/
def ndR (v : Int) : Nat → Nat → Nat
  | 0, m => m + 1
  | f + 1, m => if v / (10 : Int) ^ m < 10 then m + 1 else ndR v f (m + 1)
def numL (v : Int) : List Int := dgC v (ndR v 11 0)
def ptL (x y : Int) : List Int := if y = 1 then numL x else numL x ++ 47 :: numL y
def letL (kind : Int) : Int := if kind = 0 then 109 else if kind = 1 then 116 else if kind = 2 then 112 else 103
def evL (kind a x y x' y' : Int) : List Int := letL kind :: (numL a ++ ((if kind = 2 then [] else 32 :: ptL x y) ++ ((if kind = 3 then 45 :: ptL x' y' else []) ++ [59])))
def prL (w : Dv) : Nat → List Int
  | 0 => []
  | k + 1 => prL w k ++ evL (w (210 + 6 * (k : Int))) (w (211 + 6 * (k : Int))) (w (212 + 6 * (k : Int))) (w (213 + 6 * (k : Int))) (w (214 + 6 * (k : Int))) (w (215 + 6 * (k : Int)))
theorem p10 {m : Nat} (h : m ≤ 12) : 1 ≤ (10 : Int) ^ m ∧ (10 : Int) ^ m ≤ 1000000000000 := by
  have : m = 0 ∨ m = 1 ∨ m = 2 ∨ m = 3 ∨ m = 4 ∨ m = 5 ∨ m = 6 ∨ m = 7 ∨ m = 8 ∨ m = 9 ∨ m = 10 ∨ m = 11 ∨ m = 12 := by omega
  rcases this with rfl | rfl | rfl | rfl | rfl | rfl | rfl | rfl | rfl | rfl | rfl | rfl | rfl <;> decide
theorem p10s {m : Nat} : (10 : Int) ^ (m + 1) = (10 : Int) ^ m * 10 := Int.pow_succ _ _
theorem dgC_len {v : Int} : ∀ k : Nat, (dgC v k).length = k
  | 0 => rfl
  | k + 1 => by
    show (dgC v k).length + 1 = k + 1
    rw [dgC_len k]
theorem ndR_b {v : Int} : ∀ f m K : Nat, m + f = 11 → m ≤ K → K ≤ 11 → v / (10 : Int) ^ K < 10 → 1 ≤ ndR v f m ∧ ndR v f m ≤ K + 1
  | 0, m, K, h, hm, hK, _ => by
    show 1 ≤ m + 1 ∧ m + 1 ≤ K + 1
    omega
  | f + 1, m, K, h, hm, hK, hv => by
    unfold ndR
    split
    · omega
    · rename_i q
      have : m ≠ K := fun e => q (by rw [e]; exact hv)
      exact ndR_b f (m + 1) K (by omega) (by omega) hK hv
theorem ndR_1 {v : Int} : ∀ f m : Nat, 1 ≤ ndR v f m ∧ ndR v f m ≤ m + f + 1
  | 0, m => by
    show 1 ≤ m + 1 ∧ m + 1 ≤ m + 0 + 1
    omega
  | f + 1, m => by
    unfold ndR
    split
    · omega
    · have := ndR_1 (v := v) f (m + 1)
      omega
theorem numL_len {v : Int} {K : Nat} (hK : K ≤ 11) (h : v / (10 : Int) ^ K < 10) : 1 ≤ (numL v).length ∧ (numL v).length ≤ K + 1 := by
  unfold numL
  rw [dgC_len]
  exact ndR_b 11 0 K rfl (by omega) hK h
theorem numL_1 {v : Int} (h : 0 ≤ v ∧ v < 10) : (numL v).length ≤ 1 := (numL_len (K := 0) (by omega) (by show v / 1 < 10; omega)).2
theorem numL_10 {v : Int} (h : 0 ≤ v ∧ v ≤ 1000000000) : (numL v).length ≤ 10 := (numL_len (K := 9) (by omega) (by show v / 1000000000 < 10; omega)).2
theorem numL_11 {v : Int} (h : 0 ≤ v ∧ v ≤ 16000000000) : (numL v).length ≤ 11 := (numL_len (K := 10) (by omega) (by show v / 10000000000 < 10; omega)).2
def byB (l : List Int) : Prop := ∀ b ∈ l, 0 ≤ b ∧ b ≤ 127
theorem byB_app {l l' : List Int} (h : byB l) (h' : byB l') : byB (l ++ l') := fun b hb => by
  rcases List.mem_append.mp hb with z | z
  · exact h b z
  · exact h' b z
theorem byB_cons {b : Int} {l : List Int} (hb : 0 ≤ b ∧ b ≤ 127) (h : byB l) : byB (b :: l) := fun c hc => by
  rcases List.mem_cons.mp hc with z | z
  · rw [z]; exact hb
  · exact h c z
theorem byB_nil : byB [] := fun b hb => by cases hb
theorem dgC_by {v : Int} : ∀ k : Nat, byB (dgC v k)
  | 0 => byB_nil
  | k + 1 => byB_cons (by omega) (dgC_by k)
theorem numL_by {v : Int} : byB (numL v) := dgC_by _
theorem ptL_by {x y : Int} : byB (ptL x y) := by
  unfold ptL
  split
  · exact numL_by
  · exact byB_app numL_by (byB_cons (by decide) numL_by)
theorem letL_b {kind : Int} : 0 ≤ letL kind ∧ letL kind ≤ 127 := by
  unfold letL
  repeat' split
  all_goals decide
theorem evL_by {k a x y x' y' : Int} : byB (evL k a x y x' y') := by
  unfold evL
  refine byB_cons letL_b (byB_app numL_by (byB_app ?_ (byB_app ?_ (byB_cons (by decide) byB_nil))))
  · split
    · exact byB_nil
    · exact byB_cons (by decide) ptL_by
  · split
    · exact byB_cons (by decide) ptL_by
    · exact byB_nil
theorem prL_by {w : Dv} : ∀ k : Nat, byB (prL w k)
  | 0 => byB_nil
  | k + 1 => byB_app (prL_by k) evL_by
theorem ptL_len {x y : Int} (hx : 0 ≤ x ∧ x ≤ 16000000000) (hy : 0 ≤ y ∧ y ≤ 1000000000) : (ptL x y).length ≤ 22 := by
  have a := numL_11 hx
  have b := numL_10 hy
  unfold ptL
  split
  · omega
  · rw [List.length_append, List.length_cons]
    omega
/-- a row's event can be printed -/
def evP (w : Dv) (k : Int) : Prop := (0 ≤ w (210 + 6 * k) ∧ w (210 + 6 * k) ≤ 3) ∧ (0 ≤ w (211 + 6 * k) ∧ w (211 + 6 * k) < 5) ∧ (0 ≤ w (212 + 6 * k) ∧ w (212 + 6 * k) ≤ 16000000000) ∧ (0 ≤ w (213 + 6 * k) ∧ w (213 + 6 * k) ≤ 1000000000) ∧ (0 ≤ w (214 + 6 * k) ∧ w (214 + 6 * k) ≤ 16000000000) ∧ (0 ≤ w (215 + 6 * k) ∧ w (215 + 6 * k) ≤ 1000000000)
theorem evP_of {w : Dv} (h : WK w) {k : Int} (k0 : 0 ≤ k) (k1 : k < w 4) : evP w k := by
  obtain ⟨e1, e2, p, q, -⟩ := h.2.2.1.2.1.2.2 k k0 k1
  have u1 := h.2.2.1.1.1
  have u2 := h.2.2.1.1.2
  have hS := h.1.1
  have le : ∀ x y : Int, ptW (w 0) (w 3) x y → (0 ≤ x ∧ x ≤ 16000000000) ∧ (0 ≤ y ∧ y ≤ 1000000000) := fun x y hp => by
    have yb := Int.le_of_dvd (show 0 < w 3 by omega) hp.2.2.2.1
    have y1 := hp.2.1
    have := mulLB (show 0 ≤ w 0 by omega) (show 0 ≤ y by omega) hS.2 (show y ≤ 1000000000 by omega)
    have := hp.2.2.1
    have := hp.1
    omega
  have a := le _ _ p
  have b := le _ _ q
  exact ⟨e1, e2, a.1, a.2, b.1, b.2⟩
theorem evL_len {w : Dv} {k : Int} (h : evP w k) : (((evL (w (210 + 6 * k)) (w (211 + 6 * k)) (w (212 + 6 * k)) (w (213 + 6 * k)) (w (214 + 6 * k)) (w (215 + 6 * k))).length : Nat) : Int) ≤ 26 + 23 * if w (210 + 6 * k) = 3 then 1 else 0 := by
  obtain ⟨h1, h2, h3, h4, h5, h6⟩ := h
  have a := numL_1 (v := w (211 + 6 * k)) (by omega)
  have b := ptL_len h3 h4
  have c := ptL_len h5 h6
  unfold evL
  simp only [List.length_cons, List.length_append, List.length_nil]
  by_cases z : w (210 + 6 * k) = 3
  · rw [if_neg (by omega), if_pos z, if_pos z, List.length_cons, List.length_cons]
    omega
  · rw [if_neg z, if_neg z]
    split
    · simp only [List.length_nil]; omega
    · simp only [List.length_cons, List.length_nil]; omega
theorem prL_len {w : Dv} (h : WK w) : ∀ k : Nat, (k : Int) ≤ w 4 → (((prL w k).length : Nat) : Int) ≤ 26 * k + 23 * cnt3 w k
  | 0, _ => by show ((0 : Nat) : Int) ≤ _; simp [cnt3]
  | k + 1, hk => by
    have ih := prL_len h k (by omega)
    have e := evL_len (evP_of h (k := (k : Int)) (by omega) (by omega))
    unfold prL cnt3
    rw [List.length_append]
    omega
theorem prL_640 {w : Dv} (h : WK w) : ∀ k : Nat, (k : Int) ≤ w 4 → (prL w k).length ≤ 640 := by
  have full : (prL w (w 4).toNat).length ≤ 640 := by
    have c := h.2.2.2.2.2
    have h4 := h.2.2.1.2.1.2.1
    have := prL_len h (w 4).toNat (by have := c.1; omega)
    have := c.2
    omega
  have mono : ∀ d k : Nat, (prL w k).length ≤ (prL w (k + d)).length := fun d => by
    induction d with
    | zero => intro k; exact Nat.le_refl _
    | succ d ih =>
      intro k
      have := ih k
      show _ ≤ (prL w (k + d) ++ _).length
      rw [List.length_append]
      omega
  intro k hk
  have := mono ((w 4).toNat - k) k
  rw [show k + ((w 4).toNat - k) = (w 4).toNat by omega] at this
  omega
def plc : Nat → Int
  | 0 => 0
  | k + 1 => (10 : Int) ^ k
theorem plc_div : ∀ k : Nat, (10 : Int) ^ k / 10 = plc k
  | 0 => by decide
  | k + 1 => by
    show (10 : Int) ^ (k + 1) / 10 = (10 : Int) ^ k
    rw [p10s]
    exact Int.mul_ediv_cancel _ (by decide)
/-- a list of bytes stands at a place -/
def HL (μ : Mem) (a i b : Int) (l : List Int) : Prop := μ a i = ((l.length : Nat) : Int) ∧ ∀ k : Nat, k < l.length → l[k]? = some (μ b k)
theorem HL_put {μ : Mem} {a i b v : Int} {l : List Int} (h : HL μ a i b l) (hab : a ≠ b) : HL (up (up μ b (l.length : Nat) v) a i ((l.length : Nat) + 1)) a i b (l ++ [v]) := by
  refine ⟨by rw [up_eq, List.length_append, List.length_singleton]; omega, fun k hk => ?_⟩
  rw [List.length_append, List.length_singleton] at hk
  rw [up_ne (Or.inl (fun e => hab e.symm))]
  by_cases z : k = l.length
  · rw [z, up_eq, List.getElem?_append_right (Nat.le_refl _), Nat.sub_self]
    rfl
  · rw [up_ne (Or.inr (by omega)), List.getElem?_append_left (by omega)]
    exact h.2 k (by omega)
section
variable {n : Int} {μ : Mem} {Q : Option AV → Lay → Mem → Prop}
theorem k479 : isK (L0 n) 479 (6, 0) := isK0 (by decide) (by decide) (by decide +kernel)
def frS' (μ μ' : Mem) : Prop := ∀ x i : Int, (x ≠ 479 ∨ i ≠ 0) → x ≠ 480 → μ' x i = μ x i
theorem frS'_tr {μ μ' μ'' : Mem} (h : frS' μ μ') (h' : frS' μ' μ'') : frS' μ μ'' := fun x i h1 h2 => (h' x i h1 h2).trans (h x i h1 h2)
theorem c_add {l : List Int} {v : Int} (hl : HL μ 479 0 480 l) (h6 : l.length < 640) (hv : 0 ≤ v ∧ v ≤ 127) (h : ∀ μ', HL μ' 479 0 480 (l ++ [v]) → frS' μ μ' → Q none (L0 n) μ') : TR mX6_add 0 (0, 0) [(2, 479), (0, v)] (L0 n) μ Q := by
  apply t_X6_add (layOK n) k479
  rw [rf_sheet, hl.1]
  refine ⟨fun q => absurd q (by omega), fun _ => ⟨⟨by omega, by omega⟩, ⟨by omega, by omega⟩, ?_⟩⟩
  rw [up_ne (a := 479) (i := 0) (Or.inl (by decide)), hl.1]
  exact ⟨⟨by omega, by omega⟩, h _ (HL_put hl (by decide)) (fun x i h1 h2 => by rw [up_ne (by omega), up_ne (Or.inl h2)])⟩
theorem c_num {l : List Int} {v : Int} (hl : HL μ 479 0 480 l) (h6 : l.length + (numL v).length ≤ 640) (hv : 0 ≤ v ∧ v ≤ 16000000000) (h : ∀ μ', HL μ' 479 0 480 (l ++ numL v) → frS' μ μ' → Q none (L0 n) μ') : TR mX6_addNumber 1 (0, 0) [(2, 479), (1, v)] (L0 n) μ Q := by
  apply t_X6_addNumber (layOK n) k479
  have out : ∀ (k c : Nat) (l1 : List Int) (μ1 : Mem), c + k ≤ 17 → HL μ1 479 0 480 l1 → frS' μ μ1 → l1 ++ dgC v k = l ++ numL v → WA mX6_addNumber 1 (0, 0) 37 [(2, 479), (1, v), (9, 0), (1, plc k), (9, 0), (0, (c : Int))] [] (L0 n) μ1 Q := by
    intro k
    induction k with
    | zero =>
      intro c l1 μ1 hc h1 f1 e
      apply s_X6_addNumber_37 (layOK n) k479
      have e : l1 ++ [] = l ++ numL v := e
      rw [List.append_nil] at e
      refine ⟨fun _ => by rw [e] at h1; exact h μ1 h1 f1, fun _ => ⟨fun _ => by rw [e] at h1; exact h μ1 h1 f1, fun z => absurd (Int.le_refl 0) z⟩⟩
    | succ k ih =>
      intro c l1 μ1 hc h1 f1 e
      have hk : k ≤ 12 ∨ 12 < k := by omega
      have pp : 1 ≤ (10 : Int) ^ k := Int.pow_pos (by decide)
      have ee := congrArg List.length e
      rw [List.length_append, List.length_append, dgC_len] at ee
      have q0 : 0 ≤ v / (10 : Int) ^ k := Int.ediv_nonneg hv.1 (by omega)
      have pk : plc (k + 1) = (10 : Int) ^ k := rfl
      rw [pk]
      apply s_X6_addNumber_37 (layOK n) k479
      refine ⟨fun z => absurd z (by omega), fun _ => ⟨fun z => absurd z (by omega), fun _ => ⟨⟨hv.1, by omega⟩, q0, ⟨by omega, by omega⟩, ⟨by omega, by omega⟩, c_add h1 (by omega) (by omega) fun μ2 h2 f2 => ⟨rfl, rfl, by omega, ⟨by omega, by omega⟩, ?_⟩⟩⟩⟩
      have e2 : l1 ++ [48 + v / (10 : Int) ^ k % 10] ++ dgC v k = l ++ numL v := by rw [← e, List.append_assoc]; rfl
      have nx := ih (c + 1) _ μ2 (by omega) h2 (frS'_tr f1 f2) e2
      rw [plc_div]
      exact nx
  have find : ∀ (f m : Nat), m + f = 11 → ndR v f m = ndR v 11 0 → WA mX6_addNumber 1 (0, 0) 5 [(2, 479), (1, v), (9, 0), (1, (10 : Int) ^ m), (9, 0), (0, (m : Int) + 1)] [] (L0 n) μ Q := by
    intro f
    induction f with
    | zero =>
      intro m hm e
      have hm : m = 11 := by omega
      subst hm
      have e : 12 = ndR v 11 0 := e
      have o := out 12 0 l μ (by omega) hl (fun _ _ _ _ => rfl) (by unfold numL; rw [← e])
      apply s_X6_addNumber_5 (layOK n) k479
      exact ⟨fun _ => o, fun _ => ⟨⟨hv.1, by decide⟩, fun _ => o, fun z => absurd (show v / (10 : Int) ^ 11 < 10 by show v / 100000000000 < 10; omega) z⟩⟩
    | succ f ih =>
      intro m hm e
      have pp := p10 (show m ≤ 12 by omega)
      have e : (if v / (10 : Int) ^ m < 10 then m + 1 else ndR v f (m + 1)) = ndR v 11 0 := e
      apply s_X6_addNumber_5 (layOK n) k479
      refine ⟨fun z => absurd z (by omega), fun _ => ⟨⟨hv.1, by omega⟩, fun z => ?_, fun z => ⟨⟨by omega, by omega⟩, ⟨by omega, by omega⟩, ?_⟩⟩⟩
      · rw [if_pos z] at e
        exact out (m + 1) 0 l μ (by omega) hl (fun _ _ _ _ => rfl) (by unfold numL; rw [← e])
      · rw [if_neg z] at e
        have := ih (m + 1) (by omega) e
        rw [p10s] at this
        exact this
  exact find 11 0 rfl rfl
theorem c_pt {l : List Int} {o x y : Int} (ko : isK (L0 n) o (3, 0)) (ho : o < 473) (e0 : μ o 0 = x) (e1 : μ o 1 = y) (hl : HL μ 479 0 480 l) (h6 : l.length + (ptL x y).length ≤ 640) (hx : 0 ≤ x ∧ x ≤ 16000000000) (hy : 0 ≤ y ∧ y ≤ 1000000000) (h : ∀ μ', HL μ' 479 0 480 (l ++ ptL x y) → frS' μ μ' → Q none (L0 n) μ') : TR mX6_addPoint 2 (0, 0) [(2, 479), (2, o)] (L0 n) μ Q := by
  unfold ptL at h h6
  have nl := numL_11 hx
  apply t_X6_addPoint (layOK n) k479 ko
  rw [e0]
  by_cases z : y = 1
  · rw [if_pos z] at h h6
    refine c_num hl h6 hx fun μ1 h1 f1 => ⟨rfl, rfl, fun _ => h μ1 h1 f1, fun w => absurd ?_ w⟩
    rw [f1 o 1 (by omega) (by omega), e1, z]
  · rw [if_neg z] at h h6
    rw [List.length_append, List.length_cons] at h6
    refine c_num hl (by omega) hx fun μ1 h1 f1 => ⟨rfl, rfl, fun w => absurd ((e1.symm.trans (f1 o 1 (by omega) (by omega)).symm).trans w) z, fun _ => ?_⟩
    refine c_add h1 (by rw [List.length_append]; omega) (by decide) fun μ2 h2 f2 => ⟨rfl, rfl, ?_⟩
    rw [f2 o 1 (by omega) (by omega), f1 o 1 (by omega) (by omega), e1]
    refine c_num h2 (by rw [List.length_append, List.length_append, List.length_singleton]; omega) ⟨hy.1, by omega⟩ fun μ3 h3 f3 => ⟨rfl, rfl, ?_⟩
    refine h μ3 ?_ (frS'_tr f1 (frS'_tr f2 f3))
    rw [List.append_assoc, List.append_assoc] at h3
    exact h3
theorem c_letter {kind : Int} (hk : 0 ≤ kind ∧ kind ≤ 3) (h : Q (some (0, letL kind)) (L0 n) μ) : TR mX6_letterOf 0 (0, 0) [(0, kind)] (L0 n) μ Q := by
  unfold letL at h
  apply t_X6_letterOf (layOK n)
  refine ⟨⟨fun q => ?_, fun q => ?_, fun q => ?_⟩, fun q => ?_⟩
  · rw [if_pos q] at h; exact h
  · rw [if_neg (by omega), if_pos q] at h; exact h
  · rw [if_neg (by omega), if_neg (by omega), if_pos q] at h; exact h
  · rw [if_neg (by omega), if_neg (by omega), if_neg (by omega)] at h; exact h
end
