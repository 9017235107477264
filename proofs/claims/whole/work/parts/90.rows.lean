/-! the rows: list, set, get, into, from, on both sides -/
theorem CSt_L {μ μ' : Mem} {σ : Sg} {m l : Int → Int} (h : CSt μ σ) (ho : OKs σ) (h1 : ∀ k : Int, 0 ≤ k → k < 4 → μ' 487 k = m k) (h2 : ∀ k i : Int, 0 ≤ k → k < 4 → 0 ≤ i → i < 20 → μ' (483 + k) i = l (20 * k + i)) (hf : ∀ x i : Int, (x < 483 ∨ 487 < x) → μ' x i = μ x i) : CSt μ' (σ.setL m l) := by
  obtain ⟨g1, g2, g3, g4, g5, g6, g7⟩ := h
  have cn := WK_cn ho.1
  refine ⟨CKr_fr g1 (fun x i x0 x1 => hf x i (by omega)), DVr_fr g2 cn.1.2 (fun a a0 a1 => (cn.2 a a0 a1).2) (fun x i hx => hf x i (by omega)), ⟨by rw [hf 442 0 (by omega), g3.1], by rw [hf 442 1 (by omega), g3.2]⟩, ⟨by rw [hf 1 6 (by omega), g4.1]; rfl, fun e => ?_⟩, ⟨by rw [hf 473 0 (by omega), g5.1]; rfl, fun i i0 i1 => by rw [hf 474 i (by omega), g5.2 i i0 i1]; rfl⟩, ⟨by rw [hf 479 0 (by omega), g6.1]; rfl, fun i i0 i1 => by rw [hf 480 i (by omega), g6.2 i i0 i1]; rfl⟩, h1, h2⟩
  have e : σ.hi = 1 := e
  obtain ⟨y1, y2⟩ := g4.2 e
  have cn2 := WK_cn (ho.2.2.1 e)
  exact ⟨CKr_fr y1 (fun x i x0 x1 => hf x i (by omega)), DVr_fr y2 cn2.1.2 (fun a a0 a1 => (cn2.2 a a0 a1).2) (fun x i hx => hf x i (by omega))⟩
theorem RSt_L {μ μ' : Mem} {σ : Sg} {m l : Int → Int} (h : RSt μ σ) (h1 : ∀ k : Int, 0 ≤ k → k < 4 → μ' 508 k = m k) (h2 : ∀ i : Int, 0 ≤ i → i < 80 → μ' 509 i = l i) (hf : ∀ x i : Int, (x ≠ 508 ∧ x ≠ 509) → μ' x i = μ x i) : RSt μ' (σ.setL m l) := by
  obtain ⟨g1, g2, g3, g4, -⟩ := h
  exact ⟨RWm_fr g1 (fun i => hf 494 i (by omega)), ⟨by rw [hf 493 3 (by omega), g2.1]; rfl, fun e i i0 i1 => by rw [hf 496 i (by omega), g2.2 e i i0 i1]; rfl⟩, ⟨by rw [hf 493 7 (by omega), g3.1]; rfl, fun i i0 i1 => by rw [hf 497 i (by omega), g3.2 i i0 i1]; rfl⟩, ⟨by rw [hf 493 21 (by omega), g4.1]; rfl, fun i i0 i1 => by rw [hf 503 i (by omega), g4.2 i i0 i1]; rfl⟩, h1, h2⟩
theorem OK_L {σ : Sg} {m l : Int → Int} (h : OKs σ) (hm : ∀ k : Int, 0 ≤ k → k < 4 → -1 ≤ m k ∧ m k ≤ 20) : OKs (σ.setL m l) := ⟨h.1, h.2.1, h.2.2.1, h.2.2.2.1, h.2.2.2.2.1, hm⟩
def layM (m : Int → Int) (k v : Int) : Int → Int := fun j => if j = k then v else m j
def layL (l : Int → Int) (k d : Int) : Int → Int := fun j => if 20 * k ≤ j ∧ j < 20 * k + d then 0 else l j
/-- told worths written into a list -/
def intL (l : Int → Int) (w : Dv) (a b d : Int) : Int → Int := fun j => if b ≤ j ∧ j < b + d then w (85 + 16 * a + (j - b)) else l j
/-- a list's numbers told as worths -/
def frmW (w : Dv) (l : Int → Int) (a b d : Int) : Dv := fun i => if 85 + 16 * a ≤ i ∧ i < 85 + 16 * a + d then l (b + (i - (85 + 16 * a))) else w i
/-- how many of a list's numbers are taken -/
def frmN (l : Int → Int) (size b p : Int) : Nat → Nat → Nat
  | 0, k => k
  | d + 1, k => if p + k < size ∧ 0 ≤ l (b + p + k) ∧ l (b + p + k) ≤ 9 then frmN l size b p d (k + 1) else k
def intN (size p : Int) : Nat → Nat → Nat
  | 0, k => k
  | d + 1, k => if p + k < size then intN size p d (k + 1) else k
theorem layL_step {l : Int → Int} {k d : Int} (hd : 0 ≤ d) : layL l k (d + 1) = updW (layL l k d) (20 * k + d) 0 := by
  funext j
  show (if 20 * k ≤ j ∧ j < 20 * k + (d + 1) then 0 else l j) = (if j = 20 * k + d then 0 else if 20 * k ≤ j ∧ j < 20 * k + d then 0 else l j)
  by_cases z : j = 20 * k + d
  · rw [if_pos (by omega), if_pos z]
  · rw [if_neg z]
    by_cases y : 20 * k ≤ j ∧ j < 20 * k + d
    · rw [if_pos y, if_pos (by omega)]
    · rw [if_neg y, if_neg (by omega)]
theorem intL_step {l : Int → Int} {w : Dv} {a b d : Int} (hd : 0 ≤ d) : intL l w a b (d + 1) = updW (intL l w a b d) (b + d) (w (85 + 16 * a + d)) := by
  funext j
  show (if b ≤ j ∧ j < b + (d + 1) then w (85 + 16 * a + (j - b)) else l j) = (if j = b + d then w (85 + 16 * a + d) else if b ≤ j ∧ j < b + d then w (85 + 16 * a + (j - b)) else l j)
  by_cases z : j = b + d
  · rw [if_pos (by omega), if_pos z, show j - b = d by omega]
  · rw [if_neg z]
    by_cases y : b ≤ j ∧ j < b + d
    · rw [if_pos y, if_pos (by omega)]
    · rw [if_neg y, if_neg (by omega)]
theorem frmW_step {l : Int → Int} {w : Dv} {a b d : Int} (hd : 0 ≤ d) : frmW w l a b (d + 1) = updW (frmW w l a b d) (85 + 16 * a + d) (l (b + d)) := by
  funext i
  show (if 85 + 16 * a ≤ i ∧ i < 85 + 16 * a + (d + 1) then l (b + (i - (85 + 16 * a))) else w i) = (if i = 85 + 16 * a + d then l (b + d) else if 85 + 16 * a ≤ i ∧ i < 85 + 16 * a + d then l (b + (i - (85 + 16 * a))) else w i)
  by_cases z : i = 85 + 16 * a + d
  · rw [if_pos (by omega), if_pos z, show i - (85 + 16 * a) = d by omega]
  · rw [if_neg z]
    by_cases y : 85 + 16 * a ≤ i ∧ i < 85 + 16 * a + d
    · rw [if_pos y, if_pos (by omega)]
    · rw [if_neg y, if_neg (by omega)]
theorem layL_0 {l : Int → Int} {k : Int} : layL l k 0 = l := by
  funext j
  unfold layL
  rw [if_neg (by omega)]
theorem intL_0 {l : Int → Int} {w : Dv} {a b : Int} : intL l w a b 0 = l := by
  funext j
  unfold intL
  rw [if_neg (by omega)]
theorem frmW_0 {l : Int → Int} {w : Dv} {a b : Int} : frmW w l a b 0 = w := by
  funext j
  unfold frmW
  rw [if_neg (by omega)]
/-- a refusal of a row's call: who, which list, where -/
def rfz (σ : Sg) (a k p : Int) : Int := if ¬ (0 ≤ a ∧ a < σ.w 1) then -1 else if ¬ (0 ≤ k ∧ k < 4) then -1 else if σ.lm k < 0 then -11 else if p < 0 then -13 else 0
section
variable {n : Int} {μ : Mem} {Q : Option AV → Lay → Mem → Prop}
theorem k481 : isK (L0 n) 481 (4, 0) := isK0 (by decide) (by decide) (by decide +kernel)
theorem C_ls {σ : Sg} {k i v : Int} (hC : CSt μ σ) (ho : OKs σ) (hk : 0 ≤ k ∧ k < 4) (hi : 0 ≤ i ∧ i < 20) : CSt (up μ (483 + k) i v) (σ.setL σ.lm (updW σ.ls (20 * k + i) v)) := by
  refine CSt_L hC ho (fun j j0 j1 => by rw [up_ne (by omega)]; exact hC.2.2.2.2.2.2.1 j j0 j1) (fun j s j0 j1 s0 s1 => ?_) (fun x s hx => up_ne (by omega))
  unfold updW
  by_cases z : j = k ∧ s = i
  · obtain ⟨rfl, rfl⟩ := z
    rw [up_eq, if_pos rfl]
  · rw [up_ne (by omega), if_neg (by omega)]
    exact hC.2.2.2.2.2.2.2 j s j0 j1 s0 s1
theorem R_ls {σ : Sg} {i v : Int} (hR : RSt μ σ) : RSt (up μ 509 i v) (σ.setL σ.lm (updW σ.ls i v)) := by
  refine RSt_L hR (fun j j0 j1 => by rw [up_ne (by omega)]; exact hR.2.2.2.2.1 j j0 j1) (fun s s0 s1 => ?_) (fun x s hx => up_ne (by omega))
  unfold updW
  by_cases z : s = i
  · rw [z, up_eq, if_pos rfl]
  · rw [up_ne (by omega), if_neg z]
    exact hR.2.2.2.2.2 s s0 s1
theorem c_isRow {k : Int} (h : ∀ r : Int, (r = 1 ∧ (0 ≤ k ∧ k < 4) ∨ r = 0 ∧ ¬ (0 ≤ k ∧ k < 4)) → Q (some (0, r)) (L0 n) μ) : TR mX4_isRow 0 (0, 0) [(2, 481), (0, k)] (L0 n) μ Q := by
  apply t_X4_isRow (layOK n) k481
  exact ⟨fun q => h 0 (Or.inr ⟨rfl, by omega⟩), fun q => ⟨fun q2 => h 0 (Or.inr ⟨rfl, by omega⟩), fun q2 => h 1 (Or.inl ⟨rfl, by omega⟩)⟩⟩
theorem c_hasPlace {σ : Sg} {k i : Int} (hC : CSt μ σ) (hk : 0 ≤ k ∧ k < 4) (h : ∀ r : Int, (r = 1 ∧ (0 ≤ i ∧ i < σ.lm k) ∨ r = 0 ∧ ¬ (0 ≤ i ∧ i < σ.lm k)) → Q (some (0, r)) (L0 n) μ) : TR mX4_hasPlace 0 (0, 0) [(2, 481), (0, k), (0, i)] (L0 n) μ Q := by
  apply t_X4_hasPlace (layOK n) k481
  rw [rf_rws.2, hC.2.2.2.2.2.2.1 k hk.1 hk.2]
  exact ⟨fun q => h 0 (Or.inr ⟨rfl, by omega⟩), fun q => ⟨hk, fun q2 => h 0 (Or.inr ⟨rfl, by omega⟩), fun q2 => h 1 (Or.inl ⟨rfl, by omega⟩)⟩⟩
theorem c_isLaid {σ : Sg} {k : Int} (hC : CSt μ σ) (hk : 0 ≤ k ∧ k < 4) (h : ∀ r : Int, (r = 1 ∧ 0 ≤ σ.lm k ∨ r = 0 ∧ σ.lm k < 0) → Q (some (0, r)) (L0 n) μ) : TR mX4_isLaid 0 (0, 0) [(2, 481), (0, k)] (L0 n) μ Q := by
  apply t_X4_isLaid (layOK n) k481
  rw [rf_rws.2, hC.2.2.2.2.2.2.1 k hk.1 hk.2]
  exact ⟨hk, fun q => h 0 (Or.inr ⟨rfl, q⟩), fun q => h 1 (Or.inl ⟨rfl, by omega⟩)⟩
theorem row_at {k : Int} (hk : 0 ≤ k ∧ k < 4) : rf (L0 n) (rf (L0 n) 481 0) k = 483 + k := by rw [rf_rws.1, sh_el.2.2 k hk.1 hk.2]
theorem C_list {σ : Sg} {k v : Int} (hC : CSt μ σ) (ho : OKs σ)
    (hy : (0 ≤ k ∧ k < 4) ∧ v ≤ 20 ∧ 0 ≤ v → ∀ μ', CSt μ' (σ.setL (layM σ.lm k v) (layL σ.ls k 20)) → frC μ μ' → Q (some (0, 1)) (L0 n) μ')
    (hs : (0 ≤ k ∧ k < 4) ∧ v < 0 → Q (some (0, -14)) (L0 n) μ)
    (hn : ¬ ((0 ≤ k ∧ k < 4) ∧ v ≤ 20) → Q (some (0, -1)) (L0 n) μ) : TR mX9_list 1 (0, 0) [(2, 1), (0, k), (0, v)] (L0 n) μ Q := by
  apply t_X9_list (layOK n) k1
  rw [rf_desk.2.2.2.2.2.2.2.2.2.1]
  refine c_isRow fun r h => ⟨r, rfl, rfl, fun q => hn (by omega), fun q => ⟨fun q2 => ⟨fun q3 => ?_, fun q3 => hs (by omega)⟩, fun q2 => hn (by omega)⟩⟩
  have hk : 0 ≤ k ∧ k < 4 := by omega
  apply t_X4_lay (layOK n) k481
  rw [rf_rws.2]
  refine ⟨hk, ?_⟩
  have ho1 : ∀ l, OKs (σ.setL (layM σ.lm k v) l) := fun l => OK_L ho (fun j j0 j1 => by
    unfold layM
    split
    · omega
    · exact ho.2.2.2.2.2 j j0 j1)
  have c1 : CSt (up μ 487 k v) (σ.setL (layM σ.lm k v) (layL σ.ls k 0)) := by
    rw [layL_0]
    refine CSt_L hC ho (fun j j0 j1 => ?_) (fun j i j0 j1 i0 i1 => by rw [up_ne (by omega)]; exact hC.2.2.2.2.2.2.2 j i j0 j1 i0 i1) (fun x i hx => up_ne (by omega))
    unfold layM
    by_cases z : j = k
    · rw [z, up_eq, if_pos rfl]
    · rw [up_ne (by omega), if_neg z]; exact hC.2.2.2.2.2.2.1 j j0 j1
  have key : ∀ (d i : Nat), i + d = 20 → ∀ μ1, CSt μ1 (σ.setL (layM σ.lm k v) (layL σ.ls k i)) → frC μ μ1 → WA mX4_lay 0 (0, 0) 9 [(2, 481), (0, k), (9, 0), (0, (i : Int))] [] (L0 n) μ1 (fun r6 L7 μ8 => r6 = none ∧ (L0 n) = L7 ∧ Q (some (0, 1)) (L0 n) μ8) := by
    intro d
    induction d with
    | zero =>
      intro i hi μ1 c f
      have hi : i = 20 := by omega
      subst hi
      apply s_X4_lay_9 (layOK n) k481
      exact ⟨fun _ => ⟨rfl, rfl, hy (by omega) μ1 c f⟩, fun z => absurd (show (20 : Int) ≤ ((20 : Nat) : Int) by omega) z⟩
    | succ d ih =>
      intro i hi μ1 c f
      apply s_X4_lay_9 (layOK n) k481
      rw [row_at hk]
      refine ⟨fun z => absurd z (by omega), fun _ => ⟨hk, ⟨by omega, by omega⟩, ⟨by omega, by omega⟩, ?_⟩⟩
      have c2 := C_ls (v := 0) c (ho1 _) hk (show 0 ≤ (i : Int) ∧ (i : Int) < 20 by omega)
      have e : updW (layL σ.ls k i) (20 * k + i) 0 = layL σ.ls k ((i + 1 : Nat) : Int) := by rw [← layL_step (by omega)]; rfl
      have c2' : CSt (up μ1 (483 + k) i 0) (σ.setL (layM σ.lm k v) (updW (layL σ.ls k i) (20 * k + i) 0)) := c2
      rw [e] at c2'
      exact ih (i + 1) (by omega) _ c2' (fun x s hx => by rw [up_ne (by omega), f x s hx])
  exact key 20 0 (by omega) _ c1 (fun x s hx => up_ne (by omega))
theorem C_set {σ : Sg} {k i v : Int} (hC : CSt μ σ) (ho : OKs σ)
    (hy : (0 ≤ k ∧ k < 4) ∧ 0 ≤ σ.lm k ∧ (0 ≤ i ∧ i < σ.lm k) → ∀ μ', CSt μ' (σ.setL σ.lm (updW σ.ls (20 * k + i) v)) → frC μ μ' → Q (some (0, 1)) (L0 n) μ')
    (h3 : (0 ≤ k ∧ k < 4) ∧ 0 ≤ σ.lm k ∧ ¬ (0 ≤ i ∧ i < σ.lm k) → Q (some (0, -13)) (L0 n) μ)
    (h2 : (0 ≤ k ∧ k < 4) ∧ σ.lm k < 0 → Q (some (0, -11)) (L0 n) μ)
    (hn : ¬ (0 ≤ k ∧ k < 4) → Q (some (0, -1)) (L0 n) μ) : TR mX9_set 1 (0, 0) [(2, 1), (0, k), (0, i), (0, v)] (L0 n) μ Q := by
  apply t_X9_set (layOK n) k1
  rw [rf_desk.2.2.2.2.2.2.2.2.2.1]
  refine c_isRow fun r h => ⟨r, rfl, rfl, fun q => ?_, fun q => hn (by omega)⟩
  have hk : 0 ≤ k ∧ k < 4 := by omega
  have lb := ho.2.2.2.2.2 k hk.1 hk.2
  rw [row_at hk]
  refine c_isLaid hC hk fun r2 g2 => ⟨r2, rfl, rfl, fun q2 => c_hasPlace hC hk fun r3 g3 => ⟨r3, rfl, rfl, fun q3 => ?_, fun q3 => h3 (by omega)⟩, fun q2 => h2 (by omega)⟩
  exact ⟨hk, ⟨by omega, by omega⟩, hy (by omega) _ (C_ls hC ho hk ⟨by omega, by omega⟩) (fun x s hx => up_ne (by omega))⟩
theorem C_get {σ : Sg} {k i : Int} (hC : CSt μ σ) (ho : OKs σ)
    (hy : (0 ≤ k ∧ k < 4) ∧ (0 ≤ i ∧ i < σ.lm k) → Q (some (1, σ.ls (20 * k + i))) (L0 n) μ)
    (hn : ¬ ((0 ≤ k ∧ k < 4) ∧ (0 ≤ i ∧ i < σ.lm k)) → Q (some (1, NOv)) (L0 n) μ) : TR mX9_get 1 (0, 0) [(2, 1), (0, k), (0, i)] (L0 n) μ Q := by
  apply t_X9_get (layOK n) k1
  rw [rf_desk.2.2.2.2.2.2.2.2.2.1]
  refine c_isRow fun r h => ⟨r, rfl, rfl, fun q => hn (by omega), fun q => ?_⟩
  have hk : 0 ≤ k ∧ k < 4 := by omega
  have lb := ho.2.2.2.2.2 k hk.1 hk.2
  rw [row_at hk]
  refine c_hasPlace hC hk fun r3 g3 => ⟨r3, rfl, rfl, fun q3 => ⟨hk, ⟨by omega, by omega⟩, ?_⟩, fun q3 => hn (by omega)⟩
  rw [hC.2.2.2.2.2.2.2 k i hk.1 hk.2 (by omega) (by omega)]
  exact hy (by omega)
theorem c_refusal {σ : Sg} {a k p : Int} (hC : CSt μ σ) (h : Q (some (0, rfz σ a k p)) (L0 n) μ) : TR mX9_refusal 1 (0, 0) [(2, 1), (0, a), (0, k), (0, p)] (L0 n) μ Q := by
  apply t_X9_refusal (layOK n) k1
  rw [rf_desk.1, rf_desk.2.2.2.2.2.2.2.2.2.1]
  unfold rfz at h
  refine c_hasA k2 hC.1 fun r1 h1 => ⟨r1, rfl, rfl, fun q => ?_, fun q => c_isRow fun r2 h2 => ⟨r2, rfl, rfl, fun q2 => c_isLaid hC (by omega) fun r3 h3 => ⟨r3, rfl, rfl, fun q3 => ⟨fun q4 => ?_, fun q4 => ?_⟩, fun q3 => ?_⟩, fun q2 => ?_⟩⟩
  · rw [if_pos (by omega)] at h; exact h
  · rw [if_neg (by omega), if_neg (by omega), if_neg (by omega), if_neg (by omega)] at h; exact h
  · rw [if_neg (by omega), if_neg (by omega), if_neg (by omega), if_pos (by omega)] at h; exact h
  · rw [if_neg (by omega), if_neg (by omega), if_pos (by omega)] at h; exact h
  · rw [if_neg (by omega), if_pos (by omega)] at h; exact h
theorem rfz_0 {σ : Sg} {a k p : Int} (h : rfz σ a k p = 0) : (0 ≤ a ∧ a < σ.w 1) ∧ (0 ≤ k ∧ k < 4) ∧ 0 ≤ σ.lm k ∧ 0 ≤ p := by
  unfold rfz at h
  split at h
  · omega
  · split at h
    · omega
    · split at h
      · omega
      · split at h
        · omega
        · omega
theorem C_into {σ : Sg} {a k p : Int} (hC : CSt μ σ) (ho : OKs σ)
    (hy : rfz σ a k p = 0 → ∀ μ', CSt μ' (σ.setL σ.lm (intL σ.ls σ.w a (20 * k + p) (intN (σ.lm k) p (σ.w 0).toNat 0 : Nat))) → frC μ μ' → Q (some (0, ((intN (σ.lm k) p (σ.w 0).toNat 0 : Nat) : Int))) (L0 n) μ')
    (hn : ¬ rfz σ a k p = 0 → Q (some (0, rfz σ a k p)) (L0 n) μ) : TR mX9_into 2 (0, 0) [(2, 1), (0, a), (0, k), (0, p)] (L0 n) μ Q := by
  have hN := ho.1.1.2.1
  have hS := ho.1.1.1
  refine TR.okM fun _ hav => ?_
  have p31 : inI p := (hav (0, p) (by simp)).1 rfl
  apply t_X9_into (layOK n) k1
  refine c_refusal hC ⟨_, rfl, rfl, fun q => ?_, hn⟩
  have hy := hy q
  obtain ⟨g1, hk, g3, g4⟩ := rfz_0 q
  have ha : 0 ≤ a ∧ a < 5 := by omega
  have lb := ho.2.2.2.2.2 k hk.1 hk.2
  have key : ∀ (d j : Nat), j + d = (σ.w 0).toNat → (j = 0 ∨ p + j ≤ 20) → intN (σ.lm k) p d j = intN (σ.lm k) p (σ.w 0).toNat 0 → ∀ μ1, CSt μ1 (σ.setL σ.lm (intL σ.ls σ.w a (20 * k + p) j)) → frC μ μ1 → WA mX9_into 2 (0, 0) 20 [(2, 1), (0, a), (0, k), (0, p), (9, 0), (0, (j : Int))] [] (L0 n) μ1 Q := by
    intro d
    induction d with
    | zero =>
      intro j hj hp e μ1 c f
      have e : j = intN (σ.lm k) p (σ.w 0).toNat 0 := e
      have hy := hy μ1
      rw [← e] at hy
      apply s_X9_into_20 (layOK n) k1
      rw [rf_desk.1, show μ1 2 0 = σ.w 0 from c.1.1]
      exact ⟨fun _ => hy c f, fun z => absurd (show σ.w 0 ≤ (j : Int) by omega) z⟩
    | succ d ih =>
      intro j hj hp e μ1 c f
      have p32 := p31.2
      apply s_X9_into_20 (layOK n) k1
      rw [rf_desk.1, rf_desk.2.2.2.2.2.2.2.2.2.1, show μ1 2 0 = σ.w 0 from c.1.1, row_at hk, told_rf ha]
      refine ⟨fun z => absurd z (by omega), fun _ => ⟨⟨by omega, by omega⟩, c_hasPlace c hk fun r h => ⟨r, rfl, rfl, fun z => ?_, fun z => ?_⟩⟩⟩
      · have h : r = 1 ∧ (0 ≤ p + (j : Int) ∧ p + (j : Int) < σ.lm k) ∨ r = 0 ∧ ¬ (0 ≤ p + (j : Int) ∧ p + (j : Int) < σ.lm k) := h
        have e : (if p + (j : Int) < σ.lm k then intN (σ.lm k) p d (j + 1) else j) = intN (σ.lm k) p (σ.w 0).toNat 0 := e
        rw [if_neg (by omega)] at e
        have hy := hy μ1
        rw [← e] at hy
        exact hy c f
      · have h : r = 1 ∧ (0 ≤ p + (j : Int) ∧ p + (j : Int) < σ.lm k) ∨ r = 0 ∧ ¬ (0 ≤ p + (j : Int) ∧ p + (j : Int) < σ.lm k) := h
        have e : (if p + (j : Int) < σ.lm k then intN (σ.lm k) p d (j + 1) else j) = intN (σ.lm k) p (σ.w 0).toNat 0 := e
        rw [if_pos (by omega)] at e
        have el : μ1 (10 + a) j = σ.w (85 + 16 * a + j) := by
          have := (c.1.2.2 a j ha.1 ha.2 (by omega) (by omega)).2
          rw [show (2 : Int) + 8 + a = 10 + a by omega] at this
          exact this
        rw [el]
        have c2 : CSt (up μ1 (483 + k) (p + (j : Int)) (σ.w (85 + 16 * a + j))) (σ.setL σ.lm (updW (intL σ.ls σ.w a (20 * k + p) j) (20 * k + (p + (j : Int))) (σ.w (85 + 16 * a + j)))) := C_ls c (OK_L ho ho.2.2.2.2.2) hk ⟨by omega, by omega⟩
        have e2 : updW (intL σ.ls σ.w a (20 * k + p) j) (20 * k + (p + (j : Int))) (σ.w (85 + 16 * a + j)) = intL σ.ls σ.w a (20 * k + p) ((j + 1 : Nat) : Int) := by
          rw [show 20 * k + (p + (j : Int)) = 20 * k + p + (j : Int) by omega, ← intL_step (by omega)]
          rfl
        rw [e2] at c2
        exact ⟨hk, ha, ⟨by omega, by omega⟩, ⟨by omega, by omega⟩, ⟨by omega, by omega⟩, ih (j + 1) (by omega) (Or.inr (by omega)) e _ c2 (fun x s hx => by rw [up_ne (by omega), f x s hx])⟩
  exact key (σ.w 0).toNat 0 (by omega) (Or.inl rfl) rfl μ (by rw [show ((0 : Nat) : Int) = 0 from rfl, intL_0]; exact hC) (fun _ _ _ => rfl)
theorem C_from {σ : Sg} {a k p : Int} (hC : CSt μ σ) (ho : OKs σ)
    (hy : rfz σ a k p = 0 → ∀ μ', OKs (σ.setW (frmW σ.w σ.ls a (20 * k + p) (frmN σ.ls (σ.lm k) (20 * k) p (σ.w 0).toNat 0 : Nat))) → CSt μ' (σ.setW (frmW σ.w σ.ls a (20 * k + p) (frmN σ.ls (σ.lm k) (20 * k) p (σ.w 0).toNat 0 : Nat))) → frC μ μ' → Q (some (0, ((frmN σ.ls (σ.lm k) (20 * k) p (σ.w 0).toNat 0 : Nat) : Int))) (L0 n) μ')
    (hn : ¬ rfz σ a k p = 0 → Q (some (0, rfz σ a k p)) (L0 n) μ) : TR mX9_from 2 (0, 0) [(2, 1), (0, a), (0, k), (0, p)] (L0 n) μ Q := by
  have hN := ho.1.1.2.1
  have hS := ho.1.1.1
  refine TR.okM fun _ hav => ?_
  have p31 : inI p := (hav (0, p) (by simp)).1 rfl
  apply t_X9_from (layOK n) k1
  refine c_refusal hC ⟨_, rfl, rfl, fun q => ?_, hn⟩
  have hy := hy q
  obtain ⟨g1, hk, g3, g4⟩ := rfz_0 q
  have ha : 0 ≤ a ∧ a < 5 := by omega
  have lb := ho.2.2.2.2.2 k hk.1 hk.2
  have key : ∀ (d j : Nat), j + d = (σ.w 0).toNat → (j = 0 ∨ p + j ≤ 20) → frmN σ.ls (σ.lm k) (20 * k) p d j = frmN σ.ls (σ.lm k) (20 * k) p (σ.w 0).toNat 0 → ∀ μ1, CSt μ1 (σ.setW (frmW σ.w σ.ls a (20 * k + p) j)) → OKs (σ.setW (frmW σ.w σ.ls a (20 * k + p) j)) → frC μ μ1 → WA mX9_from 2 (0, 0) 20 [(2, 1), (0, a), (0, k), (0, p), (9, 0), (0, (j : Int))] [] (L0 n) μ1 Q := by
    intro d
    induction d with
    | zero =>
      intro j hj hp e μ1 c o f
      have e : j = frmN σ.ls (σ.lm k) (20 * k) p (σ.w 0).toNat 0 := e
      have hy := hy μ1
      rw [← e] at hy
      have e0 : (σ.setW (frmW σ.w σ.ls a (20 * k + p) j)).w 0 = σ.w 0 := by show frmW _ _ _ _ _ 0 = _; unfold frmW; rw [if_neg (by omega)]
      apply s_X9_from_20 (layOK n) k1
      rw [rf_desk.1, show μ1 2 0 = σ.w 0 from c.1.1.trans e0]
      exact ⟨fun _ => hy o c f, fun z => absurd (show σ.w 0 ≤ (j : Int) by omega) z⟩
    | succ d ih =>
      intro j hj hp e μ1 c o f
      have p32 := p31.2
      have hyj : frmN σ.ls (σ.lm k) (20 * k) p (σ.w 0).toNat 0 = j → Q (some (0, (j : Int))) (L0 n) μ1 := fun e => by
        have hy := hy μ1
        rw [e] at hy
        exact hy o c f
      have e0 : (σ.setW (frmW σ.w σ.ls a (20 * k + p) j)).w 0 = σ.w 0 := by show frmW _ _ _ _ _ 0 = _; unfold frmW; rw [if_neg (by omega)]
      have e : (if p + (j : Int) < σ.lm k ∧ 0 ≤ σ.ls (20 * k + p + j) ∧ σ.ls (20 * k + p + j) ≤ 9 then frmN σ.ls (σ.lm k) (20 * k) p d (j + 1) else j) = frmN σ.ls (σ.lm k) (20 * k) p (σ.w 0).toNat 0 := e
      apply s_X9_from_20 (layOK n) k1
      rw [rf_desk.1, rf_desk.2.2.2.2.2.2.2.2.2.1, show μ1 2 0 = σ.w 0 from c.1.1.trans e0, row_at hk, told_rf ha]
      refine ⟨fun z => absurd z (by omega), fun _ => ⟨⟨by omega, by omega⟩, c_hasPlace c hk fun r h => ⟨r, rfl, rfl, fun z => ?_, fun z => ?_⟩⟩⟩
      · have h : r = 1 ∧ (0 ≤ p + (j : Int) ∧ p + (j : Int) < σ.lm k) ∨ r = 0 ∧ ¬ (0 ≤ p + (j : Int) ∧ p + (j : Int) < σ.lm k) := h
        rw [if_neg (by omega)] at e
        exact hyj e.symm
      · have h : r = 1 ∧ (0 ≤ p + (j : Int) ∧ p + (j : Int) < σ.lm k) ∨ r = 0 ∧ ¬ (0 ≤ p + (j : Int) ∧ p + (j : Int) < σ.lm k) := h
        have el : μ1 (483 + k) (p + (j : Int)) = σ.ls (20 * k + p + j) := by
          have := c.2.2.2.2.2.2.2 k (p + (j : Int)) hk.1 hk.2 (by omega) (by omega)
          rw [show 20 * k + (p + (j : Int)) = 20 * k + p + (j : Int) by omega] at this
          exact this
        rw [el]
        refine ⟨hk, ⟨by omega, by omega⟩, c_X9_isWorth fun r2 h2 => ⟨r2, rfl, rfl, fun z2 => ?_, fun z2 => ?_⟩⟩
        · rw [if_neg (by omega)] at e
          exact hyj e.symm
        · rw [if_pos (by omega)] at e
          have hv : 0 ≤ σ.ls (20 * k + p + j) ∧ σ.ls (20 * k + p + j) ≤ 9 := by omega
          have c2 : CSt (up μ1 (10 + a) (j : Int) (σ.ls (20 * k + p + j))) (σ.setW (updW (frmW σ.w σ.ls a (20 * k + p) j) (85 + 16 * a + j) (σ.ls (20 * k + p + j)))) := CSt_told c o ha ⟨by omega, by omega⟩ hv
          have o2 : OKs (σ.setW (updW (frmW σ.w σ.ls a (20 * k + p) j) (85 + 16 * a + j) (σ.ls (20 * k + p + j)))) := OK_w ho (upd_WK o.1 ⟨by omega, by omega⟩ hv)
          have e2 : updW (frmW σ.w σ.ls a (20 * k + p) j) (85 + 16 * a + j) (σ.ls (20 * k + p + j)) = frmW σ.w σ.ls a (20 * k + p) ((j + 1 : Nat) : Int) := by
            rw [← frmW_step (by omega)]
            rfl
          rw [e2] at c2 o2
          rw [el]
          exact ⟨ha, ⟨by omega, by omega⟩, ⟨by omega, by omega⟩, ih (j + 1) (by omega) (Or.inr (by omega)) e _ c2 o2 (fun x s hx => by rw [up_ne (by omega), f x s hx])⟩
  have h0 : σ.setW (frmW σ.w σ.ls a (20 * k + p) ((0 : Nat) : Int)) = σ := by rw [show ((0 : Nat) : Int) = 0 from rfl, frmW_0]; rfl
  exact key (σ.w 0).toNat 0 (by omega) (Or.inl rfl) rfl μ (by rw [h0]; exact hC) (by rw [h0]; exact ho) (fun _ _ _ => rfl)
-- the reference
theorem c_isList {k : Int} (h : ∀ r : Int, (r = 1 ∧ (0 ≤ k ∧ k < 4) ∨ r = 0 ∧ ¬ (0 ≤ k ∧ k < 4)) → Q (some (0, r)) (L0 n) μ) : TR mX10_isList 1 (0, 0) [(0, k)] (L0 n) μ Q := by
  apply t_X10_isList (layOK n)
  exact c_X10_in fun r hr => ⟨r, rfl, rfl, by omega, h r (by omega)⟩
theorem R_list {σ : Sg} {k v : Int} (hR : RSt μ σ) (ho : OKs σ)
    (hy : (0 ≤ k ∧ k < 4) ∧ v ≤ 20 ∧ 0 ≤ v → ∀ μ', RSt μ' (σ.setL (layM σ.lm k v) (layL σ.ls k 20)) → frR' μ μ' → Q (some (0, 1)) (L0 n) μ')
    (hs : (0 ≤ k ∧ k < 4) ∧ v < 0 → Q (some (0, -14)) (L0 n) μ)
    (hn : ¬ ((0 ≤ k ∧ k < 4) ∧ v ≤ 20) → Q (some (0, -1)) (L0 n) μ) : TR mX10_list 2 (0, 0) [(2, 493), (0, k), (0, v)] (L0 n) μ Q := by
  apply t_X10_list (layOK n) k493
  rw [rf_ref.2.2.2.2.2.2.2.2.2.2.2.2.2.2.1]
  refine c_isList fun r h => ⟨r, rfl, rfl, fun q => hn (by omega), fun q => ⟨fun q2 => ⟨fun q3 => ?_, fun q3 => hs (by omega)⟩, fun q2 => hn (by omega)⟩⟩
  have hk : 0 ≤ k ∧ k < 4 := by omega
  refine ⟨hk, ?_⟩
  have c1 : RSt (up μ 508 k v) (σ.setL (layM σ.lm k v) (layL σ.ls k 0)) := by
    rw [layL_0]
    refine RSt_L hR (fun j j0 j1 => ?_) (fun i i0 i1 => by rw [up_ne (by omega)]; exact hR.2.2.2.2.2 i i0 i1) (fun x i hx => up_ne (by omega))
    unfold layM
    by_cases z : j = k
    · rw [z, up_eq, if_pos rfl]
    · rw [up_ne (by omega), if_neg z]; exact hR.2.2.2.2.1 j j0 j1
  have key : ∀ (d i : Nat), i + d = 20 → ∀ μ1, RSt μ1 (σ.setL (layM σ.lm k v) (layL σ.ls k i)) → frR' μ μ1 → WA mX10_list 2 (0, 0) 31 [(2, 493), (0, k), (9, 0), (0, (i : Int))] [] (L0 n) μ1 Q := by
    intro d
    induction d with
    | zero =>
      intro i hi μ1 c f
      have hi : i = 20 := by omega
      subst hi
      apply s_X10_list_31 (layOK n) k493
      exact ⟨fun _ => hy (by omega) μ1 c f, fun z => absurd (show (20 : Int) ≤ ((20 : Nat) : Int) by omega) z⟩
    | succ d ih =>
      intro i hi μ1 c f
      apply s_X10_list_31 (layOK n) k493
      rw [rf_ref.2.2.2.2.2.2.2.2.2.2.2.2.2.2.2]
      refine ⟨fun z => absurd z (by omega), fun _ => ⟨⟨by omega, by omega⟩, ⟨by omega, by omega⟩, ⟨by omega, by omega⟩, ⟨by omega, by omega⟩, ?_⟩⟩
      have c2 : RSt (up μ1 509 (20 * k + i) 0) (σ.setL (layM σ.lm k v) (updW (layL σ.ls k i) (20 * k + i) 0)) := R_ls c
      have e : updW (layL σ.ls k i) (20 * k + i) 0 = layL σ.ls k ((i + 1 : Nat) : Int) := by rw [← layL_step (by omega)]; rfl
      rw [e] at c2
      exact ih (i + 1) (by omega) _ c2 (fun x s hx => by rw [up_ne (by omega), f x s hx])
  exact key 20 0 (by omega) _ c1 (fun x s hx => up_ne (by omega))
theorem R_set {σ : Sg} {k i v : Int} (hR : RSt μ σ) (ho : OKs σ)
    (hy : (0 ≤ k ∧ k < 4) ∧ 0 ≤ σ.lm k ∧ (0 ≤ i ∧ i < σ.lm k) → ∀ μ', RSt μ' (σ.setL σ.lm (updW σ.ls (20 * k + i) v)) → frR' μ μ' → Q (some (0, 1)) (L0 n) μ')
    (h3 : (0 ≤ k ∧ k < 4) ∧ 0 ≤ σ.lm k ∧ ¬ (0 ≤ i ∧ i < σ.lm k) → Q (some (0, -13)) (L0 n) μ)
    (h2 : (0 ≤ k ∧ k < 4) ∧ σ.lm k < 0 → Q (some (0, -11)) (L0 n) μ)
    (hn : ¬ (0 ≤ k ∧ k < 4) → Q (some (0, -1)) (L0 n) μ) : TR mX10_set 2 (0, 0) [(2, 493), (0, k), (0, i), (0, v)] (L0 n) μ Q := by
  apply t_X10_set (layOK n) k493
  rw [rf_ref.2.2.2.2.2.2.2.2.2.2.2.2.2.2.1, rf_ref.2.2.2.2.2.2.2.2.2.2.2.2.2.2.2]
  refine c_isList fun r h => ⟨r, rfl, rfl, fun q => ?_, fun q => hn (by omega)⟩
  have hk : 0 ≤ k ∧ k < 4 := by omega
  have lb := ho.2.2.2.2.2 k hk.1 hk.2
  rw [hR.2.2.2.2.1 k hk.1 hk.2]
  refine ⟨hk, fun q2 => ⟨⟨by omega, by omega⟩, c_X10_in fun r3 g3 => ⟨r3, rfl, rfl, fun q3 => ?_, fun q3 => h3 (by omega)⟩⟩, fun q2 => h2 (by omega)⟩
  exact ⟨⟨by omega, by omega⟩, ⟨by omega, by omega⟩, ⟨by omega, by omega⟩, hy (by omega) _ (R_ls hR) (fun x s hx => up_ne (by omega))⟩
theorem R_get {σ : Sg} {k i : Int} (hR : RSt μ σ) (ho : OKs σ)
    (hy : (0 ≤ k ∧ k < 4) ∧ (0 ≤ i ∧ i < σ.lm k) → Q (some (1, σ.ls (20 * k + i))) (L0 n) μ)
    (hn : ¬ ((0 ≤ k ∧ k < 4) ∧ (0 ≤ i ∧ i < σ.lm k)) → Q (some (1, NOv)) (L0 n) μ) : TR mX10_get 2 (0, 0) [(2, 493), (0, k), (0, i)] (L0 n) μ Q := by
  apply t_X10_get (layOK n) k493
  rw [rf_ref.2.2.2.2.2.2.2.2.2.2.2.2.2.2.1, rf_ref.2.2.2.2.2.2.2.2.2.2.2.2.2.2.2]
  refine c_isList fun r h => ⟨r, rfl, rfl, fun q => hn (by omega), fun q => ?_⟩
  have hk : 0 ≤ k ∧ k < 4 := by omega
  have lb := ho.2.2.2.2.2 k hk.1 hk.2
  rw [hR.2.2.2.2.1 k hk.1 hk.2]
  refine ⟨hk, ⟨by omega, by omega⟩, c_X10_in fun r3 g3 => ⟨r3, rfl, rfl, fun q3 => hn (by omega), fun q3 => ⟨⟨by omega, by omega⟩, ⟨by omega, by omega⟩, ⟨by omega, by omega⟩, ?_⟩⟩⟩
  rw [hR.2.2.2.2.2 (20 * k + i) (by omega) (by omega)]
  exact hy (by omega)
theorem c_mayRow {σ : Sg} {a k p : Int} (hR : RSt μ σ) (ho : OKs σ) (h : Q (some (0, rfz σ a k p)) (L0 n) μ) : TR mX10_mayRow 2 (0, 0) [(2, 493), (0, a), (0, k), (0, p)] (L0 n) μ Q := by
  apply t_X10_mayRow (layOK n) k493
  rw [rf_ref.2.2.2.2.2.2.2.2.2.2.2.2.2.2.1]
  unfold rfz at h
  refine c_X10_isAgent hR.1 ho.1.1 fun r1 h1 => ⟨r1, rfl, rfl, fun q => ?_, fun q => c_isList fun r2 h2 => ⟨r2, rfl, rfl, fun q2 => ?_, fun q2 => ?_⟩⟩
  · rw [if_pos (by omega)] at h; exact h
  · have hk : 0 ≤ k ∧ k < 4 := by omega
    rw [hR.2.2.2.2.1 k hk.1 hk.2]
    refine ⟨hk, fun q3 => ⟨fun q4 => ?_, fun q4 => ?_⟩, fun q3 => ?_⟩
    · rw [if_neg (by omega), if_neg (by omega), if_neg (by omega), if_neg (by omega)] at h; exact h
    · rw [if_neg (by omega), if_neg (by omega), if_neg (by omega), if_pos (by omega)] at h; exact h
    · rw [if_neg (by omega), if_neg (by omega), if_pos (by omega)] at h; exact h
  · rw [if_neg (by omega), if_pos (by omega)] at h; exact h
theorem R_into {σ : Sg} {a k p : Int} (hR : RSt μ σ) (ho : OKs σ)
    (hy : rfz σ a k p = 0 → ∀ μ', RSt μ' (σ.setL σ.lm (intL σ.ls σ.w a (20 * k + p) (intN (σ.lm k) p (σ.w 0).toNat 0 : Nat))) → frR' μ μ' → Q (some (0, ((intN (σ.lm k) p (σ.w 0).toNat 0 : Nat) : Int))) (L0 n) μ')
    (hn : ¬ rfz σ a k p = 0 → Q (some (0, rfz σ a k p)) (L0 n) μ) : TR mX10_into 3 (0, 0) [(2, 493), (0, a), (0, k), (0, p)] (L0 n) μ Q := by
  have hN := ho.1.1.2.1
  have hS := ho.1.1.1
  refine TR.okM fun _ hav => ?_
  have p31 : inI p := (hav (0, p) (by simp)).1 rfl
  have p32 := p31.2
  apply t_X10_into (layOK n) k493
  refine c_mayRow hR ho ⟨_, rfl, rfl, ?_⟩
  by_cases q : ¬ rfz σ a k p = 0
  · apply s_X10_into_12 (layOK n) k493
    exact ⟨fun _ => ⟨fun _ => hn q, fun z => absurd z q⟩, fun z => absurd z q⟩
  have q : rfz σ a k p = 0 := Decidable.of_not_not q
  rw [q]
  have hy := hy q
  obtain ⟨g1, hk, g3, g4⟩ := rfz_0 q
  have ha : 0 ≤ a ∧ a < 5 := by omega
  have lb := ho.2.2.2.2.2 k hk.1 hk.2
  have key : ∀ (d j : Nat), j + d = (σ.w 0).toNat → (j = 0 ∨ p + j ≤ 20) → intN (σ.lm k) p d j = intN (σ.lm k) p (σ.w 0).toNat 0 → ∀ μ1, RSt μ1 (σ.setL σ.lm (intL σ.ls σ.w a (20 * k + p) j)) → frR' μ μ1 → WA mX10_into 3 (0, 0) 12 [(2, 493), (0, a), (0, k), (0, p), (0, 0), (0, (j : Int))] [] (L0 n) μ1 Q := by
    intro d
    induction d with
    | zero =>
      intro j hj hp e μ1 c f
      have e : j = intN (σ.lm k) p (σ.w 0).toNat 0 := e
      have hy := hy μ1
      rw [← e] at hy
      apply s_X10_into_12 (layOK n) k493
      exact ⟨fun z => absurd rfl z, fun _ => c_X10_strips c.1 ho.1.1 ⟨_, rfl, rfl, fun _ => ⟨fun z => absurd rfl z, fun _ => hy c f⟩, fun z => absurd (show σ.w 0 ≤ (j : Int) by omega) z⟩⟩
    | succ d ih =>
      intro j hj hp e μ1 c f
      have e : (if p + (j : Int) < σ.lm k then intN (σ.lm k) p d (j + 1) else j) = intN (σ.lm k) p (σ.w 0).toNat 0 := e
      apply s_X10_into_12 (layOK n) k493
      rw [rf_ref.2.2.2.2.2.2.2.2.2.2.2.2.2.2.1, rf_ref.2.2.2.2.2.2.2.2.2.2.2.2.2.2.2]
      refine ⟨fun z => absurd rfl z, fun _ => c_X10_strips c.1 ho.1.1 ⟨_, rfl, rfl, fun z => absurd (show σ.w 0 ≤ (j : Int) from z) (by omega), fun _ => ?_⟩⟩
      rw [show μ1 508 k = σ.lm k from c.2.2.2.2.1 k hk.1 hk.2]
      refine ⟨⟨by omega, by omega⟩, hk, fun z => ⟨fun y => absurd rfl y, fun _ => ?_⟩, fun z => ⟨⟨by omega, by omega⟩, ⟨by omega, by omega⟩, ⟨by omega, by omega⟩, c_X10_worthOf c.1 ha ⟨by omega, by omega⟩ ⟨_, rfl, rfl, ?_⟩⟩⟩
      · rw [if_neg (by omega)] at e
        have hy := hy μ1
        rw [← e] at hy
        exact hy c f
      · rw [if_pos (by omega)] at e
        have el : rowW σ.w a 1 j = σ.w (85 + 16 * a + j) := by unfold rowW; rw [if_neg (by decide)]
        have wb := WK_row ho.1 (85 + 16 * a + j) (by omega) (by omega)
        rw [show rowW (σ.setL σ.lm (intL σ.ls σ.w a (20 * k + p) j)).w a 1 j = σ.w (85 + 16 * a + j) from el]
        have c2 : RSt (up μ1 509 (20 * k + p + j) (σ.w (85 + 16 * a + j))) (σ.setL σ.lm (updW (intL σ.ls σ.w a (20 * k + p) j) (20 * k + p + (j : Int)) (σ.w (85 + 16 * a + j)))) := R_ls c
        have e2 : updW (intL σ.ls σ.w a (20 * k + p) j) (20 * k + p + (j : Int)) (σ.w (85 + 16 * a + j)) = intL σ.ls σ.w a (20 * k + p) ((j + 1 : Nat) : Int) := by
          rw [← intL_step (by omega)]
          rfl
        rw [e2] at c2
        exact ⟨⟨by omega, by omega⟩, ⟨by omega, by omega⟩, ⟨by omega, by omega⟩, ih (j + 1) (by omega) (Or.inr (by omega)) e _ c2 (fun x s hx => by rw [up_ne (by omega), f x s hx])⟩
  exact key (σ.w 0).toNat 0 (by omega) (Or.inl rfl) rfl μ (by rw [show ((0 : Nat) : Int) = 0 from rfl, intL_0]; exact hR) (fun _ _ _ => rfl)
theorem R_from {σ : Sg} {a k p : Int} (hR : RSt μ σ) (ho : OKs σ)
    (hy : rfz σ a k p = 0 → ∀ μ', RSt μ' (σ.setW (frmW σ.w σ.ls a (20 * k + p) (frmN σ.ls (σ.lm k) (20 * k) p (σ.w 0).toNat 0 : Nat))) → frR' μ μ' → Q (some (0, ((frmN σ.ls (σ.lm k) (20 * k) p (σ.w 0).toNat 0 : Nat) : Int))) (L0 n) μ')
    (hn : ¬ rfz σ a k p = 0 → Q (some (0, rfz σ a k p)) (L0 n) μ) : TR mX10_from 3 (0, 0) [(2, 493), (0, a), (0, k), (0, p)] (L0 n) μ Q := by
  have hN := ho.1.1.2.1
  have hS := ho.1.1.1
  refine TR.okM fun _ hav => ?_
  have p31 : inI p := (hav (0, p) (by simp)).1 rfl
  have p32 := p31.2
  apply t_X10_from (layOK n) k493
  refine c_mayRow hR ho ⟨_, rfl, rfl, ?_⟩
  have out : ∀ (v j : Int) (μ1 : Mem), (¬ v = 0 → Q (some (0, v)) (L0 n) μ1) → (v = 0 → Q (some (0, j)) (L0 n) μ1) → WA mX10_from 3 (0, 0) 104 [(9, 0), (9, 0), (9, 0), (9, 0), (0, v), (0, j)] [] (L0 n) μ1 Q := fun v j μ1 h1 h2 => by
    apply s_X10_from_104 (layOK n)
    exact ⟨h1, h2⟩
  by_cases q : ¬ rfz σ a k p = 0
  · apply s_X10_from_12 (layOK n) k493
    exact ⟨fun _ => out _ _ _ (fun _ => hn q) (fun z => absurd z q), fun z => absurd z q⟩
  have q : rfz σ a k p = 0 := Decidable.of_not_not q
  rw [q]
  have hy := hy q
  obtain ⟨g1, hk, g3, g4⟩ := rfz_0 q
  have ha : 0 ≤ a ∧ a < 5 := by omega
  have lb := ho.2.2.2.2.2 k hk.1 hk.2
  have key : ∀ (d j : Nat), j + d = (σ.w 0).toNat → (j = 0 ∨ p + j ≤ 20) → frmN σ.ls (σ.lm k) (20 * k) p d j = frmN σ.ls (σ.lm k) (20 * k) p (σ.w 0).toNat 0 → ∀ μ1, RSt μ1 (σ.setW (frmW σ.w σ.ls a (20 * k + p) j)) → OKs (σ.setW (frmW σ.w σ.ls a (20 * k + p) j)) → frR' μ μ1 → WA mX10_from 3 (0, 0) 12 [(2, 493), (0, a), (0, k), (0, p), (0, 0), (0, (j : Int))] [] (L0 n) μ1 Q := by
    intro d
    induction d with
    | zero =>
      intro j hj hp e μ1 c o f
      have e : j = frmN σ.ls (σ.lm k) (20 * k) p (σ.w 0).toNat 0 := e
      have hy := hy μ1
      rw [← e] at hy
      have e0 : (σ.setW (frmW σ.w σ.ls a (20 * k + p) j)).w 0 = σ.w 0 := by show frmW _ _ _ _ _ 0 = _; unfold frmW; rw [if_neg (by omega)]
      apply s_X10_from_12 (layOK n) k493
      exact ⟨fun z => absurd rfl z, fun _ => c_X10_strips c.1 o.1.1 ⟨_, rfl, rfl, fun _ => out _ _ _ (fun z => absurd rfl z) (fun _ => hy c f), fun z => absurd (show (σ.setW (frmW σ.w σ.ls a (20 * k + p) j)).w 0 ≤ (j : Int) by omega) z⟩⟩
    | succ d ih =>
      intro j hj hp e μ1 c o f
      have hyj : frmN σ.ls (σ.lm k) (20 * k) p (σ.w 0).toNat 0 = j → WA mX10_from 3 (0, 0) 104 [(9, 0), (9, 0), (9, 0), (9, 0), (0, 0), (0, (j : Int))] [] (L0 n) μ1 Q := fun e => out _ _ _ (fun z => absurd rfl z) (fun _ => by
        have hy := hy μ1
        rw [e] at hy
        exact hy c f)
      have e0 : (σ.setW (frmW σ.w σ.ls a (20 * k + p) j)).w 0 = σ.w 0 := by show frmW _ _ _ _ _ 0 = _; unfold frmW; rw [if_neg (by omega)]
      have e : (if p + (j : Int) < σ.lm k ∧ 0 ≤ σ.ls (20 * k + p + j) ∧ σ.ls (20 * k + p + j) ≤ 9 then frmN σ.ls (σ.lm k) (20 * k) p d (j + 1) else j) = frmN σ.ls (σ.lm k) (20 * k) p (σ.w 0).toNat 0 := e
      apply s_X10_from_12 (layOK n) k493
      rw [rf_ref.1, rf_ref.2.2.2.2.2.2.2.2.2.2.2.2.2.2.1, rf_ref.2.2.2.2.2.2.2.2.2.2.2.2.2.2.2]
      refine ⟨fun z => absurd rfl z, fun _ => c_X10_strips c.1 o.1.1 ⟨_, rfl, rfl, fun z => absurd z (by omega), fun _ => ?_⟩⟩
      rw [show μ1 508 k = σ.lm k from c.2.2.2.2.1 k hk.1 hk.2]
      refine ⟨⟨by omega, by omega⟩, hk, fun z => ?_, fun z => ?_⟩
      · rw [if_neg (by omega)] at e
        exact hyj e.symm
      · rw [show μ1 509 (20 * k + p + j) = σ.ls (20 * k + p + j) from c.2.2.2.2.2 _ (by omega) (by omega)]
        refine ⟨⟨by omega, by omega⟩, ⟨by omega, by omega⟩, ⟨by omega, by omega⟩, ⟨by omega, by omega⟩, c_X10_in fun r2 h2 => ⟨r2, rfl, rfl, fun z2 => ?_, fun z2 => ?_⟩⟩
        · rw [if_neg (by omega)] at e
          exact hyj e.symm
        · rw [if_pos (by omega)] at e
          have hv : 0 ≤ σ.ls (20 * k + p + j) ∧ σ.ls (20 * k + p + j) ≤ 9 := by omega
          rw [show μ1 509 (20 * k + p + j) = σ.ls (20 * k + p + j) from c.2.2.2.2.2 _ (by omega) (by omega)]
          have c2 : RSt (up μ1 494 (85 + 16 * a + j) (σ.ls (20 * k + p + j))) (σ.setW (updW (frmW σ.w σ.ls a (20 * k + p) j) (85 + 16 * a + j) (σ.ls (20 * k + p + j)))) := RSt_up c
          have o2 : OKs (σ.setW (updW (frmW σ.w σ.ls a (20 * k + p) j) (85 + 16 * a + j) (σ.ls (20 * k + p + j)))) := OK_w ho (upd_WK o.1 ⟨by omega, by omega⟩ hv)
          have e2 : updW (frmW σ.w σ.ls a (20 * k + p) j) (85 + 16 * a + j) (σ.ls (20 * k + p + j)) = frmW σ.w σ.ls a (20 * k + p) ((j + 1 : Nat) : Int) := by
            rw [← frmW_step (by omega)]
            rfl
          rw [e2] at c2 o2
          exact ⟨⟨by omega, by omega⟩, ⟨by omega, by omega⟩, ⟨by omega, by omega⟩, ⟨by omega, by omega⟩, ⟨by omega, by omega⟩, ih (j + 1) (by omega) (Or.inr (by omega)) e _ c2 o2 (fun x s hx => by rw [up_ne (by omega), f x s hx])⟩
  have h0 : σ.setW (frmW σ.w σ.ls a (20 * k + p) ((0 : Nat) : Int)) = σ := by rw [show ((0 : Nat) : Int) = 0 from rfl, frmW_0]; rfl
  exact key (σ.w 0).toNat 0 (by omega) (Or.inl rfl) rfl μ (by rw [h0]; exact hR) (by rw [h0]; exact ho) (fun _ _ _ => rfl)
end
