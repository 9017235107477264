/-! the state of both sides -/
section
variable {X : MI} {ht : Nat} {k : Nat × Nat} {av : List AV} {L : Lay} {μ : Mem} {Q : Option AV → Lay → Mem → Prop}
theorem TR.okM (h : okM L μ → (∀ v ∈ av, okv v) → TR X ht k av L μ Q) : TR X ht k av L μ Q := by
  intro hok l b B D dA hbB
  intro p e ha hc hk s m args below hf hpre hP hK
  have hP' := hP
  obtain ⟨-, hRep, -, -⟩ := hP'
  exact h hRep.2.2.2.2 hok hok l b B D dA hbB p e ha hc hk s m args below hf hpre hP hK
end
/-- the reference's row; whether there is an image, it; the tape; the paper; the lists -/
def Sg : Type := Dv × (Int × Dv) × (Int × (Int → Int)) × (Int × (Int → Int)) × ((Int → Int) × (Int → Int))
def Sg.w (σ : Sg) : Dv := σ.1
def Sg.hi (σ : Sg) : Int := σ.2.1.1
def Sg.im (σ : Sg) : Dv := σ.2.1.2
def Sg.tn (σ : Sg) : Int := σ.2.2.1.1
def Sg.tp (σ : Sg) : Int → Int := σ.2.2.1.2
def Sg.pn (σ : Sg) : Int := σ.2.2.2.1.1
def Sg.pp (σ : Sg) : Int → Int := σ.2.2.2.1.2
def Sg.lm (σ : Sg) : Int → Int := σ.2.2.2.2.1
def Sg.ls (σ : Sg) : Int → Int := σ.2.2.2.2.2
def Sg.setW (σ : Sg) (w : Dv) : Sg := (w, σ.2)
def Sg.setI (σ : Sg) (h : Int) (w : Dv) : Sg := (σ.1, (h, w), σ.2.2)
def Sg.setT (σ : Sg) (n : Int) (t : Int → Int) : Sg := (σ.1, σ.2.1, (n, t), σ.2.2.2)
def Sg.setP (σ : Sg) (n : Int) (t : Int → Int) : Sg := (σ.1, σ.2.1, σ.2.2.1, (n, t), σ.2.2.2.2)
def Sg.setL (σ : Sg) (m l : Int → Int) : Sg := (σ.1, σ.2.1, σ.2.2.1, σ.2.2.2.1, (m, l))
/-- a row that a desk may hold -/
def WK (w : Dv) : Prop := SW w ∧ (w 2 = 0 ∨ w 2 = 1) ∧ WF (w 0) w ∧ (∀ row, rowOK row → sumH row (w 0).toNat w 5 ≤ cum row (w 0).toNat * w 3) ∧ (∀ a : Int, w 1 ≤ a → a < 5 → w (165 + a) = 0) ∧ C3 w 6
def OKs (σ : Sg) : Prop := WK σ.w ∧ (σ.hi = 0 ∨ σ.hi = 1) ∧ (σ.hi = 1 → WK σ.im) ∧ (0 ≤ σ.tn ∧ σ.tn ≤ 160 ∧ ∀ i : Int, 0 ≤ i → i < σ.tn → 1 ≤ σ.tp i ∧ σ.tp i ≤ 127) ∧ (0 ≤ σ.pn ∧ σ.pn ≤ 640 ∧ ∀ i : Int, 0 ≤ i → i < σ.pn → 0 ≤ σ.pp i ∧ σ.pp i ≤ 127) ∧ ∀ k : Int, 0 ≤ k → k < 4 → -1 ≤ σ.lm k ∧ σ.lm k ≤ 20
/-- a cake at c holds a row's strips, agents, worths -/
def CKr (μ : Mem) (c : Int) (w : Dv) : Prop := μ c 0 = w 0 ∧ μ c 1 = w 1 ∧ ∀ a s : Int, 0 ≤ a → a < 5 → 0 ≤ s → s < 16 → μ (c + 2 + a) s = w (5 + 16 * a + s) ∧ μ (c + 8 + a) s = w (85 + 16 * a + s)
/-- a division at D holds a row's -/
def DVr (μ : Mem) (D : Int) (w : Dv) : Prop := μ D 0 = w 2 ∧ DR μ D w
/-- the class' side -/
def CSt (μ : Mem) (σ : Sg) : Prop := CKr μ 2 σ.w ∧ DVr μ 41 σ.w ∧ (μ 442 0 = 0 ∧ μ 442 1 = 1) ∧ (μ 1 6 = σ.hi ∧ (σ.hi = 1 → CKr μ 28 σ.im ∧ DVr μ 307 σ.im)) ∧ (μ 473 0 = σ.tn ∧ ∀ i : Int, 0 ≤ i → i < σ.tn → μ 474 i = σ.tp i) ∧ (μ 479 0 = σ.pn ∧ ∀ i : Int, 0 ≤ i → i < σ.pn → μ 480 i = σ.pp i) ∧ ((∀ k : Int, 0 ≤ k → k < 4 → μ 487 k = σ.lm k) ∧ ∀ k i : Int, 0 ≤ k → k < 4 → 0 ≤ i → i < 20 → μ (483 + k) i = σ.ls (20 * k + i))
/-- the reference's side -/
def RSt (μ : Mem) (σ : Sg) : Prop := RWm μ σ.w ∧ (μ 493 3 = σ.hi ∧ (σ.hi = 1 → ∀ i : Int, 0 ≤ i → i < 510 → μ 496 i = σ.im i)) ∧ (μ 493 7 = σ.tn ∧ ∀ i : Int, 0 ≤ i → i < σ.tn → μ 497 i = σ.tp i) ∧ (μ 493 21 = σ.pn ∧ ∀ i : Int, 0 ≤ i → i < σ.pn → μ 503 i = σ.pp i) ∧ ((∀ k : Int, 0 ≤ k → k < 4 → μ 508 k = σ.lm k) ∧ ∀ i : Int, 0 ≤ i → i < 80 → μ 509 i = σ.ls i)
/-- what a call of the class leaves, of what counts -/
def frX (μ μ' : Mem) : Prop := ∀ x i : Int, (x ≤ 14 ∨ 28 ≤ x ∧ x ≤ 45 ∨ 48 ≤ x ∧ x ≤ 153 ∨ 307 ≤ x ∧ x ≤ 311 ∨ 314 ≤ x ∧ x ≤ 419 ∨ x = 442 ∨ (x = 473 ∧ i ≠ 1) ∨ x = 474 ∨ 479 ≤ x ∧ x ≤ 487 ∨ 493 ≤ x) → μ' x i = μ x i
theorem frX_rf {μ : Mem} : frX μ μ := fun _ _ _ => rfl
theorem frX_tr {μ μ' μ'' : Mem} (h : frX μ μ') (h' : frX μ' μ'') : frX μ μ'' := fun x i hx => (h' x i hx).trans (h x i hx)
/-- the class leaves what is the reference's -/
def frC (μ μ' : Mem) : Prop := ∀ x i : Int, (x ≤ 0 ∨ 493 ≤ x) → μ' x i = μ x i
/-- the reference leaves what is the class' -/
def frR' (μ μ' : Mem) : Prop := ∀ x i : Int, x ≤ 492 → μ' x i = μ x i
theorem frX_C {μ μ' : Mem} (h : frX μ μ') : frC μ μ' := fun x i hx => h x i (by omega)
theorem CKr_fr {μ μ' : Mem} {c : Int} {w : Dv} (h : CKr μ c w) (hf : ∀ x i, c ≤ x → x ≤ c + 12 → μ' x i = μ x i) : CKr μ' c w :=
  ⟨(hf c 0 (by omega) (by omega)).trans h.1, (hf c 1 (by omega) (by omega)).trans h.2.1, fun a s a0 a1 s0 s1 => by
    rw [hf (c + 2 + a) s (by omega) (by omega), hf (c + 8 + a) s (by omega) (by omega)]
    exact h.2.2 a s a0 a1 s0 s1⟩
theorem DVr_fr {μ μ' : Mem} {D : Int} {w : Dv} (h : DVr μ D w) (h4 : w 4 ≤ 19) (hm : ∀ a : Int, 0 ≤ a → a < 5 → w (165 + a) ≤ 2) (hf : ∀ x i, (x = D ∧ (i = 0 ∨ i = 2 ∨ i = 3)) ∨ x = D + 2 ∨ (D + 7 ≤ x ∧ x ≤ D + 112) → μ' x i = μ x i) : DVr μ' D w :=
  ⟨(hf D 0 (by omega)).trans h.1, DR_frame h.2 h4 hm (fun x i hx => hf x i (by omega))⟩
theorem WK_cn {w : Dv} (h : WK w) : CN w := WF_cn h.2.2.1
theorem CSt_fr {μ μ' : Mem} {σ : Sg} (h : CSt μ σ) (ho : OKs σ) (hf : frX μ μ') : CSt μ' σ := by
  obtain ⟨h1, h2, h3, h4, h5, h6, h7⟩ := h
  have cn := WK_cn ho.1
  refine ⟨CKr_fr h1 (fun x i x0 x1 => hf x i (by omega)), DVr_fr h2 cn.1.2 (fun a a0 a1 => (cn.2 a a0 a1).2) (fun x i hx => hf x i (by omega)), ⟨by rw [hf 442 0 (by omega), h3.1], by rw [hf 442 1 (by omega), h3.2]⟩, ⟨by rw [hf 1 6 (by omega), h4.1], fun e => ?_⟩, ⟨by rw [hf 473 0 (by omega), h5.1], fun i i0 i1 => by rw [hf 474 i (by omega), h5.2 i i0 i1]⟩, ⟨by rw [hf 479 0 (by omega), h6.1], fun i i0 i1 => by rw [hf 480 i (by omega), h6.2 i i0 i1]⟩, fun k k0 k1 => by rw [hf 487 k (by omega), h7.1 k k0 k1], fun k i k0 k1 i0 i1 => by rw [hf (483 + k) i (by omega), h7.2 k i k0 k1 i0 i1]⟩
  obtain ⟨g1, g2⟩ := h4.2 e
  have cn2 := WK_cn (ho.2.2.1 e)
  exact ⟨CKr_fr g1 (fun x i x0 x1 => hf x i (by omega)), DVr_fr g2 cn2.1.2 (fun a a0 a1 => (cn2.2 a a0 a1).2) (fun x i hx => hf x i (by omega))⟩
/-- only cake and division are new -/
theorem CSt_w {μ μ' : Mem} {σ : Sg} {w' : Dv} (h : CSt μ σ) (ho : OKs σ) (h1 : CKr μ' 2 w') (h2 : DVr μ' 41 w') (hf : ∀ x i : Int, (x = 1 ∨ 28 ≤ x ∧ x ≤ 40 ∨ 307 ≤ x ∧ x ≤ 311 ∨ 314 ≤ x ∧ x ≤ 419 ∨ x = 442 ∨ (x = 473 ∧ i ≠ 1) ∨ x = 474 ∨ 479 ≤ x ∧ x ≤ 487) → μ' x i = μ x i) : CSt μ' (σ.setW w') := by
  obtain ⟨-, -, h3, h4, h5, h6, h7⟩ := h
  refine ⟨h1, h2, ⟨by rw [hf 442 0 (by omega), h3.1], by rw [hf 442 1 (by omega), h3.2]⟩, ⟨by rw [hf 1 6 (by omega), h4.1]; rfl, fun e => ?_⟩, ⟨by rw [hf 473 0 (by omega), h5.1]; rfl, fun i i0 i1 => by rw [hf 474 i (by omega), h5.2 i i0 i1]; rfl⟩, ⟨by rw [hf 479 0 (by omega), h6.1]; rfl, fun i i0 i1 => by rw [hf 480 i (by omega), h6.2 i i0 i1]; rfl⟩, fun k k0 k1 => by rw [hf 487 k (by omega), h7.1 k k0 k1]; rfl, fun k i k0 k1 i0 i1 => by rw [hf (483 + k) i (by omega), h7.2 k i k0 k1 i0 i1]; rfl⟩
  have e : σ.hi = 1 := e
  obtain ⟨g1, g2⟩ := h4.2 e
  have cn2 := WK_cn (ho.2.2.1 e)
  exact ⟨CKr_fr g1 (fun x i x0 x1 => hf x i (by omega)), DVr_fr g2 cn2.1.2 (fun a a0 a1 => (cn2.2 a a0 a1).2) (fun x i hx => hf x i (by omega))⟩
/-- what a question to the reference leaves -/
def frY (μ μ' : Mem) : Prop := ∀ x i : Int, (x ≤ 492 ∨ (x = 493 ∧ (i = 3 ∨ i = 7 ∨ i = 21)) ∨ x = 494 ∨ x = 496 ∨ x = 497 ∨ x = 503 ∨ x = 508 ∨ x = 509) → μ' x i = μ x i
theorem frQ_Y {μ μ' : Mem} (h : frQ μ μ') : frY μ μ' := fun x i hx => h x i (by omega)
theorem frY_tr {μ μ' μ'' : Mem} (h : frY μ μ') (h' : frY μ' μ'') : frY μ μ'' := fun x i hx => (h' x i hx).trans (h x i hx)
theorem frY_R {μ μ' : Mem} (h : frY μ μ') : frR' μ μ' := fun x i hx => h x i (Or.inl hx)
theorem RSt_fr {μ μ' : Mem} {σ : Sg} (h : RSt μ σ) (hf : frY μ μ') : RSt μ' σ := by
  obtain ⟨h1, h2, h3, h4, h5⟩ := h
  exact ⟨RWm_fr h1 (fun i => hf 494 i (by omega)), ⟨by rw [hf 493 3 (by omega), h2.1], fun e i i0 i1 => by rw [hf 496 i (by omega), h2.2 e i i0 i1]⟩, ⟨by rw [hf 493 7 (by omega), h3.1], fun i i0 i1 => by rw [hf 497 i (by omega), h3.2 i i0 i1]⟩, ⟨by rw [hf 493 21 (by omega), h4.1], fun i i0 i1 => by rw [hf 503 i (by omega), h4.2 i i0 i1]⟩, fun k k0 k1 => by rw [hf 508 k (by omega), h5.1 k k0 k1], fun i i0 i1 => by rw [hf 509 i (by omega), h5.2 i i0 i1]⟩
theorem RSt_w {μ μ' : Mem} {σ : Sg} {w' : Dv} (h : RSt μ σ) (h1 : RWm μ' w') (hf : ∀ x i : Int, ((x = 493 ∧ (i = 3 ∨ i = 7 ∨ i = 21)) ∨ x = 496 ∨ x = 497 ∨ x = 503 ∨ x = 508 ∨ x = 509) → μ' x i = μ x i) : RSt μ' (σ.setW w') := by
  obtain ⟨-, h2, h3, h4, h5⟩ := h
  exact ⟨h1, ⟨by rw [hf 493 3 (by omega), h2.1]; rfl, fun e i i0 i1 => by rw [hf 496 i (by omega), h2.2 e i i0 i1]; rfl⟩, ⟨by rw [hf 493 7 (by omega), h3.1]; rfl, fun i i0 i1 => by rw [hf 497 i (by omega), h3.2 i i0 i1]; rfl⟩, ⟨by rw [hf 493 21 (by omega), h4.1]; rfl, fun i i0 i1 => by rw [hf 503 i (by omega), h4.2 i i0 i1]; rfl⟩, fun k k0 k1 => by rw [hf 508 k (by omega), h5.1 k k0 k1]; rfl, fun i i0 i1 => by rw [hf 509 i (by omega), h5.2 i i0 i1]; rfl⟩
theorem frG_all {μ μ' : Mem} (h : frG μ μ') : ∀ x i : Int, (x ≤ 492 ∨ (x = 493 ∧ (i = 3 ∨ i = 7 ∨ i = 21)) ∨ x = 495 ∨ x = 496 ∨ x = 497 ∨ 503 ≤ x) → μ' x i = μ x i := fun x i hx => h x i (by omega)
/-- a row of worths out of the cake -/
theorem CKr_row {μ : Mem} {c : Int} {w : Dv} (h : CKr μ c w) {a how : Int} (ha : 0 ≤ a ∧ a < 5) (hh : how = 0 ∨ how = 1) : ∀ s : Int, 0 ≤ s → s < 16 → μ (rowA c a how) s = rowW w a how s := fun s s0 s1 => by
  obtain ⟨e1, e2⟩ := h.2.2 a s ha.1 ha.2 s0 s1
  unfold rowA rowW
  rcases hh with rfl | rfl
  · rw [if_neg (by decide), if_pos rfl, e1]
  · rw [if_pos rfl, if_neg (by decide), e2]
theorem CKr_ok {μ : Mem} {c : Int} {w : Dv} (h : CKr μ c w) (hs : SW w) {a how : Int} (ha : 0 ≤ a ∧ a < 5) (hh : how = 0 ∨ how = 1) : rowOK (μ (rowA c a how)) := fun s s0 s1 => by
  rw [CKr_row h ha hh s s0 s1]
  exact hs.2.2 a how ha.1 ha.2 s s0 s1
def NOv : Int := -9223372036854775808
/-- a fraction's number above or below the line -/
def frac (x y part : Int) : Int := if part = 0 then rdN x y else rdD x y
section
variable {n : Int} {μ : Mem} {Q : Option AV → Lay → Mem → Prop}
theorem k1 : isK (L0 n) 1 (9, 0) := isK0 (by decide) (by decide) (by decide +kernel)
theorem k41 : isK (L0 n) 41 (1, 0) := isK0 (by decide) (by decide) (by decide +kernel)
theorem k488 : isK (L0 n) 488 (3, 0) := isK0 (by decide) (by decide) (by decide +kernel)
theorem k489 : isK (L0 n) 489 (3, 0) := isK0 (by decide) (by decide) (by decide +kernel)
theorem c_X9_isFlag {v : Int} (h : ∀ r : Int, (r = 1 ∧ (v = 0 ∨ v = 1) ∨ r = 0 ∧ ¬ (v = 0 ∨ v = 1)) → Q (some (0, r)) (L0 n) μ) : TR mX9_isFlag 0 (0, 0) [(0, v)] (L0 n) μ Q := by
  apply t_X9_isFlag (layOK n)
  exact ⟨fun q => h 1 (Or.inl ⟨rfl, Or.inl q⟩), fun q => ⟨fun q2 => h 0 (Or.inr ⟨rfl, by omega⟩), fun q2 => h 1 (Or.inl ⟨rfl, Or.inr q2⟩)⟩⟩
theorem c_X9_isWorth {v : Int} (h : ∀ r : Int, (r = 1 ∧ (0 ≤ v ∧ v ≤ 9) ∨ r = 0 ∧ ¬ (0 ≤ v ∧ v ≤ 9)) → Q (some (0, r)) (L0 n) μ) : TR mX9_isWorth 0 (0, 0) [(0, v)] (L0 n) μ Q := by
  apply t_X9_isWorth (layOK n)
  exact ⟨fun q => h 0 (Or.inr ⟨rfl, by omega⟩), fun q => ⟨fun q2 => h 0 (Or.inr ⟨rfl, by omega⟩), fun q2 => h 1 (Or.inl ⟨rfl, by omega⟩)⟩⟩
theorem c_X9_isWay {v : Int} (h : ∀ r : Int, (r = 1 ∧ (0 ≤ v ∧ v ≤ 4) ∨ r = 0 ∧ ¬ (0 ≤ v ∧ v ≤ 4)) → Q (some (0, r)) (L0 n) μ) : TR mX9_isWay 0 (0, 0) [(0, v)] (L0 n) μ Q := by
  apply t_X9_isWay (layOK n)
  exact ⟨fun q => h 0 (Or.inr ⟨rfl, by omega⟩), fun q => ⟨fun q2 => h 0 (Or.inr ⟨rfl, by omega⟩), fun q2 => h 1 (Or.inl ⟨rfl, by omega⟩)⟩⟩
theorem c_hasA {c a : Int} {w : Dv} (kc : isK (L0 n) c (0, 0)) (h1 : CKr μ c w) (h : ∀ r : Int, (r = 1 ∧ (0 ≤ a ∧ a < w 1) ∨ r = 0 ∧ ¬ (0 ≤ a ∧ a < w 1)) → Q (some (0, r)) (L0 n) μ) : TR mX0_hasAgent 0 (0, 0) [(2, c), (0, a)] (L0 n) μ Q := by
  refine c_X0_hasAgent kc ?_
  rw [h1.2.1]
  by_cases q : 0 ≤ a ∧ a < w 1
  · rw [if_pos q]; exact h 1 (Or.inl ⟨rfl, q⟩)
  · rw [if_neg q]; exact h 0 (Or.inr ⟨rfl, q⟩)
theorem c_hasS {c a : Int} {w : Dv} (kc : isK (L0 n) c (0, 0)) (h1 : CKr μ c w) (h : ∀ r : Int, (r = 1 ∧ (0 ≤ a ∧ a < w 0) ∨ r = 0 ∧ ¬ (0 ≤ a ∧ a < w 0)) → Q (some (0, r)) (L0 n) μ) : TR mX0_hasStrip 0 (0, 0) [(2, c), (0, a)] (L0 n) μ Q := by
  refine c_X0_hasStrip kc ?_
  rw [h1.1]
  by_cases q : 0 ≤ a ∧ a < w 0
  · rw [if_pos q]; exact h 1 (Or.inl ⟨rfl, q⟩)
  · rw [if_neg q]; exact h 0 (Or.inr ⟨rfl, q⟩)
theorem c_X9_tell {x y p : Int} (hx : 0 ≤ x) (hy : 0 < y ∧ y < 281474976710656) (h : ∀ μ', frX μ μ' → (∀ o i, o ≠ 488 → μ' o i = μ o i) → Q (some (1, frac x y p)) (L0 n) μ') : TR mX9_tell 2 (0, 0) [(2, 1), (1, x), (1, y), (0, p)] (L0 n) μ Q := by
  apply t_X9_tell (layOK n) k1
  rw [rf_desk.2.2.2.2.2.2.2.2.2.2.1]
  refine c_X3_put k488 hx hy.1 hy.2 ⟨rfl, rfl, c_X3_part k488 ⟨_, rfl, rfl, ?_⟩⟩
  rw [up_ne (a := 488) (i := 0) (Or.inr (by decide)), up_eq, up_eq]
  have f : ∀ o i, o ≠ 488 → up (up μ 488 0 (rdN x y)) 488 1 (rdD x y) o i = μ o i := fun o i h => by rw [up_ne (Or.inl h), up_ne (Or.inl h)]
  exact h _ (fun o i ho => f o i (by omega)) f
theorem c_X9_isAllowed {v : Int} {w : Dv} (h1 : CKr μ 2 w) (h : ∀ r : Int, (r = 1 ∧ ((v = 0 → w 1 = 2) ∧ (v = 4 → w 1 = 3)) ∨ r = 0 ∧ ¬ ((v = 0 → w 1 = 2) ∧ (v = 4 → w 1 = 3))) → Q (some (0, r)) (L0 n) μ) : TR mX9_isAllowed 0 (0, 0) [(2, 1), (0, v)] (L0 n) μ Q := by
  apply t_X9_isAllowed (layOK n) k1
  rw [rf_desk.1, h1.2.1]
  refine ⟨fun q => ⟨fun q2 => h 1 (Or.inl ⟨rfl, by omega⟩), fun q2 => ⟨fun q3 => h 0 (Or.inr ⟨rfl, by omega⟩), fun q3 => h 1 (Or.inl ⟨rfl, by omega⟩)⟩⟩, fun q => ⟨fun q2 => h 0 (Or.inr ⟨rfl, by omega⟩), fun q2 => h 1 (Or.inl ⟨rfl, by omega⟩)⟩⟩
end
