/-! divides: the unit, and what a row read is -/
/-- a number that makes all of some numbers whole -/
def cmP (P : Int → Prop) (M : Int) : Prop := 0 < M ∧ ∀ y, P y → y ∣ M
/-- the unit after some numbers, or that there is none small enough -/
def UNp (P : Int → Prop) (fl u : Int) : Prop := (1 ≤ u ∧ u ≤ 1000000000) ∧ (fl = 0 ∧ cmP P u ∧ (∀ M, cmP P M → u ∣ M) ∨ fl = 1 ∧ ∀ M, cmP P M → 1000000000 < M)
theorem UNp_congr {P P' : Int → Prop} {fl u : Int} (h : UNp P fl u) (e : ∀ y, P y ↔ P' y) : UNp P' fl u := by
  have c : ∀ M, cmP P M ↔ cmP P' M := fun M => ⟨fun z => ⟨z.1, fun y hy => z.2 y ((e y).mpr hy)⟩, fun z => ⟨z.1, fun y hy => z.2 y ((e y).mp hy)⟩⟩
  obtain ⟨h1, h2 | h2⟩ := h
  · exact ⟨h1, Or.inl ⟨h2.1, (c u).mp h2.2.1, fun M hM => h2.2.2 M ((c M).mpr hM)⟩⟩
  · exact ⟨h1, Or.inr ⟨h2.1, fun M hM => h2.2 M ((c M).mpr hM)⟩⟩
theorem UNp_nil {P : Int → Prop} (h : ∀ y, ¬ P y) : UNp P 0 1 := ⟨⟨by decide, by decide⟩, Or.inl ⟨rfl, ⟨by decide, fun y hy => absurd hy (h y)⟩, fun M _ => Int.one_dvd M⟩⟩
theorem UNp_fl {P : Int → Prop} {fl u : Int} (h : UNp P fl u) : fl = 0 ∨ fl = 1 := by
  obtain ⟨-, h | h⟩ := h
  · exact Or.inl h.1
  · exact Or.inr h.1
/-- one more number is taken in -/
theorem UNp_in {P : Int → Prop} {fl u y : Int} (h : UNp P fl u) (hy : 0 < y) (hle : rdN u y * y ≤ 1000000000) : UNp (fun z => P z ∨ z = y) fl (rdN u y * y) := by
  obtain ⟨⟨u1, u2⟩, h⟩ := h
  obtain ⟨d1, d2, d3⟩ := lcm_dvd (u := u) hy
  have pos := d3 (by omega)
  refine ⟨⟨by omega, hle⟩, ?_⟩
  rcases h with h | h
  · refine Or.inl ⟨h.1, ⟨pos, fun z hz => ?_⟩, fun M hM => ?_⟩
    · rcases hz with hz | rfl
      · exact Int.dvd_trans (h.2.1.2 z hz) d1
      · exact d2
    · exact lcm_least (by omega) hy hM.1 (h.2.2 M ⟨hM.1, fun z hz => hM.2 z (Or.inl hz)⟩) (hM.2 y (Or.inr rfl))
  · exact Or.inr ⟨h.1, fun M hM => h.2 M ⟨hM.1, fun z hz => hM.2 z (Or.inl hz)⟩⟩
/-- it is too much -/
theorem UNp_out {P : Int → Prop} {fl u y : Int} (h : UNp P fl u) (hy : 0 < y) (hgt : 1000000000 < rdN u y * y) : UNp (fun z => P z ∨ z = y) 1 u := by
  obtain ⟨⟨u1, u2⟩, h⟩ := h
  refine ⟨⟨u1, u2⟩, Or.inr ⟨rfl, fun M hM => ?_⟩⟩
  rcases h with h | h
  · have d := lcm_least (by omega) hy hM.1 (h.2.2 M ⟨hM.1, fun z hz => hM.2 z (Or.inl hz)⟩) (hM.2 y (Or.inr rfl))
    have := Int.le_of_dvd hM.1 d
    omega
  · exact h.2 M ⟨hM.1, fun z hz => hM.2 z (Or.inl hz)⟩
theorem UNp_keep {P P' : Int → Prop} {u : Int} (h : UNp P 1 u) (e : ∀ y, P y → P' y) : UNp P' 1 u := by
  obtain ⟨h1, h2 | h2⟩ := h
  · exact absurd h2.1 (by decide)
  · exact ⟨h1, Or.inr ⟨rfl, fun M hM => h2.2 M ⟨hM.1, fun z hz => hM.2 z (e z hz)⟩⟩⟩
/-- the answer is one -/
theorem UNp_one {P : Int → Prop} {fl fl' u u' : Int} (h : UNp P fl u) (h' : UNp P fl' u') : fl = fl' ∧ (fl = 0 → u = u') := by
  obtain ⟨⟨a1, a2⟩, h⟩ := h
  obtain ⟨⟨b1, b2⟩, h'⟩ := h'
  rcases h with h | h <;> rcases h' with h' | h'
  · exact ⟨by rw [h.1, h'.1], fun _ => Int.dvd_antisymm (by omega) (by omega) (h.2.2 u' h'.2.1) (h'.2.2 u h.2.1)⟩
  · have := h'.2 u h.2.1
    omega
  · have := h.2 u' h'.2.1
    omega
  · exact ⟨by rw [h.1, h'.1], fun z => by omega⟩
/-- a lower number of a row's spans -/
def lowM (w : Dv) (y : Int) : Prop := ∃ a k : Int, (0 ≤ a ∧ a < 5) ∧ (0 ≤ k ∧ k < w (165 + a)) ∧ (y = w (171 + 8 * a + 4 * k) ∨ y = w (173 + 8 * a + 4 * k))
theorem lowM_give {w : Dv} {a : Int} {l r : Pt} (ha : 0 ≤ a ∧ a < 5) (hm : 0 ≤ w (165 + a) ∧ w (165 + a) < 2) (hmn : ∀ b : Int, 0 ≤ b → b < 5 → w (165 + b) ≤ 2) (y : Int) : ((lowM w y ∨ y = l.2) ∨ y = r.2) ↔ lowM (giveS w a l r) y := by
  obtain ⟨n0, n1, n2, n3⟩ := giveS_new (w := w) (a := a) (l := l) (r := r)
  have cnt := fun (b : Int) hb => giveS_cnt (w := w) (a := a) (b := b) (l := l) (r := r) ha hm.1 hb
  have old := fun (b j : Int) hb hj hne => giveS_old (w := w) (a := a) (b := b) (j := j) (l := l) (r := r) ha hm hb hj hne
  have ca : giveS w a l r (165 + a) = w (165 + a) + 1 := by rw [cnt a ha, if_pos rfl]
  constructor
  · intro h
    rcases h with (⟨b, j, hb, hj, e⟩ | e) | e
    · have := hmn b hb.1 hb.2
      have hne : ¬ (b = a ∧ j = w (165 + a)) := by
        intro z
        obtain ⟨rfl, rfl⟩ := z
        omega
      obtain ⟨o0, o1, o2, o3⟩ := old b j hb ⟨hj.1, by omega⟩ hne
      refine ⟨b, j, hb, ⟨hj.1, ?_⟩, by rw [o1, o3]; exact e⟩
      rw [cnt b hb]
      split
      · rename_i z; rw [z] at hj; omega
      · exact hj.2
    · exact ⟨a, w (165 + a), ha, ⟨hm.1, by rw [ca]; omega⟩, Or.inl (by rw [n1]; exact e)⟩
    · exact ⟨a, w (165 + a), ha, ⟨hm.1, by rw [ca]; omega⟩, Or.inr (by rw [n3]; exact e)⟩
  · intro h
    obtain ⟨b, j, hb, hj, e⟩ := h
    by_cases z : b = a ∧ j = w (165 + a)
    · obtain ⟨rfl, rfl⟩ := z
      rw [n1, n3] at e
      rcases e with e | e
      · exact Or.inl (Or.inr e)
      · exact Or.inr e
    · have := hmn b hb.1 hb.2
      have hj2 : j < w (165 + b) := by
        have h2 := hj.2
        rw [cnt b hb] at h2
        split at h2
        · rename_i y; subst y; omega
        · exact h2
      obtain ⟨o0, o1, o2, o3⟩ := old b j hb ⟨hj.1, by omega⟩ z
      rw [o1, o3] at e
      exact Or.inl (Or.inl ⟨b, j, hb, ⟨hj.1, hj2⟩, e⟩)
theorem lowM_0 {w0 : Dv} (y : Int) : ¬ lowM (hsW (clrW w0) 0) y := by
  intro h
  obtain ⟨a, k, ha, hk, -⟩ := h
  obtain ⟨-, -, ca, -⟩ := clrW_at (w := w0)
  rw [hsW_ne (by omega), ca a ha.1 ha.2] at hk
  omega
theorem RV_low {w0 w : Dv} (h : RV w0 w) {y : Int} (hy : lowM w y) : 1 ≤ y ∧ y ≤ 999 := by
  obtain ⟨a, k, ha, hk, e⟩ := hy
  obtain ⟨b1, b2, -⟩ := (h.2.2.2.1 a ha.1 ha.2).2 k hk.1 hk.2
  rcases e with rfl | rfl
  · exact ⟨b1.2.1, b1.2.2.1⟩
  · exact ⟨b2.2.1, b2.2.2.1⟩
/-- the row that a text read whole leaves -/
def dvW (w : Dv) (u : Int) : Dv := hsW (setU w u) 1
theorem dvW_at {w : Dv} {u : Int} : dvW w u 2 = 1 ∧ dvW w u 3 = u ∧ ∀ i : Int, i ≠ 2 → i ≠ 3 → dvW w u i = w i := by
  refine ⟨(if_pos rfl : hsW (setU w u) 1 2 = 1), ?_, fun i i2 i3 => ?_⟩
  · unfold dvW; rw [hsW_ne (by decide), setU_3]
  · unfold dvW; rw [hsW_ne i2, setU_ne i3]
def sq (g : Nat → Int × Int) : Nat → Nat → List (Int × Int)
  | _, 0 => []
  | s, k + 1 => g s :: sq g (s + 1) k
theorem sq_mem {g : Nat → Int × Int} {y : Int × Int} : ∀ (k s : Nat), y ∈ sq g s k → ∃ i : Nat, s ≤ i ∧ i < s + k ∧ y = g i
  | 0, _, h => by cases h
  | k + 1, s, h => by
    rcases List.mem_cons.mp h with e | e
    · exact ⟨s, Nat.le_refl s, by omega, e⟩
    · obtain ⟨i, h1, h2, h3⟩ := sq_mem k (s + 1) e
      exact ⟨i, by omega, by omega, h3⟩
theorem sq_dis {g : Nat → Int × Int} (h : ∀ i j : Nat, i < 10 → j < 10 → i ≠ j → dis (g i) (g j)) : ∀ k s : Nat, s + k = 10 → disL (sq g s k)
  | 0, _, _ => trivial
  | k + 1, s, e => by
    refine ⟨fun y hy => ?_, sq_dis h k (s + 1) (by omega)⟩
    obtain ⟨i, h1, h2, h3⟩ := sq_mem k (s + 1) hy
    rw [h3]
    exact h s i (by omega) (by omega) (by omega)
/-- where a held span begins and ends, in parts of the unit -/
def ent (w : Dv) (u a k : Int) : Int × Int := if k < w (165 + a) then (prt u (w (170 + 8 * a + 4 * k)) (w (171 + 8 * a + 4 * k)), prt u (w (172 + 8 * a + 4 * k)) (w (173 + 8 * a + 4 * k))) else (0, 0)
def entN (w : Dv) (u : Int) (i : Nat) : Int × Int := ent w u ((i / 2 : Nat) : Int) ((i % 2 : Nat) : Int)
theorem pnB_W {S u x y : Int} (h : pnB S x y) (hd : y ∣ u) : ptW S u x y := ⟨h.1, h.2.1, h.2.2.2.1, hd, h.2.2.2.2⟩
theorem RV_pts {w0 w : Dv} {u a k : Int} (h : RV w0 w) (hu : cmP (lowM w) u) (ha : 0 ≤ a ∧ a < 5) (hk : 0 ≤ k ∧ k < w (165 + a)) : ptW (w0 0) u (w (170 + 8 * a + 4 * k)) (w (171 + 8 * a + 4 * k)) ∧ ptW (w0 0) u (w (172 + 8 * a + 4 * k)) (w (173 + 8 * a + 4 * k)) := by
  obtain ⟨b1, b2, -⟩ := (h.2.2.2.1 a ha.1 ha.2).2 k hk.1 hk.2
  exact ⟨pnB_W b1 (hu.2 _ ⟨a, k, ha, hk, Or.inl rfl⟩), pnB_W b2 (hu.2 _ ⟨a, k, ha, hk, Or.inr rfl⟩)⟩
theorem ent_ok {w0 w : Dv} {u a k : Int} (h : RV w0 w) (hS : 0 ≤ w0 0) (hu1 : 1 ≤ u) (hu : cmP (lowM w) u) (ha : 0 ≤ a ∧ a < 5) (hk : 0 ≤ k) : 0 ≤ (ent w u a k).1 ∧ (ent w u a k).1 ≤ (ent w u a k).2 ∧ (ent w u a k).2 ≤ w0 0 * u := by
  unfold ent
  split
  · rename_i z
    obtain ⟨p1, p2⟩ := RV_pts h hu ha ⟨hk, z⟩
    obtain ⟨-, -, b3⟩ := (h.2.2.2.1 a ha.1 ha.2).2 k hk z
    exact ⟨(prt_b p1 hu1 hS).1, prt_mono p1 p2 hu1 hS b3, (prt_b p2 hu1 hS).2.1⟩
  · exact ⟨Int.le_refl 0, Int.le_refl 0, Int.mul_nonneg hS (by omega)⟩
theorem ent_dis {w0 w : Dv} {u a k b j : Int} (h : RV w0 w) (hS : 0 ≤ w0 0) (hu1 : 1 ≤ u) (hu : cmP (lowM w) u) (ha : 0 ≤ a ∧ a < 5) (hk : 0 ≤ k) (hb : 0 ≤ b ∧ b < 5) (hj : 0 ≤ j) (hne : a ≠ b ∨ k ≠ j) : dis (ent w u a k) (ent w u b j) := by
  unfold dis ent
  by_cases z : k < w (165 + a)
  · rw [if_pos z]
    by_cases y : j < w (165 + b)
    · rw [if_pos y]
      obtain ⟨p1, p2⟩ := RV_pts h hu ha ⟨hk, z⟩
      obtain ⟨q1, q2⟩ := RV_pts h hu hb ⟨hj, y⟩
      by_cases e1 : neS w a k
      · by_cases e2 : neS w b j
        · rcases h.2.2.2.2 a k b j ha ⟨hk, z⟩ hb ⟨hj, y⟩ hne e1 e2 with g | g
          · exact Or.inr (Or.inr (Or.inl (prt_mono p2 q1 hu1 hS g)))
          · exact Or.inr (Or.inr (Or.inr (prt_mono q2 p1 hu1 hS g)))
        · exact Or.inr (Or.inl (prt_mono q2 q1 hu1 hS (Int.not_lt.mp e2)))
      · exact Or.inl (prt_mono p2 p1 hu1 hS (Int.not_lt.mp e1))
    · rw [if_neg y]
      exact Or.inr (Or.inl (Int.le_refl 0))
  · rw [if_neg z]
    exact Or.inl (Int.le_refl 0)
theorem hld_ent {row : Int → Int} {S : Nat} {w : Dv} {u a : Int} (ha : 0 ≤ a ∧ a < 5) : hld row S (dvW w u) a = (pw row (ent w u a 0).2 u S - pw row (ent w u a 0).1 u S) + (pw row (ent w u a 1).2 u S - pw row (ent w u a 1).1 u S) := by
  obtain ⟨-, e3, ei⟩ := dvW_at (w := w) (u := u)
  have one : ∀ k : Int, 0 ≤ k → (if k < w (165 + a) then hldK row S (dvW w u) a k else 0) = pw row (ent w u a k).2 u S - pw row (ent w u a k).1 u S := fun k k0 => by
    unfold ent
    split
    · unfold hldK spn
      rw [e3, ei _ (by omega) (by omega), ei _ (by omega) (by omega), ei _ (by omega) (by omega), ei _ (by omega) (by omega)]
    · show (0 : Int) = pw row 0 u S - pw row 0 u S
      omega
  unfold hld
  rw [ei (165 + a) (by omega) (by omega), one 0 (by decide), one 1 (by decide)]
theorem dv_sum {row : Int → Int} {w0 w : Dv} {u : Int} (hw : rowOK row) (h : RV w0 w) (hS : 2 ≤ w0 0 ∧ w0 0 ≤ 16) (hu1 : 1 ≤ u) (hu : cmP (lowM w) u) : sumH row (w0 0).toNat (dvW w u) 5 ≤ cum row (w0 0).toNat * u := by
  have S0 : 0 ≤ w0 0 := by omega
  have e5 : sumH row (w0 0).toNat (dvW w u) 5 = 0 + hld row (w0 0).toNat (dvW w u) 0 + hld row (w0 0).toNat (dvW w u) 1 + hld row (w0 0).toNat (dvW w u) 2 + hld row (w0 0).toNat (dvW w u) 3 + hld row (w0 0).toNat (dvW w u) 4 := rfl
  rw [hld_ent ⟨by decide, by decide⟩, hld_ent ⟨by decide, by decide⟩, hld_ent ⟨by decide, by decide⟩, hld_ent ⟨by decide, by decide⟩, hld_ent ⟨by decide, by decide⟩] at e5
  have bnd : ∀ x ∈ sq (entN w u) 0 10, 0 ≤ x.1 ∧ x.1 ≤ x.2 ∧ x.2 ≤ w0 0 * u := fun x hx => by
    obtain ⟨i, h1, h2, h3⟩ := sq_mem 10 0 hx
    rw [h3]
    exact ent_ok h S0 hu1 hu ⟨by omega, by omega⟩ (by omega)
  have dd : disL (sq (entN w u) 0 10) := sq_dis (fun i j i1 j1 hne => ent_dis h S0 hu1 hu ⟨by omega, by omega⟩ (by omega) ⟨by omega, by omega⟩ (by omega) (by omega)) 10 0 rfl
  have M0 : 0 ≤ w0 0 * u := Int.mul_nonneg S0 (by omega)
  have le := sumL_le (f := fun q => pw row q u (w0 0).toNat) (fun q _ => pw_mono hw (by omega) _ (by omega)) (fun x hx => ⟨(bnd x hx).1, (bnd x hx).2.1⟩) dd (w0 0 * u).toNat
  rw [sumL_all _ (fun x hx => by have := bnd x hx; omega)] at le
  rw [Int.toNat_of_nonneg M0] at le
  have eS : (((w0 0).toNat : Nat) : Int) = w0 0 := Int.toNat_of_nonneg S0
  have top := pw_all (w := row) (P := w0 0 * u) (u := u) (by omega) (w0 0).toNat (by rw [eS]; exact Int.le_refl _)
  have bot := pw_0 (A := row) (u := u) (by omega) (w0 0).toNat
  have le : (sq (entN w u) 0 10).foldr (fun x s => (pw row x.2 u (w0 0).toNat - pw row x.1 u (w0 0).toNat) + s) 0 ≤ pw row (w0 0 * u) u (w0 0).toNat - pw row 0 u (w0 0).toNat := le
  rw [top, bot] at le
  have ef : (sq (entN w u) 0 10).foldr (fun x s => (pw row x.2 u (w0 0).toNat - pw row x.1 u (w0 0).toNat) + s) 0 =
    (pw row (ent w u 0 0).2 u (w0 0).toNat - pw row (ent w u 0 0).1 u (w0 0).toNat) + ((pw row (ent w u 0 1).2 u (w0 0).toNat - pw row (ent w u 0 1).1 u (w0 0).toNat) + ((pw row (ent w u 1 0).2 u (w0 0).toNat - pw row (ent w u 1 0).1 u (w0 0).toNat) + ((pw row (ent w u 1 1).2 u (w0 0).toNat - pw row (ent w u 1 1).1 u (w0 0).toNat) + ((pw row (ent w u 2 0).2 u (w0 0).toNat - pw row (ent w u 2 0).1 u (w0 0).toNat) + ((pw row (ent w u 2 1).2 u (w0 0).toNat - pw row (ent w u 2 1).1 u (w0 0).toNat) + ((pw row (ent w u 3 0).2 u (w0 0).toNat - pw row (ent w u 3 0).1 u (w0 0).toNat) + ((pw row (ent w u 3 1).2 u (w0 0).toNat - pw row (ent w u 3 1).1 u (w0 0).toNat) + ((pw row (ent w u 4 0).2 u (w0 0).toNat - pw row (ent w u 4 0).1 u (w0 0).toNat) + ((pw row (ent w u 4 1).2 u (w0 0).toNat - pw row (ent w u 4 1).1 u (w0 0).toNat) + 0))))))))) := rfl
  rw [ef] at le
  omega
theorem RV_WK {w0 w : Dv} {u : Int} (h : RV w0 w) (hw : WK w0) (hu1 : 1 ≤ u ∧ u ≤ 1000000000) (hu : cmP (lowM w) u) : WK (dvW w u) := by
  obtain ⟨e2, e3, ei⟩ := dvW_at (w := w) (u := u)
  obtain ⟨h1, ⟨h2, h3, h4⟩, h5, h6, h7⟩ := h
  have low : ∀ i : Int, i < 165 → i ≠ 2 → i ≠ 3 → i ≠ 4 → dvW w u i = w0 i := fun i i0 i2 i3 i4 => by rw [ei i i2 i3]; exact h1 i i0 i2 i3 i4
  have hS := hw.1.1
  have hN := hw.1.2.1
  have l0 := low 0 (by decide) (by decide) (by decide) (by decide)
  have l1 := low 1 (by decide) (by decide) (by decide) (by decide)
  have d4 : dvW w u 4 = 0 := by rw [ei 4 (by decide) (by decide)]; exact h4
  refine ⟨SW_of hw.1 low, Or.inr e2, ⟨?_, ⟨by omega, by omega, fun k k0 k1 => by omega⟩, fun a a0 a1 => ?_⟩, fun row hr => ?_, fun a a0 a1 => ?_, C3_le (C3_0 d4) (by decide)⟩
  · unfold WFu; rw [e3]; exact hu1
  · rw [ei (165 + a) (by omega) (by omega), e3, l0]
    refine ⟨(h6 a a0 a1).1, fun k k0 k1 => ?_⟩
    rw [ei (170 + 8 * a + 4 * k) (by omega) (by omega), ei (171 + 8 * a + 4 * k) (by omega) (by omega), ei (172 + 8 * a + 4 * k) (by omega) (by omega), ei (173 + 8 * a + 4 * k) (by omega) (by omega)]
    obtain ⟨p1, p2⟩ := RV_pts ⟨h1, ⟨h2, h3, h4⟩, h5, h6, h7⟩ hu ⟨a0, a1⟩ ⟨k0, k1⟩
    exact ⟨p1, p2, ((h6 a a0 a1).2 k k0 k1).2.2⟩
  · rw [l0, e3]
    exact dv_sum hr ⟨h1, ⟨h2, h3, h4⟩, h5, h6, h7⟩ hS hu1.1 hu
  · rw [l1] at a0
    rw [ei (165 + a) (by omega) (by omega)]
    exact h5 a a0 a1
