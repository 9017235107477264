/-! a text of shares: what reading it comes to -/
/-- further figures of a number -/
def nmF (m : Int) (t : Int → Int) : Nat → Int → Int → Int × Int
  | 0, p, v => (v, p)
  | d + 1, p, v => if fgS m t p < 0 then (v, p) else nmF m t d (p + 1) (v * 10 + fgS m t p)
/-- a number of at most d + 1 figures: -1 where there is none; and where it ends -/
def nmS (m : Int) (t : Int → Int) (d : Nat) (p : Int) : Int × Int := if fgS m t p < 0 then (-1, p) else nmF m t d (p + 1) (fgS m t p)
/-- a point: whether it is one, where reading stands, the point in lowest terms -/
def ptS (m : Int) (t : Int → Int) (S p : Int) : Int × Int × Pt :=
  if (nmS m t 1 p).1 < 0 then (0, p, (0, 1))
  else if tb m t (nmS m t 1 p).2 = 47 then
    (if (nmS m t 2 ((nmS m t 1 p).2 + 1)).1 < 1 then (0, (nmS m t 1 p).2 + 1, (0, 1))
     else if S * (nmS m t 2 ((nmS m t 1 p).2 + 1)).1 < (nmS m t 1 p).1 then (0, p, (0, 1))
     else (1, (nmS m t 2 ((nmS m t 1 p).2 + 1)).2, (rdN (nmS m t 1 p).1 (nmS m t 2 ((nmS m t 1 p).2 + 1)).1, rdD (nmS m t 1 p).1 (nmS m t 2 ((nmS m t 1 p).2 + 1)).1)))
  else if S < (nmS m t 1 p).1 then (0, p, (0, 1))
  else (1, (nmS m t 1 p).2, (rdN (nmS m t 1 p).1 1, rdD (nmS m t 1 p).1 1))
/-- a span that is not empty meets one that is there -/
def ovB (w : Dv) (l r : Pt) : Bool := decide (l.1 * r.2 < r.1 * l.2) && (List.range 5).any fun (a : Nat) => (List.range 2).any fun (k : Nat) => decide ((k : Int) < w (165 + (a : Int)) ∧ neS w (a : Int) (k : Int) ∧ l.1 * w (173 + 8 * (a : Int) + 4 * (k : Int)) < w (172 + 8 * (a : Int) + 4 * (k : Int)) * l.2 ∧ w (170 + 8 * (a : Int) + 4 * (k : Int)) * r.2 < r.1 * w (171 + 8 * (a : Int) + 4 * (k : Int)))
/-- a span read for one: ok, where, the row -/
def spS (m : Int) (t : Int → Int) (S a p : Int) (w : Dv) : Int × Int × Dv :=
  if (ptS m t S p).1 = 0 then (0, (ptS m t S p).2.1, w)
  else if tb m t (ptS m t S p).2.1 ≠ 45 then (0, (ptS m t S p).2.1, w)
  else if (ptS m t S ((ptS m t S p).2.1 + 1)).1 = 0 then (0, (ptS m t S ((ptS m t S p).2.1 + 1)).2.1, w)
  else if (ptS m t S ((ptS m t S p).2.1 + 1)).2.2.1 * (ptS m t S p).2.2.2 < (ptS m t S p).2.2.1 * (ptS m t S ((ptS m t S p).2.1 + 1)).2.2.2 then (0, (ptS m t S p).2.1 + 1, w)
  else if ovB w (ptS m t S p).2.2 (ptS m t S ((ptS m t S p).2.1 + 1)).2.2 = true then (0, p, w)
  else (1, (ptS m t S ((ptS m t S p).2.1 + 1)).2.1, giveS w a (ptS m t S p).2.2 (ptS m t S ((ptS m t S p).2.1 + 1)).2.2)
/-- a share: whose, one span or two -/
def shS (m : Int) (t : Int → Int) (S N p : Int) (w : Dv) : Int × Int × Dv :=
  if ¬ (0 ≤ fgS m t p ∧ fgS m t p < N) then (0, p, w)
  else if 0 < w (165 + fgS m t p) then (0, p, w)
  else if tb m t (p + 1) ≠ 61 then (0, p + 1, w)
  else if (spS m t S (fgS m t p) (p + 2) w).1 = 0 then spS m t S (fgS m t p) (p + 2) w
  else if tb m t (spS m t S (fgS m t p) (p + 2) w).2.1 = 44 then spS m t S (fgS m t p) ((spS m t S (fgS m t p) (p + 2) w).2.1 + 1) (spS m t S (fgS m t p) (p + 2) w).2.2
  else spS m t S (fgS m t p) (p + 2) w
/-- the whole text -/
def dvAll (m : Int) (t : Int → Int) (S N : Int) : Nat → Int → Int → Dv → Int × Dv
  | 0, _, p, w => (-100 - p, w)
  | d + 1, c, p, w => if (shS m t S N p w).1 = 1 then (if m ≤ (shS m t S N p w).2.1 then (c + 1, (shS m t S N p w).2.2) else if tb m t (shS m t S N p w).2.1 = 59 then dvAll m t S N d (c + 1) ((shS m t S N p w).2.1 + 1) (shS m t S N p w).2.2 else (-100 - (shS m t S N p w).2.1, (shS m t S N p w).2.2)) else (-100 - (shS m t S N p w).2.1, (shS m t S N p w).2.2)
def tnB : Nat → Int → Int
  | 0, v => v
  | d + 1, v => tnB d (v * 10 + 9)
theorem tnB_mono : ∀ (d : Nat) (v v' : Int), v ≤ v' → tnB d v ≤ tnB d v'
  | 0, _, _, h => h
  | d + 1, v, v', h => tnB_mono d (v * 10 + 9) (v' * 10 + 9) (by omega)
theorem tnB_ge : ∀ (d : Nat) (v : Int), 0 ≤ v → v ≤ tnB d v
  | 0, v, _ => Int.le_refl v
  | d + 1, v, h => by
    have := tnB_ge d (v * 10 + 9) (by omega)
    show v ≤ tnB d (v * 10 + 9)
    omega
theorem nmF_ok {m : Int} {t : Int → Int} : ∀ (d : Nat) (p v : Int), 0 ≤ v → p ≤ m → (0 ≤ (nmF m t d p v).1 ∧ (nmF m t d p v).1 ≤ tnB d v) ∧ p ≤ (nmF m t d p v).2 ∧ (nmF m t d p v).2 ≤ m
  | 0, p, v, h, hp => ⟨⟨h, Int.le_refl v⟩, Int.le_refl p, hp⟩
  | d + 1, p, v, h, hp => by
    unfold nmF
    by_cases z : fgS m t p < 0
    · rw [if_pos z]
      exact ⟨⟨h, tnB_ge (d + 1) v h⟩, Int.le_refl p, hp⟩
    · rw [if_neg z]
      obtain ⟨f1, f2, f3⟩ := fgS_in z
      obtain ⟨⟨a1, a2⟩, a3, a4⟩ := nmF_ok (m := m) (t := t) d (p + 1) (v * 10 + fgS m t p) (by omega) (by omega)
      have a5 := tnB_mono d (v * 10 + fgS m t p) (v * 10 + 9) (by omega)
      have a6 : tnB (d + 1) v = tnB d (v * 10 + 9) := rfl
      exact ⟨⟨a1, by omega⟩, by omega, a4⟩
theorem nmS_ok {m : Int} {t : Int → Int} {d : Nat} {p : Int} : (fgS m t p < 0 → nmS m t d p = (-1, p)) ∧ (¬ fgS m t p < 0 → nmS m t d p = nmF m t d (p + 1) (fgS m t p) ∧ (0 ≤ (nmS m t d p).1 ∧ (nmS m t d p).1 ≤ tnB d 9) ∧ p < (nmS m t d p).2 ∧ (nmS m t d p).2 ≤ m) := by
  unfold nmS
  refine ⟨fun z => if_pos z, fun z => ?_⟩
  rw [if_neg z]
  obtain ⟨f1, f2, f3⟩ := fgS_in z
  obtain ⟨⟨a1, a2⟩, a3, a4⟩ := nmF_ok (m := m) (t := t) d (p + 1) (fgS m t p) f2 (show p + 1 ≤ m by omega)
  have a5 := tnB_mono d (fgS m t p) 9 f3
  exact ⟨rfl, ⟨a1, by omega⟩, by omega, a4⟩
/-- a point that a text gives -/
def pnB (S x y : Int) : Prop := 0 ≤ x ∧ 1 ≤ y ∧ y ≤ 999 ∧ x ≤ S * y ∧ gc x y = 1
theorem pnB_rd {S u d : Int} (hu : 0 ≤ u) (hd : 1 ≤ d ∧ d ≤ 999) (h : u ≤ S * d) : pnB S (rdN u d) (rdD u d) := by
  obtain ⟨l1, l2, l3⟩ := rd_low hu (show 0 < d by omega)
  have e1 := rdD_le (x := u) (show 0 ≤ d by omega)
  have g := gc_pos (x := u) (show 0 < d by omega)
  refine ⟨l1, by omega, by omega, ?_, l3⟩
  refine Int.le_of_mul_le_mul_right ?_ g
  rw [rdN_mul, Int.mul_assoc, rdD_mul]
  exact h
theorem ptS_ok {m : Int} {t : Int → Int} {S p : Int} (hp : p ≤ m) : ((ptS m t S p).1 = 0 ∨ (ptS m t S p).1 = 1) ∧ (p ≤ (ptS m t S p).2.1 ∧ (ptS m t S p).2.1 ≤ m) ∧ ((ptS m t S p).1 = 1 → p < (ptS m t S p).2.1 ∧ pnB S (ptS m t S p).2.2.1 (ptS m t S p).2.2.2) := by
  have no : ∀ {P : Prop}, (0 : Int) = 1 → P := fun z => absurd z (by decide)
  by_cases z : fgS m t p < 0
  · have e := (nmS_ok (t := t) (d := 1)).1 z
    unfold ptS
    rw [e, if_pos (show (-1 : Int) < 0 by decide)]
    exact ⟨Or.inl rfl, ⟨Int.le_refl p, hp⟩, fun y => no y⟩
  · obtain ⟨-, ⟨a1, a2⟩, a3, a4⟩ := (nmS_ok (t := t) (d := 1)).2 z
    unfold ptS
    rw [if_neg (by omega)]
    by_cases y : tb m t (nmS m t 1 p).2 = 47
    · rw [if_pos y]
      have lt := tb_in y (by decide)
      by_cases x : fgS m t ((nmS m t 1 p).2 + 1) < 0
      · have e := (nmS_ok (t := t) (d := 2)).1 x
        rw [e, if_pos (show (-1 : Int) < 1 by decide)]
        exact ⟨Or.inl rfl, ⟨by show p ≤ (nmS m t 1 p).2 + 1; omega, by show (nmS m t 1 p).2 + 1 ≤ m; omega⟩, fun y => no y⟩
      · obtain ⟨-, ⟨b1, b2⟩, b3, b4⟩ := (nmS_ok (t := t) (d := 2)).2 x
        have b2' : (nmS m t 2 ((nmS m t 1 p).2 + 1)).1 ≤ 999 := b2
        by_cases v : (nmS m t 2 ((nmS m t 1 p).2 + 1)).1 < 1
        · rw [if_pos v]
          exact ⟨Or.inl rfl, ⟨by show p ≤ (nmS m t 1 p).2 + 1; omega, by show (nmS m t 1 p).2 + 1 ≤ m; omega⟩, fun y => no y⟩
        · rw [if_neg v]
          by_cases u : S * (nmS m t 2 ((nmS m t 1 p).2 + 1)).1 < (nmS m t 1 p).1
          · rw [if_pos u]
            exact ⟨Or.inl rfl, ⟨Int.le_refl p, hp⟩, fun y => no y⟩
          · rw [if_neg u]
            exact ⟨Or.inr rfl, ⟨by show p ≤ (nmS m t 2 ((nmS m t 1 p).2 + 1)).2; omega, b4⟩, fun _ => ⟨by show p < (nmS m t 2 ((nmS m t 1 p).2 + 1)).2; omega, pnB_rd a1 ⟨by omega, b2'⟩ (by omega)⟩⟩
    · rw [if_neg y]
      by_cases u : S < (nmS m t 1 p).1
      · rw [if_pos u]
        exact ⟨Or.inl rfl, ⟨Int.le_refl p, hp⟩, fun y => no y⟩
      · rw [if_neg u]
        exact ⟨Or.inr rfl, ⟨by show p ≤ (nmS m t 1 p).2; omega, a4⟩, fun _ => ⟨a3, pnB_rd a1 ⟨by omega, by omega⟩ (by omega)⟩⟩
theorem ovB_iff {w : Dv} {l r : Pt} (hm : ∀ a : Int, 0 ≤ a → a < 5 → w (165 + a) ≤ 2) : ovB w l r = true ↔ l.1 * r.2 < r.1 * l.2 ∧ ∃ a k : Int, 0 ≤ a ∧ a < 5 ∧ 0 ≤ k ∧ k < w (165 + a) ∧ meetS w l.1 l.2 r.1 r.2 a k := by
  unfold ovB meetS
  rw [Bool.and_eq_true, decide_eq_true_iff, List.any_eq_true]
  constructor
  · intro h
    obtain ⟨h1, a, ha, h2⟩ := h
    rw [List.any_eq_true] at h2
    obtain ⟨k, hk, h3⟩ := h2
    have h3 := of_decide_eq_true h3
    have ha := List.mem_range.mp ha
    exact ⟨h1, (a : Int), (k : Int), by omega, by omega, by omega, h3.1, h3.2.1, h3.2.2.1, h3.2.2.2⟩
  · intro h
    obtain ⟨h1, a, k, a0, a1, k0, k1, h2, h3, h4⟩ := h
    have := hm a a0 a1
    obtain ⟨a', rfl⟩ := Int.eq_ofNat_of_zero_le a0
    obtain ⟨k', rfl⟩ := Int.eq_ofNat_of_zero_le k0
    refine ⟨h1, a', List.mem_range.mpr (by omega), ?_⟩
    rw [List.any_eq_true]
    exact ⟨k', List.mem_range.mpr (by omega), decide_eq_true ⟨k1, h2, h3, h4⟩⟩
/-- held points as a text gives them -/
def LB (S : Int) (w : Dv) : Prop := ∀ a : Int, 0 ≤ a → a < 5 → (0 ≤ w (165 + a) ∧ w (165 + a) ≤ 2) ∧ ∀ k : Int, 0 ≤ k → k < w (165 + a) → pnB S (w (170 + 8 * a + 4 * k)) (w (171 + 8 * a + 4 * k)) ∧ pnB S (w (172 + 8 * a + 4 * k)) (w (173 + 8 * a + 4 * k)) ∧ w (170 + 8 * a + 4 * k) * w (173 + 8 * a + 4 * k) ≤ w (172 + 8 * a + 4 * k) * w (171 + 8 * a + 4 * k)
/-- one span ends before the other begins -/
def apS (w : Dv) (a k b j : Int) : Prop := w (172 + 8 * a + 4 * k) * w (171 + 8 * b + 4 * j) ≤ w (170 + 8 * b + 4 * j) * w (173 + 8 * a + 4 * k) ∨ w (172 + 8 * b + 4 * j) * w (171 + 8 * a + 4 * k) ≤ w (170 + 8 * a + 4 * k) * w (173 + 8 * b + 4 * j)
def AP (w : Dv) : Prop := ∀ a k b j : Int, (0 ≤ a ∧ a < 5) → (0 ≤ k ∧ k < w (165 + a)) → (0 ≤ b ∧ b < 5) → (0 ≤ j ∧ j < w (165 + b)) → (a ≠ b ∨ k ≠ j) → neS w a k → neS w b j → apS w a k b j
/-- a row while a text of shares is read -/
def RV (w0 w : Dv) : Prop := (∀ i : Int, i < 165 → i ≠ 2 → i ≠ 3 → i ≠ 4 → w i = w0 i) ∧ (w 2 = 0 ∧ w 3 = 1 ∧ w 4 = 0) ∧ (∀ a : Int, w0 1 ≤ a → a < 5 → w (165 + a) = 0) ∧ LB (w0 0) w ∧ AP w
theorem giveS_new {w : Dv} {a : Int} {l r : Pt} : giveS w a l r (170 + 8 * a + 4 * w (165 + a)) = l.1 ∧ giveS w a l r (171 + 8 * a + 4 * w (165 + a)) = l.2 ∧ giveS w a l r (172 + 8 * a + 4 * w (165 + a)) = r.1 ∧ giveS w a l r (173 + 8 * a + 4 * w (165 + a)) = r.2 := addS_at
theorem giveS_old {w : Dv} {a b j : Int} {l r : Pt} (ha : 0 ≤ a ∧ a < 5) (hm : 0 ≤ w (165 + a) ∧ w (165 + a) < 2) (hb : 0 ≤ b ∧ b < 5) (hj : 0 ≤ j ∧ j < 2) (hne : ¬ (b = a ∧ j = w (165 + a))) : giveS w a l r (170 + 8 * b + 4 * j) = w (170 + 8 * b + 4 * j) ∧ giveS w a l r (171 + 8 * b + 4 * j) = w (171 + 8 * b + 4 * j) ∧ giveS w a l r (172 + 8 * b + 4 * j) = w (172 + 8 * b + 4 * j) ∧ giveS w a l r (173 + 8 * b + 4 * j) = w (173 + 8 * b + 4 * j) :=
  ⟨addS_ne (by omega) (by omega), addS_ne (by omega) (by omega), addS_ne (by omega) (by omega), addS_ne (by omega) (by omega)⟩
theorem giveS_low {w : Dv} {a i : Int} {l r : Pt} (ha : 0 ≤ a ∧ a < 5) (hm : 0 ≤ w (165 + a)) (hi : i < 165) : giveS w a l r i = w i := addS_ne (by omega) (by omega)
theorem giveS_cnt {w : Dv} {a b : Int} {l r : Pt} (ha : 0 ≤ a ∧ a < 5) (hm : 0 ≤ w (165 + a)) (hb : 0 ≤ b ∧ b < 5) : giveS w a l r (165 + b) = if b = a then w (165 + a) + 1 else w (165 + b) := by
  by_cases z : b = a
  · rw [if_pos z, z]; exact addS_m ha.1 hm
  · rw [if_neg z]; exact addS_ne (by omega) (by omega)
theorem RV_give {w0 w : Dv} {a : Int} {l r : Pt} (h : RV w0 w) (ha : 0 ≤ a ∧ a < 5) (haN : a < w0 1) (hm : 0 ≤ w (165 + a) ∧ w (165 + a) < 2) (hl : pnB (w0 0) l.1 l.2) (hr : pnB (w0 0) r.1 r.2) (hlr : l.1 * r.2 ≤ r.1 * l.2) (ho : ¬ ovB w l r = true) : RV w0 (giveS w a l r) := by
  obtain ⟨h1, ⟨h2, h3, h4⟩, h5, h6, h7⟩ := h
  have hmn := fun (b : Int) b0 b1 => (h6 b b0 b1).1.2
  obtain ⟨n0, n1, n2, n3⟩ := giveS_new (w := w) (a := a) (l := l) (r := r)
  have cnt := fun (b : Int) hb => giveS_cnt (w := w) (a := a) (b := b) (l := l) (r := r) ha hm.1 hb
  have old := fun (b j : Int) hb hj hne => giveS_old (w := w) (a := a) (b := b) (j := j) (l := l) (r := r) ha hm hb hj hne
  -- an old span is one that was there
  have was : ∀ b j : Int, 0 ≤ b ∧ b < 5 → 0 ≤ j ∧ j < giveS w a l r (165 + b) → ¬ (b = a ∧ j = w (165 + a)) → j < w (165 + b) := fun b j hb hj hne => by
    rw [cnt b hb] at hj
    split at hj
    · rename_i e; subst e; omega
    · exact hj.2
  have mt : l.1 * r.2 < r.1 * l.2 → ∀ b j : Int, 0 ≤ b ∧ b < 5 → 0 ≤ j ∧ j < w (165 + b) → ¬ meetS w l.1 l.2 r.1 r.2 b j := fun hne b j hb hj hmt => ho ((ovB_iff hmn).mpr ⟨hne, b, j, hb.1, hb.2, hj.1, hj.2, hmt⟩)
  refine ⟨fun i i0 i2 i3 i4 => by rw [giveS_low ha hm.1 i0]; exact h1 i i0 i2 i3 i4, ⟨by rw [giveS_low ha hm.1 (by decide)]; exact h2, by rw [giveS_low ha hm.1 (by decide)]; exact h3, by rw [giveS_low ha hm.1 (by decide)]; exact h4⟩, fun b b0 b1 => ?_, fun b b0 b1 => ⟨?_, fun k k0 k1 => ?_⟩, fun b k c j hb hk hc hj hne g1 g2 => ?_⟩
  · rw [show giveS w a l r (165 + b) = w (165 + b) from addS_ne (by omega) (by omega)]
    exact h5 b b0 b1
  · rw [cnt b ⟨b0, b1⟩]
    split
    · omega
    · exact (h6 b b0 b1).1
  · by_cases z : b = a ∧ k = w (165 + a)
    · obtain ⟨rfl, rfl⟩ := z
      rw [n0, n1, n2, n3]
      exact ⟨hl, hr, hlr⟩
    · have k2 := was b k ⟨b0, b1⟩ ⟨k0, k1⟩ z
      have := hmn b b0 b1
      obtain ⟨o0, o1, o2, o3⟩ := old b k ⟨b0, b1⟩ ⟨k0, by omega⟩ z
      rw [o0, o1, o2, o3]
      exact (h6 b b0 b1).2 k k0 k2
  · unfold neS at g1 g2
    unfold apS
    by_cases z1 : b = a ∧ k = w (165 + a)
    · by_cases z2 : c = a ∧ j = w (165 + a)
      · omega
      · have j2 := was c j hc hj z2
        have := hmn c hc.1 hc.2
        obtain ⟨o0, o1, o2, o3⟩ := old c j hc ⟨hj.1, by omega⟩ z2
        obtain ⟨rfl, rfl⟩ := z1
        rw [n0, n1, n2, n3] at g1
        rw [o0, o1, o2, o3] at g2
        rw [n0, n1, n2, n3, o0, o1, o2, o3]
        have mm := mt g1 c j hc ⟨hj.1, j2⟩
        unfold meetS at mm
        by_cases y1 : l.1 * w (173 + 8 * c + 4 * j) < w (172 + 8 * c + 4 * j) * l.2
        · left
          exact Int.not_lt.mp fun y2 => mm ⟨g2, y1, y2⟩
        · right
          exact Int.not_lt.mp y1
    · have k2 := was b k hb hk z1
      have := hmn b hb.1 hb.2
      obtain ⟨o0, o1, o2, o3⟩ := old b k hb ⟨hk.1, by omega⟩ z1
      rw [o0, o1, o2, o3] at g1
      rw [o0, o1, o2, o3]
      by_cases z2 : c = a ∧ j = w (165 + a)
      · obtain ⟨rfl, rfl⟩ := z2
        rw [n0, n1, n2, n3] at g2
        rw [n0, n1, n2, n3]
        have mm := mt g2 b k hb ⟨hk.1, k2⟩
        unfold meetS at mm
        by_cases y1 : l.1 * w (173 + 8 * b + 4 * k) < w (172 + 8 * b + 4 * k) * l.2
        · right
          exact Int.not_lt.mp fun y2 => mm ⟨g1, y1, y2⟩
        · left
          exact Int.not_lt.mp y1
      · have j2 := was c j hc hj z2
        have := hmn c hc.1 hc.2
        obtain ⟨q0, q1, q2, q3⟩ := old c j hc ⟨hj.1, by omega⟩ z2
        rw [q0, q1, q2, q3] at g2
        rw [q0, q1, q2, q3]
        exact h7 b k c j hb ⟨hk.1, k2⟩ hc ⟨hj.1, j2⟩ hne g1 g2
theorem spS_ok {m : Int} {t : Int → Int} {a p : Int} {w0 w : Dv} (h : RV w0 w) (ha : 0 ≤ a ∧ a < 5) (haN : a < w0 1) (hm : 0 ≤ w (165 + a) ∧ w (165 + a) < 2) (hp : p ≤ m) :
    ((spS m t (w0 0) a p w).1 = 0 ∨ (spS m t (w0 0) a p w).1 = 1) ∧ (p ≤ (spS m t (w0 0) a p w).2.1 ∧ (spS m t (w0 0) a p w).2.1 ≤ m) ∧ ((spS m t (w0 0) a p w).1 = 1 → p < (spS m t (w0 0) a p w).2.1 ∧ RV w0 (spS m t (w0 0) a p w).2.2 ∧ ∀ b : Int, 0 ≤ b ∧ b < 5 → (spS m t (w0 0) a p w).2.2 (165 + b) = if b = a then w (165 + a) + 1 else w (165 + b)) := by
  have no : ∀ {P : Prop}, (0 : Int) = 1 → P := fun z => absurd z (by decide)
  obtain ⟨a1, a2, a3⟩ := ptS_ok (t := t) (S := w0 0) hp
  unfold spS
  by_cases z : (ptS m t (w0 0) p).1 = 0
  · rw [if_pos z]; exact ⟨Or.inl rfl, a2, fun y => no y⟩
  · rw [if_neg z]
    obtain ⟨a4, a5⟩ := a3 (by omega)
    by_cases y : tb m t (ptS m t (w0 0) p).2.1 ≠ 45
    · rw [if_pos y]; exact ⟨Or.inl rfl, a2, fun y => no y⟩
    · rw [if_neg y]
      have lt := tb_in (Decidable.not_not.mp y) (by decide)
      obtain ⟨b1, b2, b3⟩ := ptS_ok (t := t) (S := w0 0) (p := (ptS m t (w0 0) p).2.1 + 1) (show _ ≤ m by omega)
      by_cases x : (ptS m t (w0 0) ((ptS m t (w0 0) p).2.1 + 1)).1 = 0
      · rw [if_pos x]; exact ⟨Or.inl rfl, ⟨by show p ≤ (ptS m t (w0 0) ((ptS m t (w0 0) p).2.1 + 1)).2.1; omega, b2.2⟩, fun y => no y⟩
      · rw [if_neg x]
        obtain ⟨b4, b5⟩ := b3 (by omega)
        by_cases v : (ptS m t (w0 0) ((ptS m t (w0 0) p).2.1 + 1)).2.2.1 * (ptS m t (w0 0) p).2.2.2 < (ptS m t (w0 0) p).2.2.1 * (ptS m t (w0 0) ((ptS m t (w0 0) p).2.1 + 1)).2.2.2
        · rw [if_pos v]; exact ⟨Or.inl rfl, ⟨by show p ≤ (ptS m t (w0 0) p).2.1 + 1; omega, by show (ptS m t (w0 0) p).2.1 + 1 ≤ m; omega⟩, fun y => no y⟩
        · rw [if_neg v]
          by_cases u : ovB w (ptS m t (w0 0) p).2.2 (ptS m t (w0 0) ((ptS m t (w0 0) p).2.1 + 1)).2.2 = true
          · rw [if_pos u]; exact ⟨Or.inl rfl, ⟨Int.le_refl p, hp⟩, fun y => no y⟩
          · rw [if_neg u]
            exact ⟨Or.inr rfl, ⟨by show p ≤ (ptS m t (w0 0) ((ptS m t (w0 0) p).2.1 + 1)).2.1; omega, b2.2⟩, fun _ => ⟨by show p < (ptS m t (w0 0) ((ptS m t (w0 0) p).2.1 + 1)).2.1; omega, RV_give h ha haN hm a5 b5 (by omega) u, fun b hb => giveS_cnt ha hm.1 hb⟩⟩
theorem shS_ok {m : Int} {t : Int → Int} {p : Int} {w0 w : Dv} (h : RV w0 w) (hN : w0 1 ≤ 5) (hp : p ≤ m) :
    ((shS m t (w0 0) (w0 1) p w).1 = 0 ∨ (shS m t (w0 0) (w0 1) p w).1 = 1) ∧ (p ≤ (shS m t (w0 0) (w0 1) p w).2.1 ∧ (shS m t (w0 0) (w0 1) p w).2.1 ≤ m) ∧ ((shS m t (w0 0) (w0 1) p w).1 = 1 → p + 2 < (shS m t (w0 0) (w0 1) p w).2.1 ∧ RV w0 (shS m t (w0 0) (w0 1) p w).2.2 ∧ ∀ b : Int, 0 ≤ b ∧ b < 5 → b ≠ fgS m t p → (shS m t (w0 0) (w0 1) p w).2.2 (165 + b) = w (165 + b)) := by
  have no : ∀ {P : Prop}, (0 : Int) = 1 → P := fun z => absurd z (by decide)
  unfold shS
  by_cases z : ¬ (0 ≤ fgS m t p ∧ fgS m t p < w0 1)
  · rw [if_pos z]; exact ⟨Or.inl rfl, ⟨Int.le_refl p, hp⟩, fun y => no y⟩
  · rw [if_neg z]
    have z' := Decidable.not_not.mp z
    obtain ⟨f1, -, -⟩ := fgS_in (show ¬ fgS m t p < 0 by omega)
    have ha : 0 ≤ fgS m t p ∧ fgS m t p < 5 := by omega
    have hc := (h.2.2.2.1 (fgS m t p) ha.1 ha.2).1
    by_cases y : 0 < w (165 + fgS m t p)
    · rw [if_pos y]; exact ⟨Or.inl rfl, ⟨Int.le_refl p, hp⟩, fun y => no y⟩
    · rw [if_neg y]
      by_cases x : tb m t (p + 1) ≠ 61
      · rw [if_pos x]; exact ⟨Or.inl rfl, ⟨by show p ≤ p + 1; omega, by show p + 1 ≤ m; omega⟩, fun y => no y⟩
      · rw [if_neg x]
        have lt := tb_in (Decidable.not_not.mp x) (by decide)
        generalize fgS m t p = a at *
        obtain ⟨a1, a2, a3⟩ := spS_ok (m := m) (t := t) (p := p + 2) h ha z'.2 ⟨hc.1, by omega⟩ (by omega)
        by_cases v : (spS m t (w0 0) a (p + 2) w).1 = 0
        · rw [if_pos v]; exact ⟨a1, ⟨by omega, a2.2⟩, fun y => absurd y (by omega)⟩
        · rw [if_neg v]
          obtain ⟨a4, a5, a6⟩ := a3 (by omega)
          by_cases u : tb m t (spS m t (w0 0) a (p + 2) w).2.1 = 44
          · rw [if_pos u]
            have lt2 := tb_in u (by decide)
            have c2 := a6 a ha
            rw [if_pos rfl] at c2
            obtain ⟨b1, b2, b3⟩ := spS_ok (m := m) (t := t) (p := (spS m t (w0 0) a (p + 2) w).2.1 + 1) a5 ha z'.2 (show 0 ≤ (spS m t (w0 0) a (p + 2) w).2.2 (165 + a) ∧ (spS m t (w0 0) a (p + 2) w).2.2 (165 + a) < 2 by omega) (by omega)
            refine ⟨b1, ⟨by omega, b2.2⟩, fun y => ?_⟩
            obtain ⟨b4, b5, b6⟩ := b3 y
            refine ⟨by omega, b5, fun b hb hne => ?_⟩
            rw [b6 b hb, if_neg hne, a6 b hb, if_neg hne]
          · rw [if_neg u]
            refine ⟨a1, ⟨by omega, a2.2⟩, fun _ => ⟨a4, a5, fun b hb hne => ?_⟩⟩
            rw [a6 b hb, if_neg hne]
theorem RV_0 {w0 : Dv} (hN : 2 ≤ w0 1) : RV w0 (hsW (clrW w0) 0) := by
  obtain ⟨c3, c4, ca, ci⟩ := clrW_at (w := w0)
  have cn : ∀ a : Int, 0 ≤ a → a < 5 → hsW (clrW w0) 0 (165 + a) = 0 := fun a a0 a1 => by rw [hsW_ne (by omega)]; exact ca a a0 a1
  refine ⟨fun i i0 i2 i3 i4 => by rw [hsW_ne i2]; exact ci i i3 i4 (Or.inl i0), ⟨if_pos rfl, by rw [hsW_ne (by decide)]; exact c3, by rw [hsW_ne (by decide)]; exact c4⟩, fun a a0 a1 => cn a (by omega) a1, fun a a0 a1 => ⟨by rw [cn a a0 a1]; omega, fun k k0 k1 => by rw [cn a a0 a1] at k1; omega⟩, fun a k b j ha hk => by rw [cn a ha.1 ha.2] at hk; omega⟩
