/-! what all shares have together: it never passes the whole -/
theorem prt_scale {u c x y : Int} (hy : 0 < y) (hd : y ∣ u) : prt (c * u) x y = c * prt u x y := by
  obtain ⟨k, rfl⟩ := hd
  unfold prt
  rw [show c * (y * k) = y * (c * k) by ac_rfl, Int.mul_ediv_cancel_left _ (by omega), Int.mul_ediv_cancel_left _ (by omega)]
  ac_rfl
theorem spn_scale {row : Int → Int} {S : Nat} {u c x y x' y' : Int} (hc : 0 ≤ c) (hy : 0 < y) (hd : y ∣ u) (hy' : 0 < y') (hd' : y' ∣ u) : spn row S (c * u) x y x' y' = c * spn row S u x y x' y' := by
  unfold spn
  rw [prt_scale hy hd, prt_scale hy' hd', pw_scale hc, pw_scale hc, Int.mul_sub]
theorem hldK_up {S : Nat} {row : Int → Int} {w w' : Dv} {c a k : Int} {T : Int} (hs : WFs T w) (hB : sameB w w') (he : w' 3 = c * w 3) (hc : 0 ≤ c) (ha : 0 ≤ a ∧ a < 5) (hk : 0 ≤ k ∧ k < w (165 + a)) : hldK row S w' a k = c * hldK row S w a k := by
  obtain ⟨m, h⟩ := hs a ha.1 ha.2
  obtain ⟨h1, h2, -⟩ := h k hk.1 hk.2
  unfold hldK
  rw [he, hB (170 + 8 * a + 4 * k) (by omega) (by omega) (by omega), hB (171 + 8 * a + 4 * k) (by omega) (by omega) (by omega), hB (172 + 8 * a + 4 * k) (by omega) (by omega) (by omega), hB (173 + 8 * a + 4 * k) (by omega) (by omega) (by omega)]
  exact spn_scale hc (by have := h1.2.1; omega) h1.2.2.2.1 (by have := h2.2.1; omega) h2.2.2.2.1
theorem hld_up {S : Nat} {row : Int → Int} {w w' : Dv} {c a : Int} {T : Int} (hs : WFs T w) (hB : sameB w w') (he : w' 3 = c * w 3) (hc : 0 ≤ c) (ha : 0 ≤ a ∧ a < 5) : hld row S w' a = c * hld row S w a := by
  unfold hld
  rw [hB (165 + a) (by omega) (by omega) (by omega), Int.mul_add]
  congr 1
  · by_cases q : 0 < w (165 + a)
    · rw [if_pos q, if_pos q]; exact hldK_up hs hB he hc ha ⟨by decide, q⟩
    · rw [if_neg q, if_neg q, Int.mul_zero]
  · by_cases q : 1 < w (165 + a)
    · rw [if_pos q, if_pos q]; exact hldK_up hs hB he hc ha ⟨by decide, q⟩
    · rw [if_neg q, if_neg q, Int.mul_zero]
theorem sumH_up {S : Nat} {row : Int → Int} {w w' : Dv} {c : Int} {T : Int} (hs : WFs T w) (hB : sameB w w') (he : w' 3 = c * w 3) (hc : 0 ≤ c) : ∀ k : Nat, k ≤ 5 → sumH row S w' k = c * sumH row S w k
  | 0, _ => by simp [sumH]
  | k + 1, hk => by
    show sumH row S w' k + hld row S w' k = c * (sumH row S w k + hld row S w k)
    rw [sumH_up hs hB he hc k (by omega), hld_up hs hB he hc ⟨by omega, by omega⟩, Int.mul_add]
theorem hldK_give {S : Nat} {row : Int → Int} {w : Dv} {a b k : Int} {p q : Pt} (ha : 0 ≤ a ∧ a < 5) (hb : 0 ≤ b ∧ b < 5) (hk : 0 ≤ k ∧ k < 2) (hm : 0 ≤ w (165 + a) ∧ w (165 + a) < 2) (hne : b ≠ a ∨ k ≠ w (165 + a)) : hldK row S (giveS w a p q) b k = hldK row S w b k := by
  unfold hldK giveS
  rw [addS_ne (by omega) (by omega), addS_ne (by omega) (by omega), addS_ne (by omega) (by omega), addS_ne (by omega) (by omega), addS_ne (by omega) (by omega)]
theorem hldK_new {S : Nat} {row : Int → Int} {w : Dv} {a : Int} {p q : Pt} (ha : 0 ≤ a ∧ a < 5) (hm : 0 ≤ w (165 + a)) : hldK row S (giveS w a p q) a (w (165 + a)) = spn row S (w 3) p.1 p.2 q.1 q.2 := by
  obtain ⟨c0, c1, c2, c3⟩ := addS_at (w := w) (a := a) (e0 := p.1) (e1 := p.2) (e2 := q.1) (e3 := q.2)
  unfold hldK giveS
  rw [c0, c1, c2, c3, addS_ne (by omega) (by omega)]
theorem hld_give {S : Nat} {row : Int → Int} {w : Dv} {a b : Int} {p q : Pt} (ha : 0 ≤ a ∧ a < 5) (hb : 0 ≤ b ∧ b < 5) (hm : 0 ≤ w (165 + a) ∧ w (165 + a) < 2) : hld row S (giveS w a p q) b = hld row S w b + if b = a then spn row S (w 3) p.1 p.2 q.1 q.2 else 0 := by
  obtain ⟨g1, g2, -⟩ := give_lo (p := p) (q := q) ha hm
  by_cases e : b = a
  · subst e
    rw [if_pos rfl]
    have hn := hldK_new (S := S) (row := row) (p := p) (q := q) ha hm.1
    unfold hld
    rw [g1]
    rcases (show w (165 + b) = 0 ∨ w (165 + b) = 1 by omega) with z | z
    · rw [z] at hn ⊢
      rw [hn, if_pos (by decide), if_neg (by decide), if_neg (by decide), if_neg (by decide)]
      omega
    · rw [z] at hn ⊢
      rw [hn, hldK_give ha hb ⟨by decide, by decide⟩ hm (Or.inr (by rw [z]; decide)), if_pos (by decide), if_pos (by decide), if_pos (by decide), if_neg (by decide)]
      omega
  · rw [if_neg e, Int.add_zero]
    unfold hld
    rw [g2 (165 + b) (by omega) (by omega), hldK_give ha hb ⟨by decide, by decide⟩ hm (Or.inl e), hldK_give ha hb ⟨by decide, by decide⟩ hm (Or.inl e)]
theorem sumH_give {S : Nat} {row : Int → Int} {w : Dv} {a : Int} {p q : Pt} (ha : 0 ≤ a ∧ a < 5) (hm : 0 ≤ w (165 + a) ∧ w (165 + a) < 2) : ∀ k : Nat, k ≤ 5 → sumH row S (giveS w a p q) k = sumH row S w k + if a < k then spn row S (w 3) p.1 p.2 q.1 q.2 else 0
  | 0, _ => by
    rw [if_neg (by omega)]
    rfl
  | k + 1, hk => by
    show sumH row S (giveS w a p q) k + hld row S (giveS w a p q) k = (sumH row S w k + hld row S w k) + _
    rw [sumH_give ha hm k (by omega), hld_give ha ⟨by omega, by omega⟩ hm]
    by_cases e : a < (k : Int)
    · rw [if_pos e, if_neg (by omega), if_pos (by omega)]
      omega
    · by_cases e2 : (k : Int) = a
      · rw [if_neg e, if_pos e2, if_pos (by omega)]
        omega
      · rw [if_neg e, if_neg e2, if_neg (by omega)]
        omega
theorem sumH_take {S : Nat} {row : Int → Int} {w : Dv} {a T : Int} {p q : Pt} (hw : WF T w) (ha : 0 ≤ a ∧ a < 5) (hm : w (165 + a) < 2) : sumH row S (takeS w a p q) 5 = sumH row S w 5 + spn row S (w 3) p.1 p.2 q.1 q.2 := by
  obtain ⟨n1, n2⟩ := note_lo (w := w) (kind := 3) (a := a) (p := p) (q := q) hw.2.1.1
  have m0 := (hw.2.2 a ha.1 ha.2).1.1
  unfold takeS
  rw [sumH_give ha (by rw [n2 _ (by omega) (by omega)]; exact ⟨m0, hm⟩) 5 (by omega), if_pos (by omega), n2 3 (by decide) (by decide), sumH_up (w := w) (c := 1) hw.2.2 (sameB_note hw.2.1.1) (by rw [n2 3 (by decide) (by decide), Int.one_mul]) (by decide) 5 (by omega), Int.one_mul]
/-- all that is taken is what lies ahead of a point; low places are as they were; only agents hold -/
def GJ (E : WEnv) (w0 w : Dv) (r : Pt) : Prop := (∀ row, rowOK row → sumH row E.S w 5 = pw row (prt (w 3) r.1 r.2) (w 3) E.S) ∧ (∀ i : Int, i < 165 → i ≠ 3 → i ≠ 4 → w i = w0 i) ∧ ∀ a : Int, E.N ≤ a → a < 5 → w (165 + a) = 0
theorem GJ_up {E : WEnv} {w0 w w' : Dv} {r : Pt} (h : GJ E w0 w r) (hw : WF E.S w) (hw' : WF E.S w') (hr : ptW E.S (w 3) r.1 r.2) (hB : sameB w w') (hu : upW w w') (hN : 0 ≤ E.N) : GJ E w0 w' r := by
  obtain ⟨h1, h2, h3⟩ := h
  have u1 := hw.1.1
  have u2 := hw'.1.1
  unfold upW at hu
  obtain ⟨c, hc⟩ := hu
  have hc : w' 3 = c * w 3 := by rw [hc]; exact Int.mul_comm _ _
  have c0 : 0 ≤ c := by
    rcases Int.lt_or_le c 0 with z | z
    · have := Int.mul_nonneg (show 0 ≤ -c by omega) (show 0 ≤ w 3 by omega)
      rw [Int.neg_mul] at this
      omega
    · exact z
  refine ⟨fun row hrow => ?_, fun i i1 i2 i3 => by rw [hB i i2 i3 (by omega), h2 i i1 i2 i3], fun a a0 a1 => by rw [hB _ (by omega) (by omega) (by omega), h3 a a0 a1]⟩
  rw [sumH_up hw.2.2 hB hc c0 5 (by omega), h1 row hrow, hc, prt_scale (by have := hr.2.1; omega) hr.2.2.2.1, pw_scale c0]
theorem GJ_take {E : WEnv} {w0 w : Dv} {r m : Pt} {a : Int} (h : GJ E w0 w r) (hw : WF E.S w) (ha : 0 ≤ a ∧ a < E.N) (hN : E.N ≤ 5) (hm : w (165 + a) < 2) : GJ E w0 (takeS w a r m) m := by
  obtain ⟨h1, h2, h3⟩ := h
  obtain ⟨t1, t2, t3⟩ := take_lo (w := w) (a := a) (p := r) (q := m) hw.2.1.1 ⟨ha.1, by omega⟩ ⟨(hw.2.2 a ha.1 (by omega)).1.1, hm⟩
  refine ⟨fun row hrow => ?_, fun i i1 i2 i3 => by rw [t3 i i3 (by omega) (by omega), h2 i i1 i2 i3], fun b b0 b1 => by rw [t3 _ (by omega) (by omega) (by omega), h3 b b0 b1]⟩
  rw [sumH_take hw ⟨ha.1, by omega⟩ hm, h1 row hrow, t3 3 (by decide) (by omega) (by decide)]
  unfold spn
  omega
theorem sumH_none {S : Nat} {row : Int → Int} {w : Dv} (hm : ∀ a : Int, 0 ≤ a → a < 5 → w (165 + a) = 0) : ∀ k : Nat, k ≤ 5 → sumH row S w k = 0
  | 0, _ => rfl
  | k + 1, hk => by
    show sumH row S w k + hld row S w k = 0
    rw [sumH_none hm k (by omega)]
    unfold hld
    rw [hm k (by omega) (by omega), if_neg (by decide), if_neg (by decide)]
    rfl
theorem GJ_0 {E : WEnv} {w : Dv} (hE : EnvOK E) (hu : 1 ≤ w 3) (hm : ∀ a : Int, 0 ≤ a → a < 5 → w (165 + a) = 0) : GJ E w w (0, 1) := by
  have hN := hE.2.1
  refine ⟨fun row hrow => ?_, fun _ _ _ _ => rfl, fun a a0 a1 => hm a (by omega) a1⟩
  rw [sumH_none hm 5 (by omega)]
  have e : prt (w 3) ((0, 1) : Pt).1 ((0, 1) : Pt).2 = 0 := by show 0 * _ = (0 : Int); rw [Int.zero_mul]
  rw [e, pw_stop (by omega) (j := 0) (by omega) E.S (by omega)]
  rfl
/-- what a division must be -/
def GK (E : WEnv) (w0 w : Dv) : Prop := WF E.S w ∧ (∀ row, rowOK row → sumH row E.S w 5 ≤ cum row E.S * w 3) ∧ (∀ i : Int, i < 165 → i ≠ 3 → i ≠ 4 → w i = w0 i) ∧ ∀ a : Int, E.N ≤ a → a < 5 → w (165 + a) = 0
theorem GK_of {E : WEnv} {w0 w : Dv} (hE : EnvOK E) (hw : WF E.S w) (h : GJ E w0 w ((E.S : Int), 1)) : GK E w0 w := by
  obtain ⟨h1, h2, h3⟩ := h
  refine ⟨hw, fun row hrow => ?_, h2, h3⟩
  have u1 := hw.1.1
  rw [h1 row hrow]
  exact (pw_b hrow (show 0 ≤ w 3 by omega) E.S hE.1.2).2
