/-! marks: the least point; one marks -/
theorem pw_in {row : Int → Int} {S s : Nat} {P u : Int} (hu : 0 ≤ u) (hs : s < S) (h1 : (s : Int) * u ≤ P) (h2 : P ≤ (s : Int) * u + u) : pw row P u S = cum row s * u + row s * (P - s * u) := by
  rw [pw_stop hu (j := s + 1) (by rw [succ_mul']; exact h2) S (by omega)]
  show pw row _ _ s + row s * cl _ _ (s : Int) = _
  rw [pw_all hu s h1, cl_mid h1 h2]
theorem pw_strict {row : Int → Int} {S s : Nat} {P P' u : Int} (hw : rowOK row) (hS : S ≤ 16) (hu : 0 ≤ u) (hs : s < S) (h1 : (s : Int) * u < P') (h2 : P' ≤ (s : Int) * u + u) (hr : 0 < row s) (h : P < P') : pw row P u S < pw row P' u S := by
  rw [pw_in (row := row) (P := P') hu hs (by omega) h2]
  by_cases q : (s : Int) * u ≤ P
  · rw [pw_in (row := row) (P := P) hu hs q (by omega)]
    have := Int.mul_lt_mul_of_pos_left (show P - s * u < P' - s * u by omega) hr
    omega
  · have m := pw_mono (u := u) hw (show P ≤ (s : Int) * u by omega) S hS
    rw [pw_in (row := row) (P := (s : Int) * u) hu hs (by omega) (by omega), Int.sub_self, Int.mul_zero] at m
    have := Int.mul_pos hr (show 0 < P' - s * u by omega)
    omega
/-- no point from the start on with as much ahead lies before the mark -/
theorem markR_least {row : Int → Int} {S : Nat} {px py vx vy x y : Int} {m : Int × Int} (hw : rowOK row) (hS : 1 ≤ S ∧ S ≤ 16) (hx : 0 ≤ px) (hp : 0 < py) (hv0 : 0 ≤ vx) (hv : 0 < vy) (h : markR row S px py vx vy = some m) (hy : 0 < y) (hq : px * y ≤ x * py)
    (hd : (pw row px py S * vy + vx * py) * y ≤ pw row x y S * (py * vy)) : m.1 * y ≤ x * m.2 := by
  unfold markR at h
  split at h
  · cases h
    show rdN px py * y ≤ x * rdD px py
    have e := rd_cross px py
    have d := rdD_pos (x := px) hp
    suffices g : rdN px py * y * py ≤ x * rdD px py * py from Int.le_of_mul_le_mul_right g hp
    calc rdN px py * y * py = rdN px py * py * y := by ac_rfl
      _ = px * y * rdD px py := by rw [e]; ac_rfl
      _ ≤ x * py * rdD px py := Int.mul_le_mul_of_nonneg_right hq (by omega)
      _ = x * rdD px py * py := by ac_rfl
  · rename_i z
    generalize hdue : pw row px py S * vy + vx * py = due at h hd
    generalize hall : py * vy = all at h hd
    have hall0 : 0 < all := by rw [← hall]; exact Int.mul_pos hp hv
    have hvp : 0 < vx * py := Int.mul_pos (by omega) hp
    have hpw0 := (pw_b hw (show 0 ≤ py by omega) S hS.2 (P := px)).1
    have hduep : 0 < due := by
      have := Int.mul_nonneg hpw0 (show 0 ≤ vy by omega)
      omega
    cases hf : fnd row due all S 0 with
    | none => rw [hf] at h; cases h
    | some s =>
      rw [hf] at h
      cases h
      obtain ⟨-, s1, s2, s3⟩ := fnd_spec S 0 s hf
      have hlow : cum row s * all < due := by
        rcases Nat.eq_zero_or_pos s with q | q
        · subst q
          show 0 * all < due
          omega
        · exact s3 q
      have ws := hw s (by omega) (by omega)
      have e1 : cum row (s + 1) * all = cum row s * all + row s * all := by
        show (cum row s + row s) * all = _
        rw [Int.add_mul]
      have wpos : 0 < row s := by
        rcases Int.lt_or_eq_of_le ws.1 with q | q
        · exact q
        · rw [← q, Int.zero_mul] at e1
          omega
      have Y0 : 0 < mkY row all s := Int.mul_pos wpos hall0
      have X1 : mkX row due all s ≤ (s : Int) * mkY row all s + mkY row all s := by unfold mkX mkY; omega
      have Xs : (s : Int) * mkY row all s < mkX row due all s := by unfold mkX mkY; omega
      have X0 : 0 ≤ mkX row due all s := by
        have := Int.mul_nonneg (show 0 ≤ (s : Int) by omega) (show 0 ≤ mkY row all s by omega)
        omega
      have pwX : pw row (mkX row due all s) (mkY row all s) S = row s * due := by
        rw [pw_in (by omega) (by omega) (by omega) X1]
        have : mkX row due all s - (s : Int) * mkY row all s = due - cum row s * all := by unfold mkX mkY; omega
        rw [this, Int.mul_sub]
        unfold mkY
        have : cum row s * (row s * all) = row s * (cum row s * all) := by ac_rfl
        omega
      have cr := rd_cross (mkX row due all s) (mkY row all s)
      have dp := rdD_pos (x := mkX row due all s) Y0
      -- by the unreduced pair
      suffices g : mkX row due all s * y ≤ x * mkY row all s by
        show rdN _ _ * y ≤ x * rdD _ _
        suffices g2 : rdN (mkX row due all s) (mkY row all s) * y * mkY row all s ≤ x * rdD (mkX row due all s) (mkY row all s) * mkY row all s from Int.le_of_mul_le_mul_right g2 Y0
        calc rdN (mkX row due all s) (mkY row all s) * y * mkY row all s = rdN (mkX row due all s) (mkY row all s) * mkY row all s * y := by ac_rfl
          _ = mkX row due all s * y * rdD (mkX row due all s) (mkY row all s) := by rw [cr]; ac_rfl
          _ ≤ x * mkY row all s * rdD (mkX row due all s) (mkY row all s) := Int.mul_le_mul_of_nonneg_right g (by omega)
          _ = _ := by ac_rfl
      generalize hX : mkX row due all s = X at *
      generalize hY : mkY row all s = Y at *
      rcases Int.lt_or_le (x * Y) (X * y) with q | q
      · exfalso
        have g1 := pw_scale (w := row) (P := x) (u := y) (c := Y) (by omega) S
        have g2 := pw_scale (w := row) (P := X) (u := Y) (c := y) (by omega) S
        rw [Int.mul_comm Y x, Int.mul_comm Y y] at g1
        rw [Int.mul_comm y X] at g2
        have a1 := Int.mul_lt_mul_of_pos_left Xs hy
        have a2 := Int.mul_le_mul_of_nonneg_left X1 (show 0 ≤ y by omega)
        have e3 : (s : Int) * (y * Y) = y * (s * Y) := by ac_rfl
        have e4 : X * y = y * X := Int.mul_comm _ _
        rw [Int.mul_add] at a2
        have st := pw_strict (P := x * Y) (P' := X * y) (u := y * Y) hw hS.2 (Int.mul_nonneg (by omega) (by omega)) (show s < S by omega) (by omega) (by omega) wpos q
        rw [g1, g2, pwX] at st
        -- Y * pw q < y * (row s * due), but due * y ≤ pw q * all
        have b1 := Int.mul_le_mul_of_nonneg_left hd (show 0 ≤ row s by omega)
        have e5 : row s * (pw row x y S * all) = Y * pw row x y S := by rw [← hY]; unfold mkY; ac_rfl
        have e6 : row s * (due * y) = y * (row s * due) := by ac_rfl
        omega
      · exact q
/-- what a mark is: in lowest terms, in the cake, not before the start, with just so much ahead -/
def mkOK (row : Int → Int) (S : Nat) (st : Pt) (vx vy : Int) (m : Pt) : Prop := lowT m.1 m.2 ∧ m.1 ≤ S * m.2 ∧ st.1 * m.2 ≤ m.1 * st.2 ∧ pw row m.1 m.2 S * (st.2 * vy) = (pw row st.1 st.2 S * vy + vx * st.2) * m.2
/-- there is as much: over by under of a span that begins there -/
theorem due_in {row : Int → Int} {S : Nat} {a b : Pt} {over under : Int} (hw : rowOK row) (hS : S ≤ 16) (ha : 0 < a.2) (hb : 0 < b.2) (hc : a.1 * b.2 ≤ b.1 * a.2) (h0 : 0 ≤ over) (h1 : over ≤ under) :
    pw row a.1 a.2 S * (wvD a b * under) + wvN row S a b * over * a.2 ≤ cum row S * (a.2 * (wvD a b * under)) := by
  have g1 := pw_scale (w := row) (P := b.1) (u := b.2) (c := a.2) (by omega) S
  have g2 := pw_scale (w := row) (P := a.1) (u := a.2) (c := b.2) (by omega) S
  rw [Int.mul_comm a.2 b.1] at g1
  rw [Int.mul_comm b.2 a.1, Int.mul_comm b.2 a.2] at g2
  have n0 := (wv_b hw hS (by omega) (by omega) hc).1
  have pb := (pw_b (P := b.1) hw (show 0 ≤ b.2 by omega) S hS).2
  have e : wvN row S a b = a.2 * pw row b.1 b.2 S - b.2 * pw row a.1 a.2 S := by unfold wvN; rw [g1, g2]
  have k1 := Int.mul_le_mul_of_nonneg_right (Int.mul_le_mul_of_nonneg_left h1 n0) (show 0 ≤ a.2 by omega)
  have k2 := Int.mul_le_mul_of_nonneg_left pb (show 0 ≤ a.2 * (a.2 * under) from Int.mul_nonneg (by omega) (Int.mul_nonneg (by omega) (by omega)))
  have e2 : wvN row S a b * under * a.2 = a.2 * (a.2 * under) * pw row b.1 b.2 S - pw row a.1 a.2 S * (wvD a b * under) := by
    rw [e, Int.sub_mul, Int.sub_mul]
    unfold wvD
    congr 1 <;> ac_rfl
  have e3 : a.2 * (a.2 * under) * (cum row S * b.2) = cum row S * (a.2 * (wvD a b * under)) := by unfold wvD; ac_rfl
  omega
theorem ag_b {E : WEnv} (hE : EnvOK E) {p : Int} (hp : 0 ≤ p ∧ p < E.N) : 0 ≤ ag E p ∧ ag E p < E.N ∧ ag E p < 5 := by
  obtain ⟨-, h1, h2, -⟩ := hE
  unfold ag
  split <;> omega
theorem pmS_ok {E : WEnv} {w : Dv} {p over under : Int} {st a b : Pt} (hE : EnvOK E) (hp : 0 ≤ p ∧ p < E.N) (hu : WFu w) (hst : ptW E.S (w 3) st.1 st.2) (ha : 0 < a.2) (hb : 0 < b.2) (hc : a.1 * b.2 ≤ b.1 * a.2) (h0 : 0 ≤ over) (h1 : 0 < under)
    (hd : pw (E.T (ag E p)) st.1 st.2 E.S * (wvD a b * under) + wvN (E.T (ag E p)) E.S a b * over * st.2 ≤ cum (E.T (ag E p)) E.S * (st.2 * (wvD a b * under))) :
    ∃ m : Pt, markR (E.T (ag E p)) E.S st.1 st.2 (wvN (E.T (ag E p)) E.S a b * over) (wvD a b * under) = some m ∧ mkOK (E.T (ag E p)) E.S st (wvN (E.T (ag E p)) E.S a b * over) (wvD a b * under) m ∧ pmS E w p st a b over under = (unS w m.2).map (fun w' => (m, w')) ∧
      ∀ w', unS w m.2 = some w' → ptW E.S (w' 3) m.1 m.2 ∧ WFu w' ∧ upW w w' ∧ w' = setU w (w' 3) := by
  have hagb := ag_b hE hp
  have hrow := hE.2.2.2 (ag E p) hagb.1 hagb.2.2
  have hS := hE.1
  have hN := hE.2.1
  obtain ⟨m, e1, e2, e3, e4, e5⟩ := markR_ok hrow ⟨by omega, hS.2⟩ hst.1 (show 0 < st.2 by have := hst.2.1; omega) hst.2.2.1 (Int.mul_nonneg (wv_b hrow hS.2 (by omega) (by omega) hc).1 h0) (show 0 < wvD a b * under from Int.mul_pos (Int.mul_pos ha hb) h1) hd
  refine ⟨m, e1, ⟨e2, e3, e4, e5⟩, ?_, fun w' hw' => ?_⟩
  · unfold pmS
    rw [e1]
    rfl
  · obtain ⟨a1, a2, a3, a4⟩ := unS_ok (S := E.S) hu e2.2.1 hw'
    refine ⟨⟨e2.1, by have := e2.2.1; omega, e3, a4, e2.2.2⟩, a2, a3, ?_⟩
    rw [a1, setU_3]
