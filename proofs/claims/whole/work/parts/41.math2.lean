/-! marks, by numbers alone: what class and reference both reckon -/
theorem mk_any {row : Int → Int} {due all due' all' : Int} (h1 : 0 < all) (h2 : 0 < all') (e : due * all' = due' * all) :
    (∀ f s, fnd row due all f s = fnd row due' all' f s) ∧ ∀ s, rdN (mkX row due all s) (mkY row all s) = rdN (mkX row due' all' s) (mkY row all' s) ∧ rdD (mkX row due all s) (mkY row all s) = rdD (mkX row due' all' s) (mkY row all' s) := by
  have e1 : all' * due = all * due' := by rw [Int.mul_comm, e, Int.mul_comm]
  have e2 : all' * all = all * all' := Int.mul_comm _ _
  refine ⟨fun f s => ?_, fun s => ?_⟩
  · rw [← fnd_scale (w := row) (due := due) (all := all) h2 f s, ← fnd_scale (w := row) (due := due') (all := all') h1 f s, e1, e2]
  · obtain ⟨a1, a2⟩ := mk_scale (w := row) (due := due) (all := all) (c := all') s
    obtain ⟨b1, b2⟩ := mk_scale (w := row) (due := due') (all := all') (c := all) s
    rw [← rdN_scale (x := mkX row due all s) (y := mkY row all s) h2, ← rdD_scale (x := mkX row due all s) (y := mkY row all s) h2, ← rdN_scale (x := mkX row due' all' s) (y := mkY row all' s) h1, ← rdD_scale (x := mkX row due' all' s) (y := mkY row all' s) h1, ← a1, ← a2, ← b1, ← b2, e1, e2]
    exact ⟨rfl, rfl⟩
def mkP (row : Int → Int) (due all : Int) (s : Nat) : Int × Int := (rdN (mkX row due all s) (mkY row all s), rdD (mkX row due all s) (mkY row all s))
/-- from a point on, for so much: the mark, if there is as much -/
def markR (row : Int → Int) (S : Nat) (px py vx vy : Int) : Option (Int × Int) :=
  if vx = 0 then some (rdN px py, rdD px py) else (fnd row (pw row px py S * vy + vx * py) (py * vy) S 0).map (mkP row (pw row px py S * vy + vx * py) (py * vy))
theorem mkP_any {row : Int → Int} {due all due' all' : Int} {S : Nat} (h1 : 0 < all) (h2 : 0 < all') (e : due * all' = due' * all) : (fnd row due all S 0).map (mkP row due all) = (fnd row due' all' S 0).map (mkP row due' all') := by
  obtain ⟨a, b⟩ := mk_any (row := row) h1 h2 e
  rw [a]
  cases fnd row due' all' S 0 with
  | none => rfl
  | some s =>
    show some _ = some _
    unfold mkP
    rw [(b s).1, (b s).2]
theorem markR_any {row : Int → Int} {S : Nat} {px py vx vy vx' vy' : Int} (hp : 0 < py) (hv : 0 < vy) (hv' : 0 < vy') (e : vx * vy' = vx' * vy) : markR row S px py vx vy = markR row S px py vx' vy' := by
  have z : vx = 0 ↔ vx' = 0 := by
    constructor
    · intro q
      rw [q, Int.zero_mul] at e
      rcases Int.mul_eq_zero.mp e.symm with h | h
      · exact h
      · omega
    · intro q
      rw [q, Int.zero_mul] at e
      rcases Int.mul_eq_zero.mp e with h | h
      · exact h
      · omega
  unfold markR
  simp only [z]
  split
  · rfl
  · refine mkP_any (Int.mul_pos hp hv) (Int.mul_pos hp hv') ?_
    have : vx * py * (py * vy') = vx' * py * (py * vy) := by
      have h : vx * vy' * (py * py) = vx' * vy * (py * py) := congrArg (fun t => t * (py * py)) e
      calc vx * py * (py * vy') = vx * vy' * (py * py) := by ac_rfl
        _ = vx' * vy * (py * py) := h
        _ = vx' * py * (py * vy) := by ac_rfl
    rw [Int.add_mul, Int.add_mul, this]
    congr 1
    ac_rfl
theorem pw_prt {row : Int → Int} {u px py : Int} (h : py ∣ u) (hp : 0 < py) (hu : 0 < u) (k : Nat) : pw row (prt u px py) u k = u / py * pw row px py k := by
  have e : u / py * py = u := Int.ediv_mul_cancel h
  have := pw_scale (w := row) (P := px) (u := py) (c := u / py) (Int.ediv_nonneg (by omega) (by omega)) k
  rw [e] at this
  rw [← this]
  unfold prt
  rw [Int.mul_comm px]
theorem pw_cross {row : Int → Int} {u px py : Int} (h : py ∣ u) (hp : 0 < py) (hu : 0 < u) (k : Nat) : pw row (prt u px py) u k * py = u * pw row px py k := by
  have e : u / py * py = u := Int.ediv_mul_cancel h
  rw [pw_prt h hp hu]
  calc u / py * pw row px py k * py = (u / py * py) * pw row px py k := by ac_rfl
    _ = u * pw row px py k := by rw [e]
theorem prt_rd {u px py : Int} (h : py ∣ u) (hp : 0 < py) (hu : 0 < u) : rdN (prt u px py) u = rdN px py ∧ rdD (prt u px py) u = rdD px py := by
  have e : u / py * py = u := Int.ediv_mul_cancel h
  refine rd_eq hu hp ?_
  unfold prt
  rw [Int.mul_assoc, e]
/-- the mark as the class reckons it, in parts of u -/
theorem markR_class {row : Int → Int} {S : Nat} {u px py need K : Int} (h : py ∣ u) (hp : 0 < py) (hu : 0 < u) (hK : 0 < K) :
    markR row S px py need (u * K) = if need = 0 then some (rdN (prt u px py) u, rdD (prt u px py) u) else (fnd row (K * pw row (prt u px py) u S + need) (u * K) S 0).map (mkP row (K * pw row (prt u px py) u S + need) (u * K)) := by
  have e := pw_cross (row := row) (px := px) h hp hu S
  unfold markR
  rw [(prt_rd h hp hu).1, (prt_rd h hp hu).2]
  split
  · rfl
  · refine mkP_any (Int.mul_pos hp (Int.mul_pos hu hK)) (Int.mul_pos hu hK) ?_
    have e2 : pw row px py S * (u * K) * (u * K) = K * pw row (prt u px py) u S * (py * (u * K)) := by
      calc pw row px py S * (u * K) * (u * K) = (u * pw row px py S) * (K * (u * K)) := by ac_rfl
        _ = (pw row (prt u px py) u S * py) * (K * (u * K)) := by rw [← e]
        _ = K * pw row (prt u px py) u S * (py * (u * K)) := by ac_rfl
    rw [Int.add_mul, Int.add_mul, e2]
    congr 1
    ac_rfl
theorem fnd_some {row : Int → Int} {due all : Int} : ∀ (f s : Nat), 0 < f → due ≤ cum row (s + f) * all → ∃ j, fnd row due all f s = some j
  | 0, _, h, _ => absurd h (by omega)
  | f + 1, s, _, h => by
    unfold fnd
    split
    · exact ⟨s, rfl⟩
    · rename_i q
      rcases Nat.eq_zero_or_pos f with z | z
      · subst z
        exact absurd h q
      · exact fnd_some f (s + 1) z (by rw [show s + 1 + f = s + (f + 1) by omega]; exact h)
theorem pw_rd {row : Int → Int} {x y : Int} (hy : 0 < y) (k : Nat) : pw row (rdN x y) (rdD x y) k * y = pw row x y k * rdD x y := by
  have h := pw_scale (w := row) (P := rdN x y) (u := rdD x y) (c := gc x y) (by have := gc_pos (x := x) hy; omega) k
  rw [Int.mul_comm (gc x y) (rdN x y), rdN_mul, Int.mul_comm (gc x y) (rdD x y), rdD_mul] at h
  calc pw row (rdN x y) (rdD x y) k * y = pw row (rdN x y) (rdD x y) k * (rdD x y * gc x y) := by rw [rdD_mul]
    _ = (gc x y * pw row (rdN x y) (rdD x y) k) * rdD x y := by ac_rfl
    _ = pw row x y k * rdD x y := by rw [h]
/-- a mark is a point behind the start, and all that lies ahead of it is just due -/
theorem markR_ok {row : Int → Int} {S : Nat} {px py vx vy : Int} (hw : rowOK row) (hS : 1 ≤ S ∧ S ≤ 16) (hx : 0 ≤ px) (hp : 0 < py) (hxS : px ≤ S * py) (hv0 : 0 ≤ vx) (hv : 0 < vy) (hd : pw row px py S * vy + vx * py ≤ cum row S * (py * vy)) :
    ∃ m, markR row S px py vx vy = some m ∧ lowT m.1 m.2 ∧ m.1 ≤ S * m.2 ∧ px * m.2 ≤ m.1 * py ∧ pw row m.1 m.2 S * (py * vy) = (pw row px py S * vy + vx * py) * m.2 := by
  by_cases z : vx = 0
  · refine ⟨(rdN px py, rdD px py), by unfold markR; rw [if_pos z], rd_low hx hp, ?_, ?_, ?_⟩
    · have e := rd_cross px py
      have d := rdD_pos (x := px) hp
      suffices h : rdN px py * py ≤ S * rdD px py * py from Int.le_of_mul_le_mul_right h hp
      rw [e]
      calc px * rdD px py ≤ S * py * rdD px py := Int.mul_le_mul_of_nonneg_right hxS (by omega)
        _ = S * rdD px py * py := by ac_rfl
    · show px * rdD px py ≤ rdN px py * py
      rw [rd_cross px py]
      exact Int.le_refl _
    · show pw row (rdN px py) (rdD px py) S * (py * vy) = _ * rdD px py
      have e := pw_rd (row := row) (x := px) hp S
      rw [z, Int.zero_mul, Int.add_zero]
      calc pw row (rdN px py) (rdD px py) S * (py * vy) = pw row (rdN px py) (rdD px py) S * py * vy := by ac_rfl
        _ = pw row px py S * rdD px py * vy := by rw [e]
        _ = pw row px py S * vy * rdD px py := by ac_rfl
  · generalize hdue : pw row px py S * vy + vx * py = due at hd
    generalize hall : py * vy = all at hd
    have hall0 : 0 < all := by rw [← hall]; exact Int.mul_pos hp hv
    have hvp : 0 < vx * py := Int.mul_pos (by omega) hp
    have hpw0 := (pw_b hw (show 0 ≤ py by omega) S hS.2 (P := px)).1
    have hduep : 0 < due := by
      have := Int.mul_nonneg hpw0 (show 0 ≤ vy by omega)
      omega
    obtain ⟨s, hs⟩ := fnd_some S 0 (by omega) (by rw [Nat.zero_add]; exact hd)
    obtain ⟨-, s1, s2, s3⟩ := fnd_spec S 0 s hs
    have s1 : s < S := by omega
    have hlow : cum row s * all < due := by
      rcases Nat.eq_zero_or_pos s with q | q
      · subst q
        show 0 * all < due
        omega
      · exact s3 q
    have ws := hw s (by omega) (by omega)
    have e1 : cum row (s + 1) * all = cum row s * all + row s * all := by
      show (cum row s + row s) * all = _
      rw [Int.add_mul]
    have wpos : 0 < row s := by
      rcases Int.lt_or_eq_of_le ws.1 with q | q
      · exact q
      · rw [← q, Int.zero_mul] at e1
        omega
    have Y0 : 0 < mkY row all s := Int.mul_pos wpos hall0
    have sY : 0 ≤ (s : Int) * (row s * all) := Int.mul_nonneg (by omega) (by unfold mkY at Y0; omega)
    have X0 : 0 ≤ mkX row due all s := by unfold mkX; omega
    have X1 : mkX row due all s ≤ ((s + 1 : Nat) : Int) * mkY row all s := by
      rw [succ_mul']
      unfold mkX mkY
      omega
    have Xs : (s : Int) * mkY row all s ≤ mkX row due all s := by unfold mkX mkY; omega
    have pwX : pw row (mkX row due all s) (mkY row all s) S = row s * due := by
      rw [pw_stop (show 0 ≤ mkY row all s by omega) X1 S (by omega)]
      show pw row _ _ s + row s * cl _ _ (s : Int) = _
      rw [pw_all (show 0 ≤ mkY row all s by omega) s Xs, cl_mid Xs (by rw [succ_mul'] at X1; exact X1)]
      have : mkX row due all s - (s : Int) * mkY row all s = due - cum row s * all := by unfold mkX mkY; omega
      rw [this, Int.mul_sub]
      unfold mkY
      have : cum row s * (row s * all) = row s * (cum row s * all) := by ac_rfl
      omega
    have hl : lowT (rdN (mkX row due all s) (mkY row all s)) (rdD (mkX row due all s) (mkY row all s)) := rd_low X0 Y0
    have cr := rd_cross (mkX row due all s) (mkY row all s)
    have pr := pw_rd (row := row) (x := mkX row due all s) Y0 S
    have hm : pw row (rdN (mkX row due all s) (mkY row all s)) (rdD (mkX row due all s) (mkY row all s)) S * all = due * rdD (mkX row due all s) (mkY row all s) := by
      have h2 : row s * (pw row (rdN (mkX row due all s) (mkY row all s)) (rdD (mkX row due all s) (mkY row all s)) S * all) = row s * (due * rdD (mkX row due all s) (mkY row all s)) := by
        rw [pwX] at pr
        calc _ = pw row (rdN (mkX row due all s) (mkY row all s)) (rdD (mkX row due all s) (mkY row all s)) S * mkY row all s := by unfold mkY; ac_rfl
          _ = _ := by rw [pr]; ac_rfl
      exact Int.eq_of_mul_eq_mul_left (by omega) h2
    refine ⟨mkP row due all s, ?_, hl, ?_, ?_, hm⟩
    · unfold markR
      rw [if_neg z, hdue, hall, hs]
      rfl
    · show rdN _ _ ≤ S * rdD _ _
      suffices h : rdN (mkX row due all s) (mkY row all s) * mkY row all s ≤ S * rdD (mkX row due all s) (mkY row all s) * mkY row all s from Int.le_of_mul_le_mul_right h Y0
      rw [cr]
      have h1 := mul_mono_l (show 0 ≤ mkY row all s by omega) (show ((s + 1 : Nat) : Int) ≤ (S : Int) by omega)
      calc mkX row due all s * rdD _ _ ≤ S * mkY row all s * rdD (mkX row due all s) (mkY row all s) := Int.mul_le_mul_of_nonneg_right (by omega) (by have := hl.2.1; omega)
        _ = S * rdD _ _ * mkY row all s := by ac_rfl
    · show px * rdD _ _ ≤ rdN _ _ * py
      generalize rdN (mkX row due all s) (mkY row all s) = a at *
      generalize rdD (mkX row due all s) (mkY row all s) = b at *
      have hb : 0 < b := hl.2.1
      -- else the mark has no more ahead of it than the start
      rcases Int.lt_or_le (a * py) (px * b) with q | q
      · exfalso
        have m1 := pw_mono (u := b * py) hw (show a * py ≤ px * b by omega) S hS.2
        have g1 := pw_scale (w := row) (P := a) (u := b) (c := py) (by omega) S
        have g2 := pw_scale (w := row) (P := px) (u := py) (c := b) (by omega) S
        rw [Int.mul_comm py a, Int.mul_comm py b] at g1
        rw [Int.mul_comm b px] at g2
        rw [g1, g2] at m1
        -- py * pw a b ≤ b * pw px py
        have m2 := Int.mul_le_mul_of_nonneg_right m1 (show 0 ≤ vy by omega)
        have m3 : py * pw row a b S * vy = due * b := by
          rw [← hm, ← hall]
          ac_rfl
        rw [m3, ← hdue, Int.add_mul] at m2
        have m4 : b * pw row px py S * vy = pw row px py S * vy * b := by ac_rfl
        have m5 : 0 < vx * py * b := Int.mul_pos hvp hb
        omega
      · exact q
