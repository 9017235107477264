/-! the reference: worth between points, marks -/
/-- a point of the cake -/
def ptC (w : Dv) (p : Pt) : Prop := 0 ≤ p.1 ∧ 0 < p.2 ∧ p.1 ≤ w 0 * p.2
section
variable {n : Int} {μ : Mem} {Q : Option AV → Lay → Mem → Prop}
theorem c_X10_worthBetween {w : Dv} {a how u : Int} {p q : Pt} (hr : RWm μ w) (hs : SW w) (ha : 0 ≤ a ∧ a < 5) (hp : ptC w p) (hq : ptC w q) (ho : p.1 * q.2 ≤ q.1 * p.2) (hu : 0 < u ∧ u ≤ 10000000000) (d1 : p.2 ∣ u) (d2 : q.2 ∣ u)
    (h : ∀ μ', frQ μ μ' → FR μ' (rdN (wvN (rowW w a how) (w 0).toNat p q) (wvD p q)) (rdD (wvN (rowW w a how) (w 0).toNat p q) (wvD p q)) → Q none (L0 n) μ') : TR mX10_worthBetween 2 (0, 0) [(2, 493), (0, a), (0, how), (1, p.1), (1, p.2), (1, q.1), (1, q.2)] (L0 n) μ Q := by
  have hrow := hs.2.2 a how ha.1 ha.2
  have hS := hs.1
  obtain ⟨p1, p2, p3⟩ := hp
  obtain ⟨q1, q2, q3⟩ := hq
  have g := gc_pos (x := p.2) q2
  obtain ⟨a1, a2, a3, a4, a5, a6⟩ := two_all p2 q2 d1 d2 hu.1
  obtain ⟨b1, b2, b3⟩ := wb_eq (row := rowW w a how) (S := (w 0).toNat) (p := p) (q := q) p2 q2
  have le1 := Int.le_of_dvd hu.1 d1
  have le2 := Int.le_of_dvd hu.1 d2
  have wb := (wv_b (row := rowW w a how) (S := (w 0).toNat) (a := p) (b := q) hrow (by omega) (by omega) (by omega) ho).1
  have pq := pw_b144 (P := q.1) hrow (show 0 ≤ q.2 by omega) (k := (w 0).toNat) (by omega)
  have pp := pw_b144 (P := p.1) hrow (show 0 ≤ p.2 by omega) (k := (w 0).toNat) (by omega)
  have e0 : p.2 / gc p.2 q.2 = rdN p.2 q.2 := rfl
  have x0 : 0 ≤ pw (rowW w a how) q.1 q.2 (w 0).toNat * rdN p.2 q.2 := Int.mul_nonneg pq.1 (by omega)
  have x1 : pw (rowW w a how) q.1 q.2 (w 0).toNat * rdN p.2 q.2 ≤ 144 * (rdN p.2 q.2 * q.2) := by
    have := Int.mul_le_mul_of_nonneg_right pq.2 (show 0 ≤ rdN p.2 q.2 by omega)
    rw [show 144 * q.2 * rdN p.2 q.2 = 144 * (rdN p.2 q.2 * q.2) by ac_rfl] at this
    exact this
  have y0 : 0 ≤ pw (rowW w a how) p.1 p.2 (w 0).toNat * rdD p.2 q.2 := Int.mul_nonneg pp.1 (by omega)
  have y1 : pw (rowW w a how) p.1 p.2 (w 0).toNat * rdD p.2 q.2 ≤ 144 * (rdN p.2 q.2 * q.2) := by
    have := Int.mul_le_mul_of_nonneg_right pp.2 (show 0 ≤ rdD p.2 q.2 by omega)
    rw [show 144 * p.2 * rdD p.2 q.2 = 144 * (p.2 * rdD p.2 q.2) by ac_rfl, ← rd_cross p.2 q.2] at this
    exact this
  have nn : 0 ≤ pw (rowW w a how) q.1 q.2 (w 0).toNat * rdN p.2 q.2 - pw (rowW w a how) p.1 p.2 (w 0).toNat * rdD p.2 q.2 := Int.le_of_mul_le_mul_left (a := gc p.2 q.2) (by rw [Int.mul_zero, ← b3]; exact wb) g
  apply t_X10_worthBetween (layOK n) k493
  refine c_X10_divisor (by omega) (by omega) ⟨_, rfl, rfl, ⟨by omega, g⟩, ?_⟩
  rw [e0]
  refine ⟨⟨by omega, by omega⟩, c_X10_aheadOf hr hs ha q1 ⟨q2, by omega⟩ q3 ⟨_, rfl, rfl, ?_⟩⟩
  rw [a3]
  refine ⟨⟨by omega, q2⟩, ⟨by omega, by omega⟩, c_X10_aheadOf hr hs ha p1 ⟨p2, by omega⟩ p3 ⟨_, rfl, rfl, ?_⟩⟩
  rw [a4]
  refine ⟨⟨by omega, p2⟩, ⟨by omega, by omega⟩, ⟨by omega, by omega⟩, c_X10_becomes nn a1 fun μ' f1 f2 => ⟨rfl, rfl, h μ' f1 ?_⟩⟩
  rw [b1, b2] at f2
  exact f2
theorem c_X10_marks {w : Dv} {a u : Int} {p v : Pt} (hr : RWm μ w) (hs : SW w) (ha : 0 ≤ a ∧ a < 5) (hp : ptC w p) (hv : 0 ≤ v.1 ∧ 0 < v.2) (hu : 0 < u ∧ u ≤ 10000000000) (d1 : p.2 ∣ u) (d2 : v.2 ∣ u) (hb : v.1 * rdN p.2 v.2 ≤ 10000000000000000)
    (hok : ∀ m, markR (rowW w a 1) (w 0).toNat p.1 p.2 v.1 v.2 = some m → ∀ μ', frQ μ μ' → FR μ' m.1 m.2 → Q (some (0, 1)) (L0 n) μ')
    (hno : markR (rowW w a 1) (w 0).toNat p.1 p.2 v.1 v.2 = none → Q (some (0, 0)) (L0 n) μ) : TR mX10_marks 2 (0, 0) [(2, 493), (0, a), (1, p.1), (1, p.2), (1, v.1), (1, v.2)] (L0 n) μ Q := by
  have hrow := hs.2.2 a 1 ha.1 ha.2
  have hS := hs.1
  obtain ⟨p1, p2, p3⟩ := hp
  obtain ⟨v1, v2⟩ := hv
  have g := gc_pos (x := p.2) v2
  obtain ⟨a1, a2, a3, a4, a5, a6⟩ := two_all p2 v2 d1 d2 hu.1
  have le1 := Int.le_of_dvd hu.1 d1
  have e0 : p.2 / gc p.2 v.2 = rdN p.2 v.2 := rfl
  have pp := pw_b144 (P := p.1) hrow (show 0 ≤ p.2 by omega) (k := (w 0).toNat) (by omega)
  have y0 : 0 ≤ pw (rowW w a 1) p.1 p.2 (w 0).toNat * rdD p.2 v.2 := Int.mul_nonneg pp.1 (by omega)
  have y1 : pw (rowW w a 1) p.1 p.2 (w 0).toNat * rdD p.2 v.2 ≤ 144 * (rdN p.2 v.2 * v.2) := by
    have := Int.mul_le_mul_of_nonneg_right pp.2 (show 0 ≤ rdD p.2 v.2 by omega)
    rw [show 144 * p.2 * rdD p.2 v.2 = 144 * (p.2 * rdD p.2 v.2) by ac_rfl, ← rd_cross p.2 v.2] at this
    exact this
  have x0 : 0 ≤ v.1 * rdN p.2 v.2 := Int.mul_nonneg v1 (by omega)
  apply t_X10_marks (layOK n) k493
  refine ⟨fun q => ?_, fun q => ?_⟩
  · have vp : 0 < v.1 * rdN p.2 v.2 := Int.mul_pos (by omega) a5
    have em : markR (rowW w a 1) (w 0).toNat p.1 p.2 v.1 v.2 = (fnd (rowW w a 1) (pw (rowW w a 1) p.1 p.2 (w 0).toNat * rdD p.2 v.2 + v.1 * rdN p.2 v.2) (rdN p.2 v.2 * v.2) (w 0).toNat 0).map (mkP (rowW w a 1) (pw (rowW w a 1) p.1 p.2 (w 0).toNat * rdD p.2 v.2 + v.1 * rdN p.2 v.2) (rdN p.2 v.2 * v.2)) := by
      unfold markR
      rw [if_neg q]
      refine mkP_any (Int.mul_pos p2 v2) a1 ?_
      have r1 := rd_cross p.2 v.2
      generalize pw (rowW w a 1) p.1 p.2 (w 0).toNat = P at *
      generalize rdN p.2 v.2 = N at *
      generalize rdD p.2 v.2 = D at *
      calc (P * v.2 + v.1 * p.2) * (N * v.2) = P * v.2 * (N * v.2) + v.1 * p.2 * (N * v.2) := Int.add_mul _ _ _
        _ = P * v.2 * (p.2 * D) + v.1 * p.2 * (N * v.2) := by rw [r1]
        _ = P * D * (p.2 * v.2) + v.1 * N * (p.2 * v.2) := by congr 1 <;> ac_rfl
        _ = _ := (Int.add_mul _ _ _).symm
    rw [em] at hok hno
    refine c_X10_divisor (by omega) (by omega) ⟨_, rfl, rfl, ⟨by omega, g⟩, ?_⟩
    rw [e0]
    refine ⟨⟨by omega, by omega⟩, c_X10_aheadOf hr hs ha p1 ⟨p2, by omega⟩ p3 ⟨_, rfl, rfl, ?_⟩⟩
    rw [a3, a4]
    refine ⟨⟨by omega, p2⟩, ⟨by omega, by omega⟩, ⟨by omega, v2⟩, ⟨by omega, by omega⟩, ⟨by omega, by omega⟩, ?_⟩
    generalize hD : pw (rowW w a 1) p.1 p.2 (w 0).toNat * rdD p.2 v.2 + v.1 * rdN p.2 v.2 = D at *
    generalize hA : rdN p.2 v.2 * v.2 = A at *
    have key : ∀ (d k : Nat), k + d = (w 0).toNat → fnd (rowW w a 1) D A (w 0).toNat 0 = fnd (rowW w a 1) D A d k → cum (rowW w a 1) k * A < D → WA mX10_marks 2 (0, 0) 63 [(2, 493), (0, a), (9, 0), (9, 0), (9, 0), (9, 0), (9, 0), (9, 0), (9, 0), (9, 0), (1, A), (9, 0), (1, D), (9, 0), (1, cum (rowW w a 1) k), (9, 0), (0, (k : Int)), (9, 0), (9, 0)] [] (L0 n) μ Q := by
      intro d
      induction d with
      | zero =>
        intro k hk e _
        apply s_X10_marks_63 (layOK n) k493
        refine c_X10_strips hr hs ⟨_, rfl, rfl, fun _ => hno ?_, fun z => absurd (show w 0 ≤ (k : Int) by omega) z⟩
        rw [e]
        rfl
      | succ d ih =>
        intro k hk e hlt
        have ck := cum_b hrow k (by omega)
        have ck1 := cum_b hrow (k + 1) (by omega)
        have rk := hrow k (by omega) (by omega)
        have cs : cum (rowW w a 1) (k + 1) = cum (rowW w a 1) k + rowW w a 1 (k : Int) := rfl
        have cA := mulLB ck.1 (show 0 ≤ A by omega) (show cum (rowW w a 1) k ≤ 144 by omega) (show A ≤ 10000000000 by omega)
        have cA1 := mulLB ck1.1 (show 0 ≤ A by omega) (show cum (rowW w a 1) (k + 1) ≤ 144 by omega) (show A ≤ 10000000000 by omega)
        have rA := mulLB rk.1 (show 0 ≤ A by omega) rk.2 (show A ≤ 10000000000 by omega)
        have kr := mulLB (show 0 ≤ (k : Int) by omega) rk.1 (show (k : Int) ≤ 16 by omega) rk.2
        have krA := mulLB kr.1 (show 0 ≤ A by omega) kr.2 (show A ≤ 10000000000 by omega)
        apply s_X10_marks_63 (layOK n) k493
        refine c_X10_strips hr hs ⟨_, rfl, rfl, fun z => absurd z (by omega), fun _ => c_X10_worthOf hr ha ⟨by omega, by omega⟩ ⟨_, rfl, rfl, ⟨by omega, by omega⟩, fun z => absurd z (by omega), fun _ => ?_⟩⟩
        rw [← cs]
        have e1 : fnd (rowW w a 1) D A (d + 1) k = if D ≤ cum (rowW w a 1) (k + 1) * A then some k else fnd (rowW w a 1) D A d (k + 1) := rfl
        refine ⟨⟨by omega, by omega⟩, ⟨by omega, by omega⟩, fun z => ⟨⟨by omega, by omega⟩, ?_⟩, fun z => ?_⟩
        · rw [if_neg (by omega)] at e1
          exact ih (k + 1) (by omega) (e.trans e1) z
        · rw [if_pos (by omega)] at e1
          have rp : 0 < rowW w a 1 (k : Int) := by
            rcases Int.lt_or_le 0 (rowW w a 1 (k : Int)) with y | y
            · exact y
            · have : rowW w a 1 (k : Int) = 0 := by omega
              rw [cs, this, Int.add_zero] at z
              omega
          have rAp : 0 < rowW w a 1 (k : Int) * A := Int.mul_pos rp a1
          have eX : (k : Int) * rowW w a 1 (k : Int) * A + D - cum (rowW w a 1) k * A = mkX (rowW w a 1) D A k := by
            unfold mkX
            rw [Int.mul_assoc]
            omega
          refine ⟨⟨by omega, by omega⟩, ⟨by omega, by omega⟩, ⟨by omega, by omega⟩, ⟨by omega, by omega⟩, ⟨by omega, by omega⟩, ?_⟩
          refine c_X10_becomes (by omega) rAp fun μ' f1 f2 => ⟨rfl, rfl, ?_⟩
          rw [eX] at f2
          exact hok (mkP (rowW w a 1) D A k) (by rw [e, e1]; rfl) μ' f1 f2
    have := key (w 0).toNat 0 (by omega) rfl (by rw [show cum (rowW w a 1) 0 = 0 from rfl, Int.zero_mul]; omega)
    exact this
  · have em : markR (rowW w a 1) (w 0).toNat p.1 p.2 v.1 v.2 = some (rdN p.1 p.2, rdD p.1 p.2) := by
      unfold markR
      rw [if_pos q]
    exact c_X10_becomes p1 p2 fun μ' f1 f2 => ⟨rfl, rfl, hok _ em μ' f1 f2⟩
end
