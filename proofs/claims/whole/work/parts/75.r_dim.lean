/-! the reference diminishes -/
theorem RE_up {μ : Mem} {E : WEnv} {w : Dv} {k v : Int} (h : RE μ E w) (hk : k ≠ 12) : RE (up μ 493 k v) E w := RE_step h (fun _ _ _ _ => rfl) (RWm_fr h.1 (fun i => up_ne (Or.inl (by decide)))) (up_ne (Or.inr (fun e => hk e.symm)))
theorem rd_ltk {x y x' y' k : Int} (hy : 0 < y) (hy' : 0 < y') : rdN x y * rdD x' y' < k * rdN x' y' * rdD x y ↔ x * y' < k * x' * y := by
  have g := gc_pos (x := x) hy
  have g' := gc_pos (x := x') hy'
  have gg := Int.mul_pos g g'
  have e1 : x * y' = rdN x y * rdD x' y' * (gc x y * gc x' y') := by
    conv => lhs; rw [← rdN_mul x y, ← rdD_mul x' y']
    ac_rfl
  have e2 : k * x' * y = k * rdN x' y' * rdD x y * (gc x y * gc x' y') := by
    conv => lhs; rw [← rdN_mul x' y', ← rdD_mul x y]
    ac_rfl
  rw [e1, e2]
  exact ⟨fun h => Int.mul_lt_mul_of_pos_right h gg, fun h => Int.lt_of_mul_lt_mul_right h (by omega)⟩
section
variable {n : Int} {μ : Mem} {Q : Option AV → Lay → Mem → Prop}
theorem c_E_note {E : WEnv} {w : Dv} {kind a : Int} {p q : Pt} (hR : RE μ E w) (h4 : 0 ≤ w 4 ∧ w 4 < 49)
    (h : ∀ μ', RE μ' E (noteS w kind a p q) → (∀ x i, x ≠ 494 → μ' x i = μ x i) → Q none (L0 n) μ') : TR mX10_happens 0 (0, 0) [(2, 493), (0, kind), (0, a), (1, p.1), (1, p.2), (1, q.1), (1, q.2)] (L0 n) μ Q :=
  c_X10_happens hR.1 h4 fun μ' r1 r2 => h μ' (RE_step hR (fun i i1 i3 i4 => (note_lo (kind := kind) (a := a) (p := p) (q := q) h4.1).2 i i4 (by omega)) r1 (r2 493 12 (by decide))) r2
theorem c_X10_looks {E : WEnv} {w : Dv} {q last k : Int} {rest m : Pt} (hE : EnvOK E) (hR : RE μ E w) (hw : WF E.S w) (h4 : w 4 < 19) (hq : 0 ≤ q ∧ q < E.N) (hl : 0 ≤ last ∧ last < E.N) (hk : 1 ≤ k ∧ k ≤ 5) (wr : ptW E.S (w 3) rest.1 rest.2) (wm : ptW E.S (w 3) m.1 m.2) (ho : rest.1 * m.2 ≤ m.1 * rest.2) (hql : q ≠ last) (pl : PU μ (ag E last) m) (hf : μ 493 11 = 0)
    (hok : ∀ l' m' w', lookS E rest k q last m w = some (l', m', w') → ∀ μ', RE μ' E w' → PU μ' (ag E l') m' → μ' 493 15 = ag E l' → μ' 493 11 = 0 → frW μ μ' → Q none (L0 n) μ')
    (hno : lookS E rest k q last m w = none → ∀ μ', RE μ' E w → μ' 493 15 = ag E q → μ' 493 11 = 1 → frW μ μ' → Q none (L0 n) μ') : TR mX10_looks 4 (0, 0) [(2, 493), (0, ag E q), (0, k), (1, rest.1), (1, rest.2), (0, ag E last)] (L0 n) μ Q := by
  have hN := hE.2.1
  have hS := hE.1
  have gq := ag_b hE hq
  have gl := ag_b hE hl
  have gne : ag E last ≠ ag E q := fun e => hql (ag_inj hE hq hl e.symm)
  have hrow := hE.2.2.2 _ gq.1 gq.2.2
  have u1 := hw.1.1
  have u2 := hw.1.2
  have r2 : 0 < rest.2 := by have := wr.2.1; omega
  have m2 : 0 < m.2 := by have := wm.2.1; omega
  have we : ptW E.S (w 3) (((E.S : Int), 1) : Pt).1 (((E.S : Int), 1) : Pt).2 := ptW_S (by omega)
  have oe : rest.1 * (((E.S : Int), 1) : Pt).2 ≤ (((E.S : Int), 1) : Pt).1 * rest.2 := by show rest.1 * 1 ≤ (E.S : Int) * rest.2; have := wr.2.2.1; omega
  have look : lookS E rest k q last m w = if wvN (E.T (ag E q)) E.S rest m * k * wvD rest ((E.S : Int), 1) ≤ wvN (E.T (ag E q)) E.S rest ((E.S : Int), 1) * wvD rest m then some (last, m, noteS w 2 (ag E q) m (0, 1)) else (pmS E w q rest rest ((E.S : Int), 1) 1 k).map fun x => (q, x.1, noteS x.2 1 (ag E q) x.1 m) := rfl
  apply t_X10_looks (layOK n) k493
  refine c_X10_ends hR.1 ⟨_, rfl, rfl, ?_⟩
  rw [← hR.2.2.1.1]
  refine c_E_between (p := rest) (q := ((E.S : Int), 1)) hE hR ⟨gq.1, gq.2.2⟩ hw.1 wr we oe fun μ1 f1 fr1 R1 => ⟨rfl, rfl, ⟨gl.1, gl.2.2⟩, ?_⟩
  have pl1 : PU μ1 (ag E last) m := PU_fr pl (f1 498 _ (Or.inl (by decide))) (f1 499 _ (Or.inl (by decide)))
  rw [rf_ref.2.2.2.2.1, rf_ref.2.2.2.2.2.1, pl1.1, pl1.2]
  refine c_E_between (p := rest) (q := m) hE R1 ⟨gq.1, gq.2.2⟩ hw.1 wr wm ho fun μ2 f2 fr2 R2 => ⟨rfl, rfl, ?_⟩
  have z2 : μ2 493 11 = 0 := by rw [f2 493 11 (Or.inr (by decide)), f1 493 11 (Or.inr (by decide)), hf]
  have pl2 : PU μ2 (ag E last) m := PU_fr pl1 (f2 498 _ (Or.inl (by decide))) (f2 499 _ (Or.inl (by decide)))
  generalize hμ3 : up μ2 493 15 (ag E last) = μ3
  have f3 : ∀ x i, x ≠ 493 ∨ i ≠ 15 → μ3 x i = μ2 x i := fun x i h => by rw [← hμ3, up_ne h]
  have R3 : RE μ3 E w := by rw [← hμ3]; exact RE_up R2 (by decide)
  have e15 : μ3 493 15 = ag E last := by rw [← hμ3, up_eq]
  have pl3 : PU μ3 (ag E last) m := PU_fr pl2 (f3 498 _ (Or.inl (by decide))) (f3 499 _ (Or.inl (by decide)))
  have z3 : μ3 493 11 = 0 := by rw [f3 493 11 (Or.inr (by decide)), z2]
  have w3 : frW μ μ3 := frW_tr (frQ_W f1) (frW_tr (frQ_W f2) (fun x i hx => f3 x i (by omega)))
  rw [f3 493 4 (Or.inr (by decide)), f3 493 5 (Or.inr (by decide)), fr1.1, fr1.2, fr2.1, fr2.2]
  have dv1 := rdD_W (a := ag E q) hw.1 wr we
  have dv2 := rdD_W (a := ag E q) hw.1 wr wm
  have D1 : 0 < wvD rest ((E.S : Int), 1) := Int.mul_pos r2 (by show (0 : Int) < 1; decide)
  have D2 : 0 < wvD rest m := Int.mul_pos r2 m2
  have n1 := wv_b (row := E.T (ag E q)) (S := E.S) (a := rest) (b := ((E.S : Int), 1)) hrow hS.2 (by omega) (by show (1 : Int) ≤ 1; decide) oe
  have n2 := wv_b (row := E.T (ag E q)) (S := E.S) (a := rest) (b := m) hrow hS.2 (by omega) (by omega) ho
  have dp1 := rdD_pos (x := wvN (E.T (ag E q)) E.S rest ((E.S : Int), 1)) D1
  have dp2 := rdD_pos (x := wvN (E.T (ag E q)) E.S rest m) D2
  have l1 := Int.le_of_dvd (show 0 < w 3 by omega) dv1
  have l2 := Int.le_of_dvd (show 0 < w 3 by omega) dv2
  have nn1 := rdN_nn (x := wvN (E.T (ag E q)) E.S rest ((E.S : Int), 1)) (y := wvD rest ((E.S : Int), 1)) n1.1
  have nn2 := rdN_nn (x := wvN (E.T (ag E q)) E.S rest m) (y := wvD rest m) n2.1
  have cr1 := rd_cross (wvN (E.T (ag E q)) E.S rest ((E.S : Int), 1)) (wvD rest ((E.S : Int), 1))
  have cr2 := rd_cross (wvN (E.T (ag E q)) E.S rest m) (wvD rest m)
  have cmp := rd_ltk (x := wvN (E.T (ag E q)) E.S rest ((E.S : Int), 1)) (x' := wvN (E.T (ag E q)) E.S rest m) (k := k) D1 D2
  have c144 := (cum_b hrow E.S hS.2).2
  have c0 := (cum_b hrow E.S hS.2).1
  have nb2 : rdN (wvN (E.T (ag E q)) E.S rest m) (wvD rest m) ≤ 144 * rdD (wvN (E.T (ag E q)) E.S rest m) (wvD rest m) := by
    have a1 := Int.mul_le_mul_of_nonneg_right n2.2 (show 0 ≤ rdD (wvN (E.T (ag E q)) E.S rest m) (wvD rest m) by omega)
    have a2 := Int.mul_le_mul_of_nonneg_right (show cum (E.T (ag E q)) E.S ≤ 144 by omega) (Int.mul_nonneg (show 0 ≤ wvD rest m by omega) (show 0 ≤ rdD (wvN (E.T (ag E q)) E.S rest m) (wvD rest m) by omega))
    rw [← Int.mul_assoc, ← Int.mul_assoc] at a2
    rw [← cr2] at a1
    have a3 := Int.le_trans a1 a2
    rw [show 144 * wvD rest m * rdD (wvN (E.T (ag E q)) E.S rest m) (wvD rest m) = 144 * rdD (wvN (E.T (ag E q)) E.S rest m) (wvD rest m) * wvD rest m by ac_rfl] at a3
    exact Int.le_of_mul_le_mul_right a3 D2
  have hd := due_rest hE hq r2 (show 0 < (((E.S : Int), 1) : Pt).2 by show (0 : Int) < 1; decide) oe hk.1
  generalize hx1 : rdN (wvN (E.T (ag E q)) E.S rest ((E.S : Int), 1)) (wvD rest ((E.S : Int), 1)) = X1 at *
  generalize hy1 : rdD (wvN (E.T (ag E q)) E.S rest ((E.S : Int), 1)) (wvD rest ((E.S : Int), 1)) = Y1 at *
  generalize hx2 : rdN (wvN (E.T (ag E q)) E.S rest m) (wvD rest m) = X2 at *
  generalize hy2 : rdD (wvN (E.T (ag E q)) E.S rest m) (wvD rest m) = Y2 at *
  have kX2 := mulLB (show 0 ≤ k by omega) nn2 hk.2 (show X2 ≤ 144000000000 by omega)
  have Y12 := mulLB (show 0 ≤ Y1 by omega) (show 0 ≤ Y2 by omega) (Int.le_trans l1 u2) (Int.le_trans l2 u2)
  have Yk := mulLB (show 0 ≤ Y1 by omega) (show 0 ≤ k by omega) (Int.le_trans l1 u2) hk.2
  refine ⟨⟨by omega, by omega⟩, c_X10_isLess nn1 dp1 (by omega) dp2 (by omega) fun r hr => ⟨r, rfl, rfl, fun z => ?_, fun z => ?_⟩⟩
  · have lt : wvN (E.T (ag E q)) E.S rest ((E.S : Int), 1) * wvD rest m < k * wvN (E.T (ag E q)) E.S rest m * wvD rest ((E.S : Int), 1) := cmp.mp (by omega)
    rw [if_neg (fun y => by rw [Int.mul_comm (wvN (E.T (ag E q)) E.S rest m) k] at y; omega)] at look
    refine ⟨⟨by omega, by omega⟩, ?_⟩
    refine c_E_mark (st := rest) (a := rest) (b := ((E.S : Int), 1)) (over := 1) (under := k) (u := w 3 * k) (v := (X1, Y1 * k)) hE R3 hw hq wr wr we oe (by decide) (by omega) hd ⟨nn1, Int.mul_pos dp1 (by omega)⟩ ?_ ⟨Int.mul_pos (by omega) (by omega), by have := mulLB (show 0 ≤ w 3 by omega) (show 0 ≤ k by omega) u2 hk.2; omega⟩ (Int.dvd_trans wr.2.2.2.1 ⟨k, rfl⟩) (Int.mul_dvd_mul_right k dv1) h4 z3 (Or.inl rfl) ?_ ?_
    · show X1 * (wvD rest ((E.S : Int), 1) * k) = wvN (E.T (ag E q)) E.S rest ((E.S : Int), 1) * 1 * (Y1 * k)
      rw [Int.mul_one, ← Int.mul_assoc, cr1, Int.mul_assoc]
    · intro m' w' hpm μ4 R4 pu z4 f4
      rw [if_neg (by decide)] at R4
      rw [hpm] at look
      have look : lookS E rest k q last m w = some (q, m', noteS w' 1 (ag E q) m' m) := look
      obtain ⟨j1, j2, j3, j4, j5⟩ := pm_step hE hq hw wr r2 (show 0 < (((E.S : Int), 1) : Pt).2 by show (0 : Int) < 1; decide) oe (by decide) (by omega) hd hpm
      have e4 : w' 4 = w 4 := by rw [j5, setU_ne (by decide)]
      have pl4 : PU μ4 (ag E last) m := PU_fr pl3 (f4 498 _ (Or.inl (by decide)) (by decide) (Or.inr gne)) (f4 499 _ (Or.inl (by decide)) (by decide) (Or.inr gne))
      refine ⟨rfl, rfl, fun y => absurd z4 y, fun _ => ⟨⟨gq.1, gq.2.2⟩, ?_⟩⟩
      rw [pu.1, pu.2, pl4.1, pl4.2]
      refine c_E_note (p := m') (q := m) R4 ⟨j3.2.1.1, by omega⟩ fun μ5 R5 f5 => ⟨rfl, rfl, ?_⟩
      have f6 : ∀ x i, x ≠ 493 ∨ i ≠ 15 → up μ5 493 15 (ag E q) x i = μ5 x i := fun x i h => up_ne h
      refine hok q m' _ look _ (RE_up R5 (by decide)) (PU_fr (PU_fr pu (f5 498 _ (by decide)) (f5 499 _ (by decide))) (f6 498 _ (Or.inl (by decide))) (f6 499 _ (Or.inl (by decide)))) (up_eq _ _ _ _) (by rw [f6 493 11 (Or.inr (by decide)), f5 493 11 (by decide), z4]) (frW_tr w3 (frW_tr (frP_W f4) (frW_tr (fr4_W f5) (fun x i hx => f6 x i (by omega)))))
    · intro hpm m' μ4 R4 pu m1' m2' z4 f4
      rw [hpm] at look
      have f6 : ∀ x i, x ≠ 493 ∨ i ≠ 15 → up μ4 493 15 (ag E q) x i = μ4 x i := fun x i h => up_ne h
      exact ⟨rfl, rfl, fun _ => hno look _ (RE_up R4 (by decide)) (up_eq _ _ _ _) (by rw [f6 493 11 (Or.inr (by decide)), z4]) (frW_tr w3 (frW_tr (frP_W f4) (fun x i hx => f6 x i (by omega)))), fun y => absurd (y.symm.trans z4) (by decide)⟩
  · have ge : ¬ wvN (E.T (ag E q)) E.S rest ((E.S : Int), 1) * wvD rest m < k * wvN (E.T (ag E q)) E.S rest m * wvD rest ((E.S : Int), 1) := fun y => by have := cmp.mpr y; omega
    rw [if_pos (by rw [Int.mul_comm (wvN (E.T (ag E q)) E.S rest m) k]; omega)] at look
    rw [pl3.1, pl3.2]
    refine c_E_note (p := m) (q := (0, 1)) R3 ⟨hw.2.1.1, by omega⟩ fun μ5 R5 f5 => ⟨rfl, rfl, ?_⟩
    exact hok last m _ look μ5 R5 (PU_fr pl3 (f5 498 _ (by decide)) (f5 499 _ (by decide))) (by rw [f5 493 15 (by decide), e15]) (by rw [f5 493 11 (by decide), z3]) (frW_tr w3 (fr4_W f5))
end
