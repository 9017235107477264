/-! the reference: thirds with trimmings -/
theorem set_0 : ∀ k : Int, 0 ≤ k → k < 3 → (bt 7 k ↔ ¬ bt 0 k) := i3 (by decide +kernel)
theorem set_1 {g : Int} (hg : 0 ≤ g ∧ g < 3) : ∀ k : Int, 0 ≤ k → k < 3 → (bt (off1 7 g) k ↔ ¬ bt (bShl 1 g) k) := by
  have h : ∀ g : Int, 0 ≤ g → g < 3 → ∀ k : Int, 0 ≤ k → k < 3 → (bt (off1 7 g) k ↔ ¬ bt (bShl 1 g) k) := i3 ⟨i3 (by decide +kernel), i3 (by decide +kernel), i3 (by decide +kernel)⟩
  exact h g hg.1 hg.2
theorem set_2 {a b : Int} (ha : 0 ≤ a ∧ a < 3) (hb : 0 ≤ b ∧ b < 3) : ∀ k : Int, 0 ≤ k → k < 3 → (bt (off1 (off1 7 a) b) k ↔ ¬ bt (bOr (bShl 1 a) (bShl 1 b)) k) := by
  have h : ∀ a : Int, 0 ≤ a → a < 3 → ∀ b : Int, 0 ≤ b → b < 3 → ∀ k : Int, 0 ≤ k → k < 3 → (bt (off1 (off1 7 a) b) k ↔ ¬ bt (bOr (bShl 1 a) (bShl 1 b)) k) := i3 ⟨i3 ⟨i3 (by decide +kernel), i3 (by decide +kernel), i3 (by decide +kernel)⟩, i3 ⟨i3 (by decide +kernel), i3 (by decide +kernel), i3 (by decide +kernel)⟩, i3 ⟨i3 (by decide +kernel), i3 (by decide +kernel), i3 (by decide +kernel)⟩⟩
  exact h a ha.1 ha.2 b hb.1 hb.2
theorem free_0 : ∃ j : Int, 0 ≤ j ∧ j < 3 ∧ ¬ bt 0 j := ⟨0, by decide, by decide, by decide +kernel⟩
theorem free_1 {t : Int} (ht : 0 ≤ t ∧ t < 3) : ∃ j : Int, 0 ≤ j ∧ j < 3 ∧ ¬ bt (bShl 1 t) j := by
  by_cases q : t = 0
  · exact ⟨1, by decide, by decide, fun z => by have := (bit3 ht ⟨by decide, by decide⟩).mp z; omega⟩
  · exact ⟨0, by decide, by decide, fun z => by have := (bit3 ht ⟨by decide, by decide⟩).mp z; omega⟩
theorem free_2 {t r : Int} (ht : 0 ≤ t ∧ t < 3) (hr : 0 ≤ r ∧ r < 3) : ∃ j : Int, 0 ≤ j ∧ j < 3 ∧ ¬ bt (bOr (bShl 1 t) (bShl 1 r)) j := by
  by_cases q : t = 0 ∨ r = 0
  · by_cases q2 : t = 1 ∨ r = 1
    · exact ⟨2, by decide, by decide, fun z => by have := (bit3o ht hr ⟨by decide, by decide⟩).mp z; omega⟩
    · exact ⟨1, by decide, by decide, fun z => by have := (bit3o ht hr ⟨by decide, by decide⟩).mp z; omega⟩
  · exact ⟨0, by decide, by decide, fun z => by have := (bit3o ht hr ⟨by decide, by decide⟩).mp z; omega⟩
section
variable {n : Int} {μ : Mem} {Q : Option AV → Lay → Mem → Prop}
theorem c_X10_worthOfPiece {E : WEnv} {w : Dv} {p k : Int} {ps : Pcs} (hE : EnvOK E) (hR : RE μ E w) (hw : WFu w) (hp : 0 ≤ p ∧ p < E.N) (hk : 0 ≤ k ∧ k < 3) (hP : PQ μ ps) (hW : PW E (w 3) ps)
    (h : ∀ μ', frQ μ μ' → FR μ' (rdN (hasP E p (ps k)) (denP (ps k))) (rdD (hasP E p (ps k)) (denP (ps k))) → RE μ' E w → PQ μ' ps → Q none (L0 n) μ') : TR mX10_worthOfPiece 3 (0, 0) [(2, 493), (0, ag E p), (0, k)] (L0 n) μ Q := by
  have hag := ag_b hE hp
  obtain ⟨w1, w2, w3⟩ := hW k hk.1 hk.2
  obtain ⟨p1, p2, p3, p4⟩ := hP k hk.1 hk.2
  apply t_X10_worthOfPiece (layOK n) k493
  rw [rf_ref.2.2.2.2.2.2.2.2.1, p1, p2, p3, p4]
  refine ⟨⟨by omega, by omega⟩, ⟨by omega, by omega⟩, ⟨by omega, by omega⟩, ⟨by omega, by omega⟩, ⟨by omega, by omega⟩, ⟨by omega, by omega⟩, ⟨by omega, by omega⟩, ⟨by omega, by omega⟩, c_E_between (p := (ps k).1) (q := (ps k).2) hE hR ⟨hag.1, hag.2.2⟩ hw w1 w2 w3 fun μ' f1 f2 f3 => ⟨rfl, rfl, h μ' f1 f2 f3 (PQ_fr hP (fun i => f1 502 i (Or.inl (by decide))))⟩⟩
theorem c_X10_takesPiece {E : WEnv} {w : Dv} {p k : Int} {ps : Pcs} (hE : EnvOK E) (hR : RE μ E w) (hw : WF E.S w) (hp : 0 ≤ p ∧ p < E.N) (hk : 0 ≤ k ∧ k < 3) (hP : PQ μ ps) (h4 : w 4 < 19) (hm : w (165 + ag E p) < 2)
    (h : ∀ μ', RE μ' E (takeP E w p (ps k)) → PQ μ' ps → (∀ x i, x ≠ 494 → μ' x i = μ x i) → Q none (L0 n) μ') : TR mX10_takesPiece 2 (0, 0) [(2, 493), (0, ag E p), (0, k)] (L0 n) μ Q := by
  have hag := ag_b hE hp
  obtain ⟨p1, p2, p3, p4⟩ := hP k hk.1 hk.2
  apply t_X10_takesPiece (layOK n) k493
  rw [rf_ref.2.2.2.2.2.2.2.2.1, p1, p2, p3, p4]
  refine ⟨⟨by omega, by omega⟩, ⟨by omega, by omega⟩, ⟨by omega, by omega⟩, ⟨by omega, by omega⟩, ⟨by omega, by omega⟩, ⟨by omega, by omega⟩, ⟨by omega, by omega⟩, ⟨by omega, by omega⟩, c_E_take (p := (ps k).1) (q := (ps k).2) hR hw ⟨hag.1, hag.2.2⟩ h4 hm fun μ' f1 f2 => ⟨rfl, rfl, h μ' f1 (PQ_fr hP (fun i => f2 502 i (by decide))) f2⟩⟩
theorem c_X10_mostFor {E : WEnv} {w : Dv} {p set gone : Int} {ps : Pcs} (hE : EnvOK E) (hR : RE μ E w) (hw : WFu w) (hp : 0 ≤ p ∧ p < E.N) (hP : PQ μ ps) (hW : PW E (w 3) ps) (hs : ∀ k : Int, 0 ≤ k → k < 3 → (bt set k ↔ ¬ bt gone k)) (hx : ∃ j : Int, 0 ≤ j ∧ j < 3 ∧ ¬ bt gone j)
    (h : ∀ μ', frQ μ μ' → RE μ' E w → PQ μ' ps → Q (some (0, mostS E p gone ps)) (L0 n) μ') : TR mX10_mostFor 4 (0, 0) [(2, 493), (0, ag E p), (0, set)] (L0 n) μ Q := by
  have hS := hE.1
  have hag := ag_b hE hp
  have hrow := hE.2.2.2 _ hag.1 hag.2.2
  have u1 := hw.1
  have u2 := hw.2
  apply t_X10_mostFor (layOK n) k493
  have key : ∀ (d k : Nat), k + d = 3 → ∀ μ1, frQ μ μ1 → RE μ1 E w → PQ μ1 ps → WA mX10_mostFor 4 (0, 0) 11 [(2, 493), (0, ag E p), (0, set), (0, mstS E p gone ps k), (1, if mstS E p gone ps k < 0 then 0 else rdN (hasP E p (ps (mstS E p gone ps k))) (denP (ps (mstS E p gone ps k)))), (9, 0), (1, if mstS E p gone ps k < 0 then 1 else rdD (hasP E p (ps (mstS E p gone ps k))) (denP (ps (mstS E p gone ps k)))), (9, 0), (0, (k : Int))] [] (L0 n) μ1 Q := by
    intro d
    induction d with
    | zero =>
      intro k hk μ1 f1 R1 P1
      have : k = 3 := by omega
      subst this
      obtain ⟨m1, m2, m3, m4⟩ := mstS_b (E := E) (p := p) (gone := gone) (ps := ps) 3
      have e : mstS E p gone ps 3 = mostS E p gone ps := by
        unfold mostS
        rcases Int.lt_or_le (mstS E p gone ps 3) 0 with z | z
        · obtain ⟨j, j0, j1, j2⟩ := hx
          exact absurd (m4 z j j0 (by omega)) j2
        · omega
      apply s_X10_mostFor_11 (layOK n) k493
      refine ⟨fun _ => ?_, fun q => absurd (show (3 : Int) ≤ ((3 : Nat) : Int) by decide) q⟩
      rw [e]
      exact h μ1 f1 R1 P1
    | succ d ih =>
      intro k hk μ1 f1 R1 P1
      have hk3 : 0 ≤ (k : Int) ∧ (k : Int) < 3 := ⟨by omega, by omega⟩
      obtain ⟨m1, m2, m3, m4⟩ := mstS_b (E := E) (p := p) (gone := gone) (ps := ps) k
      have e : mstS E p gone ps (k + 1) = if ¬ bt gone k ∧ (mstS E p gone ps k < 0 ∨ hasP E p (ps (mstS E p gone ps k)) * denP (ps k) < hasP E p (ps k) * denP (ps (mstS E p gone ps k))) then (k : Int) else mstS E p gone ps k := rfl
      have next := ih (k + 1) (by omega)
      rw [e] at next
      apply s_X10_mostFor_11 (layOK n) k493
      refine ⟨fun q => absurd q (by omega), fun _ => ⟨fun q => ⟨⟨by omega, by omega⟩, ?_⟩, fun q => ?_⟩⟩
      · have g : bt gone k := by
          by_cases z : bt gone k
          · exact z
          · exact absurd ((hs k hk3.1 hk3.2).mpr z) q
        have n1 := next μ1 f1 R1 P1
        rw [if_neg (show ¬ (¬ bt gone k ∧ (mstS E p gone ps k < 0 ∨ hasP E p (ps (mstS E p gone ps k)) * denP (ps k) < hasP E p (ps k) * denP (ps (mstS E p gone ps k)))) from fun z => z.1 g)] at n1
        exact n1
      · have g : ¬ bt gone k := (hs k hk3.1 hk3.2).mp q
        refine c_X10_worthOfPiece hE R1 hw hp hk3 P1 hW fun μ2 f2 fr2 R2 P2 => ⟨rfl, rfl, fun z => ⟨⟨by omega, by omega⟩, ?_⟩, fun z => ?_⟩
        · have n2 := next μ2 (frQ_tr f1 f2) R2 P2
          rw [if_pos (show ¬ bt gone k ∧ (mstS E p gone ps k < 0 ∨ hasP E p (ps (mstS E p gone ps k)) * denP (ps k) < hasP E p (ps k) * denP (ps (mstS E p gone ps k))) from ⟨g, Or.inl z⟩), if_neg (show ¬ (k : Int) < 0 by omega), if_neg (show ¬ (k : Int) < 0 by omega)] at n2
          rw [fr2.1, fr2.2]
          exact n2
        · generalize mstS E p gone ps k = b at *
          have b3 : 0 ≤ b ∧ b < 3 := ⟨by omega, by omega⟩
          rw [if_neg z, if_neg z, fr2.1, fr2.2]
          obtain ⟨x1, x2, x3⟩ := hW b b3.1 b3.2
          obtain ⟨y1, y2, y3⟩ := hW k hk3.1 hk3.2
          have x12 := x1.2.1
          have x22 := x2.2.1
          have y12 := y1.2.1
          have y22 := y2.2.1
          have Db : 0 < denP (ps b) := Int.mul_pos (by omega) (by omega)
          have Dk : 0 < denP (ps k) := Int.mul_pos (by omega) (by omega)
          have nb := (wv_b (row := E.T (ag E p)) (S := E.S) (a := (ps b).1) (b := (ps b).2) hrow hS.2 x12 x22 x3).1
          have nk := (wv_b (row := E.T (ag E p)) (S := E.S) (a := (ps k).1) (b := (ps k).2) hrow hS.2 y12 y22 y3).1
          have lb := Int.le_of_dvd (show 0 < w 3 by omega) (rdD_W (a := ag E p) hw x1 x2)
          have lk := Int.le_of_dvd (show 0 < w 3 by omega) (rdD_W (a := ag E p) hw y1 y2)
          have db := rdD_pos (x := hasP E p (ps b)) Db
          have dk := rdD_pos (x := hasP E p (ps k)) Dk
          have lb : rdD (hasP E p (ps b)) (denP (ps b)) ≤ w 3 := lb
          have lk : rdD (hasP E p (ps k)) (denP (ps k)) ≤ w 3 := lk
          have pb := mulLB (show 0 ≤ rdD (hasP E p (ps b)) (denP (ps b)) by omega) (show 0 ≤ rdD (hasP E p (ps k)) (denP (ps k)) by omega) (Int.le_trans lb u2) (Int.le_trans lk u2)
          have cmp := rd_lt (x := hasP E p (ps b)) (x' := hasP E p (ps k)) Db Dk
          refine c_X10_isLess (rdN_nn nb) db (rdN_nn nk) dk (by omega) fun r hr => ⟨r, rfl, rfl, fun q2 => ⟨⟨by omega, by omega⟩, ?_⟩, fun q2 => ⟨⟨by omega, by omega⟩, ?_⟩⟩
          · have n2 := next μ2 (frQ_tr f1 f2) R2 P2
            rw [if_neg (show ¬ (¬ bt gone k ∧ (b < 0 ∨ hasP E p (ps b) * denP (ps k) < hasP E p (ps k) * denP (ps b))) from fun y => by
              rcases y.2 with y | y
              · exact z y
              · have := cmp.mpr y; omega), if_neg z, if_neg z] at n2
            exact n2
          · have n2 := next μ2 (frQ_tr f1 f2) R2 P2
            rw [if_pos (show ¬ bt gone k ∧ (b < 0 ∨ hasP E p (ps b) * denP (ps k) < hasP E p (ps k) * denP (ps b)) from ⟨g, Or.inr (cmp.mp (by omega))⟩), if_neg (show ¬ (k : Int) < 0 by omega), if_neg (show ¬ (k : Int) < 0 by omega)] at n2
            rw [fr2.1, fr2.2]
            exact n2
  exact key 3 0 (by omega) μ frQ_rf hR hP
theorem c_X10_sharesTrimmings {E : WEnv} {w : Dv} {who : Int} {a b : Pt} (hE : EnvOK E) (hN : E.N = 3) (hR : RE μ E w) (hw : WF E.S w) (h4 : w 4 = 6) (hm : ∀ a : Int, 0 ≤ a → a < 3 → w (165 + ag E a) = 1) (hwho : who = 1 ∨ who = 2) (ha : ptW E.S (w 3) a.1 a.2) (hb : ptW E.S (w 3) b.1 b.2) (hab : a.1 * b.2 ≤ b.1 * a.2) (hf : μ 493 11 = 0)
    (hok : ∀ ps w1, thrS E w (3 - who) (a, b) = some (ps, w1) → ∀ μ', RE μ' E (takeP E (takeP E (takeP E w1 who (ps (mostS E who 0 ps))) 0 (ps (mostS E 0 (bShl 1 (mostS E who 0 ps)) ps))) (3 - who) (ps (mostS E (3 - who) (bOr (bShl 1 (mostS E who 0 ps)) (bShl 1 (mostS E 0 (bShl 1 (mostS E who 0 ps)) ps))) ps))) → μ' 493 11 = 0 → frW μ μ' → Q none (L0 n) μ')
    (hno : thrS E w (3 - who) (a, b) = none → ∀ μ' w', RE μ' E w' → μ' 493 11 = 1 → frW μ μ' → Q none (L0 n) μ') : TR mX10_sharesTrimmings 5 (0, 0) [(2, 493), (0, ag E 0), (0, ag E who), (0, ag E (3 - who)), (1, a.1), (1, a.2), (1, b.1), (1, b.2)] (L0 n) μ Q := by
  have po : 0 ≤ 3 - who ∧ 3 - who < E.N := by omega
  apply t_X10_sharesTrimmings (layOK n) k493
  refine c_X10_thirds hE hR hw (by omega) po ha hb hab hf ?_ ?_
  · intro ps w1 hx μ1 R1 P1 z1 f1
    obtain ⟨t1, t2, t3, t4, t5, -⟩ := thrS_ok hE po hw ha hb hab (by omega) hx
    have hok := hok ps w1 hx
    have m1 : ∀ a : Int, 0 ≤ a → a < 3 → w1 (165 + ag E a) ≤ 1 := fun a a0 a1 => by
      have := ag_b hE (p := a) ⟨a0, by omega⟩
      rw [t4 _ (by omega) (by omega) (by omega), hm a a0 a1]; decide
    have b3 : ∀ p g, 0 ≤ mostS E p g ps ∧ mostS E p g ps < 3 := fun p g => mostS_b
    have n1 := most_ne (E := E) (p := 0) (ps := ps) (b3 who 0)
    have n2 := most_ne2 (E := E) (p := 3 - who) (ps := ps) (b3 who 0) (b3 0 (bShl 1 (mostS E who 0 ps)))
    refine ⟨rfl, rfl, fun _ => ?_, fun q => absurd z1 q⟩
    refine c_X10_mostFor hE R1 t1.1 (by omega) P1 t5 set_0 free_0 fun μ2 f2 R2 P2 => ⟨_, rfl, rfl, ?_⟩
    have bb := b3 who 0
    have n2b := b3 (3 - who) (bOr (bShl 1 (mostS E who 0 ps)) (bShl 1 (mostS E 0 (bShl 1 (mostS E who 0 ps)) ps)))
    generalize mostS E who 0 ps = best at *
    have sb := b3 0 (bShl 1 best)
    obtain ⟨⟨a1, a2, a3, a4, a5⟩, ⟨d1, d2, d3, d4⟩, -⟩ := take3_ok (p := who) (q := 0) (r := 3 - who) (ps := ps) (i := best) (j := mostS E 0 (bShl 1 best) ps) (k := mostS E (3 - who) (bOr (bShl 1 best) (bShl 1 (mostS E 0 (bShl 1 best) ps))) ps) hE hN (by omega) (by omega) (by omega) (by omega) (by omega) (by omega) t1 (by omega) m1 t5 bb sb n2b
    refine c_X10_takesPiece hE R2 t1 (by omega) bb P2 (by omega) (by have := m1 who (by omega) (by omega); omega) fun μ3 R3 P3 f3 => ⟨rfl, rfl, ?_⟩
    refine c_X10_mostFor (gone := bShl 1 best) hE R3 a1.1 ⟨by decide, by omega⟩ P3 (by rw [a2]; exact t5) (set_1 bb) (free_1 bb) fun μ4 f4 R4 P4 => ⟨_, rfl, rfl, ?_⟩
    generalize mostS E 0 (bShl 1 best) ps = second at *
    have e3 : 3 - best - second = mostS E (3 - who) (bOr (bShl 1 best) (bShl 1 second)) ps := by omega
    rw [e3]
    generalize mostS E (3 - who) (bOr (bShl 1 best) (bShl 1 second)) ps = last at *
    refine c_X10_takesPiece hE R4 a1 ⟨by decide, by omega⟩ sb P4 (by omega) a4 fun μ5 R5 P5 f5 => ⟨rfl, rfl, ⟨by omega, by omega⟩, ⟨by omega, by omega⟩, ?_⟩
    refine c_X10_takesPiece hE R5 d1 po n2b P5 (by omega) d4 fun μ6 R6 P6 f6 => ⟨rfl, rfl, ?_⟩
    refine hok μ6 R6 ?_ (frW_tr f1 (frW_tr (frQ_W f2) (frW_tr (fr4_W f3) (frW_tr (frQ_W f4) (frW_tr (fr4_W f5) (fr4_W f6))))))
    rw [f6 493 11 (by decide), f5 493 11 (by decide), f4 493 11 (Or.inr (by decide)), f3 493 11 (by decide), f2 493 11 (Or.inr (by decide)), z1]
  · intro hx μ1 w1 R1 z1 f1
    exact ⟨rfl, rfl, fun q => absurd (q.symm.trans z1) (by decide), fun _ => hno hx μ1 w1 R1 z1 f1⟩
end
