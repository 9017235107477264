/-! cut and trim stays in bounds -/
def TI (E : WEnv) (x : TSt) : Prop := WF E.S x.w ∧ x.w 4 = 3 ∧ (∀ a : Int, 0 ≤ a → a < 5 → x.w (165 + a) = 0) ∧ PW E (x.w 3) x.ps ∧ (0 ≤ x.fav ∧ x.fav < 3) ∧ (x.trimmed = true → ptW E.S (x.w 3) x.crumbs.1.1 x.crumbs.1.2 ∧ ptW E.S (x.w 3) x.crumbs.2.1 x.crumbs.2.2 ∧ x.crumbs.1.1 * x.crumbs.2.2 ≤ x.crumbs.2.1 * x.crumbs.1.2)
theorem PW_up {E : WEnv} {u u' : Int} {ps : Pcs} (h : PW E u ps) (hd : u ∣ u') : PW E u' ps := fun k k0 k1 => ⟨ptW_un (h k k0 k1).1 hd, ptW_un (h k k0 k1).2.1 hd, (h k k0 k1).2.2⟩
/-- what the trimmer's mark is -/
theorem trim_mark {E : WEnv} {w w1 : Dv} {ps : Pcs} {fav sec : Int} {m : Pt} (hE : EnvOK E) (hN : E.N = 3) (hw : WF E.S w) (hP : PW E (w 3) ps) (hf : 0 ≤ fav ∧ fav < 3) (hs : 0 ≤ sec ∧ sec < 3) (hc : hasP E 1 (ps sec) * denP (ps fav) < hasP E 1 (ps fav) * denP (ps sec)) :
    DUE E (ps fav).1 (ps sec).1 (ps sec).2 1 1 1 ∧ (pmS E w 1 (ps fav).1 (ps sec).1 (ps sec).2 1 1 = some (m, w1) →
      ptW E.S (w1 3) m.1 m.2 ∧ WF E.S w1 ∧ upW w w1 ∧ w1 = setU w (w1 3) ∧ (ps fav).1.1 * m.2 ≤ m.1 * (ps fav).1.2 ∧ m.1 * (ps fav).2.2 ≤ (ps fav).2.1 * m.2) := by
  have p1 : (0 : Int) ≤ 1 ∧ (1 : Int) < E.N := by omega
  have hag := ag_b hE p1
  have hrow := hE.2.2.2 _ hag.1 hag.2.2
  have hS := hE.1
  obtain ⟨f1, f2, f3⟩ := hP fav hf.1 hf.2
  obtain ⟨s1, s2, s3⟩ := hP sec hs.1 hs.2
  have a2 : 0 < (ps fav).1.2 := by have := f1.2.1; omega
  have b2 : 0 < (ps fav).2.2 := by have := f2.2.1; omega
  have c2 : 0 < (ps sec).1.2 := by have := s1.2.1; omega
  have d2 : 0 < (ps sec).2.2 := by have := s2.2.1; omega
  obtain ⟨k1, k2⟩ := trim_due (p := 1) (a := (ps fav).1) (b := (ps fav).2) (c := (ps sec).1) (d := (ps sec).2) hE p1 a2 b2 (Int.le_of_lt hc)
  have due := k2 (Int.mul_nonneg (by omega) (by omega))
  refine ⟨due, fun h => ?_⟩
  obtain ⟨j1, j2, j3, j4, j5⟩ := pm_step hE p1 hw f1 c2 d2 s3 (by decide) (by decide) due h
  refine ⟨j2, j3, j4, j5, j1.2.2.2.1, ?_⟩
  refine markR_least (x := (ps fav).2.1) (y := (ps fav).2.2) hrow ⟨by omega, hS.2⟩ f1.1 a2 (Int.mul_nonneg (wv_b hrow hS.2 (by omega) (by omega) s3).1 (by decide)) (show 0 < wvD (ps sec).1 (ps sec).2 * 1 from Int.mul_pos (Int.mul_pos c2 d2) (by decide)) j1.1 b2 f3 k1
theorem trmS_ok {E : WEnv} {w : Dv} {x : TSt} (hE : EnvOK E) (hN : E.N = 3) (hw : WF E.S w) (h4 : w 4 = 0) (hm : ∀ a : Int, 0 ≤ a → a < 5 → w (165 + a) = 0) (h : trmS E w = some x) : TI E x := by
  unfold trmS at h
  cases ht : thrS E w 0 ((0, 1), ((E.S : Int), 1)) with
  | none => rw [ht] at h; cases h
  | some y =>
    obtain ⟨ps, w1⟩ := y
    rw [ht] at h
    obtain ⟨t1, t2, t3, t4, t5, -⟩ := thrS_ok hE ⟨by decide, by omega⟩ hw (ptW_Zu (by omega)) (ptW_S (by omega)) (show (0 : Int) * 1 ≤ E.S * 1 by omega) (by omega) ht
    have m1 : ∀ a : Int, 0 ≤ a → a < 5 → w1 (165 + a) = 0 := fun a a0 a1 => by rw [t4 _ (by omega) (by omega) (by omega), hm a a0 a1]
    have hag := ag_b hE (p := 1) ⟨by decide, by omega⟩
    have fb := mostS_b (E := E) (p := 1) (gone := 0) (ps := ps)
    have sb := mostS_b (E := E) (p := 1) (gone := bShl 1 (mostS E 1 0 ps)) (ps := ps)
    have h : (if hasP E 1 (ps (mostS E 1 (bShl 1 (mostS E 1 0 ps)) ps)) * denP (ps (mostS E 1 0 ps)) < hasP E 1 (ps (mostS E 1 0 ps)) * denP (ps (mostS E 1 (bShl 1 (mostS E 1 0 ps)) ps)) then
      (pmS E w1 1 (ps (mostS E 1 0 ps)).1 (ps (mostS E 1 (bShl 1 (mostS E 1 0 ps)) ps)).1 (ps (mostS E 1 (bShl 1 (mostS E 1 0 ps)) ps)).2 1 1).map fun y =>
        ((updP ps (mostS E 1 0 ps) ((ps (mostS E 1 0 ps)).1, y.1), noteS y.2 1 (ag E 1) y.1 (ps (mostS E 1 0 ps)).2, mostS E 1 0 ps, true, (y.1, (ps (mostS E 1 0 ps)).2)) : TSt)
      else some ((ps, noteS w1 2 (ag E 1) (ps (mostS E 1 0 ps)).2 (0, 1), mostS E 1 0 ps, false, ((0, 1), (0, 1))) : TSt)) = some x := h
    generalize mostS E 1 (bShl 1 (mostS E 1 0 ps)) ps = sec at *
    generalize mostS E 1 0 ps = fav at *
    by_cases hc : hasP E 1 (ps sec) * denP (ps fav) < hasP E 1 (ps fav) * denP (ps sec)
    · rw [if_pos hc] at h
      cases hy : pmS E w1 1 (ps fav).1 (ps sec).1 (ps sec).2 1 1 with
      | none => rw [hy] at h; cases h
      | some y =>
        obtain ⟨m, w2⟩ := y
        rw [hy] at h
        have h := Option.some.inj h
        rw [← h]
        obtain ⟨j1, j2, j3, j4, j5, j6⟩ := (trim_mark hE hN t1 t5 fb sb hc).2 hy
        obtain ⟨f1, f2, f3⟩ := t5 fav fb.1 fb.2
        obtain ⟨n1, n2⟩ := note_lo (w := w2) (kind := 1) (a := ag E 1) (p := m) (q := (ps fav).2) j2.2.1.1
        have n3 := n2 3 (by decide) (by decide)
        have e4 : w2 4 = 2 := by rw [j4, setU_ne (by decide), t3, h4]; decide
        refine ⟨note_WF j2 ⟨by decide, by decide⟩ ⟨hag.1, hag.2.2⟩ j1 (ptW_up f2 j3) (fun _ => j6) (show w2 4 < 19 by omega), ?_, fun a a0 a1 => ?_, ?_, fb, fun _ => ?_⟩
        · show noteS w2 1 (ag E 1) m (ps fav).2 4 = 3
          rw [n1, e4]; decide
        · show noteS w2 1 (ag E 1) m (ps fav).2 (165 + a) = 0
          rw [n2 _ (by omega) (by omega), j4, setU_ne (by omega), m1 a a0 a1]
        · show PW E (noteS w2 1 (ag E 1) m (ps fav).2 3) (updP ps fav ((ps fav).1, m))
          rw [n3]
          intro k k0 k1
          unfold updP
          by_cases e : k = fav
          · rw [if_pos e]
            exact ⟨ptW_up f1 j3, j1, j5⟩
          · rw [if_neg e]
            exact PW_up t5 j3 k k0 k1
        · show ptW E.S (noteS w2 1 (ag E 1) m (ps fav).2 3) m.1 m.2 ∧ ptW E.S (noteS w2 1 (ag E 1) m (ps fav).2 3) (ps fav).2.1 (ps fav).2.2 ∧ m.1 * (ps fav).2.2 ≤ (ps fav).2.1 * m.2
          rw [n3]
          exact ⟨j1, ptW_up f2 j3, j6⟩
    · rw [if_neg hc] at h
      have h := Option.some.inj h
      rw [← h]
      obtain ⟨f1, f2, f3⟩ := t5 fav fb.1 fb.2
      obtain ⟨n1, n2⟩ := note_lo (w := w1) (kind := 2) (a := ag E 1) (p := (ps fav).2) (q := (0, 1)) t1.2.1.1
      have n3 := n2 3 (by decide) (by decide)
      refine ⟨note_WF t1 ⟨by decide, by decide⟩ ⟨hag.1, hag.2.2⟩ f2 (ptW_Zu (by omega)) (fun q => absurd q (by decide)) (show w1 4 < 19 by omega), ?_, fun a a0 a1 => ?_, ?_, fb, fun z => absurd (show false = true from z) (by decide)⟩
      · show noteS w1 2 (ag E 1) (ps fav).2 (0, 1) 4 = 3
        rw [n1, t3, h4]; decide
      · show noteS w1 2 (ag E 1) (ps fav).2 (0, 1) (165 + a) = 0
        rw [n2 _ (by omega) (by omega), m1 a a0 a1]
      · show PW E (noteS w1 2 (ag E 1) (ps fav).2 (0, 1) 3) ps
        rw [n3]
        exact t5
