/-! constructors: a layout that grows towards the law's -/
def rsl : Nat → List Nat := fun c => match c with
  | 0 => [2, 3]
  | 1 => [4, 5, 6, 7, 8, 9]
  | 2 => [2]
  | 4 => [0, 1]
  | 5 => [0, 1, 3, 4, 5, 6, 7, 8, 9]
  | 6 => [1]
  | 7 => [0, 1]
  | 8 => [2, 3, 4]
  | 9 => [0, 1, 2, 3, 4, 5, 7, 8, 9, 10, 11, 12, 13]
  | 10 => [0, 1, 2, 6, 13, 14, 16, 17, 19, 20, 22, 23, 24, 25, 26, 27]
  | _ => []
theorem rslB : (List.range 510).all (fun o => (List.range ((rfT.getD (o - 1) []).length)).all fun k => decide (o = 0) || decide (rf0 (o : Int) (k : Int) = -1) || (if (kd0 0 (o : Int)).1 < 11 then (rsl (kd0 0 (o : Int)).1).contains k else decide (23 ≤ (kd0 0 (o : Int)).1) && decide ((k : Int) < (kd0 0 (o : Int)).2))) = true := by decide +kernel
theorem rf_ne {n o k : Int} (h : rf (L0 n) o k ≠ -1) : 1 ≤ o ∧ 0 ≤ k ∧ (((kd (L0 n) o).1 < 11 → k.toNat ∈ rsl (kd (L0 n) o).1) ∧ (¬ (kd (L0 n) o).1 < 11 → 23 ≤ (kd (L0 n) o).1 ∧ k < (kd (L0 n) o).2)) := by
  have h0 : rf0 o k ≠ -1 := h
  by_cases z : o ≤ 0 ∨ k < 0
  · exact absurd (show rf0 o k = -1 by unfold rf0; rw [if_pos z]) h0
  have o1 : 1 ≤ o := by omega
  have ek : kd (L0 n) o = kd0 0 o := kd0_pos o1
  rw [ek]
  refine ⟨o1, by omega, ?_⟩
  have e1 : rf0 o k = (rfT.getD (o.toNat - 1) []).getD k.toNat (-1) := by unfold rf0; rw [if_neg z]
  have lk : k.toNat < (rfT.getD (o.toNat - 1) []).length := by
    by_cases q : k.toNat < (rfT.getD (o.toNat - 1) []).length
    · exact q
    · rw [e1, List.getD_eq_getElem?_getD, List.getElem?_eq_none (by omega)] at h0
      exact absurd rfl h0
  have lo : o.toNat < 510 := by
    by_cases q : o.toNat < 510
    · exact q
    · have e2 : rfT.getD (o.toNat - 1) [] = [] := by
        rw [List.getD_eq_getElem?_getD, List.getElem?_eq_none (Nat.le_trans (show rfT.length ≤ 509 by decide +kernel) (by omega))]
        rfl
      rw [e2] at lk
      exact absurd lk (by simp)
  have h4 := List.all_eq_true.mp (List.all_eq_true.mp rslB o.toNat (List.mem_range.mpr lo)) k.toNat (List.mem_range.mpr lk)
  rw [show ((o.toNat : Nat) : Int) = o by omega, show ((k.toNat : Nat) : Int) = k by omega] at h4
  rcases Bool.or_eq_true_iff.mp h4 with h5 | h5
  · rcases Bool.or_eq_true_iff.mp h5 with h6 | h6
    · have := of_decide_eq_true h6; omega
    · exact absurd (of_decide_eq_true h6) h0
  · refine ⟨fun c => ?_, fun c => ?_⟩
    · rw [if_pos c] at h5
      exact List.contains_iff_mem.mp h5
    · rw [if_neg c] at h5
      obtain ⟨h7, h8⟩ := Bool.and_eq_true_iff.mp h5
      exact ⟨of_decide_eq_true h7, of_decide_eq_true h8⟩
/-- all that was made stands as it will, but for what is still open -/
def PL (n : Int) (L : Lay) (c : Int) (op : Int → Int → Prop) : Prop := L.1 = c ∧ (∀ a, a ≤ c → kd L a = kd (L0 n) a) ∧ ∀ a k, a ≤ c → ¬ op a k → rf L a k = rf (L0 n) a k
section
variable {n c : Int} {L L1 : Lay} {op op' : Int → Int → Prop}
theorem PL_K {a : Int} {q : Nat × Int} (h : PL n L c op) (k : isK (L0 n) a q) (ha : a ≤ c) : isK L a q := ⟨k.1, by rw [h.1]; exact ha, (h.2.1 a ha).trans k.2.2⟩
theorem PL_weak (h : PL n L c op) (hw : ∀ a k, op a k → op' a k) : PL n L c op' := ⟨h.1, h.2.1, fun a k ha hk => h.2.2 a k ha (fun z => hk (hw a k z))⟩
theorem PL_new {q : Nat × Int} (h : PL n L c op) (hk : kd (L0 n) (c + 1) = q) (e : L1 = nwL L q) : PL n L1 (c + 1) (fun a k => (a = c + 1 ∧ rf (L0 n) a k ≠ -1) ∨ op a k) := by
  obtain ⟨h1, h2, h3⟩ := h
  subst e
  refine ⟨?_, fun a ha => ?_, fun a k ha hop => ?_⟩
  · show L.1 + 1 = c + 1
    rw [h1]
  · show (if a = L.1 + 1 then q else kd L a) = _
    split
    · rename_i z; rw [z, h1, hk]
    · exact h2 a (by omega)
  · show (if a = L.1 + 1 then -1 else rf L a k) = _
    split
    · rename_i z
      by_cases y : rf (L0 n) a k = -1
      · exact y.symm
      · exact absurd (Or.inl ⟨by omega, y⟩) hop
    · exact h3 a k (by omega) (fun z => hop (Or.inr z))
theorem PL_put {o j v : Int} (h : PL n L c op) (hv : rf (L0 n) o j = v) (e : L1 = upR L o j v) : PL n L1 c (fun a k => op a k ∧ ¬ (a = o ∧ k = j)) := by
  obtain ⟨h1, h2, h3⟩ := h
  subst e
  refine ⟨h1, h2, fun a k ha hop => ?_⟩
  show (if a = o ∧ k = j then v else rf L a k) = _
  split
  · rename_i z; rw [z.1, z.2, hv]
  · rename_i z
    exact h3 a k ha (fun y => hop ⟨y, z⟩)
theorem PL_multi {x y : Int} (hx : 0 ≤ x) (h : PL n L c op) (hc : c + 1 + x ≤ 509) (h0 : 0 ≤ c) (hk : kd (L0 n) (c + 1) = (23, x)) (hk2 : ∀ j : Int, 0 ≤ j → j < x → kd (L0 n) (c + 2 + j) = (20, y) ∧ rf (L0 n) (c + 1) j = c + 2 + j) (e : L1 = nwRL L x y) : PL n L1 (c + 1 + x) op := by
  obtain ⟨h1, h2, h3⟩ := h
  subst e
  refine ⟨?_, fun a ha => ?_, fun a k ha hop => ?_⟩
  · show L.1 + 1 + x = _
    rw [h1]
  · show (if a ≤ L.1 then kd L a else if a = L.1 + 1 then (23, x) else (20, y)) = _
    split
    · exact h2 a (by omega)
    · split
      · rename_i z; rw [z, h1, hk]
      · have := (hk2 (a - (c + 2)) (by omega) (by omega)).1
        rw [show c + 2 + (a - (c + 2)) = a by omega] at this
        exact this.symm
  · show (if a ≤ L.1 then rf L a k else if a = L.1 + 1 ∧ 0 ≤ k ∧ k < x then L.1 + 2 + k else -1) = _
    split
    · exact h3 a k (by omega) hop
    · split
      · rename_i z
        rw [z.1, h1, (hk2 k z.2.1 z.2.2).2]
      · rename_i z1 z2
        by_cases y2 : rf (L0 n) a k = -1
        · exact y2.symm
        · obtain ⟨g1, g2, g3, g4⟩ := rf_ne y2
          by_cases z : a = c + 1
          · have e1 : kd (L0 n) a = (23, x) := by rw [z]; exact hk
            rw [e1] at g4
            have := (g4 (show ¬ (23 : Nat) < 11 by decide)).2
            exact absurd ⟨by omega, g2, this⟩ z2
          · have := (hk2 (a - (c + 2)) (by omega) (by omega)).1
            rw [show c + 2 + (a - (c + 2)) = a by omega] at this
            rw [this] at g4
            exact absurd (show (23 : Nat) ≤ 20 from (g4 (show ¬ (20 : Nat) < 11 by decide)).1) (by decide)
/-- what a kind of object has open when it is new -/
theorem op_none {o k : Int} {q : Nat × Int} (h : isK (L0 n) o q) (hq : q.1 = 3 ∨ q.1 = 20 ∨ q.1 = 21 ∨ q.1 = 22) : ¬ rf (L0 n) o k ≠ -1 := by
  intro z
  obtain ⟨g1, g2, g3, g4⟩ := rf_ne z
  rw [h.2.2] at g3 g4
  rcases hq with e | e | e | e
  · rw [e] at g3
    exact absurd (g3 (by decide)) (by simp [rsl])
  · rw [e] at g4; exact absurd (g4 (by decide)).1 (by decide)
  · rw [e] at g4; exact absurd (g4 (by decide)).1 (by decide)
  · rw [e] at g4; exact absurd (g4 (by decide)).1 (by decide)
theorem op_obj {o k : Int} {ci : Nat} (h : isK (L0 n) o (ci, 0)) (hc : ci < 11) (z : rf (L0 n) o k ≠ -1) : 0 ≤ k ∧ k.toNat ∈ rsl ci := by
  obtain ⟨g1, g2, g3, g4⟩ := rf_ne z
  rw [h.2.2] at g3
  exact ⟨g2, g3 hc⟩
theorem op_arr {o k m : Int} {t : Nat} (h : isK (L0 n) o (t, m)) (hc : 11 ≤ t) (z : rf (L0 n) o k ≠ -1) : 0 ≤ k ∧ k < m := by
  obtain ⟨g1, g2, g3, g4⟩ := rf_ne z
  rw [h.2.2] at g4
  exact ⟨g2, (g4 (show ¬ t < 11 by omega)).2⟩
/-- a new one that has nothing open -/
theorem PL_new0 {q : Nat × Int} (h : PL n L c op) (hk : isK (L0 n) (c + 1) q) (hq : q.1 = 3 ∨ q.1 = 20 ∨ q.1 = 21 ∨ q.1 = 22) (e : L1 = nwL L q) : PL n L1 (c + 1) op :=
  PL_weak (PL_new h hk.2.2 e) (fun a k z => by
    rcases z with ⟨rfl, z⟩ | z
    · exact absurd z (op_none hk hq)
    · exact z)
theorem nwM_new {μ : Mem} {i : Int} : nwM L μ (L.1 + 1) i = 0 := if_pos rfl
theorem nwM_old {μ : Mem} {a i : Int} (h : a ≠ L.1 + 1) : nwM L μ a i = μ a i := if_neg h
theorem nwRM_old {μ : Mem} {a i : Int} (h : a ≤ L.1) : nwRM L μ a i = μ a i := if_pos h
end
section
variable {n : Int} {L : Lay} {μ : Mem} {op : Int → Int → Prop} {Q : Option AV → Lay → Mem → Prop}
theorem i_X3 {o c : Int} {k : Nat × Nat} (hP : PL n L c op) (ko : isK (L0 n) o (3, 0)) (oc : o ≤ c) (h : Q none L (up μ o 1 1)) : TR mX3_init 1 k [(2, o)] L μ Q := o_X3_init (PL_K hP ko oc) h
theorem i_X7 {o : Int} (hP : PL n L o (fun a k => (a = o ∧ rf (L0 n) a k ≠ -1) ∨ op a k)) (ko : isK (L0 n) o (7, 0))
    (h : ∀ L' μ', PL n L' (o + 2) op → (∀ a i, a ≤ o → μ' a i = μ a i) → μ' (o + 1) 0 = 0 → μ' (o + 1) 1 = 1 → Q none L' μ') : TR mX7_init 2 (2, 4) [(2, o)] L μ Q := by
  obtain ⟨r0, r1, k1, k2⟩ := sp_at ko
  have e0 := hP.1
  have k2' : isK (L0 n) (o + 1 + 1) (3, 0) := by rw [show o + 1 + 1 = o + 2 by omega]; exact k2
  refine o_X7_init (PL_K hP ko (Int.le_refl _)) ⟨(1, 2), rfl, fun o1 L1 μ1 eo eL em => ?_⟩
  rw [e0] at eo
  subst eo
  have P1 := PL_new0 hP k1 (Or.inl rfl) eL
  refine ⟨PL_K P1 ko (by omega), PL_K P1 k1 (by omega), (0, 0), (1, 2), rfl, rfl, i_X3 P1 k1 (by omega) ⟨rfl, PL_K P1 ko (by omega), PL_K P1 k1 (by omega), fun L2 e2 => ?_⟩⟩
  have P2 := PL_put P1 r0 e2
  refine ⟨PL_K P2 ko (by omega), (0, 0), rfl, fun o3 L3 μ3 eo3 eL3 em3 => ?_⟩
  rw [P2.1] at eo3
  subst eo3
  have P3 := PL_new0 P2 k2' (Or.inl rfl) eL3
  refine ⟨PL_K P3 ko (by omega), PL_K P3 k2' (by omega), (0, 0), (0, 0), rfl, rfl, i_X3 P3 k2' (by omega) ⟨rfl, PL_K P3 ko (by omega), PL_K P3 k2' (by omega), fun L4 e4 => ?_⟩⟩
  have P4 := PL_put P3 (show rf (L0 n) o 1 = o + 1 + 1 by rw [r1]; omega) e4
  refine ⟨PL_K P4 ko (by omega), h L4 _ ?_ (fun a i ha => ?_) ?_ ?_⟩
  · rw [show o + 2 = o + 1 + 1 by omega]
    refine PL_weak P4 (fun a k z => ?_)
    obtain ⟨⟨z1, z2⟩, z3⟩ := z
    rcases z1 with ⟨rfl, z1⟩ | z1
    · obtain ⟨g1, g2⟩ := op_obj ko (by decide) z1
      have g2 : k.toNat = 0 ∨ k.toNat = 1 := by simpa [rsl] using g2
      exact absurd (show (k = 0 ∨ k = 1) by omega) (fun y => y.elim (fun y => z2 ⟨rfl, y⟩) (fun y => z3 ⟨rfl, y⟩))
    · exact z1
  · rw [up_ne (Or.inl (by omega)), em3, nwM_old (by rw [P2.1]; omega), up_ne (Or.inl (by omega)), em, nwM_old (by rw [e0]; omega)]
  · rw [up_ne (Or.inl (by omega)), em3, nwM_old (by rw [P2.1]; omega), up_ne (Or.inr (by decide)), em, ← e0, nwM_new]
  · rw [up_ne (Or.inl (by omega)), em3, nwM_old (by rw [P2.1]; omega), up_eq]
theorem i_X2 {o : Int} (hP : PL n L o (fun a k => (a = o ∧ rf (L0 n) a k ≠ -1) ∨ op a k)) (ko : isK (L0 n) o (2, 0))
    (h : ∀ L' μ', PL n L' (o + 3) op → (∀ a i, a ≤ o → μ' a i = μ a i) → Q none L' μ') : TR mX2_init 3 (3, 6) [(2, o)] L μ Q := by
  obtain ⟨r2, k1⟩ := ev_at ko
  have e0 := hP.1
  refine o_X2_init (PL_K hP ko (Int.le_refl _)) ⟨(2, 4), rfl, fun o1 L1 μ1 eo eL em => ?_⟩
  rw [e0] at eo
  subst eo
  have P1 := PL_new hP k1.2.2 eL
  refine ⟨PL_K P1 ko (by omega), PL_K P1 k1 (by omega), (2, 4), (0, 0), rfl, rfl, i_X7 P1 k1 fun L2 μ2 P2 f2 _ _ => ⟨rfl, PL_K P2 ko (by omega), PL_K P2 k1 (by omega), fun L3 e3 => ?_⟩⟩
  have P3 := PL_put P2 r2 e3
  refine ⟨PL_K P3 ko (by omega), h L3 μ2 ?_ (fun a i ha => ?_)⟩
  · rw [show o + 3 = o + 1 + 2 by omega]
    refine PL_weak P3 (fun a k z => ?_)
    obtain ⟨z1, z2⟩ := z
    rcases z1 with ⟨rfl, z1⟩ | z1
    · obtain ⟨g1, g2⟩ := op_obj ko (by decide) z1
      have g2 : k.toNat = 2 := by simpa [rsl] using g2
      exact absurd (show k = 2 by omega) (fun y => z2 ⟨rfl, y⟩)
    · exact z1
  · rw [f2 a i (by omega), em, nwM_old (by rw [e0]; omega)]
end
