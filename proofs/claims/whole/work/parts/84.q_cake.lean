/-! the reference's answers: begin, worth, tells, honest, strip, span, mark -/
theorem frR'_rf {μ : Mem} : frR' μ μ := fun _ _ _ => rfl
section
variable {n : Int} {μ : Mem} {Q : Option AV → Lay → Mem → Prop}
theorem RWm_up {w : Dv} {i v : Int} (h : RWm μ w) : RWm (up μ 494 i v) (updW w i v) := fun j j0 j1 => by
  unfold updW
  by_cases z : j = i
  · rw [if_pos z, z, up_eq]
  · rw [if_neg z, up_ne (Or.inr z)]; exact h j j0 j1
theorem RSt_up {σ : Sg} {i v : Int} (h : RSt μ σ) : RSt (up μ 494 i v) (σ.setW (updW σ.w i v)) := RSt_w h (RWm_up h.1) (fun x j hx => up_ne (by omega))
theorem R_begin {σ : Sg} {s a : Int} (hR : RSt μ σ) (ho : OKs σ)
    (hy : (2 ≤ s ∧ s ≤ 16) ∧ (2 ≤ a ∧ a ≤ 5) → ∀ μ', RSt μ' (σ.setW (frsh s a)) → frR' μ μ' → Q (some (0, σ.w 1)) (L0 n) μ')
    (hn : ¬ ((2 ≤ s ∧ s ≤ 16) ∧ (2 ≤ a ∧ a ≤ 5)) → Q (some (0, -1)) (L0 n) μ) : TR mX10_begin 1 (0, 0) [(2, 493), (0, s), (0, a)] (L0 n) μ Q := by
  apply t_X10_begin (layOK n) k493
  refine c_X10_in fun r1 h1 => ⟨r1, rfl, rfl, fun q => hn (by omega), fun q => c_X10_in fun r2 h2 => ⟨r2, rfl, rfl, fun q2 => ?_, fun q2 => hn (by omega)⟩⟩
  refine c_X10_agents hR.1 ho.1.1 ⟨_, rfl, rfl, ?_⟩
  apply t_X10_fresh (layOK n) k493
  have key : ∀ (d k : Nat), k + d = 510 → ∀ μ1 : Mem, (∀ i : Int, 0 ≤ i → i < k → μ1 494 i = if 5 ≤ i ∧ i < 165 then 1 else 0) → (∀ x i, x ≠ 494 → μ1 x i = μ x i) → WA mX10_fresh 0 (0, 0) 2 [(2, 493), (0, s), (0, a), (0, (k : Int))] [] (L0 n) μ1 (fun r13 L14 μ15 => r13 = none ∧ (L0 n) = L14 ∧ Q (some (0, σ.w 1)) (L0 n) μ15) := by
    intro d
    induction d with
    | zero =>
      intro k hk μ1 h1' h2'
      apply s_X10_fresh_2 (layOK n) k493
      rw [rf_ref.1]
      refine ⟨fun _ => ⟨rfl, rfl, ?_⟩, fun z => absurd (show (510 : Int) ≤ k by omega) z⟩
      have f : ∀ x i, x ≠ 494 → up (up (up μ1 494 0 s) 494 1 a) 494 3 1 x i = μ x i := fun x i h => by rw [up_ne (Or.inl h), up_ne (Or.inl h), up_ne (Or.inl h), h2' x i h]
      refine hy (by omega) _ (RSt_w hR (fun i i0 i1 => ?_) (fun x i hx => f x i (by omega))) (fun x i hx => f x i (by omega))
      unfold frsh
      by_cases z3 : i = 3
      · rw [z3, up_eq, if_neg (by decide), if_neg (by decide), if_pos rfl]
      · rw [up_ne (Or.inr z3)]
        by_cases z1 : i = 1
        · rw [z1, up_eq, if_neg (by decide), if_pos rfl]
        · rw [up_ne (Or.inr z1)]
          by_cases z0 : i = 0
          · rw [z0, up_eq, if_pos rfl]
          · rw [up_ne (Or.inr z0), h1' i i0 (by omega), if_neg z0, if_neg z1, if_neg z3]
    | succ d ih =>
      intro k hk μ1 h1' h2'
      have nx : ∀ v : Int, v = (if 5 ≤ (k : Int) ∧ (k : Int) < 165 then 1 else 0) → WA mX10_fresh 0 (0, 0) 2 [(2, 493), (0, s), (0, a), (0, (k : Int) + 1)] [] (L0 n) (up μ1 494 k v) (fun r13 L14 μ15 => r13 = none ∧ (L0 n) = L14 ∧ Q (some (0, σ.w 1)) (L0 n) μ15) := fun v hv => ih (k + 1) (by omega) _ (fun i i0 i1 => by
        by_cases z : i = (k : Int)
        · rw [z, up_eq, hv]
        · rw [up_ne (Or.inr z), h1' i i0 (by omega)]) (fun x i hx => by rw [up_ne (Or.inl hx), h2' x i hx])
      apply s_X10_fresh_2 (layOK n) k493
      rw [rf_ref.1]
      exact ⟨fun z => absurd z (by omega), fun _ => ⟨fun z => ⟨⟨by omega, by omega⟩, ⟨by omega, by omega⟩, nx 0 (by rw [if_neg (by omega)])⟩, fun z => ⟨fun z2 => ⟨⟨by omega, by omega⟩, ⟨by omega, by omega⟩, nx 0 (by rw [if_neg (by omega)])⟩, fun z2 => ⟨⟨by omega, by omega⟩, ⟨by omega, by omega⟩, nx 1 (by rw [if_pos (by omega)])⟩⟩⟩⟩
  exact key 510 0 (by omega) μ (fun i i0 i1 => absurd i1 (by omega)) (fun _ _ _ => rfl)
theorem R_worth {σ : Sg} {a s v : Int} (hR : RSt μ σ) (ho : OKs σ)
    (hy : (0 ≤ a ∧ a < σ.w 1) ∧ (0 ≤ s ∧ s < σ.w 0) ∧ (0 ≤ v ∧ v ≤ 9) → ∀ μ', RSt μ' (σ.setW (updW (updW σ.w (5 + 16 * a + s) v) (85 + 16 * a + s) v)) → frR' μ μ' → Q (some (0, σ.w (5 + 16 * a + s))) (L0 n) μ')
    (hn : ¬ ((0 ≤ a ∧ a < σ.w 1) ∧ (0 ≤ s ∧ s < σ.w 0) ∧ (0 ≤ v ∧ v ≤ 9)) → Q (some (0, -1)) (L0 n) μ) : TR mX10_worth 2 (0, 0) [(2, 493), (0, a), (0, s), (0, v)] (L0 n) μ Q := by
  have hS := ho.1.1.1
  have hN := ho.1.1.2.1
  apply t_X10_worth (layOK n) k493
  refine c_X10_isAgent hR.1 ho.1.1 fun r1 h1 => ⟨r1, rfl, rfl, fun q => hn (by omega), fun q => c_X10_isStrip hR.1 ho.1.1 fun r2 h2 => ⟨r2, rfl, rfl, fun q2 => hn (by omega), fun q2 => c_X10_in fun r3 h3 => ⟨r3, rfl, rfl, fun q3 => ?_, fun q3 => hn (by omega)⟩⟩⟩
  have ha : 0 ≤ a ∧ a < 5 := by omega
  have hs : 0 ≤ s ∧ s < 16 := by omega
  have hb := WK_row ho.1 (5 + 16 * a + s) (by omega) (by omega)
  refine c_X10_worthOf hR.1 ha ⟨by omega, by omega⟩ ⟨_, rfl, rfl, ?_⟩
  have e : rowW σ.w a 0 s = σ.w (5 + 16 * a + s) := by unfold rowW; rw [if_pos rfl]
  rw [rf_ref.1, e]
  refine ⟨⟨by omega, by omega⟩, ⟨by omega, by omega⟩, ⟨by omega, by omega⟩, ⟨by omega, by omega⟩, ⟨by omega, by omega⟩, ⟨by omega, by omega⟩, ⟨by omega, by omega⟩, ⟨by omega, by omega⟩, hy (by omega) _ (RSt_up (RSt_up hR)) (fun x i hx => by rw [up_ne (by omega), up_ne (by omega)])⟩
theorem R_tells {σ : Sg} {a s v : Int} (hR : RSt μ σ) (ho : OKs σ)
    (hy : (0 ≤ a ∧ a < σ.w 1) ∧ (0 ≤ s ∧ s < σ.w 0) ∧ (0 ≤ v ∧ v ≤ 9) → ∀ μ', RSt μ' (σ.setW (updW σ.w (85 + 16 * a + s) v)) → frR' μ μ' → Q (some (0, σ.w (85 + 16 * a + s))) (L0 n) μ')
    (hn : ¬ ((0 ≤ a ∧ a < σ.w 1) ∧ (0 ≤ s ∧ s < σ.w 0) ∧ (0 ≤ v ∧ v ≤ 9)) → Q (some (0, -1)) (L0 n) μ) : TR mX10_tells 2 (0, 0) [(2, 493), (0, a), (0, s), (0, v)] (L0 n) μ Q := by
  have hS := ho.1.1.1
  have hN := ho.1.1.2.1
  apply t_X10_tells (layOK n) k493
  refine c_X10_isAgent hR.1 ho.1.1 fun r1 h1 => ⟨r1, rfl, rfl, fun q => hn (by omega), fun q => c_X10_isStrip hR.1 ho.1.1 fun r2 h2 => ⟨r2, rfl, rfl, fun q2 => hn (by omega), fun q2 => c_X10_in fun r3 h3 => ⟨r3, rfl, rfl, fun q3 => ?_, fun q3 => hn (by omega)⟩⟩⟩
  have ha : 0 ≤ a ∧ a < 5 := by omega
  have hs : 0 ≤ s ∧ s < 16 := by omega
  have hb := WK_row ho.1 (85 + 16 * a + s) (by omega) (by omega)
  refine c_X10_worthOf hR.1 ha ⟨by omega, by omega⟩ ⟨_, rfl, rfl, ?_⟩
  have e : rowW σ.w a 1 s = σ.w (85 + 16 * a + s) := by unfold rowW; rw [if_neg (by decide)]
  rw [rf_ref.1, e]
  refine ⟨⟨by omega, by omega⟩, ⟨by omega, by omega⟩, ⟨by omega, by omega⟩, ⟨by omega, by omega⟩, ⟨by omega, by omega⟩, hy (by omega) _ (RSt_up hR) (fun x i hx => by rw [up_ne (by omega)])⟩
theorem R_honest {σ : Sg} {a : Int} (hR : RSt μ σ) (ho : OKs σ)
    (hy : (0 ≤ a ∧ a < σ.w 1) → ∀ μ', RSt μ' (σ.setW (honK σ.w a (σ.w 0))) → frR' μ μ' → Q (some (0, honC σ.w a (σ.w 0).toNat)) (L0 n) μ')
    (hn : ¬ (0 ≤ a ∧ a < σ.w 1) → Q (some (0, -1)) (L0 n) μ) : TR mX10_honest 2 (0, 0) [(2, 493), (0, a)] (L0 n) μ Q := by
  have hS := ho.1.1.1
  have hN := ho.1.1.2.1
  apply t_X10_honest (layOK n) k493
  refine c_X10_isAgent hR.1 ho.1.1 fun r1 h1 => ⟨r1, rfl, rfl, fun q => ?_, fun q => hn (by omega)⟩
  have ha : 0 ≤ a ∧ a < 5 := by omega
  have key : ∀ (d k : Nat), k + d = (σ.w 0).toNat → ∀ μ1, RSt μ1 (σ.setW (honK σ.w a k)) → frR' μ μ1 → WA mX10_honest 2 (0, 0) 14 [(2, 493), (0, a), (0, honC σ.w a k), (0, (k : Int))] [] (L0 n) μ1 Q := by
    intro d
    induction d with
    | zero =>
      intro k hk μ1 c1 f1
      have hk : k = (σ.w 0).toNat := by omega
      have ek : (k : Int) = σ.w 0 := by omega
      have o1 : OKs (σ.setW (honK σ.w a k)) := OK_w ho (honK_WK ho.1 ha (by omega))
      have e0 : (σ.setW (honK σ.w a k)).w 0 = σ.w 0 := by show honK σ.w a k 0 = _; unfold honK; rw [if_neg (by omega)]
      apply s_X10_honest_14 (layOK n) k493
      refine c_X10_strips c1.1 o1.1.1 ⟨_, rfl, rfl, fun _ => ?_, fun z => absurd (show (σ.setW (honK σ.w a k)).w 0 ≤ (k : Int) by omega) z⟩
      rw [ek] at c1
      rw [hk]
      exact hy (by omega) μ1 c1 f1
    | succ d ih =>
      intro k hk μ1 c1 f1
      have hb := honC_b (w := σ.w) (a := a) k
      have o1 : OKs (σ.setW (honK σ.w a k)) := OK_w ho (honK_WK ho.1 ha (by omega))
      have e0 : (σ.setW (honK σ.w a k)).w 0 = σ.w 0 := by show honK σ.w a k 0 = _; unfold honK; rw [if_neg (by omega)]
      have g1 : rowW (σ.setW (honK σ.w a k)).w a 0 k = σ.w (5 + 16 * a + k) := by show (if (0 : Int) = 0 then honK σ.w a k _ else _) = _; rw [if_pos rfl]; unfold honK; rw [if_neg (by omega)]
      have g2 : rowW (σ.setW (honK σ.w a k)).w a 1 k = σ.w (85 + 16 * a + k) := by show (if (1 : Int) = 0 then _ else honK σ.w a k _) = _; rw [if_neg (by decide)]; unfold honK; rw [if_neg (by omega)]
      have st := honK_step (w := σ.w) (a := a) (k := (k : Int)) (by omega)
      have ec : honC σ.w a (k + 1) = honC σ.w a k + if σ.w (85 + 16 * a + k) = σ.w (5 + 16 * a + k) then 0 else 1 := rfl
      have next := ih (k + 1) (by omega)
      rw [show (((k + 1 : Nat)) : Int) = (k : Int) + 1 by omega, st, ec] at next
      have nx := next (up μ1 494 (85 + 16 * a + k) (σ.w (5 + 16 * a + k))) (RSt_up c1) (fun x i hx => by rw [up_ne (by omega), f1 x i hx])
      apply s_X10_honest_14 (layOK n) k493
      refine c_X10_strips c1.1 o1.1.1 ⟨_, rfl, rfl, fun z => absurd z (by omega), fun _ => ?_⟩
      refine c_X10_worthOf c1.1 ha ⟨by omega, by omega⟩ ⟨_, rfl, rfl, c_X10_worthOf c1.1 ha ⟨by omega, by omega⟩ ⟨_, rfl, rfl, fun z => ?_, fun z => ?_⟩⟩
      · rw [g1, g2] at z
        rw [if_neg (fun y => z y.symm)] at nx
        refine ⟨⟨by omega, by omega⟩, ⟨by omega, by omega⟩, ⟨by omega, by omega⟩, ⟨by omega, by omega⟩, c_X10_worthOf c1.1 ha ⟨by omega, by omega⟩ ⟨_, rfl, rfl, ⟨by omega, by omega⟩, ⟨by omega, by omega⟩, ?_⟩⟩
        rw [rf_ref.1, g1]
        exact nx
      · rw [g1, g2] at z
        rw [if_pos z.symm] at nx
        refine ⟨⟨by omega, by omega⟩, ⟨by omega, by omega⟩, ⟨by omega, by omega⟩, ⟨by omega, by omega⟩, c_X10_worthOf c1.1 ha ⟨by omega, by omega⟩ ⟨_, rfl, rfl, ⟨by omega, by omega⟩, ⟨by omega, by omega⟩, ?_⟩⟩
        rw [rf_ref.1, g1]
        exact nx
  have := key (σ.w 0).toNat 0 (by omega) μ (by rw [show ((0 : Nat) : Int) = 0 from rfl, honK_0, setW_self]; exact hR) frR'_rf
  exact this
theorem R_strip {σ : Sg} {a s how : Int} (hR : RSt μ σ) (ho : OKs σ)
    (hy : (0 ≤ a ∧ a < σ.w 1) ∧ (0 ≤ s ∧ s < σ.w 0) ∧ (how = 0 ∨ how = 1) → Q (some (0, rowW σ.w a how s)) (L0 n) μ)
    (hn : ¬ ((0 ≤ a ∧ a < σ.w 1) ∧ (0 ≤ s ∧ s < σ.w 0) ∧ (how = 0 ∨ how = 1)) → Q (some (0, -1)) (L0 n) μ) : TR mX10_strip 2 (0, 0) [(2, 493), (0, a), (0, s), (0, how)] (L0 n) μ Q := by
  have hS := ho.1.1.1
  have hN := ho.1.1.2.1
  apply t_X10_strip (layOK n) k493
  refine c_X10_isAgent hR.1 ho.1.1 fun r1 h1 => ⟨r1, rfl, rfl, fun q => hn (by omega), fun q => c_X10_isStrip hR.1 ho.1.1 fun r2 h2 => ⟨r2, rfl, rfl, fun q2 => hn (by omega), fun q2 => c_X10_in fun r3 h3 => ⟨r3, rfl, rfl, fun q3 => hn (by omega), fun q3 => ?_⟩⟩⟩
  have ha : 0 ≤ a ∧ a < 5 := by omega
  have hb := ho.1.1.2.2 a how ha.1 ha.2 s (by omega) (by omega)
  exact c_X10_worthOf hR.1 ha ⟨by omega, by omega⟩ ⟨_, rfl, rfl, ⟨by omega, by omega⟩, hy (by omega)⟩
theorem R_span {σ : Sg} {ag' how a b c d part : Int} (hR : RSt μ σ) (ho : OKs σ)
    (hy : ((0 ≤ ag' ∧ ag' < σ.w 1) ∧ (how = 0 ∨ how = 1) ∧ (part = 0 ∨ part = 1)) ∧ ((1 ≤ b ∧ b ≤ 1000) ∧ 0 ≤ a ∧ a ≤ σ.w 0 * b) ∧ ((1 ≤ d ∧ d ≤ 1000) ∧ 0 ≤ c ∧ c ≤ σ.w 0 * d) ∧ a * d ≤ c * b → ∀ μ', RSt μ' σ → frR' μ μ' → Q (some (1, frac (wvN (rowW σ.w ag' how) (σ.w 0).toNat (a, b) (c, d)) (wvD (a, b) (c, d)) part)) (L0 n) μ')
    (hn : ¬ (((0 ≤ ag' ∧ ag' < σ.w 1) ∧ (how = 0 ∨ how = 1) ∧ (part = 0 ∨ part = 1)) ∧ ((1 ≤ b ∧ b ≤ 1000) ∧ 0 ≤ a ∧ a ≤ σ.w 0 * b) ∧ ((1 ≤ d ∧ d ≤ 1000) ∧ 0 ≤ c ∧ c ≤ σ.w 0 * d) ∧ a * d ≤ c * b) → Q (some (1, NOv)) (L0 n) μ) : TR mX10_span 3 (0, 0) [(2, 493), (0, ag'), (0, how), (0, a), (0, b), (0, c), (0, d), (0, part)] (L0 n) μ Q := by
  have hS := ho.1.1.1
  have hN := ho.1.1.2.1
  refine TR.okM fun _ hav => ?_
  have a31 : inI a := (hav (0, a) (by simp)).1 rfl
  have c31 : inI c := (hav (0, c) (by simp)).1 rfl
  apply t_X10_span (layOK n) k493
  rw [rf_ref.1]
  refine c_X10_isAgent hR.1 ho.1.1 fun r1 h1 => ⟨r1, rfl, rfl, fun q => hn (by omega), fun q => c_X10_in fun r2 h2 => ⟨r2, rfl, rfl, fun q2 => hn (by omega), fun q2 => c_X10_in fun r3 h3 => ⟨r3, rfl, rfl, fun q3 => hn (by omega), fun q3 => c_X10_in fun r4 h4 => ⟨r4, rfl, rfl, fun q4 => hn (by omega), fun q4 => c_X10_in fun r5 h5 => ⟨r5, rfl, rfl, fun q5 => hn (by omega), fun q5 => ⟨fun q6 => hn (by omega), fun q6 => ⟨fun q7 => ?_, fun q7 => hn (by omega)⟩⟩⟩⟩⟩⟩⟩
  have sb := mulLB (show 0 ≤ σ.w 0 by omega) (show 0 ≤ b by omega) hS.2 (show b ≤ 1000 by omega)
  have sd := mulLB (show 0 ≤ σ.w 0 by omega) (show 0 ≤ d by omega) hS.2 (show d ≤ 1000 by omega)
  rw [hR.1 0 (by decide) (by decide)]
  refine ⟨⟨by omega, by omega⟩, fun q8 => hn (by omega), fun q8 => ⟨⟨by omega, by omega⟩, fun q9 => hn (by omega), fun q9 => ?_⟩⟩
  have bd := mulLB (show 0 ≤ b by omega) (show 0 ≤ d by omega) (show b ≤ 1000 by omega) (show d ≤ 1000 by omega)
  have adb := mulLB (show 0 ≤ a by omega) (show 0 ≤ d by omega) (show a ≤ 16000 by omega) (show d ≤ 1000 by omega)
  have cbb := mulLB (show 0 ≤ c by omega) (show 0 ≤ b by omega) (show c ≤ 16000 by omega) (show b ≤ 1000 by omega)
  have bdp : 0 < b * d := Int.mul_pos (by omega) (by omega)
  refine ⟨⟨by omega, by omega⟩, ⟨by omega, by omega⟩, fun q10 => ?_, fun q10 => hn (by omega)⟩
  refine c_X10_worthBetween (p := (a, b)) (q := (c, d)) (u := b * d) hR.1 ho.1.1 ⟨by omega, by omega⟩ ⟨by omega, show 0 < b by omega, show a ≤ σ.w 0 * b by omega⟩ ⟨by omega, show 0 < d by omega, show c ≤ σ.w 0 * d by omega⟩ q10 ⟨bdp, by omega⟩ ⟨d, rfl⟩ ⟨b, Int.mul_comm _ _⟩ fun μ1 f1 fr1 => ⟨rfl, rfl, c_X10_partOf fr1 ⟨_, rfl, rfl, ?_⟩⟩
  exact hy (by omega) μ1 (RSt_fr hR (frQ_Y f1)) (frY_R (frQ_Y f1))
theorem R_mark {σ : Sg} {ag' a b x y part : Int} (hR : RSt μ σ) (ho : OKs σ)
    (hy : (0 ≤ ag' ∧ ag' < σ.w 1) ∧ ((1 ≤ b ∧ b ≤ 1000) ∧ 0 ≤ a ∧ a ≤ σ.w 0 * b) ∧ 0 ≤ x ∧ (1 ≤ y ∧ y ≤ 20) ∧ (part = 0 ∨ part = 1) → ∀ μ', RSt μ' σ → frR' μ μ' → Q (some (1, match markR (rowW σ.w ag' 1) (σ.w 0).toNat a b (cum (rowW σ.w ag' 1) (σ.w 0).toNat * x) y with | some m => if part = 0 then m.1 else m.2 | none => NOv)) (L0 n) μ')
    (hn : ¬ ((0 ≤ ag' ∧ ag' < σ.w 1) ∧ ((1 ≤ b ∧ b ≤ 1000) ∧ 0 ≤ a ∧ a ≤ σ.w 0 * b) ∧ 0 ≤ x ∧ (1 ≤ y ∧ y ≤ 20) ∧ (part = 0 ∨ part = 1)) → Q (some (1, NOv)) (L0 n) μ) : TR mX10_mark 3 (0, 0) [(2, 493), (0, ag'), (0, a), (0, b), (0, x), (0, y), (0, part)] (L0 n) μ Q := by
  have hS := ho.1.1.1
  have hN := ho.1.1.2.1
  refine TR.okM fun _ hav => ?_
  have hx31 : inI x := (hav (0, x) (by simp)).1 rfl
  have hx32 := hx31.2
  apply t_X10_mark (layOK n) k493
  rw [rf_ref.1]
  refine c_X10_isAgent hR.1 ho.1.1 fun r1 h1 => ⟨r1, rfl, rfl, fun q => hn (by omega), fun q => c_X10_in fun r2 h2 => ⟨r2, rfl, rfl, fun q2 => hn (by omega), fun q2 => c_X10_in fun r3 h3 => ⟨r3, rfl, rfl, fun q3 => hn (by omega), fun q3 => ⟨fun q4 => hn (by omega), fun q4 => c_X10_in fun r5 h5 => ⟨r5, rfl, rfl, fun q5 => hn (by omega), fun q5 => ⟨fun q6 => hn (by omega), fun q6 => ?_⟩⟩⟩⟩⟩⟩
  have sb := mulLB (show 0 ≤ σ.w 0 by omega) (show 0 ≤ b by omega) hS.2 (show b ≤ 1000 by omega)
  rw [hR.1 0 (by decide) (by decide)]
  refine ⟨⟨by omega, by omega⟩, fun q7 => ?_, fun q7 => hn (by omega)⟩
  have ha : 0 ≤ ag' ∧ ag' < 5 := by omega
  have hrow := ho.1.1.2.2 ag' 1 ha.1 ha.2
  have cb := cum_b hrow (σ.w 0).toNat (by omega)
  have tx := mulLB cb.1 (show 0 ≤ x by omega) (show cum (rowW σ.w ag' 1) (σ.w 0).toNat ≤ 144 by omega) (show x ≤ 2147483647 by omega)
  refine c_X10_allOf hR.1 ho.1.1 ha ⟨_, rfl, rfl, ⟨by omega, by omega⟩, c_X10_becomes tx.1 (by omega) fun μ1 f1 fr1 => ⟨rfl, rfl, ?_⟩⟩
  rw [fr1.1, fr1.2]
  generalize hT : cum (rowW σ.w ag' 1) (σ.w 0).toNat * x = T at *
  have vp := rdD_pos (x := T) (show 0 < y by omega)
  have vn := rdN_nn (y := y) tx.1
  have vl := rdN_le (y := y) tx.1
  have vd := rdD_le (x := T) (show 0 ≤ y by omega)
  have bv : 0 < b * rdD T y := Int.mul_pos (by omega) vp
  have bv2 := mulLB (show 0 ≤ b by omega) (show 0 ≤ rdD T y by omega) (show b ≤ 1000 by omega) (show rdD T y ≤ 20 by omega)
  have em : markR (rowW σ.w ag' 1) (σ.w 0).toNat a b (rdN T y) (rdD T y) = markR (rowW σ.w ag' 1) (σ.w 0).toNat a b T y := markR_any (by omega) vp (by omega) (rd_cross T y)
  have rn := rdN_le (y := rdD T y) (show 0 ≤ b by omega)
  have rn0 := rdN_nn (y := rdD T y) (show 0 ≤ b by omega)
  have hb := mulLB vn rn0 (show rdN T y ≤ 400000000000 by omega) (show rdN b (rdD T y) ≤ 1000 by omega)
  have hR1 := RSt_fr hR (frQ_Y f1)
  have hy := hy (by omega)
  refine c_X10_marks (p := (a, b)) (v := (rdN T y, rdD T y)) (u := b * rdD T y) hR1.1 ho.1.1 ha ⟨by omega, show 0 < b by omega, show a ≤ σ.w 0 * b by omega⟩ ⟨vn, vp⟩ ⟨bv, by omega⟩ ⟨_, rfl⟩ ⟨b, Int.mul_comm _ _⟩ (by show rdN T y * rdN b (rdD T y) ≤ _; omega) ?_ ?_
  · intro m e μ2 f2 fr2
    have e : markR (rowW σ.w ag' 1) (σ.w 0).toNat a b T y = some m := em.symm.trans e
    rw [e] at hy
    refine ⟨1, rfl, rfl, fun z => absurd z (by decide), fun _ => c_X10_partOf fr2 ⟨_, rfl, rfl, ?_⟩⟩
    have F := frY_tr (frQ_Y f1) (frQ_Y f2)
    exact hy μ2 (RSt_fr hR F) (frY_R F)
  · intro e
    have e : markR (rowW σ.w ag' 1) (σ.w 0).toNat a b T y = none := em.symm.trans e
    rw [e] at hy
    exact ⟨0, rfl, rfl, fun _ => hy μ1 hR1 (frY_R (frQ_Y f1)), fun z => absurd rfl z⟩
end
