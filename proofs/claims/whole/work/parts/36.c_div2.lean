/-! contracts: Division: the unit, what is held, trimmed off, left over -/
theorem prt_mono {S u x y x' y' : Int} (h : ptW S u x y) (h' : ptW S u x' y') (hu : 1 ≤ u) (hS : 0 ≤ S) (hc : x * y' ≤ x' * y) : prt u x y ≤ prt u x' y' := by
  obtain ⟨-, -, e1⟩ := prt_b h hu hS
  obtain ⟨-, -, e2⟩ := prt_b h' hu hS
  have hy : 0 < y := by have := h.2.1; omega
  have hy' : 0 < y' := by have := h'.2.1; omega
  have k1 : prt u x y * (y * y') = x * y' * u := by rw [← Int.mul_assoc, e1]; ac_rfl
  have k2 : prt u x' y' * (y * y') = x' * y * u := by rw [Int.mul_comm y y', ← Int.mul_assoc, e2]; ac_rfl
  have k3 := Int.mul_le_mul_of_nonneg_right hc (show 0 ≤ u by omega)
  exact Int.le_of_mul_le_mul_right (by rw [k1, k2]; exact k3) (Int.mul_pos hy hy')
/-- what a row has of a span, in parts of u -/
def spn (row : Int → Int) (S : Nat) (u x y x' y' : Int) : Int := pw row (prt u x' y') u S - pw row (prt u x y) u S
theorem spn_b {row : Int → Int} {S : Nat} {u x y x' y' : Int} (hw : rowOK row) (hS : S ≤ 16) (hu : 1 ≤ u) (h : ptW S u x y) (h' : ptW S u x' y') (hc : x * y' ≤ x' * y) : 0 ≤ spn row S u x y x' y' ∧ spn row S u x y x' y' ≤ 144 * u := by
  have m := prt_mono h h' hu (by omega) hc
  have h1 := pw_mono (u := u) hw m S hS
  have h2 := pw_b144 (P := prt u x' y') hw (show 0 ≤ u by omega) hS
  have h3 := pw_b144 (P := prt u x y) hw (show 0 ≤ u by omega) hS
  unfold spn
  omega
def hldK (row : Int → Int) (S : Nat) (w : Int → Int) (a k : Int) : Int := spn row S (w 3) (w (170 + 8 * a + 4 * k)) (w (171 + 8 * a + 4 * k)) (w (172 + 8 * a + 4 * k)) (w (173 + 8 * a + 4 * k))
/-- what a row has of a's share, in parts of the unit -/
def hld (row : Int → Int) (S : Nat) (w : Int → Int) (a : Int) : Int := (if 0 < w (165 + a) then hldK row S w a 0 else 0) + (if 1 < w (165 + a) then hldK row S w a 1 else 0)
theorem hldK_b {row : Int → Int} {S : Nat} {w : Int → Int} {a k : Int} (hw : rowOK row) (hS : S ≤ 16) (hu : WFu w) (hs : WFs S w) (ha : 0 ≤ a ∧ a < 5) (hk : 0 ≤ k ∧ k < w (165 + a)) : 0 ≤ hldK row S w a k ∧ hldK row S w a k ≤ 144 * w 3 := by
  obtain ⟨h1, h2, h3⟩ := (hs a ha.1 ha.2).2 k hk.1 hk.2
  exact spn_b hw hS hu.1 h1 h2 h3
theorem hld_b {row : Int → Int} {S : Nat} {w : Int → Int} {a : Int} (hw : rowOK row) (hS : S ≤ 16) (hu : WFu w) (hs : WFs S w) (ha : 0 ≤ a ∧ a < 5) : 0 ≤ hld row S w a ∧ hld row S w a ≤ 288 * w 3 := by
  have h0 := fun h => hldK_b (k := 0) hw hS hu hs ha ⟨by omega, h⟩
  have h1 := fun h => hldK_b (k := 1) hw hS hu hs ha ⟨by omega, h⟩
  have := hu.1
  unfold hld
  split <;> split <;> (try have g0 := h0 (by assumption)) <;> (try have g1 := h1 (by assumption)) <;> omega
def trm (row : Int → Int) (S : Nat) (w : Int → Int) : Nat → Int
  | 0 => 0
  | k + 1 => trm row S w k + if w (210 + 6 * (k : Int)) = 1 then spn row S (w 3) (w (212 + 6 * (k : Int))) (w (213 + 6 * (k : Int))) (w (214 + 6 * (k : Int))) (w (215 + 6 * (k : Int))) else 0
theorem trm_b {row : Int → Int} {S : Nat} {w : Int → Int} (hw : rowOK row) (hS : S ≤ 16) (hu : WFu w) (he : WFe S w) : ∀ k : Nat, (k : Int) ≤ w 4 → 0 ≤ trm row S w k ∧ trm row S w k ≤ 144 * w 3 * k
  | 0, _ => by simp [trm]
  | k + 1, h => by
    have ih := trm_b hw hS hu he k (by omega)
    obtain ⟨-, -, h1, h2, h3⟩ := he.2.2 k (by omega) (by omega)
    have hu1 := hu.1
    rw [show ((k + 1 : Nat) : Int) = (k : Int) + 1 by omega, Int.mul_add, Int.mul_one]
    unfold trm
    split
    · rename_i q
      have := spn_b hw hS hu1 h1 h2 (h3 q)
      omega
    · omega
def sumH (row : Int → Int) (S : Nat) (w : Int → Int) : Nat → Int
  | 0 => 0
  | k + 1 => sumH row S w k + hld row S w k
section
variable {n : Int} {μ : Mem} {Q : Option AV → Lay → Mem → Prop}
theorem c_X1_takesIn {D p : Int} (kD : isK (L0 n) D (1, 0)) (kp : isK (L0 n) p (3, 0)) (hp : outD D p) (hu : 1 ≤ μ D 2 ∧ μ D 2 ≤ 1000000000) (hp1 : 1 ≤ μ p 1 ∧ μ p 1 < 281474976710656)
    (ht : μ p 1 ≤ 1000000000 → rdN (μ D 2) (μ p 1) * μ p 1 ≤ 1000000000 → ∀ μ', μ' D 2 = rdN (μ D 2) (μ p 1) * μ p 1 → (∀ x i, (x ≠ D ∨ i ≠ 2) → x ≠ D + 6 → μ' x i = μ x i) → Q (some (0, 1)) (L0 n) μ')
    (hf : (1000000000 < μ p 1 ∨ 1000000000 < rdN (μ D 2) (μ p 1) * μ p 1) → ∀ μ', μ' D 1 = 1 → (∀ x i, (x ≠ D ∨ i ≠ 1) → x ≠ D + 6 → μ' x i = μ x i) → Q (some (0, 0)) (L0 n) μ') : TR mX1_takesIn 2 (0, 0) [(2, D), (2, p)] (L0 n) μ Q := by
  have hD := dv_is kD
  unfold outD at hp
  have kR := (dv_K kD).2.2.2
  apply t_X1_takesIn (layOK n) kD kp
  rw [(dv_rf hD).2.2.2.2.2]
  refine c_X3_put kR (by omega) (by omega) (by omega) ⟨rfl, rfl, fun q => ?_, fun q => ?_⟩
  · refine hf (Or.inl q) _ (up_eq _ _ _ _) (fun x i h1 h2 => ?_)
    rw [up_ne h1, up_ne (Or.inl h2), up_ne (Or.inl h2)]
  · have e : up (up μ (D + 6) 0 (rdN (μ D 2) (μ p 1))) (D + 6) 1 (rdD (μ D 2) (μ p 1)) (D + 6) 0 = rdN (μ D 2) (μ p 1) := by
      rw [up_ne (Or.inr (by omega)), up_eq]
    rw [e]
    have r0 := rdN_nn (x := μ D 2) (y := μ p 1) (by omega)
    have r1 := rdN_le (x := μ D 2) (y := μ p 1) (by omega)
    have m := mulLB r0 (show 0 ≤ μ p 1 by omega) (show rdN (μ D 2) (μ p 1) ≤ 1000000000 by omega) (show μ p 1 ≤ 1000000000 by omega)
    refine ⟨⟨by omega, by omega⟩, fun q2 => ?_, fun q2 => ?_⟩
    · refine ht (by omega) q2 _ (up_eq _ _ _ _) (fun x i h1 h2 => ?_)
      rw [up_ne h1, up_ne (Or.inl h2), up_ne (Or.inl h2)]
    · refine hf (Or.inr (by omega)) _ (up_eq _ _ _ _) (fun x i h1 h2 => ?_)
      rw [up_ne h1, up_ne (Or.inl h2), up_ne (Or.inl h2)]
theorem c_X1_holds {D a c r : Int} {w : Int → Int} (kD : isK (L0 n) D (1, 0)) (kc : isK (L0 n) c (0, 0)) (kr : isK (L0 n) r (20, 16)) (ha : 0 ≤ a ∧ a < 5) (hS : 2 ≤ μ c 0 ∧ μ c 0 ≤ 16) (hw : rowOK (μ r)) (hr : DR μ D w) (hu : WFu w) (hs : WFs (μ c 0) w)
    (h : Q (some (1, hld (μ r) (μ c 0).toNat w a)) (L0 n) μ) : TR mX1_holds 3 (0, 0) [(2, D), (0, a), (2, c), (2, r)] (L0 n) μ Q := by
  have hD := dv_is kD
  obtain ⟨r1, -, r2, r3⟩ := hr
  unfold DRu at r1
  have hSn : (((μ c 0).toNat : Nat) : Int) = μ c 0 := by omega
  have hm := (hs a ha.1 ha.2).1
  have hu1 := hu.1
  have hu2 := hu.2
  have Su := S_mul_le (S := μ c 0) (u := w 3) (by omega) (by omega)
  apply t_X1_holds (layOK n) kD kc kr
  -- one span
  have step : ∀ (k acc : Int), 0 ≤ k → k < w (165 + a) → -100000000000000 ≤ acc → acc ≤ 100000000000000 → (WA mX1_holds 3 (0, 0) 6 [(2, D), (0, a), (2, c), (2, r), (1, acc + hldK (μ r) (μ c 0).toNat w a k), (9, 0), (0, k + 1), (9, 0)] [] (L0 n) μ Q) → WA mX1_holds 3 (0, 0) 6 [(2, D), (0, a), (2, c), (2, r), (1, acc), (9, 0), (0, k), (9, 0)] [] (L0 n) μ Q := by
    intro k acc k0 k1 a0 a1 hnext
    have kH := hl_K kD ha ⟨k0, by omega⟩
    obtain ⟨e1, e2, e3, e4⟩ := sp_at kH
    obtain ⟨g0, g1, g2, g3⟩ := r3 a k ha.1 ha.2 k0 k1
    obtain ⟨w1, w2, w3⟩ := (hs a ha.1 ha.2).2 k k0 k1
    have b1 := prt_b w1 hu1 (by omega)
    have b2 := prt_b w2 hu1 (by omega)
    have hb := hldK_b hw (show (μ c 0).toNat ≤ 16 by omega) hu (by rw [hSn]; exact hs) ha ⟨k0, k1⟩
    apply s_X1_holds_6 (layOK n) kD kc kr
    rw [(dv_rf hD).2.1, r2 a ha.1 ha.2]
    refine ⟨ha, fun q => absurd q (by omega), fun _ => c_X1_held kD ha ⟨k0, by omega⟩ ⟨_, rfl, rfl, kH, ?_⟩⟩
    rw [e1, e2, r1]
    have p1 : ptP μ (hl D a k + 1) (w 3) = prt (w 3) (w (170 + 8 * a + 4 * k)) (w (171 + 8 * a + 4 * k)) := by unfold ptP prt; rw [g0, g1]
    have p2 : ptP μ (hl D a k + 2) (w 3) = prt (w 3) (w (172 + 8 * a + 4 * k)) (w (173 + 8 * a + 4 * k)) := by unfold ptP prt; rw [g2, g3]
    refine c_X0_between kc kr e3 e4 ⟨by omega, by omega⟩ hw ⟨by omega, by omega⟩ (by rw [g1]; exact w1.2.1) (by rw [g3]; exact w2.2.1) (by rw [p1]; exact ⟨b1.1, by omega⟩) (by rw [p2]; exact ⟨b2.1, by omega⟩) ⟨_, rfl, rfl, ?_⟩
    rw [p1, p2]
    show inL (acc + hldK (μ r) (μ c 0).toNat w a k) ∧ _
    exact ⟨⟨by omega, by omega⟩, ⟨by omega, by omega⟩, hnext⟩
  have fin : ∀ (k acc : Int), w (165 + a) ≤ k → acc = hld (μ r) (μ c 0).toNat w a → WA mX1_holds 3 (0, 0) 6 [(2, D), (0, a), (2, c), (2, r), (1, acc), (9, 0), (0, k), (9, 0)] [] (L0 n) μ Q := by
    intro k acc hk hacc
    apply s_X1_holds_6 (layOK n) kD kc kr
    rw [(dv_rf hD).2.1, r2 a ha.1 ha.2, hacc]
    exact ⟨ha, fun _ => h, fun q => absurd hk q⟩
  have hb := fun k q => hldK_b (k := k) hw (show (μ c 0).toNat ≤ 16 by omega) hu (by rw [hSn]; exact hs) ha q
  by_cases h0 : 0 < w (165 + a)
  · have b0 := hb 0 ⟨by omega, h0⟩
    refine step 0 0 (by omega) h0 (by omega) (by omega) ?_
    by_cases h1 : 1 < w (165 + a)
    · have b1 := hb 1 ⟨by omega, h1⟩
      refine step (0 + 1) _ (by omega) h1 (by omega) (by omega) (fin _ _ (by omega) ?_)
      unfold hld
      rw [if_pos h0, if_pos h1, Int.zero_add]
      rfl
    · refine fin _ _ (by omega) ?_
      unfold hld
      rw [if_pos h0, if_neg h1]
      omega
  · refine fin _ _ (by omega) ?_
    unfold hld
    rw [if_neg h0, if_neg (by omega)]
    rfl
theorem c_X1_trimmedOff {D c r : Int} {w : Int → Int} (kD : isK (L0 n) D (1, 0)) (kc : isK (L0 n) c (0, 0)) (kr : isK (L0 n) r (20, 16)) (hS : 2 ≤ μ c 0 ∧ μ c 0 ≤ 16) (hw : rowOK (μ r)) (hr : DR μ D w) (hu : WFu w) (he : WFe (μ c 0) w)
    (h : Q (some (1, trm (μ r) (μ c 0).toNat w (w 4).toNat)) (L0 n) μ) : TR mX1_trimmedOff 3 (0, 0) [(2, D), (2, c), (2, r)] (L0 n) μ Q := by
  have hD := dv_is kD
  obtain ⟨r1, ⟨r2, r3⟩, -⟩ := hr
  unfold DRu at r1
  have hSn : (((μ c 0).toNat : Nat) : Int) = μ c 0 := by omega
  have hu1 := hu.1
  have hu2 := hu.2
  obtain ⟨he0, he1, he2⟩ := id he
  have Su := S_mul_le (S := μ c 0) (u := w 3) (by omega) (by omega)
  apply t_X1_trimmedOff (layOK n) kD kc kr
  have key : ∀ (d k : Nat), k + d = (w 4).toNat → WA mX1_trimmedOff 3 (0, 0) 5 [(2, D), (2, c), (2, r), (1, trm (μ r) (μ c 0).toNat w k), (9, 0), (0, (k : Int))] [] (L0 n) μ Q := by
    intro d
    induction d with
    | zero =>
      intro k hk
      rw [Nat.add_zero] at hk
      apply s_X1_trimmedOff_5 (layOK n) kD kc kr
      rw [r2]
      refine ⟨fun _ => by rw [hk]; exact h, fun q => absurd (show w 4 ≤ (k : Int) by omega) q⟩
    | succ d ih =>
      intro k hk
      have kE := (dv_K kD).1 k (by omega) (by omega)
      obtain ⟨e1, kSp⟩ := ev_at kE
      obtain ⟨e2, e3, e4, e5⟩ := sp_at kSp
      obtain ⟨g0, g1, g2, g3, g4, g5⟩ := r3 k (by omega) (by omega)
      obtain ⟨-, -, w1, w2, w3⟩ := he2 k (by omega) (by omega)
      have b1 := prt_b w1 hu1 (by omega)
      have b2 := prt_b w2 hu1 (by omega)
      have tb := trm_b hw (show (μ c 0).toNat ≤ 16 by omega) hu (by rw [hSn]; exact he) k (by omega)
      have tb1 := trm_b hw (show (μ c 0).toNat ≤ 16 by omega) hu (by rw [hSn]; exact he) (k + 1) (by omega)
      have tm := mulLB (show 0 ≤ 144 * w 3 by omega) (show 0 ≤ (k : Int) by omega) (show 144 * w 3 ≤ 144000000000 by omega) (show (k : Int) ≤ 19 by omega)
      have tm1 := mulLB (show 0 ≤ 144 * w 3 by omega) (show 0 ≤ ((k + 1 : Nat) : Int) by omega) (show 144 * w 3 ≤ 144000000000 by omega) (show ((k + 1 : Nat) : Int) ≤ 19 by omega)
      have eE : rf (L0 n) (rf (L0 n) D 4) (k : Int) = evA D k := by rw [(dv_rf hD).1, (dv_all hD).1 _ (by omega) (by omega)]; rfl
      apply s_X1_trimmedOff_5 (layOK n) kD kc kr
      rw [r2, eE, e1, e2, e3, g0, r1, show evA D k + 1 + 1 = evA D k + 2 by omega, show evA D k + 1 + 2 = evA D k + 3 by omega] at *
      refine ⟨fun q => absurd q (by omega), fun _ => ⟨⟨by omega, by omega⟩, fun q => ⟨⟨by omega, by omega⟩, ?_⟩, fun q => ?_⟩⟩
      · have := ih (k + 1) (by omega)
        unfold trm at this
        rw [if_neg q, Int.add_zero] at this
        exact this
      · have p1 : ptP μ (evA D k + 2) (w 3) = prt (w 3) (w (212 + 6 * (k : Int))) (w (213 + 6 * (k : Int))) := by unfold ptP prt; rw [g2, g3]
        have p2 : ptP μ (evA D k + 3) (w 3) = prt (w 3) (w (214 + 6 * (k : Int))) (w (215 + 6 * (k : Int))) := by unfold ptP prt; rw [g4, g5]
        refine c_X0_between kc kr e4 e5 ⟨by omega, by omega⟩ hw ⟨by omega, by omega⟩ (by rw [g3]; exact w1.2.1) (by rw [g5]; exact w2.2.1) (by rw [p1]; exact ⟨b1.1, by omega⟩) (by rw [p2]; exact ⟨b2.1, by omega⟩) ⟨_, rfl, rfl, ?_⟩
        rw [p1, p2]
        have := ih (k + 1) (by omega)
        have e9 : trm (μ r) (μ c 0).toNat w (k + 1) = trm (μ r) (μ c 0).toNat w k + spn (μ r) (μ c 0).toNat (w 3) (w (212 + 6 * (k : Int))) (w (213 + 6 * (k : Int))) (w (214 + 6 * (k : Int))) (w (215 + 6 * (k : Int))) := by
          show _ + (if _ then _ else _) = _
          rw [if_pos q]
        rw [e9] at this tb1
        show inL (trm (μ r) (μ c 0).toNat w k + spn (μ r) (μ c 0).toNat (w 3) (w (212 + 6 * (k : Int))) (w (213 + 6 * (k : Int))) (w (214 + 6 * (k : Int))) (w (215 + 6 * (k : Int)))) ∧ _
        exact ⟨⟨by omega, by omega⟩, ⟨by omega, by omega⟩, this⟩
  exact key (w 4).toNat 0 (by omega)
theorem c_X1_leftOver {D c r : Int} {w : Int → Int} (kD : isK (L0 n) D (1, 0)) (kc : isK (L0 n) c (0, 0)) (kr : isK (L0 n) r (20, 16)) (hS : 2 ≤ μ c 0 ∧ μ c 0 ≤ 16) (hw : rowOK (μ r)) (hr : DR μ D w) (hu : WFu w) (hs : WFs (μ c 0) w)
    (h : Q (some (1, cum (μ r) (μ c 0).toNat * w 3 - sumH (μ r) (μ c 0).toNat w 5)) (L0 n) μ) : TR mX1_leftOver 4 (0, 0) [(2, D), (2, c), (2, r)] (L0 n) μ Q := by
  have hSn : (((μ c 0).toNat : Nat) : Int) = μ c 0 := by omega
  have hu1 := hu.1
  have hu2 := hu.2
  have r1 := hr.1
  unfold DRu at r1
  have cb := cum_b hw (μ c 0).toNat (by omega)
  have tb := mulLB cb.1 (show 0 ≤ w 3 by omega) (show cum (μ r) (μ c 0).toNat ≤ 144 by omega) hu2
  apply t_X1_leftOver (layOK n) kD kc kr
  refine c_X0_total kc kr ⟨by omega, by omega⟩ hw ⟨_, rfl, rfl, ?_⟩
  rw [r1]
  refine ⟨⟨by omega, by omega⟩, ?_⟩
  have key : ∀ (d k : Nat), k + d = 5 → 0 ≤ sumH (μ r) (μ c 0).toNat w k → sumH (μ r) (μ c 0).toNat w k ≤ 288 * w 3 * k → WA mX1_leftOver 4 (0, 0) 15 [(2, D), (2, c), (2, r), (1, cum (μ r) (μ c 0).toNat * w 3 - sumH (μ r) (μ c 0).toNat w k), (9, 0), (0, (k : Int))] [] (L0 n) μ Q := by
    intro d
    induction d with
    | zero =>
      intro k hk s0 s1
      rw [Nat.add_zero] at hk
      subst hk
      apply s_X1_leftOver_15 (layOK n) kD kc kr
      exact ⟨fun _ => h, fun q => absurd (show (5 : Int) ≤ ((5 : Nat) : Int) by omega) q⟩
    | succ d ih =>
      intro k hk s0 s1
      have hb := hld_b (a := (k : Int)) hw (show (μ c 0).toNat ≤ 16 by omega) hu (by rw [hSn]; exact hs) ⟨by omega, by omega⟩
      have tm := mulLB (show 0 ≤ 288 * w 3 by omega) (show 0 ≤ (k : Int) by omega) (show 288 * w 3 ≤ 288000000000 by omega) (show (k : Int) ≤ 5 by omega)
      apply s_X1_leftOver_15 (layOK n) kD kc kr
      refine ⟨fun q => absurd q (by omega), fun _ => c_X1_holds kD kc kr ⟨by omega, by omega⟩ hS hw hr hu hs ⟨_, rfl, rfl, ⟨by omega, by omega⟩, ⟨by omega, by omega⟩, ?_⟩⟩
      have e : cum (μ r) (μ c 0).toNat * w 3 - sumH (μ r) (μ c 0).toNat w k - hld (μ r) (μ c 0).toNat w k = cum (μ r) (μ c 0).toNat * w 3 - sumH (μ r) (μ c 0).toNat w (k + 1) := by
        show _ = _ - (sumH (μ r) (μ c 0).toNat w k + hld (μ r) (μ c 0).toNat w k)
        omega
      rw [e]
      refine ih (k + 1) (by omega) ?_ ?_
      · show 0 ≤ sumH (μ r) (μ c 0).toNat w k + hld (μ r) (μ c 0).toNat w k
        omega
      · show sumH (μ r) (μ c 0).toNat w k + hld (μ r) (μ c 0).toNat w k ≤ _
        rw [show ((k + 1 : Nat) : Int) = (k : Int) + 1 by omega, Int.mul_add, Int.mul_one]
        omega
  have := key 5 0 (by omega) (by simp [sumH]) (by simp [sumH])
  rw [show sumH (μ r) (μ c 0).toNat w 0 = 0 from rfl, Int.sub_zero] at this
  exact this
end
