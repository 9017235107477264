/-! the unit that makes many numbers whole: the order does not matter -/
def lcF : List Int → Int → Option Int
  | [], u => some u
  | y :: t, u => if 1000000000 < rdN u y * y then none else lcF t (rdN u y * y)
theorem lcm_least {x y u : Int} (hx : 0 < x) (hy : 0 < y) (hu : 0 < u) (dx : x ∣ u) (dy : y ∣ u) : rdN x y * y ∣ u := by
  have g := gc_pos (x := x) hy
  have h1 := rdN_mul x y
  have e : rdN x y * y = (Int.lcm x y : Int) := by
    have k1 : (Int.gcd x y : Int) * (Int.lcm x y : Int) = x * y := by
      have := Int.gcd_mul_lcm x y
      have h3 : ((Int.gcd x y * Int.lcm x y : Nat) : Int) = (((x * y).natAbs : Nat) : Int) := by rw [this, Int.natAbs_mul]
      rw [Int.natCast_mul] at h3
      rw [h3]
      have := Int.mul_pos hx hy
      omega
    have k2 : gc x y * (rdN x y * y) = gc x y * (Int.lcm x y : Int) := by
      show _ = (Int.gcd x y : Int) * (Int.lcm x y : Int)
      rw [k1, ← Int.mul_assoc, Int.mul_comm (gc x y), h1]
    exact Int.eq_of_mul_eq_mul_left (by omega) k2
  rw [e]
  obtain ⟨U, rfl⟩ := Int.eq_ofNat_of_zero_le (show 0 ≤ u by omega)
  exact Int.ofNat_dvd.mpr (Int.lcm_dvd dx dy)
theorem lcF_dvd : ∀ (l : List Int) (u v : Int), 0 < u → u ≤ 1000000000 → (∀ y ∈ l, 0 < y) → lcF l u = some v → (0 < v ∧ v ≤ 1000000000) ∧ u ∣ v ∧ ∀ y ∈ l, y ∣ v
  | [], u, v, hu, hu2, _, h => by
    cases h
    exact ⟨⟨hu, hu2⟩, Int.dvd_refl _, fun y hy => by cases hy⟩
  | y :: t, u, v, hu, hu2, hp, h => by
    have hy := hp y (List.mem_cons.mpr (Or.inl rfl))
    obtain ⟨d1, d2, d3⟩ := lcm_dvd (u := u) hy
    unfold lcF at h
    split at h
    · cases h
    · obtain ⟨a, b, c⟩ := lcF_dvd t _ v (d3 hu) (by omega) (fun z hz => hp z (List.mem_cons.mpr (Or.inr hz))) h
      refine ⟨a, Int.dvd_trans d1 b, fun z hz => ?_⟩
      rcases List.mem_cons.mp hz with e | e
      · rw [e]; exact Int.dvd_trans d2 b
      · exact c z e
theorem lcF_least : ∀ (l : List Int) (u M : Int), 0 < u → 0 < M → M ≤ 1000000000 → (∀ y ∈ l, 0 < y) → u ∣ M → (∀ y ∈ l, y ∣ M) → ∃ v, lcF l u = some v ∧ v ∣ M
  | [], u, M, _, _, _, _, d, _ => ⟨u, rfl, d⟩
  | y :: t, u, M, hu, hM, hM2, hp, d, dl => by
    have hy := hp y (List.mem_cons.mpr (Or.inl rfl))
    have dm := lcm_least hu hy hM d (dl y (List.mem_cons.mpr (Or.inl rfl)))
    have le := Int.le_of_dvd hM dm
    obtain ⟨-, -, d3⟩ := lcm_dvd (u := u) hy
    obtain ⟨v, e, dv⟩ := lcF_least t _ M (d3 hu) hM hM2 (fun z hz => hp z (List.mem_cons.mpr (Or.inr hz))) dm (fun z hz => dl z (List.mem_cons.mpr (Or.inr hz)))
    refine ⟨v, ?_, dv⟩
    unfold lcF
    rw [if_neg (by omega)]
    exact e
theorem lcF_same {l l' : List Int} (hp : ∀ y ∈ l, 0 < y) (h : ∀ y, y ∈ l ↔ y ∈ l') : lcF l 1 = lcF l' 1 := by
  have hp' : ∀ y ∈ l', 0 < y := fun y hy => hp y ((h y).mpr hy)
  have one : ∀ (a b : List Int) (v : Int), (∀ y ∈ a, 0 < y) → (∀ y ∈ b, 0 < y) → (∀ y ∈ b, y ∈ a) → lcF a 1 = some v → ∃ v', lcF b 1 = some v' ∧ v' ∣ v := fun a b v ha hb hs e => by
    obtain ⟨c1, -, c3⟩ := lcF_dvd a 1 v (by decide) (by decide) ha e
    exact lcF_least b 1 v (by decide) c1.1 c1.2 hb (Int.one_dvd _) (fun y hy => c3 y (hs y hy))
  cases e : lcF l 1 with
  | none =>
    cases e' : lcF l' 1 with
    | none => rfl
    | some v' =>
      obtain ⟨v, q, -⟩ := one l' l v' hp' hp (fun y hy => (h y).mp hy) e'
      rw [e] at q
      cases q
  | some v =>
    obtain ⟨v', q, d⟩ := one l l' v hp hp' (fun y hy => (h y).mpr hy) e
    obtain ⟨v'', q', d'⟩ := one l' l v' hp' hp (fun y hy => (h y).mp hy) q
    rw [e] at q'
    cases q'
    have p1 := (lcF_dvd l 1 v (by decide) (by decide) hp e).1.1
    have p2 := (lcF_dvd l' 1 v' (by decide) (by decide) hp' q).1.1
    rw [q, Int.dvd_antisymm (by omega) (by omega) d' d]
