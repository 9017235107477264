/-! the reference halves: masks, the pile -/
/-- a mask of agents and one of places, without any others -/
def AMx (E : WEnv) (left g : Int) : Prop := AM E left g ∧ (∀ a : Int, E.N ≤ a → a < 5 → ¬ bt left a) ∧ ∀ p : Int, E.N ≤ p → p < 5 → ¬ bt g p
set_option maxHeartbeats 2000000 in
theorem cnt_AM {E : WEnv} {left g : Int} (hE : EnvOK E) (h : AMx E left g) : cnt left = cnt g := by
  obtain ⟨⟨h1, h2⟩, h3, h4⟩ := h
  have e1 : cnt left = (if bt left 0 then 1 else 0) + (if bt left 1 then 1 else 0) + (if bt left 2 then 1 else 0) + (if bt left 3 then 1 else 0) + (if bt left 4 then 1 else 0) := rfl
  have e2 : cnt g = (if bt g 0 then 1 else 0) + (if bt g 1 then 1 else 0) + (if bt g 2 then 1 else 0) + (if bt g 3 then 1 else 0) + (if bt g 4 then 1 else 0) := rfl
  obtain ⟨b, hb⟩ : ∃ b : Int → Int, ∀ p, b p = if bt g p then 1 else 0 := ⟨_, fun _ => rfl⟩
  obtain ⟨b', hb'⟩ : ∃ b' : Int → Int, ∀ p, b' p = if bt left p then 1 else 0 := ⟨_, fun _ => rfl⟩
  rw [← hb', ← hb', ← hb', ← hb', ← hb'] at e1
  rw [← hb, ← hb, ← hb, ← hb, ← hb] at e2
  have key : ∀ p : Int, 0 ≤ p → p < E.N → b' (ag E p) = b p := fun p p0 p1 => by
    rw [hb', hb]
    by_cases q : bt g p
    · rw [if_pos q, if_pos ((h2 p p0 p1).mpr q)]
    · rw [if_neg q, if_neg (fun y => q ((h2 p p0 p1).mp y))]
  have z : ∀ a : Int, E.N ≤ a → a < 5 → b' a = 0 := fun a a0 a1 => by rw [hb', if_neg (h3 a a0 a1)]
  have y : ∀ a : Int, E.N ≤ a → a < 5 → b a = 0 := fun a a0 a1 => by rw [hb, if_neg (h4 a a0 a1)]
  clear hb hb' h2 h3 h4
  have hN := hE.2.1
  have hf := hE.2.2.1
  have hcase : (E.N = 2 ∧ E.f = 0) ∨ (E.N = 2 ∧ E.f = 1) ∨ (E.N = 3 ∧ E.f = 0) ∨ (E.N = 3 ∧ E.f = 1) ∨ (E.N = 3 ∧ E.f = 2) ∨ (E.N = 4 ∧ E.f = 0) ∨ (E.N = 4 ∧ E.f = 1) ∨ (E.N = 4 ∧ E.f = 2) ∨ (E.N = 4 ∧ E.f = 3) ∨ (E.N = 5 ∧ E.f = 0) ∨ (E.N = 5 ∧ E.f = 1) ∨ (E.N = 5 ∧ E.f = 2) ∨ (E.N = 5 ∧ E.f = 3) ∨ (E.N = 5 ∧ E.f = 4) := by omega
  rcases hcase with ⟨eN, ef⟩ | ⟨eN, ef⟩ | ⟨eN, ef⟩ | ⟨eN, ef⟩ | ⟨eN, ef⟩ | ⟨eN, ef⟩ | ⟨eN, ef⟩ | ⟨eN, ef⟩ | ⟨eN, ef⟩ | ⟨eN, ef⟩ | ⟨eN, ef⟩ | ⟨eN, ef⟩ | ⟨eN, ef⟩ | ⟨eN, ef⟩
  · have k0 : b' 0 = b 0 := by
      have := key 0 (by decide) (by rw [eN]; decide)
      rwa [show ag E 0 = 0 by unfold ag; rw [eN, ef]; decide] at this
    have k1 : b' 1 = b 1 := by
      have := key 1 (by decide) (by rw [eN]; decide)
      rwa [show ag E 1 = 1 by unfold ag; rw [eN, ef]; decide] at this
    have z2 : b' 2 = 0 := z 2 (by rw [eN]; decide) (by decide)
    have y2 : b 2 = 0 := y 2 (by rw [eN]; decide) (by decide)
    have z3 : b' 3 = 0 := z 3 (by rw [eN]; decide) (by decide)
    have y3 : b 3 = 0 := y 3 (by rw [eN]; decide) (by decide)
    have z4 : b' 4 = 0 := z 4 (by rw [eN]; decide) (by decide)
    have y4 : b 4 = 0 := y 4 (by rw [eN]; decide) (by decide)
    omega
  · have k0 : b' 1 = b 0 := by
      have := key 0 (by decide) (by rw [eN]; decide)
      rwa [show ag E 0 = 1 by unfold ag; rw [eN, ef]; decide] at this
    have k1 : b' 0 = b 1 := by
      have := key 1 (by decide) (by rw [eN]; decide)
      rwa [show ag E 1 = 0 by unfold ag; rw [eN, ef]; decide] at this
    have z2 : b' 2 = 0 := z 2 (by rw [eN]; decide) (by decide)
    have y2 : b 2 = 0 := y 2 (by rw [eN]; decide) (by decide)
    have z3 : b' 3 = 0 := z 3 (by rw [eN]; decide) (by decide)
    have y3 : b 3 = 0 := y 3 (by rw [eN]; decide) (by decide)
    have z4 : b' 4 = 0 := z 4 (by rw [eN]; decide) (by decide)
    have y4 : b 4 = 0 := y 4 (by rw [eN]; decide) (by decide)
    omega
  · have k0 : b' 0 = b 0 := by
      have := key 0 (by decide) (by rw [eN]; decide)
      rwa [show ag E 0 = 0 by unfold ag; rw [eN, ef]; decide] at this
    have k1 : b' 1 = b 1 := by
      have := key 1 (by decide) (by rw [eN]; decide)
      rwa [show ag E 1 = 1 by unfold ag; rw [eN, ef]; decide] at this
    have k2 : b' 2 = b 2 := by
      have := key 2 (by decide) (by rw [eN]; decide)
      rwa [show ag E 2 = 2 by unfold ag; rw [eN, ef]; decide] at this
    have z3 : b' 3 = 0 := z 3 (by rw [eN]; decide) (by decide)
    have y3 : b 3 = 0 := y 3 (by rw [eN]; decide) (by decide)
    have z4 : b' 4 = 0 := z 4 (by rw [eN]; decide) (by decide)
    have y4 : b 4 = 0 := y 4 (by rw [eN]; decide) (by decide)
    omega
  · have k0 : b' 1 = b 0 := by
      have := key 0 (by decide) (by rw [eN]; decide)
      rwa [show ag E 0 = 1 by unfold ag; rw [eN, ef]; decide] at this
    have k1 : b' 2 = b 1 := by
      have := key 1 (by decide) (by rw [eN]; decide)
      rwa [show ag E 1 = 2 by unfold ag; rw [eN, ef]; decide] at this
    have k2 : b' 0 = b 2 := by
      have := key 2 (by decide) (by rw [eN]; decide)
      rwa [show ag E 2 = 0 by unfold ag; rw [eN, ef]; decide] at this
    have z3 : b' 3 = 0 := z 3 (by rw [eN]; decide) (by decide)
    have y3 : b 3 = 0 := y 3 (by rw [eN]; decide) (by decide)
    have z4 : b' 4 = 0 := z 4 (by rw [eN]; decide) (by decide)
    have y4 : b 4 = 0 := y 4 (by rw [eN]; decide) (by decide)
    omega
  · have k0 : b' 2 = b 0 := by
      have := key 0 (by decide) (by rw [eN]; decide)
      rwa [show ag E 0 = 2 by unfold ag; rw [eN, ef]; decide] at this
    have k1 : b' 0 = b 1 := by
      have := key 1 (by decide) (by rw [eN]; decide)
      rwa [show ag E 1 = 0 by unfold ag; rw [eN, ef]; decide] at this
    have k2 : b' 1 = b 2 := by
      have := key 2 (by decide) (by rw [eN]; decide)
      rwa [show ag E 2 = 1 by unfold ag; rw [eN, ef]; decide] at this
    have z3 : b' 3 = 0 := z 3 (by rw [eN]; decide) (by decide)
    have y3 : b 3 = 0 := y 3 (by rw [eN]; decide) (by decide)
    have z4 : b' 4 = 0 := z 4 (by rw [eN]; decide) (by decide)
    have y4 : b 4 = 0 := y 4 (by rw [eN]; decide) (by decide)
    omega
  · have k0 : b' 0 = b 0 := by
      have := key 0 (by decide) (by rw [eN]; decide)
      rwa [show ag E 0 = 0 by unfold ag; rw [eN, ef]; decide] at this
    have k1 : b' 1 = b 1 := by
      have := key 1 (by decide) (by rw [eN]; decide)
      rwa [show ag E 1 = 1 by unfold ag; rw [eN, ef]; decide] at this
    have k2 : b' 2 = b 2 := by
      have := key 2 (by decide) (by rw [eN]; decide)
      rwa [show ag E 2 = 2 by unfold ag; rw [eN, ef]; decide] at this
    have k3 : b' 3 = b 3 := by
      have := key 3 (by decide) (by rw [eN]; decide)
      rwa [show ag E 3 = 3 by unfold ag; rw [eN, ef]; decide] at this
    have z4 : b' 4 = 0 := z 4 (by rw [eN]; decide) (by decide)
    have y4 : b 4 = 0 := y 4 (by rw [eN]; decide) (by decide)
    omega
  · have k0 : b' 1 = b 0 := by
      have := key 0 (by decide) (by rw [eN]; decide)
      rwa [show ag E 0 = 1 by unfold ag; rw [eN, ef]; decide] at this
    have k1 : b' 2 = b 1 := by
      have := key 1 (by decide) (by rw [eN]; decide)
      rwa [show ag E 1 = 2 by unfold ag; rw [eN, ef]; decide] at this
    have k2 : b' 3 = b 2 := by
      have := key 2 (by decide) (by rw [eN]; decide)
      rwa [show ag E 2 = 3 by unfold ag; rw [eN, ef]; decide] at this
    have k3 : b' 0 = b 3 := by
      have := key 3 (by decide) (by rw [eN]; decide)
      rwa [show ag E 3 = 0 by unfold ag; rw [eN, ef]; decide] at this
    have z4 : b' 4 = 0 := z 4 (by rw [eN]; decide) (by decide)
    have y4 : b 4 = 0 := y 4 (by rw [eN]; decide) (by decide)
    omega
  · have k0 : b' 2 = b 0 := by
      have := key 0 (by decide) (by rw [eN]; decide)
      rwa [show ag E 0 = 2 by unfold ag; rw [eN, ef]; decide] at this
    have k1 : b' 3 = b 1 := by
      have := key 1 (by decide) (by rw [eN]; decide)
      rwa [show ag E 1 = 3 by unfold ag; rw [eN, ef]; decide] at this
    have k2 : b' 0 = b 2 := by
      have := key 2 (by decide) (by rw [eN]; decide)
      rwa [show ag E 2 = 0 by unfold ag; rw [eN, ef]; decide] at this
    have k3 : b' 1 = b 3 := by
      have := key 3 (by decide) (by rw [eN]; decide)
      rwa [show ag E 3 = 1 by unfold ag; rw [eN, ef]; decide] at this
    have z4 : b' 4 = 0 := z 4 (by rw [eN]; decide) (by decide)
    have y4 : b 4 = 0 := y 4 (by rw [eN]; decide) (by decide)
    omega
  · have k0 : b' 3 = b 0 := by
      have := key 0 (by decide) (by rw [eN]; decide)
      rwa [show ag E 0 = 3 by unfold ag; rw [eN, ef]; decide] at this
    have k1 : b' 0 = b 1 := by
      have := key 1 (by decide) (by rw [eN]; decide)
      rwa [show ag E 1 = 0 by unfold ag; rw [eN, ef]; decide] at this
    have k2 : b' 1 = b 2 := by
      have := key 2 (by decide) (by rw [eN]; decide)
      rwa [show ag E 2 = 1 by unfold ag; rw [eN, ef]; decide] at this
    have k3 : b' 2 = b 3 := by
      have := key 3 (by decide) (by rw [eN]; decide)
      rwa [show ag E 3 = 2 by unfold ag; rw [eN, ef]; decide] at this
    have z4 : b' 4 = 0 := z 4 (by rw [eN]; decide) (by decide)
    have y4 : b 4 = 0 := y 4 (by rw [eN]; decide) (by decide)
    omega
  · have k0 : b' 0 = b 0 := by
      have := key 0 (by decide) (by rw [eN]; decide)
      rwa [show ag E 0 = 0 by unfold ag; rw [eN, ef]; decide] at this
    have k1 : b' 1 = b 1 := by
      have := key 1 (by decide) (by rw [eN]; decide)
      rwa [show ag E 1 = 1 by unfold ag; rw [eN, ef]; decide] at this
    have k2 : b' 2 = b 2 := by
      have := key 2 (by decide) (by rw [eN]; decide)
      rwa [show ag E 2 = 2 by unfold ag; rw [eN, ef]; decide] at this
    have k3 : b' 3 = b 3 := by
      have := key 3 (by decide) (by rw [eN]; decide)
      rwa [show ag E 3 = 3 by unfold ag; rw [eN, ef]; decide] at this
    have k4 : b' 4 = b 4 := by
      have := key 4 (by decide) (by rw [eN]; decide)
      rwa [show ag E 4 = 4 by unfold ag; rw [eN, ef]; decide] at this
    omega
  · have k0 : b' 1 = b 0 := by
      have := key 0 (by decide) (by rw [eN]; decide)
      rwa [show ag E 0 = 1 by unfold ag; rw [eN, ef]; decide] at this
    have k1 : b' 2 = b 1 := by
      have := key 1 (by decide) (by rw [eN]; decide)
      rwa [show ag E 1 = 2 by unfold ag; rw [eN, ef]; decide] at this
    have k2 : b' 3 = b 2 := by
      have := key 2 (by decide) (by rw [eN]; decide)
      rwa [show ag E 2 = 3 by unfold ag; rw [eN, ef]; decide] at this
    have k3 : b' 4 = b 3 := by
      have := key 3 (by decide) (by rw [eN]; decide)
      rwa [show ag E 3 = 4 by unfold ag; rw [eN, ef]; decide] at this
    have k4 : b' 0 = b 4 := by
      have := key 4 (by decide) (by rw [eN]; decide)
      rwa [show ag E 4 = 0 by unfold ag; rw [eN, ef]; decide] at this
    omega
  · have k0 : b' 2 = b 0 := by
      have := key 0 (by decide) (by rw [eN]; decide)
      rwa [show ag E 0 = 2 by unfold ag; rw [eN, ef]; decide] at this
    have k1 : b' 3 = b 1 := by
      have := key 1 (by decide) (by rw [eN]; decide)
      rwa [show ag E 1 = 3 by unfold ag; rw [eN, ef]; decide] at this
    have k2 : b' 4 = b 2 := by
      have := key 2 (by decide) (by rw [eN]; decide)
      rwa [show ag E 2 = 4 by unfold ag; rw [eN, ef]; decide] at this
    have k3 : b' 0 = b 3 := by
      have := key 3 (by decide) (by rw [eN]; decide)
      rwa [show ag E 3 = 0 by unfold ag; rw [eN, ef]; decide] at this
    have k4 : b' 1 = b 4 := by
      have := key 4 (by decide) (by rw [eN]; decide)
      rwa [show ag E 4 = 1 by unfold ag; rw [eN, ef]; decide] at this
    omega
  · have k0 : b' 3 = b 0 := by
      have := key 0 (by decide) (by rw [eN]; decide)
      rwa [show ag E 0 = 3 by unfold ag; rw [eN, ef]; decide] at this
    have k1 : b' 4 = b 1 := by
      have := key 1 (by decide) (by rw [eN]; decide)
      rwa [show ag E 1 = 4 by unfold ag; rw [eN, ef]; decide] at this
    have k2 : b' 0 = b 2 := by
      have := key 2 (by decide) (by rw [eN]; decide)
      rwa [show ag E 2 = 0 by unfold ag; rw [eN, ef]; decide] at this
    have k3 : b' 1 = b 3 := by
      have := key 3 (by decide) (by rw [eN]; decide)
      rwa [show ag E 3 = 1 by unfold ag; rw [eN, ef]; decide] at this
    have k4 : b' 2 = b 4 := by
      have := key 4 (by decide) (by rw [eN]; decide)
      rwa [show ag E 4 = 2 by unfold ag; rw [eN, ef]; decide] at this
    omega
  · have k0 : b' 4 = b 0 := by
      have := key 0 (by decide) (by rw [eN]; decide)
      rwa [show ag E 0 = 4 by unfold ag; rw [eN, ef]; decide] at this
    have k1 : b' 0 = b 1 := by
      have := key 1 (by decide) (by rw [eN]; decide)
      rwa [show ag E 1 = 0 by unfold ag; rw [eN, ef]; decide] at this
    have k2 : b' 1 = b 2 := by
      have := key 2 (by decide) (by rw [eN]; decide)
      rwa [show ag E 2 = 1 by unfold ag; rw [eN, ef]; decide] at this
    have k3 : b' 2 = b 3 := by
      have := key 3 (by decide) (by rw [eN]; decide)
      rwa [show ag E 3 = 2 by unfold ag; rw [eN, ef]; decide] at this
    have k4 : b' 3 = b 4 := by
      have := key 4 (by decide) (by rw [eN]; decide)
      rwa [show ag E 4 = 3 by unfold ag; rw [eN, ef]; decide] at this
    omega
theorem AMx_full {E : WEnv} (hE : EnvOK E) : AMx E (full E.N) (full E.N) := by
  obtain ⟨f1, f2, f3, f4⟩ := full_b hE.2.1
  have hN := hE.2.1
  exact ⟨AM_full hE, fun a a0 a1 h => by have := (f4 a (by omega) a1).mp h; omega, fun a a0 a1 h => by have := (f4 a (by omega) a1).mp h; omega⟩
theorem AMx_dif {E : WEnv} {left g rest o : Int} (hE : EnvOK E) (h : AMx E left g) (hg : 0 ≤ g ∧ g < 32) (h2 : AM E rest o) (ho : 0 ≤ o ∧ o < 32) : AMx E (dif left rest) (dif g o) := by
  have hN := hE.2.1
  obtain ⟨⟨h11, h12⟩, h13, h14⟩ := h
  have dl := fun p hp => dif_bt (g := left) (o := rest) (p := p) h11 h2.1 hp
  have dg := fun p hp => dif_bt (g := g) (o := o) (p := p) hg ho hp
  refine ⟨⟨(dl 0 ⟨by decide, by decide⟩).1, fun p p0 p1 => ?_⟩, fun a a0 a1 q => h13 a a0 a1 ((dl a ⟨by omega, a1⟩).2.mp q).1, fun a a0 a1 q => h14 a a0 a1 ((dg a ⟨by omega, a1⟩).2.mp q).1⟩
  have hag := ag_b hE ⟨p0, p1⟩
  rw [(dl _ ⟨hag.1, hag.2.2⟩).2, (dg p ⟨p0, by omega⟩).2, h12 p p0 p1, h2.2 p p0 p1]
/-- the pile as the reference holds it -/
def HM (μ : Mem) (E : WEnv) : Pt → Pile → Prop
  | _, [] => True
  | r, y :: t => AMx E (μ 500 (t.length : Int)) y.1 ∧ (μ 501 (4 * (t.length : Int)) = r.1 ∧ μ 501 (4 * (t.length : Int) + 1) = r.2 ∧ μ 501 (4 * (t.length : Int) + 2) = y.2.1 ∧ μ 501 (4 * (t.length : Int) + 3) = y.2.2) ∧ HM μ E y.2 t
theorem HM_fr {μ μ' : Mem} {E : WEnv} : ∀ (l : Pile) (r : Pt), HM μ E r l → (∀ i : Int, i < (l.length : Int) → μ' 500 i = μ 500 i) → (∀ i : Int, i < 4 * (l.length : Int) → μ' 501 i = μ 501 i) → HM μ' E r l
  | [], _, _, _, _ => trivial
  | y :: t, r, h, h1, h2 => by
    have e : (((y :: t).length : Nat) : Int) = (t.length : Int) + 1 := by show ((t.length + 1 : Nat) : Int) = _; omega
    rw [e] at h1 h2
    obtain ⟨a, ⟨b1, b2, b3, b4⟩, c⟩ := h
    exact ⟨by rw [h1 _ (by omega)]; exact a, ⟨by rw [h2 _ (by omega), b1], by rw [h2 _ (by omega), b2], by rw [h2 _ (by omega), b3], by rw [h2 _ (by omega), b4]⟩, HM_fr t y.2 c (fun i hi => h1 i (by omega)) (fun i hi => h2 i (by omega))⟩
theorem bit01 {g p : Int} (hg : 0 ≤ g ∧ g < 32) (hp : 0 ≤ p ∧ p < 5) : bAnd (bShr g p) 1 = if bt g p then 1 else 0 := by
  have := mk325 (P := fun g p => decide (bAnd (bShr g p) 1 = if bt g p then 1 else 0)) (by decide +kernel) g p hg.1 hg.2 hp.1 hp.2
  exact of_decide_eq_true this
theorem cntN_5 {g : Int} : cntN g 5 = cnt g := by
  show 0 + (if bt g ((0 : Nat) : Int) then 1 else 0) + (if bt g ((1 : Nat) : Int) then 1 else 0) + (if bt g ((2 : Nat) : Int) then 1 else 0) + (if bt g ((3 : Nat) : Int) then 1 else 0) + (if bt g ((4 : Nat) : Int) then 1 else 0) = cnt g
  unfold cnt
  rw [Int.zero_add]
  rfl
theorem u500 {μ : Mem} {k v i : Int} : up μ 500 k v 493 i = μ 493 i := up_ne (Or.inl (by decide))
theorem u501 {μ : Mem} {k v i : Int} : up μ 501 k v 493 i = μ 493 i := up_ne (Or.inl (by decide))
section
variable {n : Int} {μ : Mem} {Q : Option AV → Lay → Mem → Prop}
theorem c_X10_countOf {g : Int} (hg : 0 ≤ g ∧ g < 32) (h : Q (some (0, cnt g)) (L0 n) μ) : TR mX10_countOf 0 (0, 0) [(0, g)] (L0 n) μ Q := by
  apply t_X10_countOf (layOK n)
  have key : ∀ (d k : Nat), k + d = 5 → WA mX10_countOf 0 (0, 0) 4 [(0, g), (0, cntN g k), (0, (k : Int))] [] (L0 n) μ Q := by
    intro d
    induction d with
    | zero =>
      intro k hk
      have : k = 5 := by omega
      subst this
      apply s_X10_countOf_4 (layOK n)
      rw [cntN_5]
      exact ⟨fun _ => h, fun q => absurd (show (5 : Int) ≤ ((5 : Nat) : Int) by decide) q⟩
    | succ d ih =>
      intro k hk
      have b := cntN_b (g := g) k
      have b1 := cntN_b (g := g) (k + 1)
      apply s_X10_countOf_4 (layOK n)
      rw [bit01 hg ⟨by omega, by omega⟩]
      have e : cntN g k + (if bt g k then 1 else 0) = cntN g (k + 1) := rfl
      rw [e]
      exact ⟨fun q => absurd q (by omega), fun _ => ⟨⟨by omega, by omega⟩, ⟨by omega, by omega⟩, ih (k + 1) (by omega)⟩⟩
  exact key 5 0 (by omega)
theorem c_X10_lays {s : Int} {p q : Pt} {M : Int} (eM : μ 493 18 = M) (hM : 0 ≤ M ∧ M < 10)
    (h : ∀ μ', μ' 500 M = s → (μ' 501 (4 * M) = p.1 ∧ μ' 501 (4 * M + 1) = p.2 ∧ μ' 501 (4 * M + 2) = q.1 ∧ μ' 501 (4 * M + 3) = q.2) → μ' 493 18 = M + 1 → (∀ x i, (x ≠ 493 ∨ i ≠ 18) → (x ≠ 500 ∨ i ≠ M) → (x ≠ 501 ∨ i < 4 * M) → μ' x i = μ x i) → Q none (L0 n) μ') : TR mX10_lays 0 (0, 0) [(2, 493), (0, s), (1, p.1), (1, p.2), (1, q.1), (1, q.2)] (L0 n) μ Q := by
  apply t_X10_lays (layOK n) k493
  rw [rf_ref.2.2.2.2.2.2.1, rf_ref.2.2.2.2.2.2.2.1]
  simp only [u500, u501, eM]
  refine ⟨⟨by omega, by omega⟩, ⟨by omega, by omega⟩, ⟨by omega, by omega⟩, ⟨by omega, by omega⟩, ⟨by omega, by omega⟩, ⟨by omega, by omega⟩, ⟨by omega, by omega⟩, ⟨by omega, by omega⟩, ⟨by omega, by omega⟩, ⟨by omega, by omega⟩, ⟨by omega, by omega⟩, ⟨by omega, by omega⟩, ⟨by omega, by omega⟩, h _ ?_ ⟨?_, ?_, ?_, ?_⟩ (up_eq _ _ _ _) (fun x i h1 h2 h3 => ?_)⟩
  · rw [up_ne (Or.inl (by decide)), up_ne (Or.inl (by decide)), up_ne (Or.inl (by decide)), up_ne (Or.inl (by decide)), up_ne (Or.inl (by decide)), up_eq]
  · rw [up_ne (Or.inl (by decide)), up_ne (Or.inr (by omega)), up_ne (Or.inr (by omega)), up_ne (Or.inr (by omega)), up_eq]
  · rw [up_ne (Or.inl (by decide)), up_ne (Or.inr (by omega)), up_ne (Or.inr (by omega)), up_eq]
  · rw [up_ne (Or.inl (by decide)), up_ne (Or.inr (by omega)), up_eq]
  · rw [up_ne (Or.inl (by decide)), up_eq]
  · rw [up_ne h1, up_ne (by omega), up_ne (by omega), up_ne (by omega), up_ne (by omega), up_ne h2]
theorem c_X10_leastOf {E : WEnv} {w : Dv} {left g u : Int} {mk : Int → Pt} (hE : EnvOK E) (hR : RE μ E w) (hA : AM E left g) (hu : 1 ≤ u ∧ u ≤ 1000000000) (hp : ∀ p : Int, 0 ≤ p → p < E.N → bt g p → ptW E.S u (mk p).1 (mk p).2 ∧ PU μ (ag E p) (mk p))
    (h : Q (some (0, agL E (lst mk g E.N.toNat))) (L0 n) μ) : TR mX10_leastOf 2 (0, 0) [(2, 493), (0, left)] (L0 n) μ Q := by
  have hN := hE.2.1
  have eN2 := hR.2.2.1.2.1
  apply t_X10_leastOf (layOK n) k493
  have key : ∀ (d i : Nat), (i : Int) + d = E.N → WA mX10_leastOf 2 (0, 0) 4 [(2, 493), (0, left), (0, agL E (lst mk g i)), (0, (i : Int)), (9, 0), (9, 0)] [] (L0 n) μ Q := by
    intro d
    induction d with
    | zero =>
      intro i hi
      have ei : i = E.N.toNat := by omega
      subst ei
      apply s_X10_leastOf_4 (layOK n) k493
      exact c_X10_agents hR.1 hR.2.1 ⟨_, rfl, rfl, fun _ => h, fun q => absurd (show w 1 ≤ ((E.N.toNat : Nat) : Int) by omega) q⟩
    | succ d ih =>
      intro i hi
      have pli : 0 ≤ (i : Int) ∧ (i : Int) < E.N := ⟨by omega, by omega⟩
      have hag := ag_b hE pli
      have hAi := hA.2 i pli.1 pli.2
      have e : lst mk g (i + 1) = if bt g i ∧ (lst mk g i < 0 ∨ (mk i).1 * (mk (lst mk g i)).2 < (mk (lst mk g i)).1 * (mk i).2) then (i : Int) else lst mk g i := rfl
      have next := ih (i + 1) (by omega)
      have stay : ¬ (bt g i ∧ (lst mk g i < 0 ∨ (mk i).1 * (mk (lst mk g i)).2 < (mk (lst mk g i)).1 * (mk i).2)) → WA mX10_leastOf 2 (0, 0) 70 [(2, 493), (0, left), (0, agL E (lst mk g i)), (0, (i : Int)), (0, ag E i), (9, 0)] [(0, 0)] (L0 n) μ Q := fun z => by
        rw [e, if_neg z] at next
        apply s_X10_leastOf_70 (layOK n) k493
        exact ⟨fun _ => ⟨⟨by omega, by omega⟩, next⟩, fun q => absurd rfl q⟩
      have go : (bt g i ∧ (lst mk g i < 0 ∨ (mk i).1 * (mk (lst mk g i)).2 < (mk (lst mk g i)).1 * (mk i).2)) → WA mX10_leastOf 2 (0, 0) 70 [(2, 493), (0, left), (0, agL E (lst mk g i)), (0, (i : Int)), (0, ag E i), (9, 0)] [(0, 1)] (L0 n) μ Q := fun z => by
        rw [e, if_pos z] at next
        unfold agL at next
        rw [if_neg (by omega)] at next
        apply s_X10_leastOf_70 (layOK n) k493
        exact ⟨fun q => absurd q (by decide), fun _ => ⟨⟨by omega, by omega⟩, next⟩⟩
      have lo := lst_ok (mk := mk) (g := g) i (by omega) (fun p p0 p1 pb => by have := (hp p p0 (by omega) pb).1.2.1; omega)
      apply s_X10_leastOf_4 (layOK n) k493
      refine c_X10_agents hR.1 hR.2.1 ⟨_, rfl, rfl, fun q => absurd q (by omega), fun _ => c_E_ord hE hR pli ⟨_, rfl, rfl, fun nb => stay (fun z => nb (hAi.mpr z.1)), fun yb => ⟨fun q => ?_, fun q => ?_⟩⟩⟩
      · refine go ⟨hAi.mp yb, Or.inl ?_⟩
        rcases lo with lo | lo
        · omega
        · unfold agL at q
          rw [if_neg (by omega)] at q
          have := ag_b hE (p := lst mk g i) ⟨lo.1, by omega⟩
          omega
      · have l0 : 0 ≤ lst mk g i := by
          rcases Int.lt_or_le (lst mk g i) 0 with z | z
          · unfold agL at q
            rw [if_pos z] at q
            omega
          · exact z
        have yb' := hAi.mp yb
        obtain ⟨l1, l2, l3, l4⟩ := lo.resolve_left (fun z => by omega)
        generalize lst mk g i = l at *
        have eA : agL E l = ag E l := by unfold agL; rw [if_neg (by omega)]
        rw [eA] at stay go ⊢
        have hl := ag_b hE (p := l) ⟨l1, by omega⟩
        obtain ⟨a1, a2⟩ := hp i pli.1 pli.2 yb'
        obtain ⟨b1, b2⟩ := hp l l1 (by omega) l3
        have a21 := a1.2.1
        have b21 := b1.2.1
        have le1 := Int.le_of_dvd (show 0 < u by omega) a1.2.2.2.1
        have le2 := Int.le_of_dvd (show 0 < u by omega) b1.2.2.2.1
        have pb := mulLB (show 0 ≤ (mk i).2 by omega) (show 0 ≤ (mk l).2 by omega) (show (mk i).2 ≤ 1000000000 by omega) (show (mk l).2 ≤ 1000000000 by omega)
        rw [rf_ref.2.2.2.2.1, rf_ref.2.2.2.2.2.1, a2.1, a2.2, b2.1, b2.2]
        exact ⟨⟨hag.1, hag.2.2⟩, ⟨hl.1, hl.2.2⟩, c_X10_isLess a1.1 (by omega) b1.1 (by omega) (by omega) fun r hr => ⟨r, rfl, rfl, fun q2 => stay (fun z => by omega), fun q2 => go ⟨yb', Or.inr (by omega)⟩⟩⟩
  exact key E.N.toNat 0 (by omega)
end
