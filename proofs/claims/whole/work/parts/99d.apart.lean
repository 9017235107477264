/-! spans that are apart have together at most the whole -/
def dis (x y : Int × Int) : Prop := x.2 ≤ x.1 ∨ y.2 ≤ y.1 ∨ x.2 ≤ y.1 ∨ y.2 ≤ x.1
def disL : List (Int × Int) → Prop
  | [] => True
  | x :: t => (∀ y ∈ t, dis x y) ∧ disL t
/-- what spans have of a measure up to a place -/
def sumL (f : Int → Int) (M : Int) : List (Int × Int) → Int
  | [] => 0
  | x :: t => (f (min x.2 M) - f (min x.1 M)) + sumL f M t
theorem sumL_none {f : Int → Int} {M : Int} : ∀ l : List (Int × Int), (∀ x ∈ l, x.1 ≤ x.2) → (∀ x ∈ l, ¬ (x.1 ≤ M ∧ M < x.2)) → sumL f (M + 1) l = sumL f M l
  | [], _, _ => rfl
  | x :: t, ho, hn => by
    have h1 := ho x (List.mem_cons.mpr (Or.inl rfl))
    have h2 := hn x (List.mem_cons.mpr (Or.inl rfl))
    have ih := sumL_none (f := f) (M := M) t (fun y hy => ho y (List.mem_cons.mpr (Or.inr hy))) (fun y hy => hn y (List.mem_cons.mpr (Or.inr hy)))
    show (f (min x.2 (M + 1)) - f (min x.1 (M + 1))) + sumL f (M + 1) t = (f (min x.2 M) - f (min x.1 M)) + sumL f M t
    rw [ih]
    by_cases z : M < x.1
    · rw [show min x.2 (M + 1) = M + 1 by omega, show min x.1 (M + 1) = M + 1 by omega, show min x.2 M = M by omega, show min x.1 M = M by omega]
      omega
    · rw [show min x.2 (M + 1) = x.2 by omega, show min x.1 (M + 1) = x.1 by omega, show min x.2 M = x.2 by omega, show min x.1 M = x.1 by omega]
theorem sumL_step {f : Int → Int} {M : Int} (hf : f M ≤ f (M + 1)) : ∀ l : List (Int × Int), (∀ x ∈ l, x.1 ≤ x.2) → disL l → sumL f (M + 1) l ≤ sumL f M l + (f (M + 1) - f M)
  | [], _, _ => by show (0 : Int) ≤ 0 + (f (M + 1) - f M); omega
  | x :: t, ho, hd => by
    have h1 := ho x (List.mem_cons.mpr (Or.inl rfl))
    have ho' : ∀ y ∈ t, y.1 ≤ y.2 := fun y hy => ho y (List.mem_cons.mpr (Or.inr hy))
    show (f (min x.2 (M + 1)) - f (min x.1 (M + 1))) + sumL f (M + 1) t ≤ (f (min x.2 M) - f (min x.1 M)) + sumL f M t + (f (M + 1) - f M)
    by_cases z : x.1 ≤ M ∧ M < x.2
    · have e := sumL_none (f := f) (M := M) t ho' (fun y hy c => by
        have := hd.1 y hy
        unfold dis at this
        omega)
      rw [e, show min x.2 (M + 1) = M + 1 by omega, show min x.1 (M + 1) = x.1 by omega, show min x.2 M = M by omega, show min x.1 M = x.1 by omega]
      omega
    · have ih := sumL_step hf t ho' hd.2
      by_cases y : M < x.1
      · rw [show min x.2 (M + 1) = M + 1 by omega, show min x.1 (M + 1) = M + 1 by omega, show min x.2 M = M by omega, show min x.1 M = M by omega]
        omega
      · rw [show min x.2 (M + 1) = x.2 by omega, show min x.1 (M + 1) = x.1 by omega, show min x.2 M = x.2 by omega, show min x.1 M = x.1 by omega]
        omega
theorem sumL_le {f : Int → Int} (hf : ∀ q : Int, 0 ≤ q → f q ≤ f (q + 1)) {l : List (Int × Int)} (ho : ∀ x ∈ l, 0 ≤ x.1 ∧ x.1 ≤ x.2) (hd : disL l) : ∀ M : Nat, sumL f M l ≤ f M - f 0
  | 0 => by
    have z : ∀ t : List (Int × Int), (∀ x ∈ t, 0 ≤ x.1 ∧ x.1 ≤ x.2) → sumL f ((0 : Nat) : Int) t = 0 := fun t => by
      induction t with
      | nil => intro _; rfl
      | cons x t ih =>
        intro h
        have h1 := h x (List.mem_cons.mpr (Or.inl rfl))
        show (f (min x.2 0) - f (min x.1 0)) + sumL f ((0 : Nat) : Int) t = 0
        rw [ih (fun y hy => h y (List.mem_cons.mpr (Or.inr hy))), show min x.2 0 = 0 by omega, show min x.1 0 = 0 by omega]
        omega
    rw [z l ho]
    show (0 : Int) ≤ f 0 - f 0
    omega
  | M + 1 => by
    have ih := sumL_le hf ho hd M
    have st := sumL_step (f := f) (M := (M : Int)) (hf M (by omega)) l (fun x hx => (ho x hx).2) hd
    have e : (((M + 1 : Nat)) : Int) = (M : Int) + 1 := by omega
    rw [e]
    omega
/-- the same, for spans that end before the place -/
theorem sumL_all {f : Int → Int} {M : Int} : ∀ l : List (Int × Int), (∀ x ∈ l, x.1 ≤ M ∧ x.2 ≤ M) → sumL f M l = l.foldr (fun x s => (f x.2 - f x.1) + s) 0
  | [], _ => rfl
  | x :: t, h => by
    have h1 := h x (List.mem_cons.mpr (Or.inl rfl))
    show (f (min x.2 M) - f (min x.1 M)) + sumL f M t = (f x.2 - f x.1) + t.foldr (fun x s => (f x.2 - f x.1) + s) 0
    rw [sumL_all t (fun y hy => h y (List.mem_cons.mpr (Or.inr hy))), show min x.2 M = x.2 by omega, show min x.1 M = x.1 by omega]
