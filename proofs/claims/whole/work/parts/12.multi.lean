section WAMulti
variable {X : MI} {ht : Nat} {k : Nat × Nat} {pc : Nat} {ls st : List AV} {L L' : Lay} {μ μ' : Mem} {Q : Option AV → Lay → Mem → Prop}
/-- rows of ints -/
theorem wa_multi (pc' : Nat) (n kk : Nat) {idx : Nat} {x y : Int} {kc ks : Nat} (hd : decode X.2.1 pc = .ok (.multianewarray idx 2, 4)) (hp : pc + 4 = pc') (hw : Cond.classLink X.1.cls idx "[[I" ∈ GW) (hc : (n : Int) = x ∧ (kk : Int) = y ∧ n ≤ 1000 ∧ kk ≤ 1000 ∧ k = (kc + (1 + n), ks + (n + n * kk))) (h : WA X ht (kc, ks) pc' ls ((2, L.1 + 1) :: st) (nwRL L x y) (nwRM L μ) Q) : WA X ht k pc ls ((0, y) :: (0, x) :: st) L μ Q := sorry
end WAMulti
