/-! a text of shares: what reading it comes to (draft of the specification) -/
/-- further figures of a number -/
def nmF (m : Int) (t : Int → Int) : Nat → Int → Int → Int × Int
  | 0, p, v => (v, p)
  | d + 1, p, v => if fgS m t p < 0 then (v, p) else nmF m t d (p + 1) (v * 10 + fgS m t p)
/-- a number of at most d + 1 figures: -1 where there is none; and where it ends -/
def nmS (m : Int) (t : Int → Int) (d : Nat) (p : Int) : Int × Int := if fgS m t p < 0 then (-1, p) else nmF m t d (p + 1) (fgS m t p)
/-- a point: whether it is one, where reading stands, the point in lowest terms -/
def ptS (m : Int) (t : Int → Int) (S p : Int) : Int × Int × Pt :=
  if (nmS m t 1 p).1 < 0 then (0, p, (0, 1))
  else if tb m t (nmS m t 1 p).2 = 47 then
    (if (nmS m t 2 ((nmS m t 1 p).2 + 1)).1 < 1 then (0, (nmS m t 1 p).2 + 1, (0, 1))
     else if S * (nmS m t 2 ((nmS m t 1 p).2 + 1)).1 < (nmS m t 1 p).1 then (0, p, (0, 1))
     else (1, (nmS m t 2 ((nmS m t 1 p).2 + 1)).2, (rdN (nmS m t 1 p).1 (nmS m t 2 ((nmS m t 1 p).2 + 1)).1, rdD (nmS m t 1 p).1 (nmS m t 2 ((nmS m t 1 p).2 + 1)).1)))
  else if S < (nmS m t 1 p).1 then (0, p, (0, 1))
  else (1, (nmS m t 1 p).2, (rdN (nmS m t 1 p).1 1, rdD (nmS m t 1 p).1 1))
/-- a span that is not empty meets one that is there -/
def ovB (w : Dv) (l r : Pt) : Bool := decide (l.1 * r.2 < r.1 * l.2) && (List.range 5).any fun (a : Nat) => (List.range 2).any fun (k : Nat) => decide ((k : Int) < w (165 + (a : Int)) ∧ neS w (a : Int) (k : Int) ∧ l.1 * w (173 + 8 * (a : Int) + 4 * (k : Int)) < w (172 + 8 * (a : Int) + 4 * (k : Int)) * l.2 ∧ w (170 + 8 * (a : Int) + 4 * (k : Int)) * r.2 < r.1 * w (171 + 8 * (a : Int) + 4 * (k : Int)))
/-- a span read for one: ok, where, the row -/
def spS (m : Int) (t : Int → Int) (S a p : Int) (w : Dv) : Int × Int × Dv :=
  if (ptS m t S p).1 = 0 then (0, (ptS m t S p).2.1, w)
  else if tb m t (ptS m t S p).2.1 ≠ 45 then (0, (ptS m t S p).2.1, w)
  else if (ptS m t S ((ptS m t S p).2.1 + 1)).1 = 0 then (0, (ptS m t S ((ptS m t S p).2.1 + 1)).2.1, w)
  else if (ptS m t S ((ptS m t S p).2.1 + 1)).2.2.1 * (ptS m t S p).2.2.2 < (ptS m t S p).2.2.1 * (ptS m t S ((ptS m t S p).2.1 + 1)).2.2.2 then (0, (ptS m t S p).2.1 + 1, w)
  else if ovB w (ptS m t S p).2.2 (ptS m t S ((ptS m t S p).2.1 + 1)).2.2 then (0, p, w)
  else (1, (ptS m t S ((ptS m t S p).2.1 + 1)).2.1, giveS w a (ptS m t S p).2.2 (ptS m t S ((ptS m t S p).2.1 + 1)).2.2)
/-- a share: whose, one span or two -/
def shS (m : Int) (t : Int → Int) (S N p : Int) (w : Dv) : Int × Int × Dv :=
  if ¬ (0 ≤ fgS m t p ∧ fgS m t p < N) then (0, p, w)
  else if 0 < w (165 + fgS m t p) then (0, p, w)
  else if tb m t (p + 1) ≠ 61 then (0, p + 1, w)
  else if (spS m t S (fgS m t p) (p + 2) w).1 = 0 then spS m t S (fgS m t p) (p + 2) w
  else if tb m t (spS m t S (fgS m t p) (p + 2) w).2.1 = 44 then spS m t S (fgS m t p) ((spS m t S (fgS m t p) (p + 2) w).2.1 + 1) (spS m t S (fgS m t p) (p + 2) w).2.2
  else spS m t S (fgS m t p) (p + 2) w
/-- the whole text -/
def dvAll (m : Int) (t : Int → Int) (S N : Int) : Nat → Int → Int → Dv → Int × Dv
  | 0, _, p, w => (-100 - p, w)
  | d + 1, c, p, w => if (shS m t S N p w).1 = 1 then (if m ≤ (shS m t S N p w).2.1 then (c + 1, (shS m t S N p w).2.2) else if tb m t (shS m t S N p w).2.1 = 59 then dvAll m t S N d (c + 1) ((shS m t S N p w).2.1 + 1) (shS m t S N p w).2.2 else (-100 - (shS m t S N p w).2.1, (shS m t S N p w).2.2)) else (-100 - (shS m t S N p w).2.1, (shS m t S N p w).2.2)
/-- the lower numbers of all a row's spans, in the order of the agents -/
def lowL (w : Dv) : List Int := (List.range 5).flatMap fun (a : Nat) => ((List.range 2).filter fun (k : Nat) => decide ((k : Int) < w (165 + (a : Int)))).flatMap fun (k : Nat) => [w (171 + 8 * (a : Int) + 4 * (k : Int)), w (173 + 8 * (a : Int) + 4 * (k : Int))]
