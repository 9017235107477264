/-! ways, in numbers: what class and reference both come to. Agents stand by their places in the order; a group is a mask of places -/
def WEnv : Type := (Int → Int → Int) × Nat × Int × Int
def WEnv.T (E : WEnv) : Int → Int → Int := E.1
def WEnv.S (E : WEnv) : Nat := E.2.1
def WEnv.N (E : WEnv) : Int := E.2.2.1
def WEnv.f (E : WEnv) : Int := E.2.2.2
def EnvOK (E : WEnv) : Prop := (2 ≤ E.S ∧ E.S ≤ 16) ∧ (2 ≤ E.N ∧ E.N ≤ 5) ∧ (0 ≤ E.f ∧ E.f < E.N) ∧ ∀ a : Int, 0 ≤ a → a < 5 → rowOK (E.T a)
def ag (E : WEnv) (p : Int) : Int := if E.N ≤ E.f + p then E.f + p - E.N else E.f + p
abbrev Pt := Int × Int
abbrev Dv := Int → Int
abbrev bt (g p : Int) : Prop := bAnd (bShr g p) 1 = 1
abbrev off1 (g p : Int) : Int := bAnd g (bXor (bShl 1 p) (-1))
def fsO (g : Int) : Int := if bt g 0 then 0 else if bt g 1 then 1 else if bt g 2 then 2 else if bt g 3 then 3 else if bt g 4 then 4 else 0
def cnt (g : Int) : Int := (if bt g 0 then 1 else 0) + (if bt g 1 then 1 else 0) + (if bt g 2 then 1 else 0) + (if bt g 3 then 1 else 0) + (if bt g 4 then 1 else 0)
def full (N : Int) : Int := bShl 1 N - 1
/-- what a row has of a span, above and below the line -/
def wvN (row : Int → Int) (S : Nat) (a b : Pt) : Int := pw row (b.1 * a.2) (a.2 * b.2) S - pw row (a.1 * b.2) (a.2 * b.2) S
def wvD (a b : Pt) : Int := a.2 * b.2
def setU (w : Dv) (u : Int) : Dv := fun i => if i = 3 then u else w i
/-- the unit takes a number in; none: it would be too large -/
def unS (w : Dv) (y : Int) : Option Dv := if 1000000000 < y ∨ 1000000000 < rdN (w 3) y * y then none else some (setU w (rdN (w 3) y * y))
/-- one marks, from a point on, over by under of what a span has for it -/
def pmS (E : WEnv) (w : Dv) (p : Int) (st a b : Pt) (over under : Int) : Option (Pt × Dv) :=
  (markR (E.T (ag E p)) E.S st.1 st.2 (wvN (E.T (ag E p)) E.S a b * over) (wvD a b * under)).bind fun m => (unS w m.2).map fun w' => (m, w')
def noteS (w : Dv) (kind a : Int) (p q : Pt) : Dv := happ w kind a p.1 p.2 q.1 q.2
def giveS (w : Dv) (a : Int) (p q : Pt) : Dv := addS w a p.1 p.2 q.1 q.2
def takeS (w : Dv) (a : Int) (p q : Pt) : Dv := giveS (noteS w 3 a p q) a p q
def updM (mk : Int → Pt) (k : Int) (m : Pt) : Int → Pt := fun i => if i = k then m else mk i
/-- all of a group mark: behind the first k places -/
def mkA (E : WEnv) (g : Int) (st a b : Pt) (over under : Int) (mk : Int → Pt) (w : Dv) : Nat → Option ((Int → Pt) × Dv)
  | 0 => some (mk, w)
  | k + 1 => (mkA E g st a b over under mk w k).bind fun x => if bt g k then (pmS E x.2 k st a b over under).map fun y => (updM x.1 k y.1, noteS y.2 0 (ag E k) y.1 (0, 1)) else some x
/-- of the first k places the one of the group with the least mark; -1: none -/
def lst (mk : Int → Pt) (g : Int) : Nat → Int
  | 0 => -1
  | k + 1 => if bt g k ∧ (lst mk g k < 0 ∨ (mk k).1 * (mk (lst mk g k)).2 < (mk (lst mk g k)).1 * (mk k).2) then (k : Int) else lst mk g k
/-- cut and choose -/
def wayC (E : WEnv) (w : Dv) : Option Dv :=
  (pmS E w 0 (0, 1) (0, 1) (E.S, 1) 1 2).map fun x =>
    let w1 := noteS x.2 0 (ag E 0) x.1 (0, 1)
    let l : Pt × Pt := ((0, 1), x.1)
    let r : Pt × Pt := (x.1, ((E.S : Int), 1))
    let row := E.T (ag E 1)
    let right := wvN row E.S l.1 l.2 * wvD r.1 r.2 < wvN row E.S r.1 r.2 * wvD l.1 l.2
    if right then takeS (takeS w1 (ag E 1) r.1 r.2) (ag E 0) l.1 l.2 else takeS (takeS w1 (ag E 1) l.1 l.2) (ag E 0) r.1 r.2
abbrev KSt := Int × Pt × Dv
def mk0 : Int → Pt := fun _ => (0, 1)
/-- the knife: behind j takes -/
def knS (E : WEnv) (w : Dv) : Nat → Option KSt
  | 0 => some (full E.N, (0, 1), w)
  | j + 1 => (knS E w j).bind fun x => (mkA E x.1 x.2.1 (0, 1) (E.S, 1) 1 E.N mk0 x.2.2 E.N.toNat).map fun y =>
      (off1 x.1 (lst y.1 x.1 E.N.toNat), y.1 (lst y.1 x.1 E.N.toNat), takeS y.2 (ag E (lst y.1 x.1 E.N.toNat)) x.2.1 (y.1 (lst y.1 x.1 E.N.toNat)))
def lastTake (E : WEnv) (x : KSt) : Dv := takeS x.2.2 (ag E (fsO x.1)) x.2.1 (E.S, 1)
def wayK (E : WEnv) (w : Dv) : Option Dv := (knS E w (E.N.toNat - 1)).map (lastTake E)
/-- one more looks at the piece from the rest's beginning to a mark -/
def lookS (E : WEnv) (rest : Pt) (k : Int) (q last : Int) (m : Pt) (w : Dv) : Option (Int × Pt × Dv) :=
  let row := E.T (ag E q)
  let e : Pt := (E.S, 1)
  if wvN row E.S rest m * k * wvD rest e ≤ wvN row E.S rest e * wvD rest m then some (last, m, noteS w 2 (ag E q) m (0, 1))
  else (pmS E w q rest rest e 1 k).map fun x => (q, x.1, noteS x.2 1 (ag E q) x.1 m)
/-- diminishing one piece: behind the first q places: whose it is (-1: none yet), up to where -/
def dmI (E : WEnv) (g : Int) (rest : Pt) (k : Int) (w : Dv) : Nat → Option (Int × Pt × Dv)
  | 0 => some (-1, (0, 1), w)
  | q + 1 => (dmI E g rest k w q).bind fun x => if bt g q then (if x.1 < 0 then (pmS E x.2.2 q rest rest (E.S, 1) 1 k).map fun y => ((q : Int), y.1, noteS y.2 0 (ag E q) y.1 (0, 1)) else lookS E rest k q x.1 x.2.1 x.2.2) else some x
def dmS (E : WEnv) (w : Dv) : Nat → Option KSt
  | 0 => some (full E.N, (0, 1), w)
  | j + 1 => (dmS E w j).bind fun x => (dmI E x.1 x.2.1 (E.N - j) x.2.2 E.N.toNat).map fun y => (off1 x.1 y.1, y.2.1, takeS y.2.2 (ag E y.1) x.2.1 y.2.1)
def wayD (E : WEnv) (w : Dv) : Option Dv := (dmS E w (E.N.toNat - 1)).map (lastTake E)
/-- the group less those with the m least marks, and the last of these -/
def othS (mk : Int → Pt) (N : Nat) (g : Int) : Nat → Int × Int
  | 0 => (g, -1)
  | m + 1 => (off1 (othS mk N g m).1 (lst mk (othS mk N g m).1 N), lst mk (othS mk N g m).1 N)
abbrev HSt := List (Int × Pt) × Pt × Dv
def hvT (E : WEnv) (x : HSt) : Option HSt :=
  match x with
  | ([], r, w) => some ([], r, w)
  | ((g, e) :: tl, r, w) => if cnt g < 2 then some (tl, e, takeS w (ag E (fsO g)) r e) else
      (mkA E g r r e (cnt g / 2) (cnt g) mk0 w E.N.toNat).map fun y =>
        let o := othS y.1 E.N.toNat g (cnt g / 2).toNat
        ((bAnd g (bXor o.1 (-1)), y.1 o.2) :: (o.1, e) :: tl, r, y.2)
def hvS (E : WEnv) (w : Dv) : Nat → Option HSt
  | 0 => some ([(full E.N, ((E.S : Int), 1))], (0, 1), w)
  | t + 1 => (hvS E w t).bind (hvT E)
def wayH (E : WEnv) (w : Dv) : Option Dv := (hvS E w 10).map fun x => x.2.2
/-- pieces: three spans -/
abbrev Pcs := Int → Pt × Pt
def hasP (E : WEnv) (p : Int) (s : Pt × Pt) : Int := wvN (E.T (ag E p)) E.S s.1 s.2
def denP (s : Pt × Pt) : Int := wvD s.1 s.2
/-- of the first k pieces, less those that are gone, the one with most for one; -1: none -/
def mstS (E : WEnv) (p gone : Int) (ps : Pcs) : Nat → Int
  | 0 => -1
  | k + 1 => if ¬ bt gone k ∧ (mstS E p gone ps k < 0 ∨ hasP E p (ps (mstS E p gone ps k)) * denP (ps k) < hasP E p (ps k) * denP (ps (mstS E p gone ps k))) then (k : Int) else mstS E p gone ps k
def mostS (E : WEnv) (p gone : Int) (ps : Pcs) : Int := max 0 (mstS E p gone ps 3)
/-- one parts a span in three -/
def thrS (E : WEnv) (w : Dv) (p : Int) (s : Pt × Pt) : Option (Pcs × Dv) :=
  (pmS E w p s.1 s.1 s.2 1 3).bind fun x => (pmS E x.2 p s.1 s.1 s.2 2 3).map fun y =>
    (fun i => if i = 0 then (s.1, x.1) else if i = 1 then (x.1, y.1) else (y.1, s.2), noteS (noteS y.2 0 (ag E p) x.1 (0, 1)) 0 (ag E p) y.1 (0, 1))
def takeP (E : WEnv) (w : Dv) (p : Int) (s : Pt × Pt) : Dv := takeS w (ag E p) s.1 s.2
def updP (ps : Pcs) (k : Int) (s : Pt × Pt) : Pcs := fun i => if i = k then s else ps i
/-- the pieces, the division, the favourite, whether it is trimmed, the crumbs -/
def TSt : Type := Pcs × Dv × Int × Bool × (Pt × Pt)
def TSt.ps (x : TSt) : Pcs := x.1
def TSt.w (x : TSt) : Dv := x.2.1
def TSt.fav (x : TSt) : Int := x.2.2.1
def TSt.trimmed (x : TSt) : Bool := x.2.2.2.1
def TSt.crumbs (x : TSt) : Pt × Pt := x.2.2.2.2
/-- cut and trim: up to the trimming -/
def trmS (E : WEnv) (w : Dv) : Option TSt :=
  (thrS E w 0 ((0, 1), (E.S, 1))).bind fun x =>
    let fav := mostS E 1 0 x.1
    let sec := mostS E 1 (bShl 1 fav) x.1
    if hasP E 1 (x.1 sec) * denP (x.1 fav) < hasP E 1 (x.1 fav) * denP (x.1 sec) then
      (pmS E x.2 1 (x.1 fav).1 (x.1 sec).1 (x.1 sec).2 1 1).map fun y =>
        (updP x.1 fav ((x.1 fav).1, y.1), noteS y.2 1 (ag E 1) y.1 (x.1 fav).2, fav, true, (y.1, (x.1 fav).2))
    else some (x.1, noteS x.2 2 (ag E 1) (x.1 fav).2 (0, 1), fav, false, ((0, 1), (0, 1)))
/-- the pieces are taken; who took the trimmed one -/
def tpkS (E : WEnv) (x : TSt) : Dv × Int :=
  let third := mostS E 2 0 x.ps
  let second := if x.trimmed ∧ third ≠ x.fav then x.fav else mostS E 1 (bShl 1 third) x.ps
  (takeP E (takeP E (takeP E x.w 2 (x.ps third)) 1 (x.ps second)) 0 (x.ps (mostS E 0 (bOr (bShl 1 third) (bShl 1 second)) x.ps)), if third = x.fav then 2 else 1)
/-- the crumbs are shared -/
def tcrS (E : WEnv) (x : TSt) (y : Dv × Int) : Option Dv :=
  if x.trimmed then (thrS E y.1 (3 - y.2) x.crumbs).map fun z =>
    let best := mostS E y.2 0 z.1
    let second := mostS E 0 (bShl 1 best) z.1
    takeP E (takeP E (takeP E z.2 y.2 (z.1 best)) 0 (z.1 second)) (3 - y.2) (z.1 (mostS E (3 - y.2) (bOr (bShl 1 best) (bShl 1 second)) z.1))
  else some y.1
def wayT (E : WEnv) (w : Dv) : Option Dv := (trmS E w).bind fun x => tcrS E x (tpkS E x)
/-- an empty division, as a way begins it -/
def clrW (w : Dv) : Dv := fun i => if i = 3 then 1 else if i = 4 then 0 else if 165 ≤ i ∧ i < 170 then 0 else w i
def goS (E : WEnv) (w : Dv) (way : Int) : Option Dv := if way = 0 then wayC E w else if way = 1 then wayK E w else if way = 2 then wayD E w else if way = 3 then wayH E w else wayT E w
