/-! THE PICTURE: the program (a table of numbers), a STATE, STEPS, a look. Both sides are tied to it. -/
abbrev Cf : Type := Nat → Nat → Nat
abbrev cNV (c : Cf) : Nat := c 0 0
abbrev cNA (c : Cf) : Nat := c 0 1
abbrev cNF (c : Cf) : Nat := c 0 2
abbrev cBeg (c : Cf) (i : Nat) : Nat := c 1 i
abbrev cFr (c : Cf) (i : Nat) : Nat := c 2 i
abbrev cTo (c : Cf) (i : Nat) : Nat := c 3 i
abbrev cWt (c : Cf) (i : Nat) : Nat := c 4 i
abbrev cFT (c : Cf) (i : Nat) : Nat := c 5 i
abbrev cFV (c : Cf) (i : Nat) : Nat := c 6 i
abbrev cSet (c : Cf) (i : Nat) : Nat := c 7 i
abbrev cTab (c : Cf) (i : Nat) : Nat := c 8 i
def cOK (c : Cf) : Prop := (cNV c ≤ 5 ∧ cNA c ≤ 8 ∧ cNF c ≤ 4) ∧ (∀ i, i < cNV c → cBeg c i < 16) ∧ (∀ i, i < cNA c → cFr c i < cNV c ∧ cTo c i < cNV c ∧ cWt c i < 16) ∧ (∀ i, i < cNF c → cFT c i < cNV c ∧ cFV c i < 16) ∧ (cSet c 0 ≤ 9 ∧ cSet c 1 ≤ 4 ∧ cSet c 2 ≤ 1 ∧ 1 ≤ cSet c 3 ∧ cSet c 3 ≤ 16 ∧ cSet c 4 ≤ 1 ∧ cSet c 5 ≤ 2) ∧ (∀ i, i < 256 → cTab c i < 16)
def aFold (c : Cf) (a b : Nat) : Nat :=
  if cSet c 0 = 0 then (a + b) % 16 else if cSet c 0 = 1 then (if b < a then b else a) else if cSet c 0 = 2 then (if a < b then b else a) else if cSet c 0 = 3 then a ^^^ b else if cSet c 0 = 4 then b
  else if cSet c 0 = 5 then a else if cSet c 0 = 6 then (2 * a + b) % 16 else if cSet c 0 = 7 then a &&& b else if cSet c 0 = 8 then a ||| b else cTab c (16 * a + b)
def aOut (c : Cf) (y w : Nat) : Nat :=
  if cSet c 1 = 0 then y else if cSet c 1 = 1 then (y + w) % 16 else if cSet c 1 = 2 then (if w < y then w else y) else if cSet c 1 = 3 then (if y < w then w else y) else (y * w) % 16
/-- VALUES, how often SENT, which FIRST MESSAGES came (0, 1), DOUBLES left, what is under way on each ARC -/
abbrev AS : Type := List Nat × List Nat × List Nat × Nat × List (List Nat)
abbrev sV (a : AS) : List Nat := a.1
abbrev sS (a : AS) : List Nat := a.2.1
abbrev sC (a : AS) : List Nat := a.2.2.1
abbrev sD (a : AS) : Nat := a.2.2.2.1
abbrev sR (a : AS) : List (List Nat) := a.2.2.2.2
def insP (row : List Nat) (m : Nat) : Nat → Nat
  | 0 => 0
  | p + 1 => if m < row.getD p 0 then insP row m p else p + 1
def aPutP (mode : Nat) (row : List Nat) (m : Nat) : Nat := if mode = 1 then row.length else insP row m row.length
def aPut (mode : Nat) (row : List Nat) (m : Nat) : List Nat := row.take (aPutP mode row m) ++ m :: row.drop (aPutP mode row m)
/-- y is sent from v over the ARCS below i that stay -/
def aSend (c : Cf) (stay : Nat → Bool) (v y : Nat) : Nat → List (List Nat) → List (List Nat)
  | 0, r => r
  | i + 1, r => if cFr c i = v ∧ stay i = true then (aSend c stay v y i r).set i (aPut (cSet c 4) ((aSend c stay v y i r).getD i []) (aOut c y (cWt c i))) else aSend c stay v y i r
def aDeliver (c : Cf) (stay : Nat → Bool) (a : AS) (v m : Nat) : AS :=
  if (aFold c ((sV a).getD v 0) m ≠ (sV a).getD v 0 ∨ cSet c 2 = 1) ∧ (sS a).getD v 0 < cSet c 3 then
    ((sV a).set v (aFold c ((sV a).getD v 0) m), (sS a).set v ((sS a).getD v 0 + 1), sC a, sD a, aSend c stay v (aFold c ((sV a).getD v 0) m) (cNA c) (sR a))
  else ((sV a).set v (aFold c ((sV a).getD v 0) m), sS a, sC a, sD a, sR a)
def aDel (row : List Nat) (p : Nat) : List Nat := row.take p ++ row.drop (p + 1)
def aMsg (c : Cf) (a : AS) (src p : Nat) : Nat := if 100 ≤ src then cFV c (src - 100) else ((sR a).getD src []).getD p 0
def aTgt (c : Cf) (src : Nat) : Nat := if 100 ≤ src then cFT c (src - 100) else cTo c src
def aTake (a : AS) (src p d : Nat) : AS :=
  if d = 1 then (sV a, sS a, sC a, sD a - 1, sR a)
  else if 100 ≤ src then (sV a, sS a, (sC a).set (src - 100) 1, sD a, sR a)
  else (sV a, sS a, sC a, sD a, (sR a).set src (aDel ((sR a).getD src []) p))
def aStep (c : Cf) (stay : Nat → Bool) (a : AS) (src p d : Nat) : AS := aDeliver c stay (aTake a src p d) (aTgt c src) (aMsg c a src p)
def aManners (a : AS) : List Nat := if 0 < sD a then [0, 1] else [0]
def aIs (c : Cf) (row : List Nat) (p : Nat) : Bool := decide (p = 0 ∨ (cSet c 4 = 0 ∧ row.getD p 0 ≠ row.getD (p - 1) 0))
def aFirsts (a : AS) (f : Nat) : List (Nat × Nat × Nat) := if (sC a).getD f 0 = 0 then (aManners a).map (fun d => (100 + f, 0, d)) else []
def aPlace (c : Cf) (a : AS) (i p : Nat) : List (Nat × Nat × Nat) := if aIs c ((sR a).getD i []) p = true then (aManners a).map (fun d => (i, p, d)) else []
def aArc (c : Cf) (a : AS) (i : Nat) : List (Nat × Nat × Nat) := (List.range ((sR a).getD i []).length).flatMap (aPlace c a i)
def aSteps (c : Cf) (a : AS) : List (Nat × Nat × Nat) := (List.range (cNF c)).flatMap (aFirsts a) ++ (List.range (cNA c)).flatMap (aArc c a)
/-- what a look found: each STATE, by which STEP (from which STATE, its source, VALUE, doubled); whether it was full -/
abbrev AE : Type := AS × Nat × Nat × Nat × Nat
abbrev BS : Type := List AE × Bool
def aPush (n : Nat) (B : BS) (x : AE) : BS := if x.1 ∈ B.1.map (fun e => e.1) then B else if B.1.length = n then (B.1, true) else (B.1 ++ [x], false)
def aVisit (c : Cf) (stay : Nat → Bool) (n s : Nat) (a : AS) (B : BS) (t : Nat × Nat × Nat) : BS :=
  if B.2 = true then B else aPush n B (aStep c stay a t.1 t.2.1 t.2.2, s, t.1, aMsg c a t.1 t.2.1, t.2.2)
def aGo (c : Cf) (stay : Nat → Bool) (n s : Nat) (a : AS) (B : BS) (l : List (Nat × Nat × Nat)) : BS := l.foldl (aVisit c stay n s a) B
def aBegin (c : Cf) : AS := ((List.range 5).map (fun v => if v < cNV c then cBeg c v else 0), List.replicate 5 0, List.replicate 4 0, cSet c 5, List.replicate 8 [])
def aSt (B : BS) (s : Nat) : AS := (B.1.map (fun e => e.1)).getD s ([], [], [], 0, [])
def aLoop (c : Cf) (stay : Nat → Bool) (n : Nat) : Nat → Nat → BS → BS
  | 0, _, B => B
  | f + 1, s, B => if s < B.1.length ∧ B.2 = false then aLoop c stay n f (s + 1) (aGo c stay n s (aSt B s) B (aSteps c (aSt B s))) else B
def aLook (c : Cf) (stay : Nat → Bool) (n : Nat) : BS := aLoop c stay n 601 0 ([(aBegin c, 0, 0, 0, 0)], false)
def aPend (c : Cf) (a : AS) : Nat := ((List.range (cNF c)).filter (fun f => decide ((sC a).getD f 0 = 0))).length + ((sR a).map List.length).sum
/-- the places of the ENDS among the STATES -/
def aIsEnd (c : Cf) (L : List AE) (x : AS) : Bool := decide (aPend c x = 0) && !(L.any (fun e => decide (aPend c e.1 = 0) && decide (sV e.1 = sV x)))
def aEnds (c : Cf) : List AE → List AE → Nat → List Nat
  | _, [], _ => []
  | seen, e :: l, k => (if aIsEnd c seen e.1 = true then [k] else []) ++ aEnds c (seen ++ [e]) l (k + 1)
def aDead (c : Cf) (L : List AE) : Nat := (L.filter (fun e => decide (aPend c e.1 = 0))).length
def aMost (c : Cf) (L : List AE) : Nat := L.foldl (fun k e => if k < aPend c e.1 then aPend c e.1 else k) 0
/-! a STATE that can be: the lengths and bounds -/
def sOK (c : Cf) (a : AS) : Prop := (sV a).length = 5 ∧ (sS a).length = 5 ∧ (sC a).length = 4 ∧ (sR a).length = 8 ∧ (∀ d ∈ sV a, d < 16) ∧ (∀ d ∈ sS a, d ≤ 16) ∧ (∀ d ∈ sC a, d < 2) ∧ sD a ≤ 2 ∧
  (∀ i, cNF c ≤ i → (sC a).getD i 0 = 0) ∧ (∀ r ∈ sR a, ∀ d ∈ r, d < 16) ∧ (∀ i, i < cNA c → ((sR a).getD i []).length ≤ (sS a).getD (cFr c i) 0) ∧ (∀ i, cNA c ≤ i → (sR a).getD i [] = [])
