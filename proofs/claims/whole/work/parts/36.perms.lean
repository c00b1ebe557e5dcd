/-! ALL ROWS OF A SET OF MEN, in the order that the reference runs through -/
def la (l : List Nat) : Nat → Nat := fun k => l.getD k 0
def nxl (l : List Nat) : Option (List Nat) := (nx (la l) l.length).map (fun b => (List.range l.length).map b)
def pm : Nat → Nat → List (List Nat)
  | 0, _ => [[]]
  | f + 1, s => if s = 0 then [[]] else (List.range 6).flatMap (fun m => if s.testBit m then (pm f (nt s (2 ^ m))).map (fun l => m :: l) else [])
def mem6 (s : Nat) : List Nat := (List.range 6).filter (fun m => s.testBit m)
def leq (a b : List Nat) : Bool := a.length == b.length && (a.zip b).all (fun p => Nat.beq p.1 p.2)
def ch : List (List Nat) → Bool
  | [] => false
  | [p] => match nxl p with | none => true | some _ => false
  | p :: q :: r => (match nxl p with | none => false | some x => leq x q) && ch (q :: r)
theorem chk : ∀ s, s < 64 → ch (pm 6 s) = true ∧ (pm 6 s).head? = some (mem6 s) := by decide +kernel
