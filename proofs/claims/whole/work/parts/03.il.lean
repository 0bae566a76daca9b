/-! IL: what the methods do, told over numbers alone. A cell is named (c, k, j): of class c the k-th object (j 0), or the array that its field j - 1 holds.
  Of a state the first part has the ints: of class c, object k, field j - 1, place i (0 of a plain field); the second the longs. -/
abbrev RF : Type := Nat × Nat × Nat
abbrev AV : Type := Int32 ⊕ Int64 ⊕ RF
abbrev ST : Type := (Nat → Nat → Nat → Nat → Int32) × (Nat → Nat → Nat → Nat → Int64)
abbrev EN : Type := Instr × Nat × Nat × Nat × Nat × Int
abbrev TB : Type := List (List EN) × List (Nat × List (Int32 × Nat) × Nat) × Nat
def nth {α : Type} (z : α) : List α → Nat → α
  | [], _ => z
  | x :: _, 0 => x
  | _ :: l, n + 1 => nth z l n
/-- kinds of fields: 0 int, 1 long, 3 boolean, 2 the cell that follows, 4 an array of its own -/
def fkT : List (List (Nat × Nat × Nat × Nat)) := [[(0, 0, 0, 0), (0, 0, 0, 0), (4, 0, 0, 0)],
  [(0, 0, 0, 0), (0, 0, 0, 0), (0, 0, 0, 0), (4, 0, 0, 0), (4, 0, 0, 0), (4, 0, 0, 0), (4, 0, 0, 0), (4, 0, 0, 0), (4, 0, 0, 0), (4, 0, 0, 0), (2, 8, 0, 0), (2, 7, 0, 0)],
  [(2, 8, 0, 0), (2, 6, 0, 0), (4, 0, 0, 0)],
  [(0, 0, 0, 0), (0, 0, 0, 0), (4, 0, 0, 0), (4, 0, 0, 0), (4, 0, 0, 0), (4, 0, 0, 0)],
  [(0, 0, 0, 0), (3, 0, 0, 0), (2, 8, 0, 0), (2, 9, 0, 0), (4, 0, 0, 0), (4, 0, 0, 0)],
  [(2, 8, 1, 0), (0, 0, 0, 0), (2, 10, 0, 1), (0, 0, 0, 0), (0, 0, 0, 0), (0, 0, 0, 0), (0, 0, 0, 0), (0, 0, 0, 0)],
  [(4, 0, 0, 0)],
  [(0, 0, 0, 0), (0, 0, 0, 0), (0, 0, 0, 0), (0, 0, 0, 0), (0, 0, 0, 0), (4, 0, 0, 0)],
  [(0, 0, 0, 0), (0, 0, 0, 0), (4, 0, 0, 0), (4, 0, 0, 0), (4, 0, 0, 0), (4, 0, 0, 0), (4, 0, 0, 0), (4, 0, 0, 0), (4, 0, 0, 0), (4, 0, 0, 0)],
  [(2, 8, 0, 0), (2, 7, 0, 0), (2, 2, 0, 0), (2, 1, 0, 0), (4, 0, 0, 0), (4, 0, 0, 0), (4, 0, 0, 0), (0, 0, 0, 0), (4, 0, 0, 0), (0, 0, 0, 0), (0, 0, 0, 0)],
  [(4, 0, 0, 0), (4, 0, 0, 0), (4, 0, 0, 0), (4, 0, 0, 0), (2, 8, 0, 0), (2, 7, 0, 0), (2, 3, 0, 0), (2, 3, 1, 0), (2, 0, 0, 0), (2, 6, 0, 0), (2, 5, 0, 0), (2, 2, 0, 0), (2, 1, 0, 0), (2, 9, 0, 0), (2, 4, 0, 0), (0, 0, 0, 0), (0, 0, 0, 0), (0, 0, 0, 0), (0, 0, 0, 0), (0, 0, 0, 0)],
  [(0, 0, 0, 0), (0, 0, 0, 0), (0, 0, 0, 0), (4, 0, 0, 0), (0, 0, 0, 0), (0, 0, 0, 0), (0, 0, 0, 0), (0, 0, 0, 0), (0, 0, 0, 0), (0, 0, 0, 0), (0, 0, 0, 0), (0, 0, 0, 0), (0, 0, 0, 0), (1, 0, 0, 0), (4, 0, 0, 0), (4, 0, 0, 0), (4, 0, 0, 0), (4, 0, 0, 0), (4, 0, 0, 0), (4, 0, 0, 0), (4, 0, 0, 0), (4, 0, 0, 0), (4, 0, 0, 0), (0, 0, 0, 0), (0, 0, 0, 0), (0, 0, 0, 0), (4, 0, 0, 0), (4, 0, 0, 0), (4, 0, 0, 0), (0, 0, 0, 0), (4, 0, 0, 0), (4, 0, 0, 0), (4, 0, 0, 0), (4, 0, 0, 0), (4, 0, 0, 0), (4, 0, 0, 0), (4, 0, 0, 0), (4, 0, 0, 0), (0, 0, 0, 0), (0, 0, 0, 0), (4, 0, 0, 0), (4, 0, 0, 0), (4, 0, 0, 0), (4, 0, 0, 0), (4, 0, 0, 0), (0, 0, 0, 0), (4, 0, 0, 0), (0, 0, 0, 0)]]
/-- arrays of fields: 1 ints, 2 longs, 3 cells (0: none of its own); how many places -/
def akT : List (List (Nat × Nat)) := [[(0, 0), (0, 0), (1, 820)],
  [(0, 0), (0, 0), (0, 0), (1, 60), (1, 60), (1, 5), (1, 5), (1, 60), (1, 60), (1, 60), (0, 0), (0, 0)],
  [(0, 0), (0, 0), (1, 1770)],
  [(0, 0), (0, 0), (1, 5), (1, 5), (1, 5), (1, 300)],
  [(0, 0), (0, 0), (0, 0), (0, 0), (1, 5), (3, 6)],
  [(0, 0), (0, 0), (0, 0), (0, 0), (0, 0), (0, 0), (0, 0), (0, 0)],
  [(1, 61)],
  [(0, 0), (0, 0), (0, 0), (0, 0), (0, 0), (1, 5)],
  [(0, 0), (0, 0), (1, 60), (1, 60), (1, 5), (1, 5), (1, 5), (1, 60), (1, 360), (1, 60)],
  [(0, 0), (0, 0), (0, 0), (0, 0), (1, 793), (1, 793), (1, 72), (0, 0), (1, 5), (0, 0), (0, 0)],
  [(1, 600), (1, 480), (1, 5), (1, 60), (0, 0), (0, 0), (0, 0), (0, 0), (0, 0), (0, 0), (0, 0), (0, 0), (0, 0), (0, 0), (0, 0), (0, 0), (0, 0), (0, 0), (0, 0), (0, 0)],
  [(0, 0), (0, 0), (0, 0), (1, 600), (0, 0), (0, 0), (0, 0), (0, 0), (0, 0), (0, 0), (0, 0), (0, 0), (0, 0), (0, 0), (2, 5), (2, 60), (2, 60), (1, 5), (1, 5), (1, 60), (1, 5), (1, 60), (1, 60), (0, 0), (0, 0), (0, 0), (1, 322), (1, 322), (1, 3220), (0, 0), (1, 80), (1, 80), (1, 80), (1, 800), (1, 800), (1, 300), (1, 6), (1, 6), (0, 0), (0, 0), (1, 60), (1, 60), (1, 80), (1, 5), (1, 5), (0, 0), (1, 600), (0, 0)],
  [(2, 1)]]
/-- how many objects of each class there are -/
def cnT : List Nat := [1, 1, 1, 8, 1, 1, 1, 1, 2, 1, 1, 1]
def nthO {α : Type} : List α → Nat → Option α
  | [], _ => none
  | x :: _, 0 => some x
  | _ :: l, n + 1 => nthO l n
def fkO (c j : Nat) : Option (Nat × Nat × Nat × Nat) := match nthO fkT c with
  | some l => nthO l j
  | none => none
def fkd (c j : Nat) : Nat × Nat × Nat × Nat := match fkO c j with
  | some q => q
  | none => (9, 0, 0, 0)
def akO (c j : Nat) : Option (Nat × Nat) := match nthO akT c with
  | some l => nthO l j
  | none => none
def akd (c j : Nat) : Nat × Nat := match akO c j with
  | some q => q
  | none => (0, 0)
/-- the kind of an array and its length, the row of the script (13, 0, 1) among them -/
def arO (N c j : Nat) : Option (Nat × Nat) := match j with
  | 0 => none
  | j + 1 => cond (Nat.beq c 13) (some (1, N)) (akO c j)
/-- which object an array of cells holds -/
def rafO (_ _ i : Nat) : Option RF := some (3, i + 2, 0)
def raf (c j i : Nat) : RF := match rafO c j i with
  | some r => r
  | none => (0, 0, 0)
def uI (σ : ST) (c k j i : Nat) (x : Int32) : ST := (fun c' k' j' i' => if c' = c ∧ k' = k ∧ j' = j ∧ i' = i then x else σ.1 c' k' j' i', σ.2)
def uL (σ : ST) (c k j i : Nat) (x : Int64) : ST := (σ.1, fun c' k' j' i' => if c' = c ∧ k' = k ∧ j' = j ∧ i' = i then x else σ.2 c' k' j' i')
/-- a row of ints as a whole -/
def uR (σ : ST) (c k j : Nat) (f : Nat → Int32) : ST := (fun c' k' j' i' => if c' = c ∧ k' = k ∧ j' = j then f i' else σ.1 c' k' j' i', σ.2)
def aI (x : Int32) : AV := .inl x
def aJ (x : Int64) : AV := .inr (.inl x)
def aR (c k j : Nat) : AV := .inr (.inr (c, k, j))
def cat2 : AV → Nat
  | .inr (.inl _) => 2
  | _ => 1
def isLg : Option AV → Bool
  | some (.inr (.inl _)) => true
  | _ => false
/-- no long stands just ahead of place k -/
def noLg (ls : List (Option AV)) (k : Nat) : Bool := match k with
  | 0 => true
  | k + 1 => not (isLg (nth none ls k))
def inL (ls : List (Option AV)) (k : Nat) : Bool := match ls, k with
  | [], _ => false
  | _ :: _, 0 => true
  | _ :: l, k + 1 => inL l k
def stl (ls : List (Option AV)) (k : Nat) (v : Option AV) : List (Option AV) := match ls, k with
  | [], _ => []
  | _ :: l, 0 => v :: l
  | x :: l, k + 1 => x :: stl l k v
/-- the locals at a method's entry -/
def ent : Nat → List AV → List (Option AV)
  | 0, _ => []
  | n + 1, [] => none :: ent n []
  | n + 1, .inl x :: vs => some (.inl x) :: ent n vs
  | n + 1, .inr (.inr r) :: vs => some (.inr (.inr r)) :: ent n vs
  | n + 2, .inr (.inl x) :: vs => some (.inr (.inl x)) :: none :: ent n vs
  | 1, .inr (.inl _) :: _ => [none]
