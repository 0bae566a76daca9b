/-! the tables by numbers -/
def tab (i : Nat) : TB := nth ([], [], 999) (nth [] tabL (i / 16)) (i % 16)
def inf (i : Nat) : Nat × Nat := nth (99, 0) (nth [] infL (i / 16)) (i % 16)
def TB.at (M : TB) (i : Nat) : Option EN := match nthO M.1 (i / 16) with
  | some l => nthO l (i % 16)
  | none => none
def swl (M : List (Nat × List (Int32 × Nat) × Nat)) (i : Nat) : Option (List (Int32 × Nat) × Nat) := match M with
  | [] => none
  | (j, r) :: l => cond (Nat.beq j i) (some r) (swl l i)
