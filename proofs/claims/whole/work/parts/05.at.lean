/-! the tables by numbers -/
def tab (i : Nat) : TB := nth ([], [], 999) (nth [] tabL (i / 16)) (i % 16)
def inf (i : Nat) : Nat × Nat := nth (99, 0) (nth [] infL (i / 16)) (i % 16)
def EN0 : EN := (.nop, 0, 0, 0, 0, 0)
def TB.at (M : TB) (i : Nat) : EN := nth EN0 (nth [] M.1 (i / 16)) (i % 16)
def swl (M : List (Nat × List (Int32 × Nat) × Nat)) (i : Nat) : List (Int32 × Nat) × Nat := match M with
  | [] => ([], 0)
  | (j, r) :: l => cond (Nat.beq j i) r (swl l i)
