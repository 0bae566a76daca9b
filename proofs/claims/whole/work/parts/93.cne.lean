/-! what the law's beginning makes -/
set_option maxRecDepth 1000000 in
theorem cn_try : cn 400 (8, 188, 21872) 12 0 (ent 7 [.inr (.inr (13, 0, 1))]) [] [] 0 (fun _ cs sl => Nat.beq cs.length 188 && Nat.beq sl 21872) = true := by decide +kernel
