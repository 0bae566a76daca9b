/-! the beginning: both empty; what the start gives -/
def A0 : AS := ⟨(0, fun _ => 0, fun _ _ => 0, fun _ _ => 0, 0, fun _ => 0, fun _ _ => 0), (0, 0, 0, 0, 0, fun _ => 0), emE, 0, fun _ => ((0, 0, 0, 0, 0, fun _ => 0), emE), 0, fun _ => 0, [], 0, 0, -1⟩
theorem A0_v : VV A0 := by
  refine VV.mk ⟨Nat.zero_le _, fun h q => absurd q (Nat.not_lt_zero _), fun h q => absurd q (Nat.not_lt_zero _), Nat.zero_le _, fun h q => absurd q (Nat.not_lt_zero _)⟩ (fun q => absurd q (Nat.not_lt_zero _)) ?_ (fun _ => ⟨rfl, rfl, rfl⟩) ⟨Nat.zero_le _, fun h q => absurd q (Nat.not_lt_zero _)⟩ ⟨Nat.zero_le _, fun h q => absurd q (Nat.not_lt_zero _)⟩ (Nat.zero_le _)
  exact ⟨Nat.zero_le _, fun h q => absurd q (Nat.not_lt_zero _), fun p _ q => absurd q (Nat.not_lt_zero _), Nat.zero_le _, fun s _ _ q => absurd q (Nat.not_lt_zero _), fun s q => absurd q (Nat.not_lt_zero _), fun s q => absurd q (Nat.not_lt_zero _), fun _ _ _ _ _ _ q => absurd q (Nat.not_lt_zero _), fun s q => absurd q (Nat.not_lt_zero _)⟩
theorem s0_e (xs : Nat → Int32) (k : Nat) : cNE (σ0 xs) k emE := ⟨rfl, rfl, fun h q => absurd q (Nat.not_lt_zero _), fun h q => rfl, fun h q => absurd q (Nat.not_lt_zero _), fun h q => absurd q (Nat.not_lt_zero _)⟩
theorem A0_c (xs : Nat → Int32) : CC (σ0 xs) A0 := by
  refine CC.mk ?_ (fun q => absurd q (Nat.not_lt_zero _)) (s0_e xs 0) ⟨0, by omega, rfl, rfl, fun h q => absurd q (Nat.not_lt_zero _)⟩ (fun w v q => absurd q (Nat.not_lt_zero _)) (s0_e xs 2) (Or.inl rfl) ⟨rfl, fun h q => absurd q (Nat.not_lt_zero _)⟩ ⟨rfl, ?_⟩ ⟨rfl, rfl, rfl⟩
  · exact ⟨rfl, rfl, fun h q => absurd q (Nat.not_lt_zero _), fun h q => absurd q (Nat.not_lt_zero _), fun h q => absurd q (Nat.not_lt_zero _)⟩
  · intro k v
    exact absurd v (Nat.not_lt_zero _)
theorem A0_m (xs : Nat → Int32) : MM (σ0 xs) A0 := by
  refine MM.mk ?_ (fun q => absurd q (Nat.not_lt_zero _)) (fun q => absurd q (Nat.not_lt_zero _)) ⟨rfl, fun h q => absurd q (Nat.not_lt_zero _)⟩ ⟨rfl, fun h q => absurd q (Nat.not_lt_zero _)⟩ ⟨rfl, ?_⟩ ⟨rfl, rfl, rfl⟩
  · exact ⟨rfl, rfl, fun h q => absurd q (Nat.not_lt_zero _), fun h q => absurd q (Nat.not_lt_zero _), fun h q => absurd q (Nat.not_lt_zero _)⟩
  · intro k v
    exact absurd v (Nat.not_lt_zero _)
/-- from the script's first int on -/
theorem st_wp {N : Nat} {xs : Nat → Int32} {Q : POST} (hN : N ≤ 3072) (hQ : ∀ τ, Q (some (.inl (Int32.ofInt 1))) τ) : ∃ n, wp N n (14, 512) (tab 226) 13 (LL (Int32.ofInt 0) none none) [] (σ0 xs) Q :=
  ⟨3000000 + 200 * (512 + 1), law_loop (e := 0) hN hQ 512 0 _ 512 (σ0 xs) A0 _ none none (Nat.zero_le _) (by omega) (Nat.le_refl _) (Nat.le_refl _) rfl A0_v (A0_c xs) (A0_m xs) rfl⟩
/-- words of the start -/
abbrev gn1 : Cond := Jvm.Cond.and given_1 narrow_1
abbrev tW : Term := .string "HeardVotesModel" 172
theorem n_W : Cond.exactly tW "java/lang/String" ∈ flatC gn1 ∧ Cond.eq (.field tW "java/lang/String" "coder" "B") (.int 0) ∈ flatC gn1 ∧ Cond.arrayOf (.field tW "java/lang/String" "value" "[B") .byte ∈ flatC gn1 ∧ Cond.eq (.length (.field tW "java/lang/String" "value" "[B")) (.int 6) ∈ flatC gn1 := by decide +kernel
theorem n_We : ∀ j : Nat, j < 6 → Cond.eq (.elem (.field tW "java/lang/String" "value" "[B") (.int (Int32.ofNat j))) (.int (wB j)) ∈ flatC gn1 := by decide +kernel
theorem n_Z : Cond.eq (.static "java/lang/String" "COMPACT_STRINGS" "Z") (.int 1) ∈ flatC gn1 ∧ Cond.isRef (.static "jdk/internal/util/Preconditions" "SIOOBE_FORMATTER" "Ljava/util/function/BiFunction;") ∈ flatC gn1 ∧ Cond.isRef (.static Bundle.tN "UNASSIGNED_STACK" Bundle.steD) ∈ flatC gn1 ∧ Cond.isRef (.static Bundle.tN "SUPPRESSED_SENTINEL" Bundle.listD) ∈ flatC gn1 ∧ Cond.exactly (.string "HeardVotes" 376) "java/lang/String" ∈ flatC gn1 := by decide +kernel
theorem t_Z : Cond.laysStatic "java/lang/String" "COMPACT_STRINGS" "Z" ∈ lw_tbl ∧ Cond.laysStatic "jdk/internal/util/Preconditions" "SIOOBE_FORMATTER" "Ljava/util/function/BiFunction;" ∈ lw_tbl ∧ Cond.laysStatic Bundle.tN "UNASSIGNED_STACK" Bundle.steD ∈ lw_tbl ∧ Cond.laysStatic Bundle.tN "SUPPRESSED_SENTINEL" Bundle.listD ∈ lw_tbl ∧ Cond.initialized "java/lang/String" ∈ lw_tbl ∧ Cond.initialized "jdk/internal/util/Preconditions" ∈ lw_tbl ∧ Cond.initialized Bundle.tN ∈ lw_tbl ∧ Cond.stringRef RX11 172 "weight" ∈ lw_tbl ∧ Cond.stringRef RX10 376 "no such byte was written" ∈ lw_tbl := by decide +kernel
theorem t_A : Cond.arrayClass .int ∈ lw_tbl ∧ Cond.arrayClass .long ∈ lw_tbl ∧ Cond.arrayOver (.object RX3) ∈ lw_tbl ∧ Cond.arrayOver (.object RX3) ∈ lw_tbl := by decide +kernel
theorem t_N : ∀ q ∈ nstL, Cond.methodLinkNest (clsN q.1) q.2.1 (miC q.2.2).1 RX10 ∈ lw_tbl := by decide +kernel
