theorem arr_of {N c j kd L : Nat} {K : Nat → Prop} (h : arO N c j = some (kd, L)) (p : K L) : arr N c j kd K := by
  unfold arr
  rw [h]
  show cond (Nat.beq kd kd) (K L) False
  rw [Nat.beq_refl]
  exact p
theorem arl_of {N c j kd L : Nat} {K : Nat → Prop} (h : arO N c j = some (kd, L)) (h0 : kd ≠ 0) (p : K L) : arl N c j K := by
  unfold arl
  rw [h]
  show cond (Nat.beq kd 0) False (K L)
  rw [show Nat.beq kd 0 = false from Bool.eq_false_iff.mpr fun q => h0 (Nat.eq_of_beq_eq_true q)]
  exact p
section CHG
variable {N e : Nat} {σ : ST} {Q : POST} {c1 k1 j1 c2 k2 j2 lf ln rg rn L1 L2 : Nat}
abbrev chV (c1 k1 j1 c2 k2 j2 : Nat) (x2 x3 x5 x6 : Int32) (o7 o8 o9 o10 o11 o12 : Option AV) : List (Option AV) :=
  [some (.inr (.inr (6, 0, 0))), some (.inr (.inr (c1, k1, j1))), some (.inl x2), some (.inl x3), some (.inr (.inr (c2, k2, j2))), some (.inl x5), some (.inl x6), o7, o8, o9, o10, o11, o12]
set_option maxRecDepth 100000 in
theorem chg_in (a1 : arO N c1 j1 = some (1, L1)) (a2 : arO N c2 j2 = some (1, L2)) (n1 : (c1, k1, j1) ∉ [((6, 0, 1) : RF)]) (n2 : (c2, k2, j2) ∉ [((6, 0, 1) : RF)]) (w1 : lf + ln ≤ L1) (w2 : rg + rn ≤ L2) (w3 : L1 < 5000) (w4 : L2 < 5000) (w5 : rn ≤ 60)
    {x2 x3 x5 x6 x7 : Int32} (e2 : x2 = nI lf) (e5 : x5 = nI rg) (e6 : x6 = nI rn) {i M : Nat} (e7 : x7 = nI i) (hi : i < ln) {fa fb : Nat → Int32} (ea : (fun z => σ.1 c1 k1 j1 (lf + z)) = fa) (eb : (fun z => σ.1 c2 k2 j2 (rg + z)) = fb)
    (K : ∀ (m : Nat) (τ : ST) (x8 x9 : Int32) (o10 o11 o12 : Option AV), M ≤ m → off [(6, 0, 1)] σ τ → (∀ j, j ≤ rn → τ.1 6 0 1 j = nI (lev fa fb (i + 1) j)) →
      wp N m (e, 0) TX6_changes 114 (chV c1 k1 j1 c2 k2 j2 x2 x3 x5 x6 (some (.inl x7)) (some (.inl x8)) (some (.inl x9)) o10 o11 o12) [] τ Q) :
    ∀ (r j m : Nat) (τ : ST) (x8 x9 : Int32) (o10 o11 o12 : Option AV), j + r = rn → 100 * r + 100 + M ≤ m → off [(6, 0, 1)] σ τ →
      (∀ z, z ≤ j → τ.1 6 0 1 z = nI (lev fa fb (i + 1) z)) → (∀ z, j < z → z ≤ rn → τ.1 6 0 1 z = nI (lev fa fb i z)) →
      x8 = nI (lev fa fb i j) → x9 = nI j →
      wp N m (e, 0) TX6_changes 56 (chV c1 k1 j1 c2 k2 j2 x2 x3 x5 x6 (some (.inl x7)) (some (.inl x8)) (some (.inl x9)) o10 o11 o12) [] τ Q := by
  intro r
  induction r with
  | zero =>
    intro j m τ x8 x9 o10 o11 o12 hj hm ho h1 h2 e8 e9
    obtain ⟨n, rfl⟩ := il_ex (K := 3) (m := m) (by omega)
    refine b_ge e9 e6 (by omega) (by omega) (fun q => ?_) (fun q => by omega)
    exact K n τ x8 x9 o10 o11 o12 (by omega) ho (fun z hz => h1 z (by omega))
  | succ r ih =>
    intro j m τ x8 x9 o10 o11 o12 hj hm ho h1 h2 e8 e9
    obtain ⟨n, rfl⟩ := il_ex (K := 70) (m := m) (by omega)
    have l1 := lev_le fa fb i (j + 1)
    have l2 := lev_le fa fb (i + 1) j
    have l3 := lev_le fa fb i j
    have ls := lev_ss fa fb i j
    have g9 : x9 + Int32.ofInt 1 = nI (j + 1) := il_inc e9
    have v1 : τ.1 6 0 1 (x9 + Int32.ofInt 1).toNatClampNeg = nI (lev fa fb i (j + 1)) := by rw [il_cl g9 (by omega)]; exact h2 _ (by omega) (by omega)
    have v2 : τ.1 6 0 1 x9.toNatClampNeg = nI (lev fa fb (i + 1) j) := by rw [il_cl e9 (by omega)]; exact h1 _ (by omega)
    have g1 : x2 + x7 = nI (lf + i) := by rw [e2, e7, nI_add]
    have g2 : x5 + x9 = nI (rg + j) := by rw [e5, e9, nI_add]
    have v3 : τ.1 c1 k1 j1 (x2 + x7).toNatClampNeg = fa i := by rw [il_cl g1 (by omega), off_1 ho n1, ← ea]
    have v4 : τ.1 c2 k2 j2 (x5 + x9).toNatClampNeg = fb j := by rw [il_cl g2 (by omega), off_1 ho n2, ← eb]
    have fin : ∀ (y : Int32) (p11 p12 : Option AV) (n' : Nat), 100 * r + 104 + M ≤ n' → y = nI (lev fa fb (i + 1) (j + 1)) → wp N n' (e, 0) TX6_changes 110 (chV c1 k1 j1 c2 k2 j2 x2 x3 x5 x6 (some (.inl x7)) (some (.inl x8)) (some (.inl x9)) (some (.inl (τ.1 6 0 1 (x9 + Int32.ofInt 1).toNatClampNeg))) p11 p12) [] (uI τ 6 0 1 (x9 + Int32.ofInt 1).toNatClampNeg y) Q := by
      intro y p11 p12 n' hn' hy
      obtain ⟨n2, rfl⟩ := il_ex (K := 4) (m := n') (by omega)
      refine ⟨trivial, ih (j + 1) n2 _ _ _ _ _ _ (by omega) (by omega) (off_uI ho (by decide)) ?_ ?_ v1 g9⟩
      · intro z hz
        rw [il_cl g9 (by omega)]
        by_cases hz2 : z = j + 1
        · subst hz2
          rw [uI_at, hy]
        · rw [uI_ne _ _ _ _ _ _ hz2]
          exact h1 z (by omega)
      · intro z hz hz3
        rw [il_cl g9 (by omega), uI_ne _ _ _ _ _ _ (by omega)]
        exact h2 z (by omega) hz3
    refine b_ge e9 e6 (by omega) (by omega) (fun q => by omega) (fun q => ?_)
    refine ⟨il_in g9 (by omega) (by omega), ?_⟩
    refine ⟨il_in e9 (by omega) (by omega), ?_⟩
    refine b_ge v1 v2 (by omega) (by omega) (fun q1 => ?_) (fun q1 => ?_)
    · refine ⟨il_in e9 (by omega) (by omega), ?_⟩
      refine arr_of a1 ⟨il_in g1 (by omega) (by omega), ?_⟩
      refine arr_of a2 ⟨il_in g2 (by omega) (by omega), ?_⟩
      refine ⟨fun q2 => ?_, fun q2 => ?_⟩
      · have q2 : ¬ fa i = fb j := by rw [← v3, ← v4]; exact q2
        rw [if_neg q2] at ls
        refine b_ge (il_inc e8) (il_inc v2) (by omega) (by omega) (fun q3 => ?_) (fun q3 => ?_)
        · refine ⟨il_in g9 (by omega) (by omega), fin _ _ _ _ (by omega) ?_⟩
          rw [il_inc v2, ls]; congr 1; omega
        · refine ⟨trivial, il_in g9 (by omega) (by omega), fin _ _ _ _ (by omega) ?_⟩
          rw [il_inc e8, ls]; congr 1; omega
      · have q2 : fa i = fb j := by rw [← v3, ← v4]; exact Classical.byContradiction q2
        rw [if_pos q2] at ls
        have g8 : x8 + Int32.ofInt 0 = nI (lev fa fb i j) := by rw [e8, oi_0, nI_add]; rfl
        refine ⟨trivial, ?_⟩
        refine b_ge g8 (il_inc v2) (by omega) (by omega) (fun q3 => ?_) (fun q3 => ?_)
        · refine ⟨il_in g9 (by omega) (by omega), fin _ _ _ _ (by omega) ?_⟩
          rw [il_inc v2, ls]; congr 1; omega
        · refine ⟨trivial, il_in g9 (by omega) (by omega), fin _ _ _ _ (by omega) ?_⟩
          rw [g8, ls]; congr 1; omega
    · refine ⟨trivial, ?_⟩
      refine arr_of a1 ⟨il_in g1 (by omega) (by omega), ?_⟩
      refine arr_of a2 ⟨il_in g2 (by omega) (by omega), ?_⟩
      refine ⟨fun q2 => ?_, fun q2 => ?_⟩
      · have q2 : ¬ fa i = fb j := by rw [← v3, ← v4]; exact q2
        rw [if_neg q2] at ls
        refine b_ge (il_inc e8) (il_inc v1) (by omega) (by omega) (fun q3 => ?_) (fun q3 => ?_)
        · refine ⟨il_in g9 (by omega) (by omega), fin _ _ _ _ (by omega) ?_⟩
          rw [il_inc v1, ls]; congr 1; omega
        · refine ⟨trivial, il_in g9 (by omega) (by omega), fin _ _ _ _ (by omega) ?_⟩
          rw [il_inc e8, ls]; congr 1; omega
      · have q2 : fa i = fb j := by rw [← v3, ← v4]; exact Classical.byContradiction q2
        rw [if_pos q2] at ls
        have g8 : x8 + Int32.ofInt 0 = nI (lev fa fb i j) := by rw [e8, oi_0, nI_add]; rfl
        refine ⟨trivial, ?_⟩
        refine b_ge g8 (il_inc v1) (by omega) (by omega) (fun q3 => ?_) (fun q3 => ?_)
        · refine ⟨il_in g9 (by omega) (by omega), fin _ _ _ _ (by omega) ?_⟩
          rw [il_inc v1, ls]; congr 1; omega
        · refine ⟨trivial, il_in g9 (by omega) (by omega), fin _ _ _ _ (by omega) ?_⟩
          rw [g8, ls]; congr 1; omega
set_option maxRecDepth 100000 in
theorem chg_out (a1 : arO N c1 j1 = some (1, L1)) (a2 : arO N c2 j2 = some (1, L2)) (n1 : (c1, k1, j1) ∉ [((6, 0, 1) : RF)]) (n2 : (c2, k2, j2) ∉ [((6, 0, 1) : RF)]) (w1 : lf + ln ≤ L1) (w2 : rg + rn ≤ L2) (w3 : L1 < 5000) (w4 : L2 < 5000) (w5 : rn ≤ 60)
    {x2 x3 x5 x6 : Int32} (e2 : x2 = nI lf) (e3 : x3 = nI ln) (e5 : x5 = nI rg) (e6 : x6 = nI rn) {fa fb : Nat → Int32} (ea : (fun z => σ.1 c1 k1 j1 (lf + z)) = fa) (eb : (fun z => σ.1 c2 k2 j2 (rg + z)) = fb)
    (hQ : ∀ τ, off [(6, 0, 1)] σ τ → Q (some (.inl (nI (lev fa fb ln rn)))) τ) :
    ∀ (r i m : Nat) (τ : ST) (x7 : Int32) (o8 o9 o10 o11 o12 : Option AV), i + r = ln → 7000 * r + 100 ≤ m → off [(6, 0, 1)] σ τ → (∀ z, z ≤ rn → τ.1 6 0 1 z = nI (lev fa fb i z)) → x7 = nI i →
      wp N m (e, 0) TX6_changes 39 (chV c1 k1 j1 c2 k2 j2 x2 x3 x5 x6 (some (.inl x7)) o8 o9 o10 o11 o12) [] τ Q := by
  intro r
  induction r with
  | zero =>
    intro i m τ x7 o8 o9 o10 o11 o12 hi hm ho h1 e7
    obtain ⟨n, rfl⟩ := il_ex (K := 20) (m := m) (by omega)
    refine b_ge e7 e3 (by omega) (by omega) (fun q => ?_) (fun q => by omega)
    refine ⟨il_in e6 (by omega) (by omega), Or.inl rfl, ?_⟩
    obtain rfl : i = ln := by omega
    have v : τ.1 6 0 1 x6.toNatClampNeg = nI (lev fa fb i rn) := by rw [il_cl e6 (by omega), h1 _ (Nat.le_refl _)]
    have h := hQ τ ho
    rw [← v] at h
    exact h
  | succ r ih =>
    intro i m τ x7 o8 o9 o10 o11 o12 hi hm ho h1 e7
    obtain ⟨n, rfl⟩ := il_ex (K := 17) (m := m) (by omega)
    refine b_ge e7 e3 (by omega) (by omega) (fun q => by omega) (fun q => ?_)
    refine ⟨il_in oi_0 (by omega) (by omega), ?_⟩
    refine ⟨il_in oi_0 (by omega) (by omega), ?_⟩
    refine chg_in a1 a2 n1 n2 w1 w2 w3 w4 w5 e2 e5 e6 (i := i) (M := 7000 * r + 110) e7 (by omega) ea eb ?_ rn 0 n _ _ _ _ _ _ (by omega) (by omega) (off_uI ho (by decide)) ?_ ?_ ?_ (by rw [oi_0])
    · intro m' τ' x8 x9 p10 p11 p12 hm' ho' h'
      obtain ⟨n', rfl⟩ := il_ex (K := 2) (m := m') (by omega)
      exact ⟨trivial, ih (i + 1) n' τ' _ _ _ _ _ _ (by omega) (by omega) ho' h' (il_inc e7)⟩
    · intro z hz
      obtain rfl : z = 0 := by omega
      rw [lev_0]
      exact (uI_at ..).trans (il_inc e7)
    · intro z hz hz2
      rw [show (Int32.ofInt 0).toNatClampNeg = 0 from by decide, uI_ne _ _ _ _ _ _ (by omega)]
      exact h1 z hz2
    · rw [show (Int32.ofInt 0).toNatClampNeg = 0 from by decide]
      exact h1 0 (by omega)
end CHG
theorem z0 : (0 : Int32) = nI 0 := nI_0.symm
section CHG2
variable {N e : Nat} {σ : ST} {Q : POST} {c1 k1 j1 c2 k2 j2 lf ln rg rn L1 L2 : Nat}
set_option maxRecDepth 100000 in
theorem chg_0 (w5 : rn ≤ 60) {x2 x3 x5 x6 : Int32} (e6 : x6 = nI rn) {M : Nat}
    (K : ∀ (m : Nat) (τ : ST) (x7 : Int32), M ≤ m → off [(6, 0, 1)] σ τ → (∀ j, j ≤ rn → τ.1 6 0 1 j = nI j) → wp N m (e, 0) TX6_changes 37 (chV c1 k1 j1 c2 k2 j2 x2 x3 x5 x6 (some (.inl x7)) none none none none none) [] τ Q) :
    ∀ (r j m : Nat) (τ : ST) (x7 : Int32), j + r = rn + 1 → 20 * r + 20 + M ≤ m → off [(6, 0, 1)] σ τ → (∀ z, z < j → τ.1 6 0 1 z = nI z) → x7 = nI j →
      wp N m (e, 0) TX6_changes 27 (chV c1 k1 j1 c2 k2 j2 x2 x3 x5 x6 (some (.inl x7)) none none none none none) [] τ Q := by
  intro r
  induction r with
  | zero =>
    intro j m τ x7 hj hm ho h1 e7
    obtain ⟨n, rfl⟩ := il_ex (K := 3) (m := m) (by omega)
    refine b_gt e7 e6 (by omega) (by omega) (fun q => ?_) (fun q => by omega)
    exact K n τ x7 (by omega) ho (fun z hz => h1 z (by omega))
  | succ r ih =>
    intro j m τ x7 hj hm ho h1 e7
    obtain ⟨n, rfl⟩ := il_ex (K := 10) (m := m) (by omega)
    refine b_gt e7 e6 (by omega) (by omega) (fun q => by omega) (fun q => ?_)
    refine ⟨il_in e7 (by omega) (by omega), ?_⟩
    refine ⟨trivial, ih (j + 1) n _ _ (by omega) (by omega) (off_uI ho (by decide)) ?_ (il_inc e7)⟩
    intro z hz
    rw [il_cl e7 (by omega)]
    by_cases hz2 : z = j
    · subst hz2
      exact (uI_at ..).trans e7
    · rw [uI_ne _ _ _ _ _ _ hz2]
      exact h1 z (by omega)
set_option maxRecDepth 100000 in
/-- Rows.changes: how far two rows are apart -/
theorem c_changes (a1 : arO N c1 j1 = some (1, L1)) (a2 : arO N c2 j2 = some (1, L2)) (n1 : (c1, k1, j1) ∉ [((6, 0, 1) : RF)]) (n2 : (c2, k2, j2) ∉ [((6, 0, 1) : RF)]) (w1 : lf + ln ≤ L1) (w2 : rg + rn ≤ L2) (w3 : L1 < 5000) (w4 : L2 < 5000) (w5 : rn ≤ 60) (w6 : ln ≤ 60)
    {x2 x3 x5 x6 : Int32} (e2 : x2 = nI lf) (e3 : x3 = nI ln) (e5 : x5 = nI rg) (e6 : x6 = nI rn) {m : Nat} (hm : 500000 ≤ m)
    (hQ : ∀ τ, off [(6, 0, 1)] σ τ → Q (some (.inl (nI (lev (fun z => σ.1 c1 k1 j1 (lf + z)) (fun z => σ.1 c2 k2 j2 (rg + z)) ln rn)))) τ) :
    wp N m (e + 1, 0) TX6_changes 0 [some (.inr (.inr (6, 0, 0))), some (.inr (.inr (c1, k1, j1))), some (.inl x2), some (.inl x3), some (.inr (.inr (c2, k2, j2))), some (.inl x5), some (.inl x6), none, none, none, none, none, none] [] σ Q := by
  obtain ⟨n, rfl⟩ := il_ex (K := 25) (m := m) (by omega)
  have g1 : Int32.ofNat L1 - x2 = nI (L1 - lf) := by rw [e2]; exact pk_sub (by omega)
  have g2 : Int32.ofNat L2 - x5 = nI (L2 - rg) := by rw [e5]; exact pk_sub (by omega)
  refine b_lt e2 z0 (by omega) (by omega) (fun q => by omega) (fun _ => ?_)
  refine b_lt e3 z0 (by omega) (by omega) (fun q => by omega) (fun _ => ?_)
  refine arl_of a1 (by decide) ?_
  refine b_gt e3 g1 (by omega) (by omega) (fun q => by omega) (fun _ => ?_)
  refine b_lt e5 z0 (by omega) (by omega) (fun q => by omega) (fun _ => ?_)
  refine b_lt e6 z0 (by omega) (by omega) (fun q => by omega) (fun _ => ?_)
  refine arl_of a2 (by decide) ?_
  refine b_gt e6 g2 (by omega) (by omega) (fun q => by omega) (fun _ => ?_)
  refine b_le (b := 60) e6 (by decide) (by omega) (by omega) (fun _ => ?_) (fun q => by omega)
  refine chg_0 w5 e6 (M := 450000) ?_ (rn + 1) 0 n σ _ (by omega) (by omega) (off_rf _ _) (fun z hz => by omega) oi_0
  intro m' τ x7 hm' ho h
  obtain ⟨n', rfl⟩ := il_ex (K := 2) (m := m') (by omega)
  exact chg_out a1 a2 n1 n2 w1 w2 w3 w4 w5 e2 e3 e5 e6 rfl rfl hQ ln 0 n' τ _ _ _ _ _ _ (by omega) (by omega) ho (fun z hz => by rw [h z hz, lev_z]) oi_0
end CHG2
