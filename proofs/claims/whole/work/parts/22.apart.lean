theorem il_sub1 {x : Int32} {k : Nat} (h : x = nI (k + 1)) : x - Int32.ofInt 1 = nI k := by
  rw [h, show Int32.ofInt 1 = 1 from by decide]
  exact nI_pred k
section APT
variable {N e : Nat} {σ : ST} {Q : POST} {ln rn : Nat}
abbrev apV (x1 x2 : Int32) (o3 o4 o5 o6 o7 : Option AV) : List (Option AV) := [some (.inr (.inr (11, 0, 0))), some (.inl x1), some (.inl x2), o3, o4, o5, o6, o7]
set_option maxRecDepth 100000 in
theorem apt_in (w1 : ln ≤ 70) (w2 : rn ≤ 70) {x1 x2 x3 : Int32} (e2 : x2 = nI rn) {i M : Nat} (e3 : x3 = nI (i + 1)) (hi : i < ln) {fa fb : Nat → Int32} (ea : σ.1 11 0 32 = fa) (eb : σ.1 11 0 33 = fb)
    (K : ∀ (m : Nat) (τ : ST) (x4 x5 : Int32) (o6 o7 : Option AV), M ≤ m → off [(11, 0, 31)] σ τ → (∀ j, j ≤ rn → τ.1 11 0 31 j = nI (lev fa fb (i + 1) j)) → wp N m (e, 0) TX11_apart 95 (apV x1 x2 (some (.inl x3)) (some (.inl x4)) (some (.inl x5)) o6 o7) [] τ Q) :
    ∀ (r j m : Nat) (τ : ST) (x4 x5 : Int32) (o6 o7 : Option AV), j + r = rn → 200 * r + 200 + M ≤ m → off [(11, 0, 31)] σ τ →
      (∀ z, z ≤ j → τ.1 11 0 31 z = nI (lev fa fb (i + 1) z)) → (∀ z, j < z → z ≤ rn → τ.1 11 0 31 z = nI (lev fa fb i z)) → x4 = nI (lev fa fb i j) → x5 = nI (j + 1) →
      wp N m (e, 0) TX11_apart 29 (apV x1 x2 (some (.inl x3)) (some (.inl x4)) (some (.inl x5)) o6 o7) [] τ Q := by
  intro r
  induction r with
  | zero =>
    intro j m τ x4 x5 o6 o7 hj hm ho h1 h2 e4 e5
    obtain ⟨n, rfl⟩ := il_ex (K := 3) (m := m) (by omega)
    refine b_gt e5 e2 (by omega) (by omega) (fun q => ?_) (fun q => by omega)
    exact K n τ x4 x5 o6 o7 (by omega) ho (fun z hz => h1 z (by omega))
  | succ r ih =>
    intro j m τ x4 x5 o6 o7 hj hm ho h1 h2 e4 e5
    obtain ⟨n, rfl⟩ := il_ex (K := 80) (m := m) (by omega)
    have l1 := lev_le fa fb i (j + 1)
    have l2 := lev_le fa fb (i + 1) j
    have l3 := lev_le fa fb i j
    have ls := lev_ss fa fb i j
    have g3 := il_sub1 e3
    have g5 := il_sub1 e5
    have v1 : τ.1 11 0 31 x5.toNatClampNeg = nI (lev fa fb i (j + 1)) := by rw [il_cl e5 (by omega)]; exact h2 _ (by omega) (by omega)
    have v2 : τ.1 11 0 31 (x5 - Int32.ofInt 1).toNatClampNeg = nI (lev fa fb (i + 1) j) := by rw [il_cl g5 (by omega)]; exact h1 _ (by omega)
    have v3 : τ.1 11 0 32 (x3 - Int32.ofInt 1).toNatClampNeg = fa i := by rw [il_cl g3 (by omega), off_1 ho (by decide), ← ea]
    have v4 : τ.1 11 0 33 (x5 - Int32.ofInt 1).toNatClampNeg = fb j := by rw [il_cl g5 (by omega), off_1 ho (by decide), ← eb]
    have fin : ∀ (y : Int32) (p6 p7 : Option AV) (n' : Nat), 200 * r + 210 + M ≤ n' → y = nI (lev fa fb (i + 1) (j + 1)) → wp N n' (e, 0) TX11_apart 93 (apV x1 x2 (some (.inl x3)) (some (.inl (τ.1 11 0 31 x5.toNatClampNeg))) (some (.inl x5)) p6 p7) [] (uI τ 11 0 31 x5.toNatClampNeg y) Q := by
      intro y p6 p7 n' hn' hy
      obtain ⟨n2, rfl⟩ := il_ex (K := 2) (m := n') (by omega)
      refine ⟨trivial, ih (j + 1) n2 _ _ _ _ _ (by omega) (by omega) (off_uI ho (by decide)) ?_ ?_ v1 (il_inc e5)⟩
      · intro z hz
        rw [il_cl e5 (by omega)]
        by_cases hz2 : z = j + 1
        · subst hz2
          rw [uI_at, hy]
        · rw [uI_ne _ _ _ _ _ _ hz2]
          exact h1 z (by omega)
      · intro z hz hz3
        rw [il_cl e5 (by omega), uI_ne _ _ _ _ _ _ (by omega)]
        exact h2 z (by omega) hz3
    have two : ∀ (w : Int32) (y6 n' : Nat), 200 * r + 280 + M ≤ n' → x4 + w = nI y6 → y6 = lev fa fb i j + (if fa i = fb j then 0 else 1) → wp N n' (e, 0) TX11_apart 49 (apV x1 x2 (some (.inl x3)) (some (.inl x4)) (some (.inl x5)) o6 o7) [.inl w, .inl x4] τ Q := by
      intro w y6 n' hn' e6 hy
      rw [← hy] at ls
      have hb6 : y6 ≤ lev fa fb i j + 1 := by rw [hy]; split <;> omega
      obtain ⟨n2, rfl⟩ := il_ex (K := 45) (m := n') (by omega)
      refine ⟨il_in e5 (by omega) (by omega), ?_⟩
      refine ⟨il_in g5 (by omega) (by omega), ?_⟩
      refine ⟨il_in e5 (by omega) (by omega), ?_⟩
      refine b_ge v2 v1 (by omega) (by omega) (fun q1 => ?_) (fun q1 => ?_)
      · refine ⟨il_in e5 (by omega) (by omega), ?_⟩
        refine b_ge e6 (il_inc v1) (by omega) (by omega) (fun q3 => ?_) (fun q3 => ?_)
        · refine ⟨il_in e5 (by omega) (by omega), fin _ _ _ _ (by omega) ?_⟩
          rw [il_inc v1, ls]; congr 1; omega
        · refine ⟨trivial, il_in e5 (by omega) (by omega), fin _ _ _ _ (by omega) ?_⟩
          rw [e6, ls]; congr 1; omega
      · refine ⟨il_in g5 (by omega) (by omega), trivial, ?_⟩
        refine b_ge e6 (il_inc v2) (by omega) (by omega) (fun q3 => ?_) (fun q3 => ?_)
        · refine ⟨il_in e5 (by omega) (by omega), fin _ _ _ _ (by omega) ?_⟩
          rw [il_inc v2, ls]; congr 1; omega
        · refine ⟨trivial, il_in e5 (by omega) (by omega), fin _ _ _ _ (by omega) ?_⟩
          rw [e6, ls]; congr 1; omega
    refine b_gt e5 e2 (by omega) (by omega) (fun q => by omega) (fun q => ?_)
    refine ⟨il_in g3 (by omega) (by omega), ?_⟩
    refine ⟨il_in g5 (by omega) (by omega), ?_⟩
    refine ⟨fun q2 => ?_, fun q2 => ?_⟩
    · have q2 : ¬ fa i = fb j := by rw [← v3, ← v4]; exact q2
      refine adv 1 (200 * r + 280 + M) (by omega) (fun n3 hn3 => ?_)
      exact two _ _ n3 hn3 (il_inc e4) (by rw [if_neg q2])
    · have q2 : fa i = fb j := by rw [← v3, ← v4]; exact Classical.byContradiction q2
      exact ⟨trivial, two _ (lev fa fb i j) _ (by omega) (by rw [e4, oi_0, nI_add]; rfl) (by rw [if_pos q2]; rfl)⟩
set_option maxRecDepth 100000 in
theorem apt_out (w1 : ln ≤ 70) (w2 : rn ≤ 70) {x1 x2 : Int32} (e1 : x1 = nI ln) (e2 : x2 = nI rn) {fa fb : Nat → Int32} (ea : σ.1 11 0 32 = fa) (eb : σ.1 11 0 33 = fb) (hQ : ∀ τ, off [(11, 0, 31)] σ τ → Q (some (.inl (nI (lev fa fb ln rn)))) τ) :
    ∀ (r i m : Nat) (τ : ST) (x3 : Int32) (o4 o5 o6 o7 : Option AV), i + r = ln → 16000 * r + 100 ≤ m → off [(11, 0, 31)] σ τ → (∀ z, z ≤ rn → τ.1 11 0 31 z = nI (lev fa fb i z)) → x3 = nI (i + 1) →
      wp N m (e, 0) TX11_apart 14 (apV x1 x2 (some (.inl x3)) o4 o5 o6 o7) [] τ Q := by
  intro r
  induction r with
  | zero =>
    intro i m τ x3 o4 o5 o6 o7 hi hm ho h1 e3
    obtain ⟨n, rfl⟩ := il_ex (K := 20) (m := m) (by omega)
    refine b_gt e3 e1 (by omega) (by omega) (fun q => ?_) (fun q => by omega)
    refine ⟨il_in e2 (by omega) (by omega), Or.inl rfl, ?_⟩
    obtain rfl : i = ln := by omega
    have v : τ.1 11 0 31 x2.toNatClampNeg = nI (lev fa fb i rn) := by rw [il_cl e2 (by omega), h1 _ (Nat.le_refl _)]
    have h := hQ τ ho
    rw [← v] at h
    exact h
  | succ r ih =>
    intro i m τ x3 o4 o5 o6 o7 hi hm ho h1 e3
    obtain ⟨n, rfl⟩ := il_ex (K := 15) (m := m) (by omega)
    refine b_gt e3 e1 (by omega) (by omega) (fun q => by omega) (fun q => ?_)
    refine ⟨il_in oi_0 (by omega) (by omega), ?_⟩
    refine ⟨il_in oi_0 (by omega) (by omega), ?_⟩
    refine apt_in w1 w2 e2 (i := i) (M := 16000 * r + 110) e3 (by omega) ea eb ?_ rn 0 n _ _ _ _ _ (by omega) (by omega) (off_uI ho (by decide)) ?_ ?_ ?_ oi_1
    · intro m' τ' x4 x5 p6 p7 hm' ho' h'
      obtain ⟨n', rfl⟩ := il_ex (K := 2) (m := m') (by omega)
      exact ⟨trivial, ih (i + 1) n' τ' _ _ _ _ _ (by omega) (by omega) ho' h' (il_inc e3)⟩
    · intro z hz
      obtain rfl : z = 0 := by omega
      rw [lev_0]
      exact (uI_at ..).trans e3
    · intro z hz hz2
      rw [show (Int32.ofInt 0).toNatClampNeg = 0 from by decide, uI_ne _ _ _ _ _ _ (by omega)]
      exact h1 z hz2
    · rw [show (Int32.ofInt 0).toNatClampNeg = 0 from by decide]
      exact h1 0 (by omega)
set_option maxRecDepth 100000 in
theorem apt_0 (w2 : rn ≤ 70) {x1 x2 : Int32} (e2 : x2 = nI rn) {M : Nat}
    (K : ∀ (m : Nat) (τ : ST) (x3 : Int32), M ≤ m → off [(11, 0, 31)] σ τ → (∀ j, j ≤ rn → τ.1 11 0 31 j = nI j) → wp N m (e, 0) TX11_apart 12 (apV x1 x2 (some (.inl x3)) none none none none) [] τ Q) :
    ∀ (r j m : Nat) (τ : ST) (x3 : Int32), j + r = rn + 1 → 20 * r + 20 + M ≤ m → off [(11, 0, 31)] σ τ → (∀ z, z < j → τ.1 11 0 31 z = nI z) → x3 = nI j →
      wp N m (e, 0) TX11_apart 2 (apV x1 x2 (some (.inl x3)) none none none none) [] τ Q := by
  intro r
  induction r with
  | zero =>
    intro j m τ x3 hj hm ho h1 e3
    obtain ⟨n, rfl⟩ := il_ex (K := 3) (m := m) (by omega)
    refine b_gt e3 e2 (by omega) (by omega) (fun q => ?_) (fun q => by omega)
    exact K n τ x3 (by omega) ho (fun z hz => h1 z (by omega))
  | succ r ih =>
    intro j m τ x3 hj hm ho h1 e3
    obtain ⟨n, rfl⟩ := il_ex (K := 10) (m := m) (by omega)
    refine b_gt e3 e2 (by omega) (by omega) (fun q => by omega) (fun q => ?_)
    refine ⟨il_in e3 (by omega) (by omega), ?_⟩
    refine ⟨trivial, ih (j + 1) n _ _ (by omega) (by omega) (off_uI ho (by decide)) ?_ (il_inc e3)⟩
    intro z hz
    rw [il_cl e3 (by omega)]
    by_cases hz2 : z = j
    · subst hz2
      exact (uI_at ..).trans e3
    · rw [uI_ne _ _ _ _ _ _ hz2]
      exact h1 z (by omega)
set_option maxRecDepth 100000 in
/-- the reference's apart: of what lies in 'one' and 'two' -/
theorem c_apart (w1 : ln ≤ 70) (w2 : rn ≤ 70) {x1 x2 : Int32} (e1 : x1 = nI ln) (e2 : x2 = nI rn) {m : Nat} (hm : 1200000 ≤ m) (hQ : ∀ τ, off [(11, 0, 31)] σ τ → Q (some (.inl (nI (lev (σ.1 11 0 32) (σ.1 11 0 33) ln rn)))) τ) :
    wp N m (e, 0) TX11_apart 0 [some (.inr (.inr (11, 0, 0))), some (.inl x1), some (.inl x2), none, none, none, none, none] [] σ Q := by
  obtain ⟨n, rfl⟩ := il_ex (K := 2) (m := m) (by omega)
  refine apt_0 w2 e2 (M := 1190000) ?_ (rn + 1) 0 n σ _ (by omega) (by omega) (off_rf _ _) (fun z hz => by omega) oi_0
  intro m' τ x7 hm' ho h
  obtain ⟨n', rfl⟩ := il_ex (K := 2) (m := m') (by omega)
  exact apt_out w1 w2 e1 e2 rfl rfl hQ ln 0 n' τ _ _ _ _ _ (by omega) (by omega) ho (fun z hz => by rw [h z hz, lev_z]) oi_1
end APT
