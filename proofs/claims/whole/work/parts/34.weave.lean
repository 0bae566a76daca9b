/-! a HEARING is joined to a net of the class -/
theorem im2 : (Int8.ofInt (-2)).toInt32 = (-2 : Int32) := by decide
section NT
variable {N e k : Nat} {σ : ST} {Q : POST}
set_option maxRecDepth 100000 in
theorem es_loop {x1 : Int32} {s : Nat} (e1 : x1 = nI s) (hs : s < 60) (hQ : ∀ τ, off [(3, k, 6)] σ τ → (∀ s' h', h' < 5 → τ.1 3 k 6 (s' * 5 + h') = if s' = s then -2 else σ.1 3 k 6 (s' * 5 + h')) → Q none τ) :
    ∀ (r h m : Nat) (τ : ST) (x2 : Int32), h + r = 5 → 100 * r + 100 ≤ m → off [(3, k, 6)] σ τ → (∀ s' h', h' < 5 → τ.1 3 k 6 (s' * 5 + h') = if s' = s ∧ h' < h then -2 else σ.1 3 k 6 (s' * 5 + h')) → x2 = nI h →
      wp N m (e + 1, 0) TX3_emptySlot 2 [some (.inr (.inr (3, k, 0))), some (.inl x1), some (.inl x2)] [] τ Q := by
  intro r
  induction r with
  | zero =>
    intro h m τ x2 hr hm ho h1 e2
    obtain ⟨n, rfl⟩ := il_ex (K := 10) (m := m) (by omega)
    obtain rfl : h = 5 := by omega
    refine b_ge e2 i5 (by omega) (by omega) (fun _ => ?_) (fun q => by omega)
    refine hQ τ ho (fun s' h' hh => ?_)
    rw [h1 s' h' hh]
    by_cases q : s' = s
    · rw [if_pos ⟨q, hh⟩, if_pos q]
    · rw [if_neg (fun z => q z.1), if_neg q]
  | succ r ih =>
    intro h m τ x2 hr hm ho h1 e2
    obtain ⟨n, rfl⟩ := il_ex (K := 60) (m := m) (by omega)
    refine b_ge e2 i5 (by omega) (by omega) (fun q => by omega) (fun _ => ?_)
    refine ⟨trivial, c_putThere e1 e2 hs (by omega) (by omega) ?_⟩
    refine ⟨trivial, ih (h + 1) _ _ _ (by omega) (by omega) (off_uI ho (by simp)) ?_ (il_inc e2)⟩
    intro s' h' hh
    by_cases q : s' * 5 + h' = s * 5 + h
    · rw [q, uI_at, if_pos ⟨by omega, by omega⟩]; exact im2
    · rw [uI_ne _ _ _ _ _ _ q, h1 s' h' hh]
      by_cases q2 : s' = s ∧ h' < h
      · rw [if_pos q2, if_pos ⟨q2.1, by omega⟩]
      · rw [if_neg q2, if_neg (fun z => q2 ⟨z.1, by have := z.2; have := z.1; omega⟩)]
theorem c_emptySlot {x1 : Int32} {s m : Nat} (e1 : x1 = nI s) (hs : s < 60) (hm : 700 ≤ m) (hQ : ∀ τ, off [(3, k, 6)] σ τ → (∀ s' h', h' < 5 → τ.1 3 k 6 (s' * 5 + h') = if s' = s then -2 else σ.1 3 k 6 (s' * 5 + h')) → Q none τ) :
    wp N m (e + 1, 0) TX3_emptySlot 0 [some (.inr (.inr (3, k, 0))), some (.inl x1), none] [] σ Q := by
  refine adv 2 600 (by omega) (fun n hn => ?_)
  exact es_loop e1 hs hQ 5 0 n σ _ (by omega) (by omega) (off_rf _ _) (fun s' h' hh => by rw [if_neg (by omega)]) oi_0
set_option maxRecDepth 100000 in
theorem ms_loop {x1 x2 : Int32} {f s : Nat} (e1 : x1 = nI f) (e2 : x2 = nI s) (hf : f < 60) (hs : s < 60) (hQ : ∀ τ, off [(3, k, 6)] σ τ → (∀ s' h', h' < 5 → τ.1 3 k 6 (s' * 5 + h') = if s' = s then σ.1 3 k 6 (f * 5 + h') else σ.1 3 k 6 (s' * 5 + h')) → Q none τ) :
    ∀ (r h m : Nat) (τ : ST) (x3 : Int32), h + r = 5 → 200 * r + 200 ≤ m → off [(3, k, 6)] σ τ → (∀ s' h', h' < 5 → τ.1 3 k 6 (s' * 5 + h') = if s' = s ∧ h' < h then σ.1 3 k 6 (f * 5 + h') else σ.1 3 k 6 (s' * 5 + h')) → x3 = nI h →
      wp N m (e + 1, 0) TX3_moveSlot 2 [some (.inr (.inr (3, k, 0))), some (.inl x1), some (.inl x2), some (.inl x3)] [] τ Q := by
  intro r
  induction r with
  | zero =>
    intro h m τ x3 hr hm ho h1 e3
    obtain ⟨n, rfl⟩ := il_ex (K := 10) (m := m) (by omega)
    obtain rfl : h = 5 := by omega
    refine b_ge e3 i5 (by omega) (by omega) (fun _ => ?_) (fun q => by omega)
    refine hQ τ ho (fun s' h' hh => ?_)
    rw [h1 s' h' hh]
    by_cases q : s' = s
    · rw [if_pos ⟨q, hh⟩, if_pos q]
    · rw [if_neg (fun z => q z.1), if_neg q]
  | succ r ih =>
    intro h m τ x3 hr hm ho h1 e3
    obtain ⟨n, rfl⟩ := il_ex (K := 100) (m := m) (by omega)
    refine b_ge e3 i5 (by omega) (by omega) (fun q => by omega) (fun _ => ?_)
    refine ⟨trivial, c_thereOf e1 e3 hf (by omega) (by omega) ?_⟩
    refine ⟨trivial, c_putThere e2 e3 hs (by omega) (by omega) ?_⟩
    refine ⟨trivial, ih (h + 1) _ _ _ (by omega) (by omega) (off_uI ho (by simp)) ?_ (il_inc e3)⟩
    have hv : τ.1 3 k 6 (f * 5 + h) = σ.1 3 k 6 (f * 5 + h) := by rw [h1 f h (by omega), if_neg (by omega)]
    intro s' h' hh
    by_cases q : s' * 5 + h' = s * 5 + h
    · rw [q, uI_at, if_pos ⟨by omega, by omega⟩, show h' = h by omega]
      exact hv
    · rw [uI_ne _ _ _ _ _ _ q, h1 s' h' hh]
      by_cases q2 : s' = s ∧ h' < h
      · rw [if_pos q2, if_pos ⟨q2.1, by omega⟩]
      · rw [if_neg q2, if_neg (fun z => q2 ⟨z.1, by have := z.2; have := z.1; omega⟩)]
theorem c_moveSlot {x1 x2 : Int32} {f s m : Nat} (e1 : x1 = nI f) (e2 : x2 = nI s) (hf : f < 60) (hs : s < 60) (hm : 1300 ≤ m) (hQ : ∀ τ, off [(3, k, 6)] σ τ → (∀ s' h', h' < 5 → τ.1 3 k 6 (s' * 5 + h') = if s' = s then σ.1 3 k 6 (f * 5 + h') else σ.1 3 k 6 (s' * 5 + h')) → Q none τ) :
    wp N m (e + 1, 0) TX3_moveSlot 0 [some (.inr (.inr (3, k, 0))), some (.inl x1), some (.inl x2), none] [] σ Q := by
  refine adv 2 1200 (by omega) (fun n hn => ?_)
  exact ms_loop e1 e2 hf hs hQ 5 0 n σ _ (by omega) (by omega) (off_rf _ _) (fun s' h' hh => by rw [if_neg (by omega)]) oi_0
theorem c_stepOf {x1 : Int32} {j T m : Nat} (e1 : x1 = nI j) (h9 : σ.1 9 0 8 0 = nI T) (hj : j < T) (hT : T ≤ 72) (hm : 40 ≤ m) (hQ : Q (some (.inl (σ.1 9 0 7 j))) σ) : wp N m (e, 0) TX9_stepOf 0 [some (.inr (.inr (9, 0, 0))), some (.inl x1)] [] σ Q := by
  obtain ⟨n, rfl⟩ := il_ex hm
  refine b_lt e1 z0 (by omega) (by omega) (fun q => by omega) (fun _ => ?_)
  refine b_ge e1 h9 (by omega) (by omega) (fun q => by omega) (fun _ => ?_)
  refine ⟨il_in e1 (by omega) (by omega), trivial, Or.inl rfl, ?_⟩
  rw [← il_cl e1 (by omega)] at hQ
  exact hQ
theorem c_addJoined {x1 x2 : Int32} {h j m : Nat} (e1 : x1 = nI h) (hh : h < 5) (hj : σ.1 3 k 2 0 = nI j) (hj5 : j < 5) (hm : 80 ≤ m)
    (hQ : Q none (uI (uI (uI (uI σ 3 k 3 j x1) 3 k 4 h (nI j)) 3 k 5 h x2) 3 k 2 0 (nI (j + 1)))) : wp N m (e, 0) TX3_addJoined 0 [some (.inr (.inr (3, k, 0))), some (.inl x1), some (.inl x2)] [] σ Q := by
  obtain ⟨n, rfl⟩ := il_ex hm
  refine b_lt e1 z0 (by omega) (by omega) (fun q => by omega) (fun _ => ?_)
  refine b_ge e1 i5 (by omega) (by omega) (fun q => by omega) (fun _ => ?_)
  refine b_lt hj z0 (by omega) (by omega) (fun q => by omega) (fun _ => ?_)
  refine b_ge hj i5 (by omega) (by omega) (fun q => by omega) (fun _ => ?_)
  refine ⟨il_in hj (by omega) (by omega), ?_⟩
  refine ⟨il_in e1 (by omega) (by omega), ?_⟩
  refine ⟨il_in e1 (by omega) (by omega), ?_⟩
  have t1 : (uI σ 3 k 3 (σ.1 3 k 2 0).toNatClampNeg x1).1 3 k 2 0 = nI j := by rw [uI_nr _ _ _ _ _ _ (by omega)]; exact hj
  have t2 : (uI (uI (uI σ 3 k 3 (σ.1 3 k 2 0).toNatClampNeg x1) 3 k 4 x1.toNatClampNeg ((uI σ 3 k 3 (σ.1 3 k 2 0).toNatClampNeg x1).1 3 k 2 0)) 3 k 5 x1.toNatClampNeg x2).1 3 k 2 0 + Int32.ofInt 1 = nI (j + 1) := by
    rw [uI_nr _ _ _ _ _ _ (by omega), uI_nr _ _ _ _ _ _ (by omega)]
    exact il_inc t1
  have : (uI (uI (uI (uI σ 3 k 3 j x1) 3 k 4 h (nI j)) 3 k 5 h x2) 3 k 2 0 (nI (j + 1))) = (uI (uI (uI (uI σ 3 k 3 (σ.1 3 k 2 0).toNatClampNeg x1) 3 k 4 x1.toNatClampNeg ((uI σ 3 k 3 (σ.1 3 k 2 0).toNatClampNeg x1).1 3 k 2 0)) 3 k 5 x1.toNatClampNeg x2) 3 k 2 0 ((uI (uI (uI σ 3 k 3 (σ.1 3 k 2 0).toNatClampNeg x1) 3 k 4 x1.toNatClampNeg ((uI σ 3 k 3 (σ.1 3 k 2 0).toNatClampNeg x1).1 3 k 2 0)) 3 k 5 x1.toNatClampNeg x2).1 3 k 2 0 + Int32.ofInt 1)) := by
    rw [t2, t1, hj, il_cl rfl (by omega), il_cl e1 (by omega)]
  rw [this] at hQ
  exact hQ
end NT
