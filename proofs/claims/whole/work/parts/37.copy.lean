/-! rows filled, nets and rules copied -/
theorem off_uR {L : List RF} {σ τ : ST} (h : off L σ τ) {c k j : Nat} {f : Nat → Int32} (hm : (c, k, j) ∈ L) : off L σ (uR τ c k j f) := by
  intro c' k' j' hn
  have := uR_off τ c k j f c' k' j' (by rintro ⟨rfl, rfl, rfl⟩; exact hn hm)
  exact ⟨this.1.trans (h c' k' j' hn).1, this.2.trans (h c' k' j' hn).2⟩
theorem uR_nr (σ : ST) (c k j : Nat) (f : Nat → Int32) {c' k' j' : Nat} (h : ¬ (c' = c ∧ k' = k ∧ j' = j)) (i' : Nat) : (uR σ c k j f).1 c' k' j' i' = σ.1 c' k' j' i' := by rw [(uR_off σ c k j f c' k' j' h).1]
theorem uR_at (σ : ST) (c k j : Nat) (f : Nat → Int32) (i : Nat) : (uR σ c k j f).1 c k j i = f i := by rw [uR_row]
/-- the net without anyone -/
def emE : NEc := (0, 0, fun _ => 0, fun _ => 0, fun _ _ => none)
theorem plc_em (g : Nat) : plc emE g = none := rfl
theorem vNE_em (S : SPc) : vNE S emE := ⟨Nat.zero_le _, fun p hp => absurd hp (Nat.not_lt_zero _), fun p q hp => absurd hp (Nat.not_lt_zero _), Nat.zero_le _, fun s h i hs => absurd hs (Nat.not_lt_zero _), fun s hs => absurd hs (Nat.not_lt_zero _), fun h hh hj => absurd hj (by rw [plc_em]; simp), fun s s' h i i' _ hs => absurd hs (Nat.not_lt_zero _), fun p hp => absurd hp (Nat.not_lt_zero _)⟩
theorem cndF {c : Bool} {P : Prop} (h : c = false) (p : P) : cond c False P := by rw [h]; exact p
section CP
variable {N e m : Nat} {σ : ST} {Q : POST} {S : SPc} {R : RUc} {E : NEc}
set_option maxRecDepth 100000 in
theorem fl_loop {c k j L : Nat} (a : arO N c j = some (1, L)) (h13 : Nat.beq c 13 = false) (hL : L < 100000) {v x3 : Int32} (e3 : x3 = nI L) (hQ : ∀ τ, off [(c, k, j)] σ τ → (∀ z, z < L → τ.1 c k j z = v) → Q none τ) :
    ∀ (r i m : Nat) (τ : ST) (x2 : Int32), i + r = L → 20 * r + 20 ≤ m → off [(c, k, j)] σ τ → (∀ z, z < i → τ.1 c k j z = v) → x2 = nI i →
      wp N m (e, 0) TJ7_fill_53178 5 [some (.inr (.inr (c, k, j))), some (.inl v), some (.inl x2), some (.inl x3)] [] τ Q := by
  intro r
  induction r with
  | zero =>
    intro i m τ x2 hr hm ho h1 e2
    obtain ⟨n, rfl⟩ := il_ex (K := 10) (m := m) (by omega)
    refine b_ge e2 e3 (by omega) (by omega) (fun _ => ?_) (fun q => by omega)
    exact hQ τ ho (fun z hz => h1 z (by omega))
  | succ r ih =>
    intro i m τ x2 hr hm ho h1 e2
    obtain ⟨n, rfl⟩ := il_ex (K := 15) (m := m) (by omega)
    refine b_ge e2 e3 (by omega) (by omega) (fun q => by omega) (fun _ => ?_)
    refine cndF h13 (arr_of a ⟨il_in e2 (by omega) (by omega), trivial, ih (i + 1) _ _ _ (by omega) (by omega) (off_uI ho (by simp)) ?_ (il_inc e2)⟩)
    intro z hz
    rw [il_cl e2 (by omega)]
    by_cases q : z = i
    · rw [q, uI_at]
    · rw [uI_ne _ _ _ _ _ _ q]
      exact h1 z (by omega)
set_option maxRecDepth 100000 in
theorem c_fill {c k j L : Nat} (a : arO N c j = some (1, L)) (h13 : Nat.beq c 13 = false) (hL : L < 100000) {v : Int32} (hm : 20 * L + 50 ≤ m) (hQ : ∀ τ, off [(c, k, j)] σ τ → (∀ z, z < L → τ.1 c k j z = v) → Q none τ) :
    wp N m (e, 0) TJ7_fill_53178 0 [some (.inr (.inr (c, k, j))), some (.inl v), none, none] [] σ Q := by
  obtain ⟨n, rfl⟩ := il_ex (K := 5) (m := m) (by omega)
  refine arl_of a (by decide) ?_
  exact fl_loop a h13 hL rfl hQ L 0 n σ _ (by omega) (by omega) (off_rf _ _) (fun z hz => by omega) oi_0
set_option maxRecDepth 100000 in
theorem c_netClear {k : Nat} (hm : 300 ≤ m) (hQ : ∀ τ, off [(3, k, 1), (3, k, 2), (3, k, 4)] σ τ → cNE τ k emE → Q none τ) : wp N m (e + 1, 0) TX3_clear 0 [some (.inr (.inr (3, k, 0)))] [] σ Q := by
  obtain ⟨n, rfl⟩ := il_ex (K := 20) (m := m) (by omega)
  refine ⟨trivial, c_fill (L := 5) rfl rfl (by omega) (by omega) ?_⟩
  intro τ ho h1
  refine hQ τ (off_tr (off_uI (off_uI (off_rf _ _) (by simp)) (by simp)) (off_mono ho (by simp))) ⟨?_, ?_, fun p hp => absurd hp (Nat.not_lt_zero _), fun g hg => ?_, fun p hp => absurd hp (Nat.not_lt_zero _), fun s hs => absurd hs (Nat.not_lt_zero _)⟩
  · rw [off_1 ho (by simp)]
    show (uI (uI σ 3 k 1 0 (Int32.ofInt 0)) 3 k 2 0 (Int32.ofInt 0)).1 3 k 1 0 = _
    rw [uI_nr _ _ _ _ _ _ (by omega), uI_at]; exact oi_0
  · rw [off_1 ho (by simp)]
    show (uI (uI σ 3 k 1 0 (Int32.ofInt 0)) 3 k 2 0 (Int32.ofInt 0)).1 3 k 2 0 = _
    rw [uI_at]; exact oi_0
  · rw [plc_em, show oI (-2) none = (-2 : Int32) from rfl, ← im2]
    exact h1 g hg
abbrev nOff (k : Nat) : List RF := [(3, k, 1), (3, k, 2), (3, k, 3), (3, k, 4), (3, k, 5), (3, k, 6)]
theorem cpy0 {f g : Nat → Int32} {n z : Nat} (h : z < n) : va_cpy f g 0 0 n z = f z := by unfold va_cpy; rw [if_pos (by omega)]; congr 1; omega
set_option maxRecDepth 100000 in
/-- Net.copyFrom -/
theorem c_netCopy {k k2 : Nat} (hk : k2 ≠ k) (hS : vSP S) (hE : vNE S E) (cE : cNE σ k2 E) (hm : 100 ≤ m) (hQ : ∀ τ, off (nOff k) σ τ → cNE τ k E → Q none τ) :
    wp N m (e + 1, 0) TX3_copyFrom 0 [some (.inr (.inr (3, k, 0))), some (.inr (.inr (3, k2, 0)))] [] σ Q := by
  have hns := vNE_ns hS hE
  have hnh := hS.1
  have hnj := hE.1
  obtain ⟨n, rfl⟩ := il_ex (K := 60) (m := m) (by omega)
  refine ⟨by decide, by decide, by decide, by decide, by decide, ?_⟩
  refine ⟨by decide, by decide, by decide, by decide, by decide, ?_⟩
  refine ⟨by decide, by decide, by decide, by decide, by decide, ?_⟩
  refine ⟨by decide, by decide, by decide, by decide, by decide, ?_⟩
  have t1 : (uI σ 3 k 1 0 (σ.1 3 k2 1 0)).1 3 k2 2 0 = nI E.nj := by rw [uI_nr _ _ _ _ _ _ (by omega)]; exact cE.2.1
  refine hQ _ ?_ ?_
  · exact off_uR (off_uR (off_uR (off_uR (off_uI (off_uI (off_rf _ _) (by simp)) (by simp)) (by simp)) (by simp)) (by simp)) (by simp)
  · refine ⟨?_, ?_, fun p hp => ?_, fun g hg => ?_, fun p hp => ?_, fun s hs g hg => ?_⟩
    · show (cpI (cpI (cpI (cpI (uI (uI σ 3 k 1 0 _) 3 k 2 0 _) 3 k2 3 3 k 3 _ _ _) 3 k2 4 3 k 4 _ _ _) 3 k2 5 3 k 5 _ _ _) 3 k2 6 3 k 6 _ _ _).1 3 k 1 0 = _
      unfold cpI
      rw [uR_nr _ _ _ _ _ (by omega), uR_nr _ _ _ _ _ (by omega), uR_nr _ _ _ _ _ (by omega), uR_nr _ _ _ _ _ (by omega), uI_nr _ _ _ _ _ _ (by omega), uI_at]
      exact cE.1
    · show (cpI (cpI (cpI (cpI (uI (uI σ 3 k 1 0 _) 3 k 2 0 _) 3 k2 3 3 k 3 _ _ _) 3 k2 4 3 k 4 _ _ _) 3 k2 5 3 k 5 _ _ _) 3 k2 6 3 k 6 _ _ _).1 3 k 2 0 = _
      unfold cpI
      rw [uR_nr _ _ _ _ _ (by omega), uR_nr _ _ _ _ _ (by omega), uR_nr _ _ _ _ _ (by omega), uR_nr _ _ _ _ _ (by omega), uI_at]
      exact t1
    · show (cpI (cpI (cpI (cpI (uI (uI σ 3 k 1 0 _) 3 k 2 0 _) 3 k2 3 3 k 3 0 0 5) 3 k2 4 3 k 4 _ _ _) 3 k2 5 3 k 5 _ _ _) 3 k2 6 3 k 6 _ _ _).1 3 k 3 p = _
      unfold cpI
      rw [uR_nr _ _ _ _ _ (by omega), uR_nr _ _ _ _ _ (by omega), uR_nr _ _ _ _ _ (by omega), uR_at, cpy0 (by omega), uI_nr _ _ _ _ _ _ (by omega), uI_nr _ _ _ _ _ _ (by omega)]
      exact cE.2.2.1 p hp
    · show (cpI (cpI (cpI (cpI (uI (uI σ 3 k 1 0 _) 3 k 2 0 _) 3 k2 3 3 k 3 0 0 5) 3 k2 4 3 k 4 0 0 5) 3 k2 5 3 k 5 _ _ _) 3 k2 6 3 k 6 _ _ _).1 3 k 4 g = _
      unfold cpI
      rw [uR_nr _ _ _ _ _ (by omega), uR_nr _ _ _ _ _ (by omega), uR_at, cpy0 (by omega), uR_nr _ _ _ _ _ (by omega), uI_nr _ _ _ _ _ _ (by omega), uI_nr _ _ _ _ _ _ (by omega)]
      exact cE.2.2.2.1 g hg
    · have hod := hE.2.1 p hp
      show (cpI (cpI (cpI (cpI (uI (uI σ 3 k 1 0 _) 3 k 2 0 _) 3 k2 3 3 k 3 0 0 5) 3 k2 4 3 k 4 0 0 5) 3 k2 5 3 k 5 0 0 5) 3 k2 6 3 k 6 _ _ _).1 3 k 5 (E.od p) = _
      unfold cpI
      rw [uR_nr _ _ _ _ _ (by omega), uR_at, cpy0 (by omega), uR_nr _ _ _ _ _ (by omega), uR_nr _ _ _ _ _ (by omega), uI_nr _ _ _ _ _ _ (by omega), uI_nr _ _ _ _ _ _ (by omega)]
      exact cE.2.2.2.2.1 p hp
    · show (cpI (cpI (cpI (cpI (uI (uI σ 3 k 1 0 _) 3 k 2 0 _) 3 k2 3 3 k 3 0 0 5) 3 k2 4 3 k 4 0 0 5) 3 k2 5 3 k 5 0 0 5) 3 k2 6 3 k 6 0 0 300).1 3 k 6 (s * 5 + g) = _
      unfold cpI
      rw [uR_at, cpy0 (by omega), uR_nr _ _ _ _ _ (by omega), uR_nr _ _ _ _ _ (by omega), uR_nr _ _ _ _ _ (by omega), uI_nr _ _ _ _ _ _ (by omega), uI_nr _ _ _ _ _ _ (by omega)]
      exact cE.2.2.2.2.2 s hs g hg
end CP
