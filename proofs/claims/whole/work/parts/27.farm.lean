/-! FAR of two WORDS, as the reference finds it -/
theorem enc_div (f : Nat → Nat) {n : Nat} (h : f n < 26) : enc f (n + 1) / 32 = enc f n := by rw [enc]; omega
theorem enc_mod (f : Nat → Nat) {n : Nat} (h : f n < 26) : enc f (n + 1) % 32 = f n + 1 := by rw [enc]; omega
theorem enc_pos (f : Nat → Nat) (n : Nat) : 0 < enc f (n + 1) := by rw [enc]; omega
theorem enc_lt (f : Nat → Nat) : ∀ n, (∀ k, k < n → f k < 26) → enc f n < 32 ^ n
  | 0, _ => by simp [enc]
  | n + 1, h => by
    have h1 := enc_lt f n (fun k hk => h k (by omega))
    have h2 := h n (by omega)
    rw [enc, Nat.pow_succ]
    omega
theorem enc_b (f : Nat → Nat) {n : Nat} (hn : n ≤ 6) (h : ∀ k, k < n → f k < 26) : enc f n < 1073741824 := by
  have h1 := enc_lt f n h
  have h2 : 32 ^ n ≤ 32 ^ 6 := Nat.pow_le_pow_right (by decide) hn
  have h3 : (32 : Nat) ^ 6 = 1073741824 := by decide
  omega
theorem l32 : Int64.ofInt 32 = lN 32 := by decide
theorem b_lle0 {a : Nat} (ha : a < 1073741824) {A B : Prop} (t : a = 0 → A) (f : 0 < a → B) : (brI .le (lg_cmp (lN a) (Int64.ofNat 0)) 0 → A) ∧ (¬ brI .le (lg_cmp (lN a) (Int64.ofNat 0)) 0 → B) := by
  have h1 : lN 0 < lN a ↔ 0 < a := pk_lLT (by decide) (by omega)
  by_cases h : 0 < a
  · have : lg_cmp (lN a) (Int64.ofNat 0) = 1 := by unfold lg_cmp; exact if_pos (h1.mpr h)
    rw [this]
    exact ⟨fun q => absurd q (show ¬ (1 : Int32) ≤ 0 by decide), fun _ => f h⟩
  · obtain rfl : a = 0 := by omega
    have : lg_cmp (lN 0) (Int64.ofNat 0) = 0 := by decide
    rw [this]
    exact ⟨fun _ => t rfl, fun q => absurd (show (0 : Int32) ≤ 0 by decide) q⟩
section FARM
variable {N e m : Nat} {σ : ST} {Q : POST} {S : SPc}
set_option maxRecDepth 100000 in
theorem li_loop {f : Nat → Nat} {n : Nat} (hn : n ≤ 6) (hf : ∀ k, k < n → f k < 26) {L : Int64} (hQ : Q (some (.inl (nI n))) σ) :
    ∀ (r c m : Nat) (x2 : Int32) (v : Int64), c + r = n → 50 * r + 50 ≤ m → x2 = nI c → v = lN (enc f r) → wp N m (e, 0) TX11_lettersIn 4 [some (.inr (.inl L)), none, some (.inl x2), some (.inr (.inl v)), none] [] σ Q := by
  intro r
  induction r with
  | zero =>
    intro c m x2 v hc hm e2 ev
    obtain ⟨q, rfl⟩ := il_ex (K := 20) (m := m) (by omega)
    subst ev
    refine b_lle0 (a := enc f 0) (by simp [enc]) (fun _ => ?_) (fun q => by simp [enc] at q)
    refine ⟨Or.inl rfl, ?_⟩
    obtain rfl : c = n := by omega
    rw [e2]
    exact hQ
  | succ r ih =>
    intro c m x2 v hc hm e2 ev
    obtain ⟨q, rfl⟩ := il_ex (K := 20) (m := m) (by omega)
    subst ev
    have hb := enc_b f (n := r + 1) (by omega) (fun k hk => hf k (by omega))
    refine b_lle0 hb (fun q => by have := enc_pos f r; omega) (fun _ => ?_)
    refine ⟨by decide, trivial, ih (c + 1) _ _ _ (by omega) (by omega) (il_inc e2) ?_⟩
    rw [l32, pk_lDiv (by omega) (by decide) (by decide), enc_div f (hf r (by omega))]
set_option maxRecDepth 100000 in
theorem c_lettersIn {f : Nat → Nat} {n : Nat} (hn : n ≤ 6) (hf : ∀ k, k < n → f k < 26) {L : Int64} (eL : L = lN (enc f n)) (hm : 500 ≤ m) (hQ : Q (some (.inl (nI n))) σ) : wp N m (e, 0) TX11_lettersIn 0 [some (.inr (.inl L)), none, none, none, none] [] σ Q := by
  refine adv 4 450 (by omega) (fun q hq => ?_)
  exact li_loop hn hf hQ n 0 q _ _ (by omega) (by omega) oi_0 eL
set_option maxRecDepth 100000 in
theorem le_loop {f : Nat → Nat} {n : Nat} (hn : n ≤ 6) (hf : ∀ k, k < n → f k < 26) {L : Int64} {x2 : Int32} {k : Nat} (e2 : x2 = nI k) (hk : k < n) (hQ : Q (some (.inl (nI (f k)))) σ) :
    ∀ (r m : Nat) (x5 : Int32) (v : Int64), k + r < n → 50 * r + 50 ≤ m → x5 = nI (k + r) → v = lN (enc f (k + r + 1)) → wp N m (e, 0) TX11_letterIn 7 [some (.inr (.inl L)), none, some (.inl x2), some (.inr (.inl v)), none, some (.inl x5)] [] σ Q := by
  intro r
  induction r with
  | zero =>
    intro m x5 v hc hm e5 ev
    obtain ⟨q, rfl⟩ := il_ex (K := 20) (m := m) (by omega)
    subst ev
    have hb := enc_b f (n := k + 0 + 1) (by omega) (fun z hz => hf z (by omega))
    refine b_le e5 e2 (by omega) (by omega) (fun _ => ?_) (fun q => by omega)
    refine ⟨by decide, Or.inl rfl, ?_⟩
    rw [l32, pk_lRem (by omega) (by decide) (by decide), lN_i, enc_mod f (hf (k + 0) (by omega)), il_sub1 rfl]
    exact hQ
  | succ r ih =>
    intro m x5 v hc hm e5 ev
    obtain ⟨q, rfl⟩ := il_ex (K := 20) (m := m) (by omega)
    subst ev
    have hb := enc_b f (n := k + (r + 1) + 1) (by omega) (fun z hz => hf z (by omega))
    refine b_le e5 e2 (by omega) (by omega) (fun q => by omega) (fun _ => ?_)
    refine ⟨by decide, trivial, ih _ _ _ (by omega) (by omega) (il_dec (k := k + r) e5) ?_⟩
    rw [l32, pk_lDiv (by omega) (by decide) (by decide), enc_div f (hf (k + (r + 1)) (by omega))]
    rfl
set_option maxRecDepth 100000 in
theorem c_letterIn {f : Nat → Nat} {n : Nat} (hn : n ≤ 6) (hf : ∀ k, k < n → f k < 26) {L : Int64} (eL : L = lN (enc f n)) {x2 : Int32} {k : Nat} (e2 : x2 = nI k) (hk : k < n) (hm : 1000 ≤ m) (hQ : Q (some (.inl (nI (f k)))) σ) : wp N m (e + 1, 0) TX11_letterIn 0 [some (.inr (.inl L)), none, some (.inl x2), none, none, none] [] σ Q := by
  obtain ⟨q, rfl⟩ := il_ex (K := 7) (m := m) (by omega)
  refine ⟨trivial, c_lettersIn hn hf eL (by omega) ?_⟩
  exact le_loop hn hf e2 hk hQ (n - 1 - k) q _ _ (by omega) (by omega) (il_sub1 (by congr 1; omega)) (by rw [eL]; congr 2; omega)
set_option maxRecDepth 100000 in
theorem fo_1 (hS : vSP S) {w : Nat} (hw : w < S.nw) {x1 x2 x3 x4 : Int32} (e1 : x1 = nI w) (e3 : x3 = nI (S.ln w)) {M : Nat} (mS : ∀ τ, off [(11, 0, 32), (11, 0, 33), (11, 0, 31)] σ τ → mSP τ S)
    (K : ∀ (m : Nat) (τ : ST) (x5 : Int32), M ≤ m → off [(11, 0, 32), (11, 0, 33), (11, 0, 31)] σ τ → (∀ z, z < S.ln w → τ.1 11 0 32 z = nI (S.lt w z)) → wp N m (e + 2, 0) TX11_farOf 29 [some (.inr (.inr (11, 0, 0))), some (.inl x1), some (.inl x2), some (.inl x3), some (.inl x4), some (.inl x5)] [] τ Q) :
    ∀ (r c m : Nat) (τ : ST) (x5 : Int32), c + r = S.ln w → 1100 * r + 1100 + M ≤ m → off [(11, 0, 32), (11, 0, 33), (11, 0, 31)] σ τ → (∀ z, z < c → τ.1 11 0 32 z = nI (S.lt w z)) → x5 = nI c →
      wp N m (e + 2, 0) TX11_farOf 14 [some (.inr (.inr (11, 0, 0))), some (.inl x1), some (.inl x2), some (.inl x3), some (.inl x4), some (.inl x5)] [] τ Q := by
  have hnw := hS.2.2.2.1
  have lw := hS.2.2.2.2 w hw
  intro r
  induction r with
  | zero =>
    intro c m τ x5 hc hm ho h1 e5
    obtain ⟨n, rfl⟩ := il_ex (K := 3) (m := m) (by omega)
    refine b_ge e5 e3 (by omega) (by omega) (fun _ => ?_) (fun q => by omega)
    exact K n τ x5 (by omega) ho (fun z hz => h1 z (by omega))
  | succ r ih =>
    intro c m τ x5 hc hm ho h1 e5
    obtain ⟨n, rfl⟩ := il_ex (K := 100) (m := m) (by omega)
    refine b_ge e5 e3 (by omega) (by omega) (fun q => by omega) (fun _ => ?_)
    refine ⟨il_in e1 (by omega) (by omega), ?_⟩
    refine ⟨trivial, c_letterIn (f := S.lt w) (n := S.ln w) (by omega) lw.2.2 (by rw [il_cl e1 (by omega)]; exact (mS τ ho).2.2.2.2 w hw) e5 (by omega) (by omega) ?_⟩
    refine ⟨il_in e5 (by omega) (by omega), ?_⟩
    refine ⟨trivial, ih (c + 1) _ _ _ (by omega) (by omega) (off_uI ho (by decide)) ?_ (il_inc e5)⟩
    intro z hz
    rw [il_cl e5 (by omega)]
    by_cases hz2 : z = c
    · subst hz2
      exact uI_at ..
    · rw [uI_ne _ _ _ _ _ _ hz2]
      exact h1 z (by omega)
set_option maxRecDepth 100000 in
theorem fo_2 (hS : vSP S) {w v : Nat} (hv : v < S.nw) {x1 x2 x3 x4 : Int32} (e2 : x2 = nI v) (e4 : x4 = nI (S.ln v)) {M : Nat} (mS : ∀ τ, off [(11, 0, 32), (11, 0, 33), (11, 0, 31)] σ τ → mSP τ S)
    (K : ∀ (m : Nat) (τ : ST) (x5 : Int32), M ≤ m → off [(11, 0, 32), (11, 0, 33), (11, 0, 31)] σ τ → (∀ z, z < S.ln w → τ.1 11 0 32 z = nI (S.lt w z)) → (∀ z, z < S.ln v → τ.1 11 0 33 z = nI (S.lt v z)) → wp N m (e + 2, 0) TX11_farOf 46 [some (.inr (.inr (11, 0, 0))), some (.inl x1), some (.inl x2), some (.inl x3), some (.inl x4), some (.inl x5)] [] τ Q) :
    ∀ (r c m : Nat) (τ : ST) (x5 : Int32), c + r = S.ln v → 1100 * r + 1100 + M ≤ m → off [(11, 0, 32), (11, 0, 33), (11, 0, 31)] σ τ → (∀ z, z < S.ln w → τ.1 11 0 32 z = nI (S.lt w z)) → (∀ z, z < c → τ.1 11 0 33 z = nI (S.lt v z)) → x5 = nI c →
      wp N m (e + 2, 0) TX11_farOf 31 [some (.inr (.inr (11, 0, 0))), some (.inl x1), some (.inl x2), some (.inl x3), some (.inl x4), some (.inl x5)] [] τ Q := by
  have hnw := hS.2.2.2.1
  have lv := hS.2.2.2.2 v hv
  intro r
  induction r with
  | zero =>
    intro c m τ x5 hc hm ho h0 h1 e5
    obtain ⟨n, rfl⟩ := il_ex (K := 3) (m := m) (by omega)
    refine b_ge e5 e4 (by omega) (by omega) (fun _ => ?_) (fun q => by omega)
    exact K n τ x5 (by omega) ho h0 (fun z hz => h1 z (by omega))
  | succ r ih =>
    intro c m τ x5 hc hm ho h0 h1 e5
    obtain ⟨n, rfl⟩ := il_ex (K := 100) (m := m) (by omega)
    refine b_ge e5 e4 (by omega) (by omega) (fun q => by omega) (fun _ => ?_)
    refine ⟨il_in e2 (by omega) (by omega), ?_⟩
    refine ⟨trivial, c_letterIn (f := S.lt v) (n := S.ln v) (by omega) lv.2.2 (by rw [il_cl e2 (by omega)]; exact (mS τ ho).2.2.2.2 v hv) e5 (by omega) (by omega) ?_⟩
    refine ⟨il_in e5 (by omega) (by omega), ?_⟩
    refine ⟨trivial, ih (c + 1) _ _ _ (by omega) (by omega) (off_uI ho (by decide)) ?_ ?_ (il_inc e5)⟩
    · intro z hz
      show (uI τ 11 0 33 _ _).1 11 0 32 z = _
      rw [uI_nr _ _ _ _ _ _ (by decide)]
      exact h0 z hz
    · intro z hz
      rw [il_cl e5 (by omega)]
      by_cases hz2 : z = c
      · subst hz2
        exact uI_at ..
      · rw [uI_ne _ _ _ _ _ _ hz2]
        exact h1 z (by omega)
set_option maxRecDepth 100000 in
/-- the reference's farOf -/
theorem c_farOf (hS : vSP S) (cS : mSP σ S) {w v : Nat} (hw : w < S.nw) (hv : v < S.nw) {x1 x2 : Int32} (e1 : x1 = nI w) (e2 : x2 = nI v) (hm : 1300000 ≤ m)
    (hQ : ∀ τ, off [(11, 0, 32), (11, 0, 33), (11, 0, 31)] σ τ → Q (some (.inl (nI (farS S w v)))) τ) : wp N m (e + 2, 0) TX11_farOf 0 [some (.inr (.inr (11, 0, 0))), some (.inl x1), some (.inl x2), none, none, none] [] σ Q := by
  have hnw := hS.2.2.2.1
  have lw := hS.2.2.2.2 w hw
  have lv := hS.2.2.2.2 v hv
  have mS : ∀ τ, off [(11, 0, 32), (11, 0, 33), (11, 0, 31)] σ τ → mSP τ S := fun τ ho => mSP_off ho (by decide) cS
  obtain ⟨n, rfl⟩ := il_ex (K := 14) (m := m) (by omega)
  refine ⟨il_in e1 (by omega) (by omega), ?_⟩
  refine ⟨trivial, c_lettersIn (f := S.lt w) (n := S.ln w) (by omega) lw.2.2 (by rw [il_cl e1 (by omega)]; exact cS.2.2.2.2 w hw) (by omega) ?_⟩
  refine ⟨il_in e2 (by omega) (by omega), ?_⟩
  refine ⟨trivial, c_lettersIn (f := S.lt v) (n := S.ln v) (by omega) lv.2.2 (by rw [il_cl e2 (by omega)]; exact cS.2.2.2.2 v hv) (by omega) ?_⟩
  refine fo_1 hS hw e1 rfl (M := 1240000) mS ?_ (S.ln w) 0 n σ _ (by omega) (by omega) (off_rf _ _) (fun z hz => by omega) oi_0
  intro m1 τ1 y5 hm1 ho1 h1
  refine adv 2 1230000 (by omega) (fun n1 hn1 => ?_)
  refine fo_2 hS hv e2 rfl (M := 1210000) mS ?_ (S.ln v) 0 n1 τ1 _ (by omega) (by omega) ho1 h1 (fun z hz => by omega) oi_0
  intro m2 τ2 y6 hm2 ho2 h2 h3
  obtain ⟨n2, rfl⟩ := il_ex (K := 5) (m := m2) (by omega)
  refine ⟨trivial, c_apart (by omega) (by omega) rfl rfl (by omega) ?_⟩
  intro τ3 ho3
  have hl : lev (τ2.1 11 0 32) (τ2.1 11 0 33) (S.ln w) (S.ln v) = farS S w v := lev_congr _ _ h2 h3
  rw [hl]
  exact ⟨Or.inl rfl, hQ τ3 (off_tr ho2 (off_in ho3 (by decide)))⟩
end FARM
