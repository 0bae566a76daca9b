/-! Reader: tokens -/
theorem or_add {v d i : Nat} (hv : v < 2 ^ i) (hb : v + d * 2 ^ i < 2 ^ 31) : nI v ||| nI (d * 2 ^ i) = nI (v + d * 2 ^ i) := by
  apply Int32.toBitVec_inj.mp
  apply BitVec.eq_of_toNat_eq
  rw [Int32.toBitVec_or, BitVec.toNat_or, pk_tn (by omega), pk_tn (by omega), pk_tn (by omega)]
  have := Nat.two_pow_add_eq_or_of_lt hv d
  rw [Nat.mul_comm d, Nat.or_comm, ← this, Nat.add_comm]
theorem sh5 : ∀ k, k < 6 → ((nI (5 * k) &&& 31).toBitVec.smod 32).toNat = 5 * k := by decide
theorem p5 (k : Nat) : 2 ^ (5 * k) = 32 ^ k := by rw [Nat.pow_mul]
theorem sp_or {l : WL} {c : Nat} (hl : l.length < 6) (h : ∀ k, k < l.length → l.getD k 0 < 26) (hc : c < 26) : nI (spL l) ||| (nI (c + 1) <<< (nI (5 * l.length) &&& 31)) = nI (spL (l ++ [c])) := by
  have h1 := spL_lt l h
  have hb : spL (l ++ [c]) < 1073741824 := spL_b (by simp; omega) (fun k hk => by
    have hk : k < l.length + 1 := by simpa using hk
    by_cases e : k = l.length
    · rw [e, getD_ap2]; exact hc
    · rw [getD_ap1 (by omega)]; exact h k (by omega))
  rw [spL_ap, ← p5] at hb
  rw [← p5] at h1
  rw [pk_shlN _ (5 * l.length) (sh5 _ hl) (by omega), or_add h1 (by omega), spL_ap, p5]
def cTP (σ : ST) (n : Nat) (tb : Nat → Nat) : Prop := σ.1 5 0 4 0 = nI n ∧ n ≤ 600 ∧ ∀ i, i < n → σ.1 10 0 1 i = nI (tb i) ∧ tb i < 256
abbrev kTk : List RF := [(5, 0, 2), (5, 0, 5), (5, 0, 6), (5, 0, 7)]
theorem cTP_off {L : List RF} {σ τ : ST} {n : Nat} {tb : Nat → Nat} (h : off L σ τ) (h1 : (5, 0, 4) ∉ L) (h2 : (10, 0, 1) ∉ L) (c : cTP σ n tb) : cTP τ n tb := by
  unfold cTP at *
  rw [(h 5 0 4 h1).1, (h 10 0 1 h2).1]
  exact c
def cTK (σ : ST) : TK → Prop
  | none => σ.1 5 0 6 0 = nI 0
  | some none => σ.1 5 0 6 0 = nI 1
  | some (some (.inl l)) => σ.1 5 0 6 0 = nI 2 ∧ σ.1 5 0 7 0 = nI (spL l)
  | some (some (.inr (.inl v))) => σ.1 5 0 6 0 = nI 3 ∧ σ.1 5 0 7 0 = nI v
  | some (some (.inr (.inr false))) => σ.1 5 0 6 0 = nI 4
  | some (some (.inr (.inr true))) => σ.1 5 0 6 0 = nI 5
theorem i600 : Int32.ofNat 600 = nI 600 := rfl
theorem i123 : (Int8.ofInt 123).toInt32 = nI 123 := by decide
theorem i48 : (Int8.ofInt 48).toInt32 = nI 48 := by decide
theorem i58 : (Int8.ofInt 58).toInt32 = nI 58 := by decide
theorem i59 : (Int8.ofInt 59).toInt32 = nI 59 := by decide
section TO
variable {N e m : Nat} {σ : ST} {Q : POST} {n : Nat} {tb : Nat → Nat}
set_option maxRecDepth 100000 in
theorem c_aheadR (c : cTP σ n tb) {p : Nat} (hp : p ≤ n) (e5 : σ.1 5 0 5 0 = nI p) (hm : 40 ≤ m) (h1 : p < n → Q (some (.inl (nI (tb p)))) σ) (h0 : p = n → Q (some (.inl (-1))) σ) :
    wp N m (e, 0) TX5_ahead 0 [some (.inr (.inr (5, 0, 0)))] [] σ Q := by
  obtain ⟨n1, rfl⟩ := il_ex hm
  obtain ⟨c1, c2, c3⟩ := c
  refine b_lt e5 z0 (by omega) (by omega) (fun q => by omega) (fun _ => ?_)
  refine b_ge e5 c1 (by omega) (by omega) (fun q => ?_) (fun q => ?_)
  · refine ⟨Or.inl rfl, ?_⟩
    rw [im1]; exact h0 (by omega)
  · refine b_ge e5 i600 (by omega) (by omega) (fun q => by omega) (fun _ => ?_)
    refine ⟨il_in e5 (by omega) (by omega), trivial, Or.inl rfl, ?_⟩
    rw [show (σ.1 5 0 (4 + 1) 0).toNatClampNeg = p from il_cl e5 (by omega)]
    have := h1 q
    rw [← (c3 p q).1] at this
    exact this
theorem c_isLetter {x0 : Int32} {b : Nat} (e0 : x0 = nI b) (hb : b < 2147483648) (hm : 20 ≤ m) (h1 : 97 ≤ b ∧ b ≤ 122 → Q (some (.inl (nI 1))) σ) (h0 : ¬ (97 ≤ b ∧ b ≤ 122) → Q (some (.inl (nI 0))) σ) : wp N m (e, 0) TX5_isLetter 0 [some (.inl x0)] [] σ Q := by
  obtain ⟨n1, rfl⟩ := il_ex hm
  refine b_lt e0 i97 hb (by omega) (fun q => ⟨Or.inr (Or.inl rfl), h0 (by omega)⟩) (fun q => ?_)
  refine b_ge e0 i123 hb (by omega) (fun q => ⟨Or.inr (Or.inl rfl), h0 (by omega)⟩) (fun q => ⟨trivial, Or.inr (Or.inr rfl), h1 (by omega)⟩)
theorem c_isDigit {x0 : Int32} {b : Nat} (e0 : x0 = nI b) (hb : b < 2147483648) (hm : 20 ≤ m) (h1 : 48 ≤ b ∧ b ≤ 57 → Q (some (.inl (nI 1))) σ) (h0 : ¬ (48 ≤ b ∧ b ≤ 57) → Q (some (.inl (nI 0))) σ) : wp N m (e, 0) TX5_isDigit 0 [some (.inl x0)] [] σ Q := by
  obtain ⟨n1, rfl⟩ := il_ex hm
  refine b_lt e0 i48 hb (by omega) (fun q => ⟨Or.inr (Or.inl rfl), h0 (by omega)⟩) (fun q => ?_)
  refine b_ge e0 i58 hb (by omega) (fun q => ⟨Or.inr (Or.inl rfl), h0 (by omega)⟩) (fun q => ⟨trivial, Or.inr (Or.inr rfl), h1 (by omega)⟩)
abbrev kTw : List RF := [(5, 0, 5), (5, 0, 6), (5, 0, 7)]
set_option maxRecDepth 100000 in
theorem tw_loop (c : cTP σ n tb) {s E : Nat} (e2 : σ.1 5 0 2 0 = nI s) (hQ : ∀ τ, off kTw σ τ → τ.1 5 0 5 0 = nI E → cTK τ (if E - s ≤ 6 then .wd (ltL tb s (E - s)) else .no) → Q none τ) :
    ∀ (r k m : Nat) (τ : ST) (o1 : Option AV), s + k + r = n → rnE (ltB tb) r (s + k) = E → 60 * r + 100 ≤ m → off kTw σ τ → τ.1 5 0 5 0 = nI (s + k) → (∀ i, s ≤ i → i < s + k → ltB tb i = true) → τ.1 5 0 7 0 = nI (spL (ltL tb s (min k 6))) →
      wp N m (e + 1, 0) TX5_takeWord 0 [some (.inr (.inr (5, 0, 0))), o1] [] τ Q := by
  have hn := c.2.1
  have fin : ∀ (k m : Nat) (τ : ST) (o1 : Option AV), s + k ≤ n → s + k = E → 50 ≤ m → off kTw σ τ → τ.1 5 0 5 0 = nI (s + k) → τ.1 5 0 7 0 = nI (spL (ltL tb s (min k 6))) → wp N m (e + 1, 0) TX5_takeWord 40 [some (.inr (.inr (5, 0, 0))), o1] [] τ Q := by
    intro k m τ o1 hk hE hm ho h5 h7
    obtain ⟨n1, rfl⟩ := il_ex (K := 20) (m := m) (by omega)
    have g : τ.1 5 0 5 0 - τ.1 5 0 2 0 = nI k := by rw [h5, off_1 ho (by decide), e2, pk_sub (by omega)]; congr 1; omega
    subst hE
    refine b_gt g i6 (by omega) (by omega) (fun q => ?_) (fun q => ?_)
    · refine hQ _ (off_uI ho (by decide)) (by rw [uI_nr _ _ _ _ _ _ (by decide)]; exact h5) ?_
      rw [if_neg (by omega)]
      show (uI _ 5 0 6 0 _).1 5 0 6 0 = _
      rw [uI_at]; exact oi_0
    · refine ⟨trivial, ?_⟩
      refine hQ _ (off_uI ho (by decide)) (by rw [uI_nr _ _ _ _ _ _ (by decide)]; exact h5) ?_
      rw [if_pos (by omega), show s + k - s = k by omega]
      refine ⟨?_, ?_⟩
      · show (uI _ 5 0 6 0 _).1 5 0 6 0 = _
        rw [uI_at]; exact i2
      · show (uI _ 5 0 6 0 _).1 5 0 7 0 = _
        rw [uI_nr _ _ _ _ _ _ (by decide), h7, show min k 6 = k by omega]
  intro r
  induction r with
  | zero =>
    intro k m τ o1 hr hE hm ho h5 hi h7
    obtain ⟨n1, rfl⟩ := il_ex (K := 10) (m := m) (by omega)
    have c' := cTP_off ho (by decide) (by decide) c
    refine b_ge h5 c'.1 (by omega) (by omega) (fun _ => ?_) (fun q => by omega)
    exact fin k _ τ _ (by omega) hE (by omega) ho h5 h7
  | succ r ih =>
    intro k m τ o1 hr hE hm ho h5 hi h7
    obtain ⟨n1, rfl⟩ := il_ex (K := 50) (m := m) (by omega)
    have c' := cTP_off ho (by decide) (by decide) c
    have hb := (c'.2.2 (s + k) (by omega)).2
    refine b_ge h5 c'.1 (by omega) (by omega) (fun q => by omega) (fun _ => ?_)
    refine ⟨trivial, c_aheadR c' (by omega) h5 (by omega) (fun _ => ?_) (fun q => by omega)⟩
    refine ⟨trivial, c_isLetter rfl (by omega) (by omega) (fun q => ?_) (fun q => ?_)⟩
    · refine b_eq (a := 1) rfl z0 (by omega) (by omega) (fun q => by omega) (fun _ => ?_)
      have lt : ltB tb (s + k) = true := decide_eq_true q
      have g : τ.1 5 0 5 0 - τ.1 5 0 2 0 = nI k := by rw [h5, off_1 ho (by decide), e2, pk_sub (by omega)]; congr 1; omega
      have nxt : ∀ (τ' : ST) (n' : Nat) (p1 : Option AV), 60 * r + 110 ≤ n' → off kTw σ τ' → τ'.1 5 0 5 0 = nI (s + k) → τ'.1 5 0 7 0 = nI (spL (ltL tb s (min (k + 1) 6))) → wp N n' (e + 1, 0) TX5_takeWord 33 [some (.inr (.inr (5, 0, 0))), p1] [] τ' Q := by
        intro τ' n' p1 hn' ho' h5' h7'
        obtain ⟨n3, rfl⟩ := il_ex (K := 7) (m := n') (by omega)
        refine ⟨trivial, ih (k + 1) _ _ _ (by omega) (by rw [rnE_t lt] at hE; exact hE) (by omega) (off_uI ho' (by decide)) ?_ (fun i h1 h2 => ?_) ?_⟩
        · rw [uI_at]
          show τ'.1 5 0 5 0 + Int32.ofInt 1 = _
          exact il_inc h5'
        · by_cases z : i = s + k
          · rw [z]; exact lt
          · exact hi i h1 (by omega)
        · rw [uI_nr _ _ _ _ _ _ (by decide)]; exact h7'
      refine b_ge g i6 (by omega) (by omega) (fun q6 => ?_) (fun q6 => ?_)
      · exact nxt τ _ _ (by omega) ho h5 (by rw [h7, show min (k + 1) 6 = min k 6 by omega])
      · refine ⟨trivial, c_aheadR c' (by omega) h5 (by omega) (fun _ => ?_) (fun q => by omega)⟩
        refine adv 10 (60 * r + 110) (by omega) (fun n9 hn9 => ?_)
        refine nxt _ n9 _ hn9 (off_uI ho (by decide)) (by rw [uI_nr _ _ _ _ _ _ (by decide)]; exact h5) ?_
        rw [uI_at]
        have e1 : nI (tb (s + k)) - (Int8.ofInt 97).toInt32 + Int32.ofInt 1 = nI (tb (s + k) - 97 + 1) := by rw [i97, pk_sub (by omega), oi_1, nI_add]
        have e5 : Int32.ofInt 5 * (τ.1 5 0 5 0 - τ.1 5 0 2 0) = nI (5 * k) := by rw [g, i5, pk_mul]
        show τ.1 5 0 7 0 ||| ((nI (tb (s + k)) - (Int8.ofInt 97).toInt32 + Int32.ofInt 1) <<< ((Int32.ofInt 5 * (τ.1 5 0 5 0 - τ.1 5 0 2 0)) &&& 31)) = _
        rw [e1, e5, h7, show min k 6 = k by omega, show min (k + 1) 6 = k + 1 by omega, ltL_s]
        have := sp_or (l := ltL tb s k) (c := tb (s + k) - 97) (by rw [ltL_len]; omega) (fun j hj => by
          rw [ltL_len] at hj
          rw [ltL_get hj]
          have := of_decide_eq_true (hi (s + j) (by omega) (by omega))
          omega) (by omega)
        rw [ltL_len] at this
        exact this
    · refine b_eq (a := 0) rfl z0 (by omega) (by omega) (fun _ => ?_) (fun q => absurd rfl q)
      have lt : ¬ ltB tb (s + k) = true := fun z => q (of_decide_eq_true z)
      rw [rnE_f lt] at hE
      exact fin k _ τ _ (by omega) hE (by omega) ho h5 h7
set_option maxRecDepth 100000 in
theorem td_loop (c : cTP σ n tb) {s E : Nat} (e2 : σ.1 5 0 2 0 = nI s) (hQ : ∀ τ, off kTw σ τ → τ.1 5 0 5 0 = nI E → cTK τ (if E - s ≤ 3 then .wh (dgV tb s (E - s)) else .no) → Q none τ) :
    ∀ (r k m : Nat) (τ : ST), s + k + r = n → rnE (dgB tb) r (s + k) = E → 60 * r + 100 ≤ m → off kTw σ τ → τ.1 5 0 5 0 = nI (s + k) → τ.1 5 0 7 0 = nI (dgV tb s (min k 3)) →
      wp N m (e + 1, 0) TX5_takeWhole 0 [some (.inr (.inr (5, 0, 0)))] [] τ Q := by
  have hn := c.2.1
  have fin : ∀ (k m : Nat) (τ : ST), s + k ≤ n → s + k = E → 50 ≤ m → off kTw σ τ → τ.1 5 0 5 0 = nI (s + k) → τ.1 5 0 7 0 = nI (dgV tb s (min k 3)) → wp N m (e + 1, 0) TX5_takeWhole 34 [some (.inr (.inr (5, 0, 0)))] [] τ Q := by
    intro k m τ hk hE hm ho h5 h7
    obtain ⟨n1, rfl⟩ := il_ex (K := 20) (m := m) (by omega)
    have g : τ.1 5 0 5 0 - τ.1 5 0 2 0 = nI k := by rw [h5, off_1 ho (by decide), e2, pk_sub (by omega)]; congr 1; omega
    subst hE
    refine b_gt g i3 (by omega) (by omega) (fun q => ?_) (fun q => ?_)
    · refine hQ _ (off_uI ho (by decide)) (by rw [uI_nr _ _ _ _ _ _ (by decide)]; exact h5) ?_
      rw [if_neg (by omega)]
      show (uI _ 5 0 6 0 _).1 5 0 6 0 = _
      rw [uI_at]; exact oi_0
    · refine ⟨trivial, ?_⟩
      refine hQ _ (off_uI ho (by decide)) (by rw [uI_nr _ _ _ _ _ _ (by decide)]; exact h5) ?_
      rw [if_pos (by omega), show s + k - s = k by omega]
      refine ⟨?_, ?_⟩
      · show (uI _ 5 0 6 0 _).1 5 0 6 0 = _
        rw [uI_at]; exact i3
      · show (uI _ 5 0 6 0 _).1 5 0 7 0 = _
        rw [uI_nr _ _ _ _ _ _ (by decide), h7, show min k 3 = k by omega]
  intro r
  induction r with
  | zero =>
    intro k m τ hr hE hm ho h5 h7
    obtain ⟨n1, rfl⟩ := il_ex (K := 10) (m := m) (by omega)
    have c' := cTP_off ho (by decide) (by decide) c
    refine b_ge h5 c'.1 (by omega) (by omega) (fun _ => ?_) (fun q => by omega)
    exact fin k _ τ (by omega) hE (by omega) ho h5 h7
  | succ r ih =>
    intro k m τ hr hE hm ho h5 h7
    obtain ⟨n1, rfl⟩ := il_ex (K := 50) (m := m) (by omega)
    have c' := cTP_off ho (by decide) (by decide) c
    have hb := (c'.2.2 (s + k) (by omega)).2
    refine b_ge h5 c'.1 (by omega) (by omega) (fun q => by omega) (fun _ => ?_)
    refine ⟨trivial, c_aheadR c' (by omega) h5 (by omega) (fun _ => ?_) (fun q => by omega)⟩
    refine ⟨trivial, c_isDigit rfl (by omega) (by omega) (fun q => ?_) (fun q => ?_)⟩
    · refine b_eq (a := 1) rfl z0 (by omega) (by omega) (fun q => by omega) (fun _ => ?_)
      have lt : dgB tb (s + k) = true := decide_eq_true q
      have g : τ.1 5 0 5 0 - τ.1 5 0 2 0 = nI k := by rw [h5, off_1 ho (by decide), e2, pk_sub (by omega)]; congr 1; omega
      have nxt : ∀ (τ' : ST) (n' : Nat), 60 * r + 110 ≤ n' → off kTw σ τ' → τ'.1 5 0 5 0 = nI (s + k) → τ'.1 5 0 7 0 = nI (dgV tb s (min (k + 1) 3)) → wp N n' (e + 1, 0) TX5_takeWhole 27 [some (.inr (.inr (5, 0, 0)))] [] τ' Q := by
        intro τ' n' hn' ho' h5' h7'
        obtain ⟨n3, rfl⟩ := il_ex (K := 7) (m := n') (by omega)
        refine ⟨trivial, ih (k + 1) _ _ (by omega) (by rw [rnE_t lt] at hE; exact hE) (by omega) (off_uI ho' (by decide)) ?_ ?_⟩
        · rw [uI_at]
          show τ'.1 5 0 5 0 + Int32.ofInt 1 = _
          exact il_inc h5'
        · rw [uI_nr _ _ _ _ _ _ (by decide)]; exact h7'
      refine b_ge g i3 (by omega) (by omega) (fun q6 => ?_) (fun q6 => ?_)
      · exact nxt τ _ (by omega) ho h5 (by rw [h7, show min (k + 1) 3 = min k 3 by omega])
      · refine ⟨trivial, c_aheadR c' (by omega) h5 (by omega) (fun _ => ?_) (fun q => by omega)⟩
        refine adv 4 (60 * r + 110) (by omega) (fun n9 hn9 => ?_)
        refine nxt _ n9 hn9 (off_uI ho (by decide)) (by rw [uI_nr _ _ _ _ _ _ (by decide)]; exact h5) ?_
        rw [uI_at]
        show τ.1 5 0 7 0 * (Int8.ofInt 10).toInt32 + nI (tb (s + k)) - (Int8.ofInt 48).toInt32 = _
        rw [h7, show min k 3 = k by omega, show min (k + 1) 3 = k + 1 by omega, i10, i48, pk_mul, nI_add, pk_sub (by omega), dgV]
        congr 1; omega
    · refine b_eq (a := 0) rfl z0 (by omega) (by omega) (fun _ => ?_) (fun q => absurd rfl q)
      have lt : ¬ dgB tb (s + k) = true := fun z => q (of_decide_eq_true z)
      rw [rnE_f lt] at hE
      exact fin k _ τ (by omega) hE (by omega) ho h5 h7
set_option maxRecDepth 100000 in
/-- behind the blanks -/
theorem tt_at {M : Nat} (c : cTP σ n tb) {s : Nat} (hs : s ≤ n) (h5 : σ.1 5 0 5 0 = nI s) {o1 : Option AV} (hm : 60 * n + 400 ≤ M) (hQ : ∀ τ, off kTk σ τ → τ.1 5 0 2 0 = nI s → τ.1 5 0 5 0 = nI (tkA n tb s).2 → cTK τ (tkA n tb s).1 → Q none τ) :
    wp N M (e + 2, 0) TX5_takeToken 16 [some (.inr (.inr (5, 0, 0))), o1] [] σ Q := by
  have hn := c.2.1
  obtain ⟨n1, rfl⟩ := il_ex (K := 60) (m := M) (by omega)
  have ho : off kTk σ (uI (uI σ 5 0 2 0 (σ.1 5 0 5 0)) 5 0 7 0 (Int32.ofInt 0)) := off_uI (off_uI (off_rf _ _) (by decide)) (by decide)
  have c' : cTP (uI (uI σ 5 0 2 0 (σ.1 5 0 5 0)) 5 0 7 0 (Int32.ofInt 0)) n tb := cTP_off ho (by decide) (by decide) c
  have k5 : (uI (uI σ 5 0 2 0 (σ.1 5 0 5 0)) 5 0 7 0 (Int32.ofInt 0)).1 5 0 5 0 = nI s := by rw [uI_nr _ _ _ _ _ _ (by decide), uI_nr _ _ _ _ _ _ (by decide)]; exact h5
  have k2 : (uI (uI σ 5 0 2 0 (σ.1 5 0 5 0)) 5 0 7 0 (Int32.ofInt 0)).1 5 0 2 0 = nI s := by rw [uI_nr _ _ _ _ _ _ (by decide), uI_at]; exact h5
  have k7 : (uI (uI σ 5 0 2 0 (σ.1 5 0 5 0)) 5 0 7 0 (Int32.ofInt 0)).1 5 0 7 0 = nI 0 := by rw [uI_at]; exact oi_0
  refine ⟨trivial, c_aheadR c' hs k5 (by omega) (fun q => ?_) (fun q => ?_)⟩
  · have hb := (c.2.2 s q).2
    generalize hτ : uI (uI σ 5 0 2 0 (σ.1 5 0 5 0)) 5 0 7 0 (Int32.ofInt 0) = τ at *
    refine ⟨fun _ => ?_, fun z => absurd (b_n1 (z := tb s) (by omega)) z⟩
    refine ⟨trivial, c_isLetter rfl (by omega) (by omega) (fun ql => ?_) (fun ql => ?_)⟩
    · refine b_eq (a := 1) rfl z0 (by omega) (by omega) (fun q => by omega) (fun _ => ?_)
      have lt : ltB tb s = true := decide_eq_true ql
      refine ⟨trivial, tw_loop (σ := τ) (E := tkL n tb s) c' k2 ?_ (n - s) 0 _ τ _ (by omega) rfl (by omega) (off_rf _ _) k5 (fun i h1 h2 => by omega) k7⟩
      intro τ2 o2 g5 gk
      refine ⟨trivial, ?_⟩
      rw [tkA_wd q lt] at hQ
      exact hQ τ2 (off_tr ho (off_in o2 (by decide))) (by rw [off_1 o2 (by decide)]; exact k2) g5 gk
    · refine b_eq (a := 0) rfl z0 (by omega) (by omega) (fun _ => ?_) (fun q => absurd rfl q)
      have lt : ¬ ltB tb s = true := fun z => ql (of_decide_eq_true z)
      refine ⟨trivial, c_isDigit rfl (by omega) (by omega) (fun qd => ?_) (fun qd => ?_)⟩
      · refine b_eq (a := 1) rfl z0 (by omega) (by omega) (fun q => by omega) (fun _ => ?_)
        have dg : dgB tb s = true := decide_eq_true qd
        refine ⟨trivial, td_loop (σ := τ) (E := tkD n tb s) c' k2 ?_ (n - s) 0 _ τ (by omega) rfl (by omega) (off_rf _ _) k5 k7⟩
        intro τ2 o2 g5 gk
        refine ⟨trivial, ?_⟩
        rw [tkA_wh q lt dg] at hQ
        exact hQ τ2 (off_tr ho (off_in o2 (by decide))) (by rw [off_1 o2 (by decide)]; exact k2) g5 gk
      · refine b_eq (a := 0) rfl z0 (by omega) (by omega) (fun _ => ?_) (fun q => absurd rfl q)
        have dg : ¬ dgB tb s = true := fun z => qd (of_decide_eq_true z)
        rw [tkA_sg q lt dg] at hQ
        have fin : ∀ (y : Nat) (t : TK) (m' : Nat), 20 ≤ m' → (∀ τ, τ.1 5 0 6 0 = nI y → cTK τ t) → t = (if tb s = 59 then .pa else if tb s = 58 then .co else .no) → wp N m' (e + 2, 0) TX5_takeToken 57 [some (.inr (.inr (5, 0, 0))), some (.inl (nI (tb s)))] [.inl (nI y), .inr (.inr (5, 0, 0))] τ Q := by
          intro y t m' hm' ht et
          obtain ⟨n3, rfl⟩ := il_ex (K := 12) (m := m') (by omega)
          refine hQ _ (off_uI (off_uI ho (by decide)) (by decide)) ?_ ?_ ?_
          · rw [uI_nr _ _ _ _ _ _ (by decide), uI_nr _ _ _ _ _ _ (by decide)]; exact k2
          · rw [uI_at]
            show (uI τ 5 0 6 0 _).1 5 0 5 0 + Int32.ofInt 1 = _
            rw [uI_nr _ _ _ _ _ _ (by decide)]; exact il_inc k5
          · show cTK _ (if tb s = 59 then .pa else if tb s = 58 then .co else .no)
            rw [← et]
            refine ht _ ?_
            rw [uI_nr _ _ _ _ _ _ (by decide), uI_at]
        refine b_ne rfl i59 (by omega) (by omega) (fun q9 => ?_) (fun q9 => ?_)
        · refine b_ne rfl i58 (by omega) (by omega) (fun q8 => ?_) (fun q8 => ?_)
          · exact adv 1 20 (by omega) (fun n9 hn9 => fin 0 .no n9 hn9 (fun τ z => z) (by rw [if_neg q9, if_neg q8]))
          · exact ⟨trivial, fin 5 .co _ (by omega) (fun τ z => z) (by rw [if_neg q9, if_pos q8])⟩
        · exact ⟨trivial, fin 4 .pa _ (by omega) (fun τ z => z) (by rw [if_pos q9])⟩
  · refine ⟨fun z => absurd (show (-1 : Int32) = Int32.ofInt (-1) by rw [im1]) z, fun _ => ?_⟩
    rw [tkA_fin (by omega)] at hQ
    refine ⟨trivial, ?_⟩
    refine hQ _ (off_uI ho (by decide)) ?_ ?_ ?_
    · rw [uI_nr _ _ _ _ _ _ (by decide)]; exact k2
    · rw [uI_nr _ _ _ _ _ _ (by decide)]; exact k5
    · show (uI _ 5 0 6 0 _).1 5 0 6 0 = _
      rw [uI_at]; exact oi_1
set_option maxRecDepth 100000 in
/-- Reader.takeToken -/
theorem c_takeToken : ∀ (r p m : Nat) (σ : ST) (Q : POST), cTP σ n tb → p + r = n → σ.1 5 0 5 0 = nI p → 20 * r + 60 * n + 500 ≤ m → (∀ τ, off kTk σ τ → τ.1 5 0 2 0 = nI (tkS n tb p) → τ.1 5 0 5 0 = nI (tkA n tb (tkS n tb p)).2 → cTK τ (tkA n tb (tkS n tb p)).1 → Q none τ) →
    wp N m (e + 2, 0) TX5_takeToken 0 [some (.inr (.inr (5, 0, 0))), none] [] σ Q := by
  intro r
  induction r with
  | zero =>
    intro p m σ Q c hp h5 hm hQ
    have hn := c.2.1
    obtain ⟨n1, rfl⟩ := il_ex (K := 10) (m := m) (by omega)
    have es : tkS n tb p = p := by unfold tkS; rw [show n - p = 0 by omega]; rfl
    rw [es] at hQ
    refine b_ge h5 c.1 (by omega) (by omega) (fun _ => ?_) (fun q => by omega)
    exact tt_at c (by omega) h5 (by omega) hQ
  | succ r ih =>
    intro p m σ Q c hp h5 hm hQ
    have hn := c.2.1
    obtain ⟨n1, rfl⟩ := il_ex (K := 20) (m := m) (by omega)
    have hb := (c.2.2 p (by omega)).2
    refine b_ge h5 c.1 (by omega) (by omega) (fun q => by omega) (fun _ => ?_)
    refine ⟨trivial, c_aheadR c (by omega) h5 (by omega) (fun _ => ?_) (fun q => by omega)⟩
    refine b_ne rfl i32 (by omega) (by omega) (fun q => ?_) (fun q => ?_)
    · have bk : ¬ bkB tb p = true := fun z => q (of_decide_eq_true z)
      have es : tkS n tb p = p := by unfold tkS; rw [show n - p = r + 1 by omega, rnE_f bk]
      rw [es] at hQ
      exact tt_at c (by omega) h5 (by omega) hQ
    · have bk : bkB tb p = true := decide_eq_true q
      have es : tkS n tb p = tkS n tb (p + 1) := by unfold tkS; rw [show n - p = r + 1 by omega, rnE_t bk, show n - (p + 1) = r by omega]
      rw [es] at hQ
      have o1 : off kTk σ (uI σ 5 0 5 0 (σ.1 5 0 5 0 + Int32.ofInt 1)) := off_uI (off_rf _ _) (by decide)
      refine ⟨trivial, ih (p + 1) _ _ Q (cTP_off o1 (by decide) (by decide) c) (by omega) (by rw [uI_at]; exact il_inc h5) (by omega) (fun τ o2 a1 a2 a3 => hQ τ (off_tr o1 o2) a1 a2 a3)⟩
end TO
