/-! the reference's tokens -/
def mTP (σ : ST) (n : Nat) (tb : Nat → Nat) : Prop := σ.1 11 0 6 0 = nI n ∧ n ≤ 600 ∧ ∀ i, i < n → σ.1 11 0 4 i = nI (tb i) ∧ tb i < 256
theorem mTP_off {L : List RF} {σ τ : ST} {n : Nat} {tb : Nat → Nat} (h : off L σ τ) (h1 : (11, 0, 6) ∉ L) (h2 : (11, 0, 4) ∉ L) (c : mTP σ n tb) : mTP τ n tb := by
  unfold mTP at *
  rw [(h 11 0 6 h1).1, (h 11 0 4 h2).1]
  exact c
def mTK (σ : ST) : TK → Prop
  | none => σ.1 11 0 10 0 = nI 0
  | some none => σ.1 11 0 10 0 = nI 1
  | some (some (.inl l)) => σ.1 11 0 10 0 = nI 2 ∧ σ.2 11 0 14 0 = lN (enL l)
  | some (some (.inr (.inl v))) => σ.1 11 0 10 0 = nI 3 ∧ σ.1 11 0 13 0 = nI v
  | some (some (.inr (.inr false))) => σ.1 11 0 10 0 = nI 4 ∧ σ.1 11 0 12 0 = nI 59
  | some (some (.inr (.inr true))) => σ.1 11 0 10 0 = nI 4 ∧ σ.1 11 0 12 0 = nI 58
abbrev oTk : List RF := [(11, 0, 7), (11, 0, 10), (11, 0, 11), (11, 0, 12), (11, 0, 13), (11, 0, 14)]
theorem uI_2 (σ : ST) (c k j i : Nat) (x : Int32) (c' k' j' i' : Nat) : (uI σ c k j i x).2 c' k' j' i' = σ.2 c' k' j' i' := rfl
theorem uL_1 (σ : ST) (c k j i : Nat) (x : Int64) (c' k' j' i' : Nat) : (uL σ c k j i x).1 c' k' j' i' = σ.1 c' k' j' i' := rfl
theorem uL_at (σ : ST) (c k j i : Nat) (x : Int64) : (uL σ c k j i x).2 c k j i = x := by unfold uL; simp
theorem l97 : Int64.ofInt 97 = lN 97 := by decide
theorem i122 : (Int8.ofInt 122).toInt32 = nI 122 := by decide
theorem i57 : (Int8.ofInt 57).toInt32 = nI 57 := by decide
section GO
variable {N e m : Nat} {σ : ST} {Q : POST} {n : Nat} {tb : Nat → Nat}
set_option maxRecDepth 100000 in
theorem c_isLetterAt (c : mTP σ n tb) {p : Nat} (hp : p ≤ n) {x1 : Int32} (e1 : x1 = nI p) (hm : 60 ≤ m) (h1 : p < n → ltB tb p = true → Q (some (.inl (nI 1))) σ) (h0 : (p < n → ¬ ltB tb p = true) → Q (some (.inl (nI 0))) σ) :
    wp N m (e + 1, 0) TX11_isLetterAt 0 [some (.inr (.inr (11, 0, 0))), some (.inl x1)] [] σ Q := by
  obtain ⟨n1, rfl⟩ := il_ex hm
  obtain ⟨c1, c2, c3⟩ := c
  refine b_ge e1 c1 (by omega) (by omega) (fun q => ⟨Or.inr (Or.inl rfl), h0 (fun z => by omega)⟩) (fun q => ?_)
  refine ⟨il_in e1 (by omega) (by omega), ?_⟩
  have v : σ.1 11 0 4 x1.toNatClampNeg = nI (tb p) := by rw [il_cl e1 (by omega)]; exact (c3 p q).1
  have hb := (c3 p q).2
  refine ⟨trivial, c_inB (a := 97) (b := 122) (by omega) (by omega) i97 i122 (by omega) (fun j a b ej _ => ?_) (fun hn => ?_)⟩
  · have : tb p = j := (nI_eq (by omega) (by omega)).mp (v.symm.trans ej)
    refine b_eq (a := 1) rfl z0 (by omega) (by omega) (fun z => by omega) (fun _ => ⟨trivial, Or.inr (Or.inr rfl), h1 q (decide_eq_true (by omega))⟩)
  · refine b_eq (a := 0) rfl z0 (by omega) (by omega) (fun _ => ⟨Or.inr (Or.inl rfl), h0 (fun _ z => ?_)⟩) (fun z => absurd rfl z)
    have z := of_decide_eq_true z
    have v : σ.1 11 0 (3 + 1) x1.toNatClampNeg = nI (tb p) := v
    rw [v] at hn
    unfold inB at hn
    rw [if_pos ⟨nI_nlt z.1 (by omega), nI_nlt z.2 (by omega)⟩] at hn
    cases hn
set_option maxRecDepth 100000 in
theorem c_isDigitAt (c : mTP σ n tb) {p : Nat} (hp : p ≤ n) {x1 : Int32} (e1 : x1 = nI p) (hm : 60 ≤ m) (h1 : p < n → dgB tb p = true → Q (some (.inl (nI 1))) σ) (h0 : (p < n → ¬ dgB tb p = true) → Q (some (.inl (nI 0))) σ) :
    wp N m (e + 1, 0) TX11_isDigitAt 0 [some (.inr (.inr (11, 0, 0))), some (.inl x1)] [] σ Q := by
  obtain ⟨n1, rfl⟩ := il_ex hm
  obtain ⟨c1, c2, c3⟩ := c
  refine b_ge e1 c1 (by omega) (by omega) (fun q => ⟨Or.inr (Or.inl rfl), h0 (fun z => by omega)⟩) (fun q => ?_)
  refine ⟨il_in e1 (by omega) (by omega), ?_⟩
  have v : σ.1 11 0 4 x1.toNatClampNeg = nI (tb p) := by rw [il_cl e1 (by omega)]; exact (c3 p q).1
  have hb := (c3 p q).2
  refine ⟨trivial, c_inB (a := 48) (b := 57) (by omega) (by omega) i48 i57 (by omega) (fun j a b ej _ => ?_) (fun hn => ?_)⟩
  · have : tb p = j := (nI_eq (by omega) (by omega)).mp (v.symm.trans ej)
    refine b_eq (a := 1) rfl z0 (by omega) (by omega) (fun z => by omega) (fun _ => ⟨trivial, Or.inr (Or.inr rfl), h1 q (decide_eq_true (by omega))⟩)
  · refine b_eq (a := 0) rfl z0 (by omega) (by omega) (fun _ => ⟨Or.inr (Or.inl rfl), h0 (fun _ z => ?_)⟩) (fun z => absurd rfl z)
    have z := of_decide_eq_true z
    have v : σ.1 11 0 (3 + 1) x1.toNatClampNeg = nI (tb p) := v
    rw [v] at hn
    unfold inB at hn
    rw [if_pos ⟨nI_nlt z.1 (by omega), nI_nlt z.2 (by omega)⟩] at hn
    cases hn
abbrev oTw : List RF := [(11, 0, 7), (11, 0, 10), (11, 0, 14)]
abbrev oTd : List RF := [(11, 0, 7), (11, 0, 10), (11, 0, 13)]
set_option maxRecDepth 100000 in
theorem gw_loop (c : mTP σ n tb) {s E : Nat} (e2 : σ.1 11 0 11 0 = nI s) (hQ : ∀ τ, off oTw σ τ → τ.1 11 0 7 0 = nI E → mTK τ (if E - s ≤ 6 then .wd (ltL tb s (E - s)) else .no) → Q none τ) :
    ∀ (r k m : Nat) (τ : ST), s + k + r = n → rnE (ltB tb) r (s + k) = E → 60 * r + 200 ≤ m → off oTw σ τ → τ.1 11 0 7 0 = nI (s + k) → τ.2 11 0 14 0 = lN (enL (ltL tb s (min k 6))) →
      wp N m (e + 2, 0) TX11_goOn 44 [some (.inr (.inr (11, 0, 0)))] [] τ Q := by
  have hn := c.2.1
  have fin : ∀ (k m : Nat) (τ : ST), s + k ≤ n → s + k = E → 50 ≤ m → off oTw σ τ → τ.1 11 0 7 0 = nI (s + k) → τ.2 11 0 14 0 = lN (enL (ltL tb s (min k 6))) → wp N m (e + 2, 0) TX11_goOn 80 [some (.inr (.inr (11, 0, 0)))] [] τ Q := by
    intro k m τ hk hE hm ho h5 h7
    obtain ⟨n1, rfl⟩ := il_ex (K := 20) (m := m) (by omega)
    have g : τ.1 11 0 7 0 - τ.1 11 0 11 0 = nI k := by rw [h5, off_1 ho (by decide), e2, pk_sub (by omega)]; congr 1; omega
    subst hE
    refine b_le g i6 (by omega) (by omega) (fun q => ?_) (fun q => ?_)
    · refine ⟨trivial, ?_⟩
      refine hQ _ (off_uI ho (by decide)) (by rw [uI_nr _ _ _ _ _ _ (by decide)]; exact h5) ?_
      rw [if_pos (by omega), show s + k - s = k by omega]
      refine ⟨?_, ?_⟩
      · show (uI _ 11 0 10 0 _).1 11 0 10 0 = _
        rw [uI_at]; exact i2
      · show (uI _ 11 0 10 0 _).2 11 0 14 0 = _
        rw [uI_2, h7, show min k 6 = k by omega]
    · refine ⟨trivial, trivial, ?_⟩
      refine hQ _ (off_uI ho (by decide)) (by rw [uI_nr _ _ _ _ _ _ (by decide)]; exact h5) ?_
      rw [if_neg (by omega)]
      show (uI _ 11 0 10 0 _).1 11 0 10 0 = _
      rw [uI_at]; exact oi_0
  intro r
  induction r with
  | zero =>
    intro k m τ hr hE hm ho h5 h7
    obtain ⟨n1, rfl⟩ := il_ex (K := 10) (m := m) (by omega)
    have c' := mTP_off ho (by decide) (by decide) c
    refine ⟨trivial, c_isLetterAt c' (by omega) h5 (by omega) (fun q => by omega) (fun _ => ?_)⟩
    refine b_eq (a := 0) rfl z0 (by omega) (by omega) (fun _ => ?_) (fun z => absurd rfl z)
    exact fin k _ τ (by omega) hE (by omega) ho h5 h7
  | succ r ih =>
    intro k m τ hr hE hm ho h5 h7
    obtain ⟨n1, rfl⟩ := il_ex (K := 50) (m := m) (by omega)
    have c' := mTP_off ho (by decide) (by decide) c
    have hb := (c'.2.2 (s + k) (by omega)).2
    refine ⟨trivial, c_isLetterAt c' (by omega) h5 (by omega) (fun _ lt => ?_) (fun lt => ?_)⟩
    · refine b_eq (a := 1) rfl z0 (by omega) (by omega) (fun q => by omega) (fun _ => ?_)
      have lr := of_decide_eq_true lt
      have g : τ.1 11 0 7 0 - τ.1 11 0 11 0 = nI k := by rw [h5, off_1 ho (by decide), e2, pk_sub (by omega)]; congr 1; omega
      have nxt : ∀ (τ' : ST) (n' : Nat), 60 * r + 210 ≤ n' → off oTw σ τ' → τ'.1 11 0 7 0 = nI (s + k) → τ'.2 11 0 14 0 = lN (enL (ltL tb s (min (k + 1) 6))) → wp N n' (e + 2, 0) TX11_goOn 73 [some (.inr (.inr (11, 0, 0)))] [] τ' Q := by
        intro τ' n' hn' ho' h5' h7'
        obtain ⟨n3, rfl⟩ := il_ex (K := 7) (m := n') (by omega)
        refine ⟨trivial, ih (k + 1) _ _ (by omega) (by rw [rnE_t lt] at hE; exact hE) (by omega) (off_uI ho' (by decide)) ?_ ?_⟩
        · rw [uI_at]
          show τ'.1 11 0 7 0 + Int32.ofInt 1 = _
          exact il_inc h5'
        · rw [uI_2]; exact h7'
      refine b_ge g i6 (by omega) (by omega) (fun q6 => ?_) (fun q6 => ?_)
      · exact nxt τ _ (by omega) ho h5 (by rw [h7, show min (k + 1) 6 = min k 6 by omega])
      · refine ⟨il_in h5 (by omega) (by omega), ?_⟩
        refine adv 7 (60 * r + 210) (by omega) (fun n9 hn9 => ?_)
        refine nxt _ n9 hn9 (off_uL ho (by decide)) (by rw [uL_1]; exact h5) ?_
        rw [uL_at]
        show τ.2 11 0 14 0 * Int64.ofInt 32 + (τ.1 11 0 4 (τ.1 11 0 7 0).toNatClampNeg).toInt64 - Int64.ofInt 97 + Int64.ofNat 1 = _
        rw [il_cl h5 (by omega), (c'.2.2 (s + k) (by omega)).1, nI_l (by omega), h7, show min k 6 = k by omega, show min (k + 1) 6 = k + 1 by omega, l32, l97, lN_mul, lN_add, lN_sub (by omega), show Int64.ofNat 1 = lN 1 from rfl, lN_add, ltL_s, enL_ap]
        congr 1; omega
    · refine b_eq (a := 0) rfl z0 (by omega) (by omega) (fun _ => ?_) (fun q => absurd rfl q)
      rw [rnE_f (lt (by omega))] at hE
      exact fin k _ τ (by omega) hE (by omega) ho h5 h7
set_option maxRecDepth 100000 in
theorem gd_loop (c : mTP σ n tb) {s E : Nat} (e2 : σ.1 11 0 11 0 = nI s) (hQ : ∀ τ, off oTd σ τ → τ.1 11 0 7 0 = nI E → mTK τ (if E - s ≤ 3 then .wh (dgV tb s (E - s)) else .no) → Q none τ) :
    ∀ (r k m : Nat) (τ : ST), s + k + r = n → rnE (dgB tb) r (s + k) = E → 60 * r + 200 ≤ m → off oTd σ τ → τ.1 11 0 7 0 = nI (s + k) → τ.1 11 0 13 0 = nI (dgV tb s (min k 3)) →
      wp N m (e + 2, 0) TX11_goOn 101 [some (.inr (.inr (11, 0, 0)))] [] τ Q := by
  have hn := c.2.1
  have fin : ∀ (k m : Nat) (τ : ST), s + k ≤ n → s + k = E → 50 ≤ m → off oTd σ τ → τ.1 11 0 7 0 = nI (s + k) → τ.1 11 0 13 0 = nI (dgV tb s (min k 3)) → wp N m (e + 2, 0) TX11_goOn 134 [some (.inr (.inr (11, 0, 0)))] [] τ Q := by
    intro k m τ hk hE hm ho h5 h7
    obtain ⟨n1, rfl⟩ := il_ex (K := 20) (m := m) (by omega)
    have g : τ.1 11 0 7 0 - τ.1 11 0 11 0 = nI k := by rw [h5, off_1 ho (by decide), e2, pk_sub (by omega)]; congr 1; omega
    subst hE
    refine b_le g i3 (by omega) (by omega) (fun q => ?_) (fun q => ?_)
    · refine ⟨trivial, ?_⟩
      refine hQ _ (off_uI ho (by decide)) (by rw [uI_nr _ _ _ _ _ _ (by decide)]; exact h5) ?_
      rw [if_pos (by omega), show s + k - s = k by omega]
      refine ⟨?_, ?_⟩
      · show (uI _ 11 0 10 0 _).1 11 0 10 0 = _
        rw [uI_at]; exact i3
      · show (uI _ 11 0 10 0 _).1 11 0 13 0 = _
        rw [uI_nr _ _ _ _ _ _ (by decide), h7, show min k 3 = k by omega]
    · refine ⟨trivial, trivial, ?_⟩
      refine hQ _ (off_uI ho (by decide)) (by rw [uI_nr _ _ _ _ _ _ (by decide)]; exact h5) ?_
      rw [if_neg (by omega)]
      show (uI _ 11 0 10 0 _).1 11 0 10 0 = _
      rw [uI_at]; exact oi_0
  intro r
  induction r with
  | zero =>
    intro k m τ hr hE hm ho h5 h7
    obtain ⟨n1, rfl⟩ := il_ex (K := 10) (m := m) (by omega)
    have c' := mTP_off ho (by decide) (by decide) c
    refine ⟨trivial, c_isDigitAt c' (by omega) h5 (by omega) (fun q => by omega) (fun _ => ?_)⟩
    refine b_eq (a := 0) rfl z0 (by omega) (by omega) (fun _ => ?_) (fun z => absurd rfl z)
    exact fin k _ τ (by omega) hE (by omega) ho h5 h7
  | succ r ih =>
    intro k m τ hr hE hm ho h5 h7
    obtain ⟨n1, rfl⟩ := il_ex (K := 50) (m := m) (by omega)
    have c' := mTP_off ho (by decide) (by decide) c
    have hb := (c'.2.2 (s + k) (by omega)).2
    refine ⟨trivial, c_isDigitAt c' (by omega) h5 (by omega) (fun _ lt => ?_) (fun lt => ?_)⟩
    · refine b_eq (a := 1) rfl z0 (by omega) (by omega) (fun q => by omega) (fun _ => ?_)
      have lr := of_decide_eq_true lt
      have g : τ.1 11 0 7 0 - τ.1 11 0 11 0 = nI k := by rw [h5, off_1 ho (by decide), e2, pk_sub (by omega)]; congr 1; omega
      have nxt : ∀ (τ' : ST) (n' : Nat), 60 * r + 210 ≤ n' → off oTd σ τ' → τ'.1 11 0 7 0 = nI (s + k) → τ'.1 11 0 13 0 = nI (dgV tb s (min (k + 1) 3)) → wp N n' (e + 2, 0) TX11_goOn 127 [some (.inr (.inr (11, 0, 0)))] [] τ' Q := by
        intro τ' n' hn' ho' h5' h7'
        obtain ⟨n3, rfl⟩ := il_ex (K := 7) (m := n') (by omega)
        refine ⟨trivial, ih (k + 1) _ _ (by omega) (by rw [rnE_t lt] at hE; exact hE) (by omega) (off_uI ho' (by decide)) ?_ ?_⟩
        · rw [uI_at]
          show τ'.1 11 0 7 0 + Int32.ofInt 1 = _
          exact il_inc h5'
        · rw [uI_nr _ _ _ _ _ _ (by decide)]; exact h7'
      refine b_ge g i3 (by omega) (by omega) (fun q6 => ?_) (fun q6 => ?_)
      · exact nxt τ _ (by omega) ho h5 (by rw [h7, show min (k + 1) 3 = min k 3 by omega])
      · refine ⟨il_in h5 (by omega) (by omega), ?_⟩
        refine adv 4 (60 * r + 210) (by omega) (fun n9 hn9 => ?_)
        refine nxt _ n9 hn9 (off_uI ho (by decide)) (by rw [uI_nr _ _ _ _ _ _ (by decide)]; exact h5) ?_
        rw [uI_at]
        show (Int8.ofInt 10).toInt32 * τ.1 11 0 13 0 + τ.1 11 0 4 (τ.1 11 0 7 0).toNatClampNeg - (Int8.ofInt 48).toInt32 = _
        rw [il_cl h5 (by omega), (c'.2.2 (s + k) (by omega)).1, h7, show min k 3 = k by omega, show min (k + 1) 3 = k + 1 by omega, i10, i48, pk_mul, nI_add, pk_sub (by omega), dgV]
        congr 1; omega
    · refine b_eq (a := 0) rfl z0 (by omega) (by omega) (fun _ => ?_) (fun q => absurd rfl q)
      rw [rnE_f (lt (by omega))] at hE
      exact fin k _ τ (by omega) hE (by omega) ho h5 h7
set_option maxRecDepth 100000 in
theorem gt_at {M : Nat} (c : mTP σ n tb) {s : Nat} (hs : s ≤ n) (h5 : σ.1 11 0 7 0 = nI s) (hm : 60 * n + 600 ≤ M) (hQ : ∀ τ, off oTk σ τ → τ.1 11 0 11 0 = nI s → τ.1 11 0 7 0 = nI (tkA n tb s).2 → mTK τ (tkA n tb s).1 → Q none τ) :
    wp N M (e + 2, 0) TX11_goOn 23 [some (.inr (.inr (11, 0, 0)))] [] σ Q := by
  have hn := c.2.1
  obtain ⟨n1, rfl⟩ := il_ex (K := 60) (m := M) (by omega)
  have ho : off oTk σ (uI σ 11 0 11 0 (σ.1 11 0 7 0)) := off_uI (off_rf _ _) (by decide)
  have c' : mTP (uI σ 11 0 11 0 (σ.1 11 0 7 0)) n tb := mTP_off ho (by decide) (by decide) c
  have k5 : (uI σ 11 0 11 0 (σ.1 11 0 7 0)).1 11 0 7 0 = nI s := by rw [uI_nr _ _ _ _ _ _ (by decide)]; exact h5
  have k2 : (uI σ 11 0 11 0 (σ.1 11 0 7 0)).1 11 0 11 0 = nI s := by rw [uI_at]; exact h5
  refine b_ne k5 c'.1 (by omega) (by omega) (fun q => ?_) (fun q => ?_)
  · have hb := (c.2.2 s (by omega)).2
    generalize hτ : uI σ 11 0 11 0 (σ.1 11 0 7 0) = τ at *
    refine ⟨trivial, c_isLetterAt c' hs k5 (by omega) (fun _ lt => ?_) (fun lt => ?_)⟩
    · refine b_eq (a := 1) rfl z0 (by omega) (by omega) (fun z => by omega) (fun _ => ?_)
      refine adv 3 (60 * n + 400) (by omega) (fun n9 hn9 => ?_)
      have o1 : off oTk τ (uL τ 11 0 14 0 (Int64.ofNat 0)) := off_uL (off_rf _ _) (by decide)
      refine gw_loop (σ := uL τ 11 0 14 0 (Int64.ofNat 0)) (E := tkL n tb s) (mTP_off o1 (by decide) (by decide) c') (by rw [uL_1]; exact k2) ?_ (n - s) 0 n9 _ (by omega) rfl (by omega) (off_rf _ _) (by rw [uL_1]; exact k5) (by rw [uL_at, Nat.zero_min]; rfl)
      intro τ2 o2 g5 gk
      rw [tkA_wd (by omega) lt] at hQ
      exact hQ τ2 (off_tr (off_tr ho o1) (off_in o2 (by decide))) (by rw [off_1 o2 (by decide), uL_1]; exact k2) g5 gk
    · refine b_eq (a := 0) rfl z0 (by omega) (by omega) (fun _ => ?_) (fun z => absurd rfl z)
      have lt := lt (by omega)
      refine ⟨trivial, c_isDigitAt c' hs k5 (by omega) (fun _ dg => ?_) (fun dg => ?_)⟩
      · refine b_eq (a := 1) rfl z0 (by omega) (by omega) (fun z => by omega) (fun _ => ?_)
        refine adv 3 (60 * n + 400) (by omega) (fun n9 hn9 => ?_)
        have o1 : off oTk τ (uI τ 11 0 13 0 (Int32.ofInt 0)) := off_uI (off_rf _ _) (by decide)
        refine gd_loop (σ := uI τ 11 0 13 0 (Int32.ofInt 0)) (E := tkD n tb s) (mTP_off o1 (by decide) (by decide) c') (by rw [uI_nr _ _ _ _ _ _ (by decide)]; exact k2) ?_ (n - s) 0 n9 _ (by omega) rfl (by omega) (off_rf _ _) (by rw [uI_nr _ _ _ _ _ _ (by decide)]; exact k5) (by rw [uI_at, Nat.zero_min]; exact oi_0)
        intro τ2 o2 g5 gk
        rw [tkA_wh (by omega) lt dg] at hQ
        exact hQ τ2 (off_tr (off_tr ho o1) (off_in o2 (by decide))) (by rw [off_1 o2 (by decide), uI_nr _ _ _ _ _ _ (by decide)]; exact k2) g5 gk
      · refine b_eq (a := 0) rfl z0 (by omega) (by omega) (fun _ => ?_) (fun z => absurd rfl z)
        have dg := dg (by omega)
        rw [tkA_sg (by omega) lt dg] at hQ
        refine ⟨il_in k5 (by omega) (by omega), ?_⟩
        have sv : τ.1 11 0 4 (τ.1 11 0 (6 + 1) 0).toNatClampNeg = nI (tb s) := by
          rw [show (τ.1 11 0 (6 + 1) 0).toNatClampNeg = s from il_cl k5 (by omega)]; exact (c'.2.2 s (by omega)).1
        have s12 : (uI τ 11 0 12 0 (τ.1 11 0 4 (τ.1 11 0 (6 + 1) 0).toNatClampNeg)).1 11 0 12 0 = nI (tb s) := by rw [uI_at]; exact sv
        have fin : ∀ (y : Int32) (t : TK) (m' : Nat), 20 ≤ m' → (∀ τ, τ.1 11 0 10 0 = y → τ.1 11 0 12 0 = nI (tb s) → mTK τ t) → t = (if tb s = 59 then .pa else if tb s = 58 then .co else .no) → wp N m' (e + 2, 0) TX11_goOn 166 [some (.inr (.inr (11, 0, 0)))] [.inl y, .inr (.inr (11, 0, 0))] (uI τ 11 0 12 0 (τ.1 11 0 4 (τ.1 11 0 (6 + 1) 0).toNatClampNeg)) Q := by
          intro y t m' hm' ht et
          obtain ⟨n3, rfl⟩ := il_ex (K := 12) (m := m') (by omega)
          refine hQ _ (off_uI (off_uI (off_uI ho (by decide)) (by decide)) (by decide)) ?_ ?_ ?_
          · rw [uI_nr _ _ _ _ _ _ (by decide), uI_nr _ _ _ _ _ _ (by decide), uI_nr _ _ _ _ _ _ (by decide)]; exact k2
          · rw [uI_at]
            show (uI (uI τ 11 0 12 0 _) 11 0 10 0 _).1 11 0 7 0 + Int32.ofInt 1 = _
            rw [uI_nr _ _ _ _ _ _ (by decide), uI_nr _ _ _ _ _ _ (by decide)]; exact il_inc k5
          · show mTK _ (if tb s = 59 then .pa else if tb s = 58 then .co else .no)
            rw [← et]
            refine ht _ ?_ ?_
            · rw [uI_nr _ _ _ _ _ _ (by decide), uI_at]
            · rw [uI_nr _ _ _ _ _ _ (by decide), uI_nr _ _ _ _ _ _ (by decide)]; exact s12
        refine b_eq s12 i59 (by omega) (by omega) (fun q9 => ?_) (fun q9 => ?_)
        · exact ⟨trivial, fin _ .pa _ (by omega) (fun τ a b => ⟨by rw [a]; exact i4, by rw [b, q9]⟩) (by rw [if_pos q9])⟩
        · refine b_ne s12 i58 (by omega) (by omega) (fun q8 => ?_) (fun q8 => ?_)
          · exact adv 1 20 (by omega) (fun n9 hn9 => fin _ .no n9 hn9 (fun τ a b => a.trans oi_0) (by rw [if_neg q9, if_neg q8]))
          · exact ⟨trivial, fin _ .co _ (by omega) (fun τ a b => ⟨by rw [a]; exact i4, by rw [b, q8]⟩) (by rw [if_neg q9, if_pos q8])⟩
  · rw [tkA_fin (by omega)] at hQ
    refine ⟨trivial, ?_⟩
    refine hQ _ (off_uI ho (by decide)) ?_ ?_ ?_
    · rw [uI_nr _ _ _ _ _ _ (by decide)]; exact k2
    · rw [uI_nr _ _ _ _ _ _ (by decide)]; exact k5
    · show (uI _ 11 0 10 0 _).1 11 0 10 0 = _
      rw [uI_at]; exact oi_1
set_option maxRecDepth 100000 in
theorem gb_loop : ∀ (r p m : Nat) (σ : ST) (Q : POST), mTP σ n tb → p + r = n → σ.1 11 0 7 0 = nI p → 20 * r + 60 * n + 700 ≤ m → (∀ τ, off oTk σ τ → τ.1 11 0 11 0 = nI (tkS n tb p) → τ.1 11 0 7 0 = nI (tkA n tb (tkS n tb p)).2 → mTK τ (tkA n tb (tkS n tb p)).1 → Q none τ) →
    wp N m (e + 2, 0) TX11_goOn 4 [some (.inr (.inr (11, 0, 0)))] [] σ Q := by
  intro r
  induction r with
  | zero =>
    intro p m σ Q c hp h5 hm hQ
    have hn := c.2.1
    obtain ⟨n1, rfl⟩ := il_ex (K := 10) (m := m) (by omega)
    have es : tkS n tb p = p := by unfold tkS; rw [show n - p = 0 by omega]; rfl
    rw [es] at hQ
    refine b_ge h5 c.1 (by omega) (by omega) (fun _ => ?_) (fun q => by omega)
    exact gt_at c (by omega) h5 (by omega) hQ
  | succ r ih =>
    intro p m σ Q c hp h5 hm hQ
    have hn := c.2.1
    obtain ⟨n1, rfl⟩ := il_ex (K := 20) (m := m) (by omega)
    have hb := (c.2.2 p (by omega)).2
    refine b_ge h5 c.1 (by omega) (by omega) (fun q => by omega) (fun _ => ?_)
    refine ⟨il_in h5 (by omega) (by omega), ?_⟩
    refine b_ne (show σ.1 11 0 4 (σ.1 11 0 (6 + 1) 0).toNatClampNeg = nI (tb p) by rw [show (σ.1 11 0 (6 + 1) 0).toNatClampNeg = p from il_cl h5 (by omega)]; exact (c.2.2 p (by omega)).1) i32 (by omega) (by omega) (fun q => ?_) (fun q => ?_)
    · have bk : ¬ bkB tb p = true := fun z => q (of_decide_eq_true z)
      have es : tkS n tb p = p := by unfold tkS; rw [show n - p = r + 1 by omega, rnE_f bk]
      rw [es] at hQ
      exact gt_at c (by omega) h5 (by omega) hQ
    · have bk : bkB tb p = true := decide_eq_true q
      have es : tkS n tb p = tkS n tb (p + 1) := by unfold tkS; rw [show n - p = r + 1 by omega, rnE_t bk, show n - (p + 1) = r by omega]
      rw [es] at hQ
      have o1 : off oTk σ (uI σ 11 0 7 0 (σ.1 11 0 7 0 + Int32.ofInt 1)) := off_uI (off_rf _ _) (by decide)
      refine ⟨trivial, ih (p + 1) _ _ Q (mTP_off o1 (by decide) (by decide) c) (by omega) (by rw [uI_at]; exact il_inc h5) (by omega) (fun τ o2 a1 a2 a3 => hQ τ (off_tr o1 o2) a1 a2 a3)⟩
/-- the reference's goOn -/
theorem c_goOnM (c : mTP σ n tb) {p : Nat} (hp : p ≤ n) (h8 : σ.1 11 0 8 0 = nI 0) (h5 : σ.1 11 0 7 0 = nI p) (hm : 80 * n + 800 ≤ m) (hQ : ∀ τ, off oTk σ τ → τ.1 11 0 11 0 = nI (tkS n tb p) → τ.1 11 0 7 0 = nI (tkA n tb (tkS n tb p)).2 → mTK τ (tkA n tb (tkS n tb p)).1 → Q none τ) :
    wp N m (e + 2, 0) TX11_goOn 0 [some (.inr (.inr (11, 0, 0)))] [] σ Q := by
  have hn := c.2.1
  obtain ⟨n1, rfl⟩ := il_ex (K := 5) (m := m) (by omega)
  refine b_le h8 z0 (by omega) (by omega) (fun _ => ?_) (fun q => by omega)
  exact gb_loop (n - p) p _ σ Q c (by omega) h5 (by omega) hQ
/-- .. behind a fault -/
theorem c_goOnF {f : Nat} (hf : 0 < f) (hf4 : f < 2147483648) (h8 : σ.1 11 0 8 0 = nI f) (hm : 10 ≤ m) (hQ : Q none σ) : wp N m (e, 0) TX11_goOn 0 [some (.inr (.inr (11, 0, 0)))] [] σ Q := by
  obtain ⟨n1, rfl⟩ := il_ex hm
  exact b_le h8 z0 (by omega) (by omega) (fun q => by omega) (fun _ => hQ)
theorem c_flaw {x1 : Int32} (h8 : σ.1 11 0 8 0 = nI 0) (hm : 30 ≤ m) (hQ : Q none (uI (uI σ 11 0 8 0 x1) 11 0 9 0 (σ.1 11 0 11 0))) : wp N m (e, 0) TX11_flaw 0 [some (.inr (.inr (11, 0, 0))), some (.inl x1)] [] σ Q := by
  obtain ⟨n1, rfl⟩ := il_ex hm
  refine b_le h8 z0 (by omega) (by omega) (fun _ => ?_) (fun q => by omega)
  exact hQ
theorem c_flawF {f : Nat} {x1 : Int32} (hf : 0 < f) (hf4 : f < 2147483648) (h8 : σ.1 11 0 8 0 = nI f) (hm : 30 ≤ m) (hQ : Q none σ) : wp N m (e, 0) TX11_flaw 0 [some (.inr (.inr (11, 0, 0))), some (.inl x1)] [] σ Q := by
  obtain ⟨n1, rfl⟩ := il_ex hm
  exact b_le h8 z0 (by omega) (by omega) (fun q => by omega) (fun _ => hQ)
end GO
