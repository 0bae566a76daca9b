/-! feed, and what a TEXT begins anew -/
def byN (x : Int32) (j : Nat) : Nat := x.toBitVec.toNat / 2 ^ (24 - 8 * j) % 256
theorem i255 : (Int16.ofInt 255).toInt32.toBitVec.toNat = 2 ^ 8 - 1 := by decide
theorem u255 (x s : Int32) {k : Nat} (hs : ((s.toUInt32 &&& Int32.toUInt32 31).toBitVec % 32).toNat = k) : (x.toUInt32 >>> (s.toUInt32 &&& Int32.toUInt32 31)).toInt32 &&& (Int16.ofInt 255).toInt32 = nI (x.toBitVec.toNat / 2 ^ k % 256) := by
  rw [pk_and _ 8 i255, pk_ushr x s k hs]
theorem toInt_nat (a : Int32) : a.toInt = if a.toBitVec.toNat < 2147483648 then (a.toBitVec.toNat : Int) else (a.toBitVec.toNat : Int) - 4294967296 := by
  show a.toBitVec.toInt = _
  rw [BitVec.toInt_eq_toNat_cond]
  by_cases q : a.toBitVec.toNat < 2147483648
  · rw [if_pos q, if_pos (by omega)]
  · rw [if_neg q, if_neg (by omega)]; rfl
theorem shr_b (a s : Int32) {k : Nat} (hk : k = 0 ∨ k = 8 ∨ k = 16 ∨ k = 24) (hs : (s.toBitVec.smod 32).toNat = k) : (a >>> s).toBitVec.toNat % 256 = a.toBitVec.toNat / 2 ^ k % 256 := by
  have h1 := pk_shr a s k hs
  rw [toInt_nat, toInt_nat, Int.shiftRight_eq_div_pow] at h1
  have b1 := a.toBitVec.isLt
  have b2 := (a >>> s).toBitVec.isLt
  generalize a.toBitVec.toNat = x at *
  generalize (a >>> s).toBitVec.toNat = y at *
  rcases hk with rfl | rfl | rfl | rfl
  · rw [show ((2 ^ 0 : Nat) : Int) = 1 from rfl] at h1
    rw [show (2 : Nat) ^ 0 = 1 from rfl]
    split at h1 <;> split at h1 <;> omega
  · rw [show ((2 ^ 8 : Nat) : Int) = 256 from rfl] at h1
    rw [show (2 : Nat) ^ 8 = 256 from rfl]
    split at h1 <;> split at h1 <;> omega
  · rw [show ((2 ^ 16 : Nat) : Int) = 65536 from rfl] at h1
    rw [show (2 : Nat) ^ 16 = 65536 from rfl]
    split at h1 <;> split at h1 <;> omega
  · rw [show ((2 ^ 24 : Nat) : Int) = 16777216 from rfl] at h1
    rw [show (2 : Nat) ^ 24 = 16777216 from rfl]
    split at h1 <;> split at h1 <;> omega
theorem s255 (x s : Int32) {k : Nat} (hk : k = 0 ∨ k = 8 ∨ k = 16 ∨ k = 24) (hs : (s.toBitVec.smod 32).toNat = k) : (x >>> s) &&& (Int16.ofInt 255).toInt32 = nI (x.toBitVec.toNat / 2 ^ k % 256) := by
  rw [pk_and _ 8 i255, show (2 : Nat) ^ 8 = 256 from rfl, shr_b x s hk hs]
def fdA (a b c d f : Int32) (k : Nat) : Int32 := if k < 4 then a else if k < 8 then b else if k < 12 then c else if k < 16 then d else f
def fdB (a b c d f : Int32) (k : Nat) : Nat := byN (fdA a b c d f k) (k % 4)
theorem sh24 : ∀ j, j < 4 → ((nI (24 - 8 * j) &&& 31).toBitVec.smod 32).toNat = 24 - 8 * j := by decide
section FE
variable {N e m : Nat} {σ : ST} {Q : POST}
set_option maxRecDepth 100000 in
theorem c_putNumber {t : Nat} (ht : t + 4 ≤ 600) (h16 : σ.1 10 0 16 0 = nI t) {x1 : Int32} (hm : 200 ≤ m) (hQ : ∀ τ, off [(10, 0, 1), (10, 0, 16)] σ τ → τ.1 10 0 16 0 = nI (t + 4) → (∀ z, τ.1 10 0 1 z = if t ≤ z ∧ z < t + 4 then nI (byN x1 (z - t)) else σ.1 10 0 1 z) → Q none τ) :
    wp N m (e, 0) TX10_putNumber 0 [some (.inr (.inr (10, 0, 0))), some (.inl x1), none] [] σ Q := by
  have loop : ∀ (r j m : Nat) (τ : ST) (x2 : Int32), j + r = 4 → 40 * r + 20 ≤ m → off [(10, 0, 1), (10, 0, 16)] σ τ → τ.1 10 0 16 0 = nI (t + j) → (∀ z, τ.1 10 0 1 z = if t ≤ z ∧ z < t + j then nI (byN x1 (z - t)) else σ.1 10 0 1 z) → x2 = Int32.ofInt (24 - 8 * (j : Int)) →
      wp N m (e, 0) TX10_putNumber 2 [some (.inr (.inr (10, 0, 0))), some (.inl x1), some (.inl x2)] [] τ Q := by
    intro r
    induction r with
    | zero =>
      intro j m τ x2 hr hm ho h5 hz e2
      obtain ⟨n1, rfl⟩ := il_ex (K := 10) (m := m) (by omega)
      obtain rfl : j = 4 := by omega
      refine ⟨fun _ => ?_, fun q => absurd (show x2 < 0 by rw [e2]; decide) q⟩
      exact hQ τ ho h5 hz
    | succ r ih =>
      intro j m τ x2 hr hm ho h5 hz e2
      obtain ⟨n1, rfl⟩ := il_ex (K := 35) (m := m) (by omega)
      have hj : j = 0 ∨ j = 1 ∨ j = 2 ∨ j = 3 := by omega
      have x2p : ¬ x2 < 0 := by rcases hj with rfl | rfl | rfl | rfl <;> (rw [e2]; decide)
      have x2s : ((x2.toUInt32 &&& Int32.toUInt32 31).toBitVec % 32).toNat = 24 - 8 * j := by rcases hj with rfl | rfl | rfl | rfl <;> (rw [e2]; decide)
      have x2n : x2 + Int32.ofInt (-8) = Int32.ofInt (24 - 8 * ((j + 1 : Nat) : Int)) := by rcases hj with rfl | rfl | rfl | rfl <;> (rw [e2]; decide)
      refine ⟨fun q => absurd q x2p, fun _ => ?_⟩
      refine b_lt h5 z0 (by omega) (by omega) (fun q => by omega) (fun _ => ?_)
      refine b_ge h5 i600 (by omega) (by omega) (fun q => by omega) (fun _ => ?_)
      refine ⟨il_in h5 (by omega) (by omega), ?_⟩
      rw [show (τ.1 10 0 (15 + 1) 0).toNatClampNeg = t + j from il_cl h5 (by omega)]
      refine ⟨trivial, ih (j + 1) _ _ _ (by omega) (by omega) (off_uI (off_uI ho (by decide)) (by decide)) ?_ (fun z => ?_) x2n⟩
      · rw [uI_at]
        show (uI τ 10 0 1 (t + j) _).1 10 0 16 0 + Int32.ofInt 1 = _
        rw [uI_nr _ _ _ _ _ _ (by decide)]; exact il_inc h5
      · rw [uI_nr _ _ _ _ _ _ (by decide), uI_if, hz]
        by_cases q : z = t + j
        · rw [if_pos q, if_pos (by omega), u255 x1 x2 x2s, show z - t = j by omega]; rfl
        · rw [if_neg q]
          by_cases q2 : t ≤ z ∧ z < t + j
          · rw [if_pos q2, if_pos (by omega)]
          · rw [if_neg q2, if_neg (by omega)]
  refine adv 2 190 (by omega) (fun n hn => ?_)
  exact loop 4 0 n σ _ (by omega) (by omega) (off_rf _ _) h16 (fun z => by rw [if_neg (by omega)]) (by decide)
theorem i20 : (Int8.ofInt 20).toInt32 = nI 20 := by decide
theorem i600s : (Int16.ofInt 600).toInt32 = nI 600 := by decide
theorem i24 : (Int8.ofInt 24).toInt32 = nI 24 := by decide
theorem i8 : (Int8.ofInt 8).toInt32 = nI 8 := by decide
theorem i16b : (Int8.ofInt 16).toInt32 = nI 16 := by decide
theorem i12b : (Int8.ofInt 12).toInt32 = nI 12 := by decide
set_option maxRecDepth 100000 in
/-- feed of the class -/
theorem c_feed {t : Nat} (ht : t ≤ 600) (h16 : σ.1 10 0 16 0 = nI t) {a b c d f : Int32} (hm : 400 ≤ m) (h0 : 600 < t + 20 → Q (some (.inl (-1))) σ) (hQ : ∀ τ, t + 20 ≤ 600 → off [(10, 0, 1), (10, 0, 16)] σ τ → τ.1 10 0 16 0 = nI (t + 20) → (∀ z, τ.1 10 0 1 z = if t ≤ z ∧ z < t + 20 then nI (fdB a b c d f (z - t)) else σ.1 10 0 1 z) → Q (some (.inl (nI (t + 20)))) τ) :
    wp N m (e + 1, 0) TX10_feed 0 [some (.inr (.inr (10, 0, 0))), some (.inl a), some (.inl b), some (.inl c), some (.inl d), some (.inl f)] [] σ Q := by
  obtain ⟨n, rfl⟩ := il_ex (K := 60) (m := m) (by omega)
  have g : σ.1 10 0 16 0 + (Int8.ofInt 20).toInt32 = nI (t + 20) := by rw [h16, i20, nI_add]
  refine b_le g i600s (by omega) (by omega) (fun q => ?_) (fun q => ?_)
  · refine ⟨trivial, c_putNumber (t := t) (by omega) h16 (by omega) (fun τ1 o1 s1 r1 => ?_)⟩
    refine ⟨trivial, c_putNumber (t := t + 4) (by omega) s1 (by omega) (fun τ2 o2 s2 r2 => ?_)⟩
    refine ⟨trivial, c_putNumber (t := t + 8) (by omega) s2 (by omega) (fun τ3 o3 s3 r3 => ?_)⟩
    refine ⟨trivial, c_putNumber (t := t + 12) (by omega) s3 (by omega) (fun τ4 o4 s4 r4 => ?_)⟩
    refine ⟨trivial, c_putNumber (t := t + 16) (by omega) s4 (by omega) (fun τ5 o5 s5 r5 => ?_)⟩
    refine ⟨Or.inl rfl, ?_⟩
    rw [show τ5.1 10 0 (15 + 1) 0 = nI (t + 20) from s5]
    refine hQ τ5 q (off_tr (off_tr (off_tr (off_tr o1 o2) o3) o4) o5) s5 (fun z => ?_)
    rw [r5, r4, r3, r2, r1]
    unfold fdB fdA
    by_cases q0 : t ≤ z ∧ z < t + 20
    · rw [if_pos q0]
      by_cases q5 : t + 16 ≤ z ∧ z < t + 16 + 4
      · rw [if_pos q5, if_neg (by omega), if_neg (by omega), if_neg (by omega), if_neg (by omega), show (z - t) % 4 = z - (t + 16) by omega]
      · rw [if_neg q5]
        by_cases q4 : t + 12 ≤ z ∧ z < t + 12 + 4
        · rw [if_pos q4, if_neg (by omega), if_neg (by omega), if_neg (by omega), if_pos (show z - t < 16 by omega), show (z - t) % 4 = z - (t + 12) by omega]
        · rw [if_neg q4]
          by_cases q3 : t + 8 ≤ z ∧ z < t + 8 + 4
          · rw [if_pos q3, if_neg (by omega), if_neg (by omega), if_pos (show z - t < 12 by omega), show (z - t) % 4 = z - (t + 8) by omega]
          · rw [if_neg q3]
            by_cases q2 : t + 4 ≤ z ∧ z < t + 4 + 4
            · rw [if_pos q2, if_neg (by omega), if_pos (show z - t < 8 by omega), show (z - t) % 4 = z - (t + 4) by omega]
            · rw [if_neg q2, if_pos (show t ≤ z ∧ z < t + 4 by omega), if_pos (show z - t < 4 by omega), show (z - t) % 4 = z - t by omega]
    · rw [if_neg q0, if_neg (by omega), if_neg (by omega), if_neg (by omega), if_neg (by omega), if_neg (by omega)]
  · refine ⟨Or.inl rfl, ?_⟩
    rw [im1]; exact h0 q
set_option maxRecDepth 100000 in
theorem fm_loop {t : Nat} (ht : t + 20 ≤ 600) (h5 : σ.1 11 0 5 0 = nI t) {a b c d f : Int32} (hQ : ∀ τ, off [(11, 0, 4), (11, 0, 5)] σ τ → τ.1 11 0 5 0 = nI (t + 20) → (∀ z, τ.1 11 0 4 z = if t ≤ z ∧ z < t + 20 then nI (fdB a b c d f (z - t)) else σ.1 11 0 4 z) → Q (some (.inl (nI (t + 20)))) τ) :
    ∀ (r k m : Nat) (τ : ST) (x6 : Int32) (o7 : Option AV), k + r = 20 → 60 * r + 40 ≤ m → off [(11, 0, 4)] σ τ → (∀ z, τ.1 11 0 4 z = if t ≤ z ∧ z < t + k then nI (fdB a b c d f (z - t)) else σ.1 11 0 4 z) → x6 = nI k →
      wp N m (e, 0) TX11_feed 13 [some (.inr (.inr (11, 0, 0))), some (.inl a), some (.inl b), some (.inl c), some (.inl d), some (.inl f), some (.inl x6), o7] [] τ Q := by
  intro r
  induction r with
  | zero =>
    intro k m τ x6 o7 hr hm ho hz e6
    obtain ⟨n1, rfl⟩ := il_ex (K := 15) (m := m) (by omega)
    obtain rfl : k = 20 := by omega
    have k5 : τ.1 11 0 5 0 = nI t := by rw [off_1 ho (by decide)]; exact h5
    have g : τ.1 11 0 5 0 + (Int8.ofInt 20).toInt32 = nI (t + 20) := by rw [k5, i20, nI_add]
    refine b_ge e6 i20 (by omega) (by omega) (fun _ => ?_) (fun q => by omega)
    refine ⟨Or.inl rfl, ?_⟩
    have k5' : (uI τ 11 0 5 0 (τ.1 11 0 5 0 + (Int8.ofInt 20).toInt32)).1 11 0 5 0 = nI (t + 20) := by rw [uI_at]; exact g
    rw [show (uI τ 11 0 (4 + 1) 0 (τ.1 11 0 (4 + 1) 0 + (Int8.ofInt 20).toInt32)).1 11 0 (4 + 1) 0 = nI (t + 20) from k5']
    refine hQ _ (off_uI (off_in ho (by decide)) (by decide)) k5' (fun z => ?_)
    show (uI τ 11 0 5 0 _).1 11 0 4 z = _
    rw [uI_nr _ _ _ _ _ _ (by decide)]; exact hz z
  | succ r ih =>
    intro k m τ x6 o7 hr hm ho hz e6
    obtain ⟨n1, rfl⟩ := il_ex (K := 50) (m := m) (by omega)
    have k5 : τ.1 11 0 5 0 = nI t := by rw [off_1 ho (by decide)]; exact h5
    have at37 : ∀ (y : Int32) (m' : Nat), 60 * r + 70 ≤ m' → y = fdA a b c d f k → wp N m' (e, 0) TX11_feed 37 [some (.inr (.inr (11, 0, 0))), some (.inl a), some (.inl b), some (.inl c), some (.inl d), some (.inl f), some (.inl x6), o7] [.inl y] τ Q := by
      intro y m' hm' ey
      obtain ⟨n2, rfl⟩ := il_ex (K := 24) (m := m') (by omega)
      have g1 : τ.1 11 0 5 0 + x6 = nI (t + k) := by rw [k5, e6, nI_add]
      refine ⟨by decide, ?_⟩
      have hs : (Int8.ofInt 24).toInt32 - (Int8.ofInt 8).toInt32 * (x6 - x6 / Int32.ofInt 4 * Int32.ofInt 4) = nI (24 - 8 * (k % 4)) := by
        rw [e6, i4, pk_rem (by omega) (by omega) (by omega), i24, i8, pk_mul, pk_sub (by omega)]
      refine ⟨il_in g1 (by omega) (by omega), ?_⟩
      rw [show (τ.1 11 0 (4 + 1) 0 + x6).toNatClampNeg = t + k from il_cl g1 (by omega)]
      refine ⟨trivial, ih (k + 1) _ _ _ _ (by omega) (by omega) (off_uI ho (by decide)) (fun z => ?_) (il_inc e6)⟩
      rw [uI_if, hz]
      by_cases q : z = t + k
      · rw [if_pos q, if_pos (by omega), hs, s255 y _ (by omega) (sh24 (k % 4) (by omega)), show z - t = k by omega, ey]; rfl
      · rw [if_neg q]
        by_cases q2 : t ≤ z ∧ z < t + k
        · rw [if_pos q2, if_pos (by omega)]
        · rw [if_neg q2, if_neg (by omega)]
    refine b_ge e6 i20 (by omega) (by omega) (fun q => by omega) (fun _ => ?_)
    refine b_ge e6 i4 (by omega) (by omega) (fun q4 => ?_) (fun q4 => ?_)
    · refine b_ge e6 i8 (by omega) (by omega) (fun q8 => ?_) (fun q8 => ?_)
      · refine b_ge e6 i12b (by omega) (by omega) (fun q12 => ?_) (fun q12 => ?_)
        · refine b_ge e6 i16b (by omega) (by omega) (fun q16 => ?_) (fun q16 => ?_)
          · exact adv 1 (60 * r + 70) (by omega) (fun n9 hn9 => at37 _ n9 hn9 (by unfold fdA; rw [if_neg (by omega), if_neg (by omega), if_neg (by omega), if_neg (by omega)]))
          · exact ⟨trivial, at37 _ _ (by omega) (by unfold fdA; rw [if_neg (by omega), if_neg (by omega), if_neg (by omega), if_pos q16])⟩
        · exact ⟨trivial, at37 _ _ (by omega) (by unfold fdA; rw [if_neg (by omega), if_neg (by omega), if_pos q12])⟩
      · exact ⟨trivial, at37 _ _ (by omega) (by unfold fdA; rw [if_neg (by omega), if_pos q8])⟩
    · exact ⟨trivial, at37 _ _ (by omega) (by unfold fdA; rw [if_pos q4])⟩
set_option maxRecDepth 100000 in
/-- feed of the reference -/
theorem c_feedM {t : Nat} (ht : t ≤ 600) (h5 : σ.1 11 0 5 0 = nI t) {a b c d f : Int32} (hm : 1500 ≤ m) (h0 : ∀ τ, off [(11, 0, 1)] σ τ → τ.1 11 0 1 0 = nI 0 → 600 < t + 20 → Q (some (.inl (-1))) τ) (hQ : ∀ τ, t + 20 ≤ 600 → off [(11, 0, 1), (11, 0, 4), (11, 0, 5)] σ τ → τ.1 11 0 1 0 = nI 0 → τ.1 11 0 5 0 = nI (t + 20) → (∀ z, τ.1 11 0 4 z = if t ≤ z ∧ z < t + 20 then nI (fdB a b c d f (z - t)) else σ.1 11 0 4 z) → Q (some (.inl (nI (t + 20)))) τ) :
    wp N m (e, 0) TX11_feed 0 [some (.inr (.inr (11, 0, 0))), some (.inl a), some (.inl b), some (.inl c), some (.inl d), some (.inl f), none, none] [] σ Q := by
  obtain ⟨n, rfl⟩ := il_ex (K := 20) (m := m) (by omega)
  have o0 : off [(11, 0, 1)] σ (uI σ 11 0 1 0 (Int32.ofInt 0)) := off_uI (off_rf _ _) (by decide)
  have k1 : (uI σ 11 0 1 0 (Int32.ofInt 0)).1 11 0 1 0 = nI 0 := by rw [uI_at]; exact oi_0
  have k5 : (uI σ 11 0 1 0 (Int32.ofInt 0)).1 11 0 5 0 = nI t := by rw [off_1 o0 (by decide)]; exact h5
  have g : (uI σ 11 0 1 0 (Int32.ofInt 0)).1 11 0 5 0 + (Int8.ofInt 20).toInt32 = nI (t + 20) := by rw [k5, i20, nI_add]
  refine b_le g i600s (by omega) (by omega) (fun q => ?_) (fun q => ?_)
  · refine adv 2 1400 (by omega) (fun n2 hn2 => ?_)
    refine fm_loop (σ := uI σ 11 0 1 0 (Int32.ofInt 0)) q k5 ?_ 20 0 n2 _ _ _ (by omega) (by omega) (off_rf _ _) (fun z => by rw [if_neg (by omega)]) oi_0
    intro τ o1 s1 r1
    refine hQ τ q (off_tr (off_in o0 (by decide)) (off_in o1 (by decide))) (by rw [off_1 o1 (by decide)]; exact k1) s1 (fun z => ?_)
    rw [r1 z, uI_nr _ _ _ _ _ _ (by decide)]
  · refine ⟨Or.inl rfl, ?_⟩
    rw [im1]; exact h0 _ o0 k1 q
/-- Speech.copyFrom of what was read -/
theorem c_speechCopy {A : RDc} (v : vRD A) (c : cRD σ ⟨6, A⟩) (hm : 150 ≤ m) (hQ : ∀ τ, off [(8, 0, 1), (8, 0, 2), (8, 0, 3), (8, 0, 4), (8, 0, 5), (8, 0, 6), (8, 0, 7), (8, 0, 8), (8, 0, 9), (8, 0, 10)] σ τ → cSP τ 0 (rdS A) → (∀ h, h < A.1 → τ.1 8 0 6 h = nI (A.2.2.1 h)) → Q none τ) :
    wp N m (e + 1, 0) TX8_copyFrom 0 [some (.inr (.inr (8, 0, 0))), some (.inr (.inr (8, 1, 0)))] [] σ Q := by
  obtain ⟨n, rfl⟩ := il_ex (K := 100) (m := m) (by omega)
  refine ⟨by decide, by decide, by decide, by decide, by decide, ?_⟩
  refine ⟨by decide, by decide, by decide, by decide, by decide, ?_⟩
  refine ⟨by decide, by decide, by decide, by decide, by decide, ?_⟩
  refine ⟨by decide, by decide, by decide, by decide, by decide, ?_⟩
  refine ⟨by decide, by decide, by decide, by decide, by decide, ?_⟩
  refine ⟨by decide, by decide, by decide, by decide, by decide, ?_⟩
  refine ⟨by decide, by decide, by decide, by decide, by decide, ?_⟩
  refine ⟨by decide, by decide, by decide, by decide, by decide, ?_⟩
  have fin : ∀ τ, τ = cpI (cpI (cpI (cpI (cpI (cpI (cpI (cpI (uI (uI σ 8 0 1 0 (σ.1 8 1 1 0)) 8 0 2 0 ((uI σ 8 0 1 0 (σ.1 8 1 1 0)).1 8 1 2 0)) 8 1 3 8 0 3 0 0 60) 8 1 4 8 0 4 0 0 60) 8 1 5 8 0 5 0 0 5) 8 1 6 8 0 6 0 0 5) 8 1 7 8 0 7 0 0 5) 8 1 8 8 0 8 0 0 60) 8 1 9 8 0 9 0 0 360) 8 1 10 8 0 10 0 0 60 → Q none τ := by
    intro τ eτ
    have ho : off [(8, 0, 1), (8, 0, 2), (8, 0, 3), (8, 0, 4), (8, 0, 5), (8, 0, 6), (8, 0, 7), (8, 0, 8), (8, 0, 9), (8, 0, 10)] σ τ := by
      rw [eτ]
      exact off_uR (off_uR (off_uR (off_uR (off_uR (off_uR (off_uR (off_uR (off_uI (off_uI (off_rf _ _) (by decide)) (by decide)) (by decide)) (by decide)) (by decide)) (by decide)) (by decide)) (by decide)) (by decide)) (by decide)
    have f1 : τ.1 8 0 1 0 = σ.1 8 1 1 0 := by
      rw [eτ]; unfold cpI
      rw [uR_nr _ _ _ _ _ (by decide), uR_nr _ _ _ _ _ (by decide), uR_nr _ _ _ _ _ (by decide), uR_nr _ _ _ _ _ (by decide), uR_nr _ _ _ _ _ (by decide), uR_nr _ _ _ _ _ (by decide), uR_nr _ _ _ _ _ (by decide), uR_nr _ _ _ _ _ (by decide), uI_nr _ _ _ _ _ _ (by decide), uI_at]
    have f2 : τ.1 8 0 2 0 = σ.1 8 1 2 0 := by
      rw [eτ]; unfold cpI
      rw [uR_nr _ _ _ _ _ (by decide), uR_nr _ _ _ _ _ (by decide), uR_nr _ _ _ _ _ (by decide), uR_nr _ _ _ _ _ (by decide), uR_nr _ _ _ _ _ (by decide), uR_nr _ _ _ _ _ (by decide), uR_nr _ _ _ _ _ (by decide), uR_nr _ _ _ _ _ (by decide), uI_at, uI_nr _ _ _ _ _ _ (by decide)]
    have f3 : ∀ z, z < 60 → τ.1 8 0 3 z = σ.1 8 1 3 z := by
      intro z hz; rw [eτ]; unfold cpI
      rw [uR_nr _ _ _ _ _ (by decide), uR_nr _ _ _ _ _ (by decide), uR_nr _ _ _ _ _ (by decide), uR_nr _ _ _ _ _ (by decide), uR_nr _ _ _ _ _ (by decide), uR_nr _ _ _ _ _ (by decide), uR_nr _ _ _ _ _ (by decide), uR_at, cpy0 hz, uI_nr _ _ _ _ _ _ (by decide), uI_nr _ _ _ _ _ _ (by decide)]
    have f4 : ∀ z, z < 60 → τ.1 8 0 4 z = σ.1 8 1 4 z := by
      intro z hz; rw [eτ]; unfold cpI
      rw [uR_nr _ _ _ _ _ (by decide), uR_nr _ _ _ _ _ (by decide), uR_nr _ _ _ _ _ (by decide), uR_nr _ _ _ _ _ (by decide), uR_nr _ _ _ _ _ (by decide), uR_nr _ _ _ _ _ (by decide), uR_at, cpy0 hz, uR_nr _ _ _ _ _ (by decide), uI_nr _ _ _ _ _ _ (by decide), uI_nr _ _ _ _ _ _ (by decide)]
    have f6 : ∀ z, z < 5 → τ.1 8 0 6 z = σ.1 8 1 6 z := by
      intro z hz; rw [eτ]; unfold cpI
      rw [uR_nr _ _ _ _ _ (by decide), uR_nr _ _ _ _ _ (by decide), uR_nr _ _ _ _ _ (by decide), uR_nr _ _ _ _ _ (by decide), uR_at, cpy0 hz, uR_nr _ _ _ _ _ (by decide), uR_nr _ _ _ _ _ (by decide), uR_nr _ _ _ _ _ (by decide), uI_nr _ _ _ _ _ _ (by decide), uI_nr _ _ _ _ _ _ (by decide)]
    have f7 : ∀ z, z < 5 → τ.1 8 0 7 z = σ.1 8 1 7 z := by
      intro z hz; rw [eτ]; unfold cpI
      rw [uR_nr _ _ _ _ _ (by decide), uR_nr _ _ _ _ _ (by decide), uR_nr _ _ _ _ _ (by decide), uR_at, cpy0 hz, uR_nr _ _ _ _ _ (by decide), uR_nr _ _ _ _ _ (by decide), uR_nr _ _ _ _ _ (by decide), uR_nr _ _ _ _ _ (by decide), uI_nr _ _ _ _ _ _ (by decide), uI_nr _ _ _ _ _ _ (by decide)]
    have f9 : ∀ z, z < 360 → τ.1 8 0 9 z = σ.1 8 1 9 z := by
      intro z hz; rw [eτ]; unfold cpI
      rw [uR_nr _ _ _ _ _ (by decide), uR_at, cpy0 hz, uR_nr _ _ _ _ _ (by decide), uR_nr _ _ _ _ _ (by decide), uR_nr _ _ _ _ _ (by decide), uR_nr _ _ _ _ _ (by decide), uR_nr _ _ _ _ _ (by decide), uR_nr _ _ _ _ _ (by decide), uI_nr _ _ _ _ _ _ (by decide), uI_nr _ _ _ _ _ _ (by decide)]
    have f10 : ∀ z, z < 60 → τ.1 8 0 10 z = σ.1 8 1 10 z := by
      intro z hz; rw [eτ]; unfold cpI
      rw [uR_at, cpy0 hz, uR_nr _ _ _ _ _ (by decide), uR_nr _ _ _ _ _ (by decide), uR_nr _ _ _ _ _ (by decide), uR_nr _ _ _ _ _ (by decide), uR_nr _ _ _ _ _ (by decide), uR_nr _ _ _ _ _ (by decide), uR_nr _ _ _ _ _ (by decide), uI_nr _ _ _ _ _ _ (by decide), uI_nr _ _ _ _ _ _ (by decide)]
    have hnh := v.1
    have lD := (rdS_v v).2.2.2.1
    have lD : (dH A A.1).length ≤ 60 := lD
    obtain ⟨c1, ⟨c2, c3⟩, c4⟩ := c
    simp only at c1 c2 c3 c4
    refine hQ τ ho ⟨by rw [f1]; exact c1, by rw [f2]; exact c2, fun h hh => ?_, fun h hh i hi => ?_, fun w hw => ?_⟩ (fun h hh => ?_)
    · have hh : h < A.1 := hh
      rw [f7 h (by omega)]; exact (c4 h hh).2.1
    · have hh : h < A.1 := hh
      have hi : i < A.2.2.2.1 h := hi
      have := (v.2 h hh).2.1
      rw [f3 _ (by omega), f4 _ (by omega)]
      refine ⟨((c4 h hh).2.2.2 i hi).1, ?_⟩
      rcases ((c4 h hh).2.2.2 i hi).2 with y | y
      · exact absurd y.2.2 (by omega)
      · exact y
    · have hw : w < (dH A A.1).length := hw
      rw [f10 w (by omega)]
      refine ⟨(c3 w hw).2.1, fun j hj => ?_⟩
      rw [f9 _ (by omega)]; exact (c3 w hw).2.2 j hj
    · rw [f6 h (by omega)]
      rcases (c4 h hh).2.2.1 with y | y
      · exact absurd y.2 (by omega)
      · exact y
  exact fin _ rfl
end FE
