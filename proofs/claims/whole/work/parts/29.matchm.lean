/-! what it costs that a word comes into a SLOT, as the reference finds it -/
theorem mRU_off {L : List RF} {σ τ : ST} (h : off L σ τ) {jv : Nat} {S : SPc} {R : RUc} (hL : (11, 0, jv) ∉ L) (c : mRU (σ.1 11 0 jv) S R) : mRU (τ.1 11 0 jv) S R := by rw [(h 11 0 jv hL).1]; exact c
theorem mNE_off {L : List RF} {σ τ : ST} (h : off L σ τ) {jv : Nat} {E : NEc} (hL : (11, 0, jv) ∉ L) (c : mNE (σ.1 11 0 jv) E) : mNE (τ.1 11 0 jv) E := by rw [(h 11 0 jv hL).1]; exact c
theorem i2 : Int32.ofInt 2 = nI 2 := by decide
theorem i3 : Int32.ofInt 3 = nI 3 := by decide
/-- the same as the reference tells it -/
theorem late_m {a b w : Nat} (ha : a ≤ 999) (hb : b ≤ 999) (hw : w ≤ 999) : (nI w < nI a - nI b ∨ nI w < -(nI a - nI b)) ↔ w < (a - b) + (b - a) := by
  by_cases h : b ≤ a
  · have e : nI a - nI b = nI (a - b) := pk_sub h
    have e2 : -(nI a - nI b) = nI b - nI a := nI_neg_sub a b
    rw [e2, e, nI_ltI (by omega) (by omega)]
    constructor
    · rintro (q | q)
      · omega
      · exfalso
        by_cases hab : a = b
        · subst hab
          have e3 : nI a - nI a = nI (a - a) := pk_sub (Nat.le_refl _)
          rw [e3, nI_ltI (by omega) (by omega)] at q
          omega
        · have hn : nI b - nI a < 0 := pk_sneg (by omega) (by omega)
          have hp : (0 : Int32) ≤ nI w := nI_pos' (by omega)
          exact absurd (Int32.lt_of_le_of_lt hp q) (Int32.not_lt.mpr (Int32.le_of_lt hn))
    · intro q
      exact Or.inl (by omega)
  · have e : nI b - nI a = nI (b - a) := pk_sub (by omega)
    have e2 : -(nI a - nI b) = nI b - nI a := nI_neg_sub a b
    have hn : nI a - nI b < 0 := pk_sneg (by omega) (by omega)
    have hp : (0 : Int32) ≤ nI w := nI_pos' (by omega)
    rw [e2, e, nI_ltI (by omega) (by omega)]
    constructor
    · rintro (q | q)
      · exact absurd (Int32.lt_of_le_of_lt hp q) (Int32.not_lt.mpr (Int32.le_of_lt hn))
      · omega
    · intro q
      exact Or.inr (by omega)
section MM
variable {N e jv : Nat} {σ : ST} {Q : POST} {S : SPc} {R : RUc} {E : NEc}
abbrev mmV (jv : Nat) (x2 x3 x4 x5 x6 x7 : Int32) (o8 o9 : Option AV) : List (Option AV) := [some (.inr (.inr (11, 0, 0))), some (.inr (.inr (11, 0, jv))), some (.inl x2), some (.inl x3), some (.inl x4), some (.inl x5), some (.inl x6), some (.inl x7), o8, o9]
abbrev fOff : List RF := [(11, 0, 32), (11, 0, 33), (11, 0, 31)]
set_option maxRecDepth 100000 in
theorem mm_loop (a : arO N 11 jv = some (1, 322)) (hj : (11, 0, jv) ∉ fOff) (hS : vSP S) (hR : vRU S R) (hE : vNE S E) (cS : mSP σ S) (cE : mNE (σ.1 11 0 jv) E) {s h i M : Nat} (hs : s < E.ns) (hh : h < S.nh) (hi : i < S.cn h) {x2 x3 x4 x5 : Int32} (e4 : x4 = nI s) (e5 : x5 = nI (12 * h + i))
    (K : ∀ (m : Nat) (τ : ST) (x6 x7 : Int32) (o8 o9 : Option AV), M ≤ m → off fOff σ τ → x6 = nI (nrS S R E (S.wd h i) s 5) → wp N m (e + 3, 0) TX11_match 48 (mmV jv x2 x3 x4 x5 x6 x7 o8 o9) [] τ Q) :
    ∀ (r g m : Nat) (τ : ST) (x6 x7 : Int32) (o8 o9 : Option AV), g + r = S.nh → 1400000 + 300 * r + M ≤ m → off fOff σ τ → x6 = nI (nrS S R E (S.wd h i) s g) → x7 = nI g →
      wp N m (e + 3, 0) TX11_match 12 (mmV jv x2 x3 x4 x5 x6 x7 o8 o9) [] τ Q := by
  have hns := vNE_ns hS hE
  have hnw := hS.2.2.2.1
  have hnh := hS.1
  have hcn := hS.2.1 h hh
  have hwt := hS.2.2.1 h hh i hi
  have z1 : ∀ q, S.nh ≤ q → q < 5 → E.th s q = none := by
    intro q h1 h2
    cases he : E.th s q with
    | none => rfl
    | some z => have := (hE.2.2.2.2.1 s q z hs he).1; omega
  intro r
  induction r with
  | zero =>
    intro g m τ x6 x7 o8 o9 hg hm ho e6 e7
    obtain ⟨n, rfl⟩ := il_ex (K := 4) (m := m) (by omega)
    obtain rfl : g = S.nh := by omega
    have cS' := mSP_off ho (by decide) cS
    refine b_ge e7 cS'.1 (by omega) (by omega) (fun _ => ?_) (fun q => by omega)
    exact K n τ x6 x7 o8 o9 (by omega) ho (by rw [e6, nrS_tail hnh z1])
  | succ r ih =>
    intro g m τ x6 x7 o8 o9 hg hm ho e6 e7
    obtain ⟨n, rfl⟩ := il_ex (K := 100) (m := m) (by omega)
    have hb := nrS_le (E := E) (w := S.wd h i) (s := s) hR g
    have cS' := mSP_off ho (by decide) cS
    have cE' := mNE_off ho hj cE
    have nxt : ∀ (τ' : ST) (y6 : Int32) (p8 p9 : Option AV) (n' : Nat), 1400000 + 300 * r + 2 + M ≤ n' → off fOff σ τ' → y6 = nI (nrS S R E (S.wd h i) s (g + 1)) → wp N n' (e + 3, 0) TX11_match 46 (mmV jv x2 x3 x4 x5 y6 x7 p8 p9) [] τ' Q := by
      intro τ' y6 p8 p9 n' hn' ho' e6'
      obtain ⟨n2, rfl⟩ := il_ex (K := 2) (m := n') (by omega)
      exact ⟨trivial, ih (g + 1) n2 τ' _ _ _ _ (by omega) (by omega) ho' e6' (il_inc e7)⟩
    refine b_ge e7 cS'.1 (by omega) (by omega) (fun q => by omega) (fun _ => ?_)
    refine ⟨trivial, c_there a e4 e7 (by omega) (by omega) (by omega) ?_⟩
    rw [cE'.2.2.2 s hs g (by omega)]
    have hlt : ∀ q, E.th s g = some q → q < 2147483648 := fun q e' => by
      have h1 := hE.2.2.2.2.1 s g q hs e'
      have h2 := (hS.2.1 g h1.1).2
      omega
    refine b_thereG ne1 rfl hlt (fun j q1 q2 => ?_) (fun q1 => ?_)
    · have h1 := hE.2.2.2.2.1 s g j hs q1
      have h2 := (hS.2.1 g h1.1).2
      have h6 := hS.2.2.1 g h1.1 j h1.2.1
      have g2 : (Int8.ofInt 12).toInt32 * x7 + oI (-1) (E.th s g) = nI (12 * g + j) := by rw [q2, e7, i12, pk_mul, nI_add]
      refine ⟨il_in e5 (by omega) (by omega), ?_⟩
      refine ⟨il_in g2 (by omega) (by omega), ?_⟩
      have w1 : τ.1 11 0 22 x5.toNatClampNeg = nI (S.wd h i) := by rw [il_cl e5 (by omega)]; exact (cS'.2.2.2.1 h hh i hi).1
      have w2 : τ.1 11 0 22 ((Int8.ofInt 12).toInt32 * x7 + oI (-1) (E.th s g)).toNatClampNeg = nI (S.wd g j) := by rw [il_cl g2 (by omega)]; exact (cS'.2.2.2.1 g h1.1 j h1.2.1).1
      refine ⟨trivial, c_farOf hS cS' hwt.1 h6.1 w1 w2 (by omega) ?_⟩
      intro τ2 ho2
      have hf := farS_le hS hwt.1 h6.1
      refine b_ge rfl e6 (by omega) (by omega) (fun q3 => ?_) (fun q3 => ?_)
      · refine adv 2 (1400000 + 300 * r + 2 + M) (by omega) (fun n3 hn3 => ?_)
        exact nxt τ2 _ _ _ n3 hn3 (off_tr ho ho2) (by rw [e6, nrS_s q1]; congr 1; omega)
      · refine ⟨trivial, ?_⟩
        refine adv 1 (1400000 + 300 * r + 2 + M) (by omega) (fun n3 hn3 => ?_)
        exact nxt τ2 _ _ _ n3 hn3 (off_tr ho ho2) (by rw [nrS_s q1]; congr 1; omega)
    · exact ⟨trivial, nxt τ _ _ _ _ (by omega) ho (by rw [e6, nrS_n q1])⟩
set_option maxRecDepth 100000 in
/-- the reference's match -/
theorem c_match (a : arO N 11 jv = some (1, 322)) (hj : (11, 0, jv) ∉ fOff) (hS : vSP S) (hR : vRU S R) (hE : vNE S E) (cS : mSP σ S) (cR : mRU (σ.1 11 0 jv) S R) (cE : mNE (σ.1 11 0 jv) E) {s h i m : Nat} (hs : s < E.ns) (hh : h < S.nh) (hi : i < S.cn h) {x2 x3 x4 : Int32} (e2 : x2 = nI h) (e3 : x3 = nI i) (e4 : x4 = nI s) (hm : 1500000 ≤ m)
    (hQ : ∀ τ, off fOff σ τ → Q (some (.inl (nI (mcS S R E h i s)))) τ) :
    wp N m (e + 3, 0) TX11_match 0 [some (.inr (.inr (11, 0, 0))), some (.inr (.inr (11, 0, jv))), some (.inl x2), some (.inl x3), some (.inl x4), none, none, none, none, none] [] σ Q := by
  have hns := vNE_ns hS hE
  have hcn := hS.2.1 h hh
  have hwt := hS.2.2.1 h hh i hi
  have hnh := hS.1
  obtain ⟨n, rfl⟩ := il_ex (K := 12) (m := m) (by omega)
  have g5 : (Int8.ofInt 12).toInt32 * x2 + x3 = nI (12 * h + i) := by rw [e2, e3, i12, pk_mul, nI_add]
  refine arr_of a ⟨il_in i2 (by omega) (by omega), ?_⟩
  refine mm_loop a hj hS hR hE cS cE (M := 3000) hs hh hi e4 g5 ?_ S.nh 0 n σ _ _ _ _ (by omega) (by omega) (off_rf _ _) (by rw [nrS, il_cl i2 (by omega)]; exact cR.2.2.1) oi_0
  intro m' τ x6 x7 o8 o9 hm' ho e6
  obtain ⟨n', rfl⟩ := il_ex (K := 100) (m := m') (by omega)
  have cS' := mSP_off ho (by decide) cS
  have cR' := mRU_off ho hj cR
  have cE' := mNE_off ho hj cE
  have hb := nrS_le (E := E) (w := S.wd h i) (s := s) hR 5
  have htf := tmF_le (fl := fun _ _ => true) hS hR hE hs
  have hwn := hR.2.2.2.1
  have lm := late_m (a := S.tm h i) (b := tmF S R E s (fun _ _ => true)) (w := R.wn) hwt.2 htf hwn
  refine ⟨il_in g5 (by omega) (by omega), ?_⟩
  refine ⟨trivial, c_timeOfM a hS hR hE cS' cR' cE' hs e4 (by omega) ?_⟩
  have g7 : τ.1 11 0 23 ((Int8.ofInt 12).toInt32 * x2 + x3).toNatClampNeg = nI (S.tm h i) := by rw [il_cl g5 (by omega)]; exact (cS'.2.2.2.1 h hh i hi).2
  have w3 : τ.1 11 0 jv (Int32.ofInt 3).toNatClampNeg = nI R.wn := by rw [il_cl i3 (by omega)]; exact cR'.2.2.2.1
  have hq := hQ τ ho
  unfold mcS far1 at hq
  refine arr_of a ⟨il_in i3 (by omega) (by omega), ?_⟩
  refine ⟨fun q => ?_, fun q => ?_⟩
  · have q : nI R.wn < nI (S.tm h i) - nI (tmF S R E s (fun _ _ => true)) := by rw [← g7, ← w3]; exact q
    rw [if_pos (lm.mp (Or.inl q))] at hq
    refine ⟨trivial, Or.inl rfl, ?_⟩
    rw [il_inc e6]
    exact hq
  · have q : ¬ nI R.wn < nI (S.tm h i) - nI (tmF S R E s (fun _ _ => true)) := by rw [← g7, ← w3]; exact q
    refine arr_of a ⟨il_in i3 (by omega) (by omega), ?_⟩
    refine ⟨fun q2 => ?_, fun q2 => ?_⟩
    · have q2 : -(nI (S.tm h i) - nI (tmF S R E s (fun _ _ => true))) ≤ nI R.wn := by rw [← g7, ← w3]; exact q2
      have hno : ¬ R.wn < S.tm h i - tmF S R E s (fun _ _ => true) + (tmF S R E s (fun _ _ => true) - S.tm h i) := fun z => (lm.mpr z).elim q (Int32.not_lt.mpr q2)
      rw [if_neg hno] at hq
      refine ⟨Or.inl rfl, ?_⟩
      rw [show x6 + Int32.ofInt 0 = nI (nrS S R E (S.wd h i) s 5 + 0) by rw [e6, oi_0, nI_add]]
      exact hq
    · have q2 : ¬ -(nI (S.tm h i) - nI (tmF S R E s (fun _ _ => true))) ≤ nI R.wn := by rw [← g7, ← w3]; exact q2
      rw [if_pos (lm.mp (Or.inr (Int32.not_le.mp q2)))] at hq
      refine ⟨trivial, Or.inl rfl, ?_⟩
      rw [il_inc e6]
      exact hq
end MM
