/-! TIME of a SLOT (of all words there, or of those that fl picks) -/
def tmU (S : SPc) (R : RUc) (E : NEc) (s : Nat) (fl : Nat → Nat → Bool) (h : Nat) : Nat := match E.th s h with
  | some i => if fl h i = true then R.wt h * S.tm h i else 0
  | none => 0
def tmB (R : RUc) (E : NEc) (s : Nat) (fl : Nat → Nat → Bool) (h : Nat) : Nat := match E.th s h with
  | some i => if fl h i = true then R.wt h else 0
  | none => 0
def tmF (S : SPc) (R : RUc) (E : NEc) (s : Nat) (fl : Nat → Nat → Bool) : Nat := sm (tmU S R E s fl) 5 / sm (tmB R E s fl) 5
theorem tmU_n {S : SPc} {R : RUc} {E : NEc} {s h : Nat} {fl : Nat → Nat → Bool} (q : E.th s h = none) : tmU S R E s fl h = 0 := by unfold tmU; rw [q]
theorem tmB_n {R : RUc} {E : NEc} {s h : Nat} {fl : Nat → Nat → Bool} (q : E.th s h = none) : tmB R E s fl h = 0 := by unfold tmB; rw [q]
theorem tmU_t {S : SPc} {R : RUc} {E : NEc} {s h i : Nat} {fl : Nat → Nat → Bool} (q : E.th s h = some i) (hf : fl h i = true) : tmU S R E s fl h = R.wt h * S.tm h i := by unfold tmU; rw [q]; simp only; rw [if_pos hf]
theorem tmB_t {R : RUc} {E : NEc} {s h i : Nat} {fl : Nat → Nat → Bool} (q : E.th s h = some i) (hf : fl h i = true) : tmB R E s fl h = R.wt h := by unfold tmB; rw [q]; simp only; rw [if_pos hf]
theorem tmU_f {S : SPc} {R : RUc} {E : NEc} {s h i : Nat} {fl : Nat → Nat → Bool} (q : E.th s h = some i) (hf : ¬ fl h i = true) : tmU S R E s fl h = 0 := by unfold tmU; rw [q]; simp only; rw [if_neg hf]
theorem tmB_f {R : RUc} {E : NEc} {s h i : Nat} {fl : Nat → Nat → Bool} (q : E.th s h = some i) (hf : ¬ fl h i = true) : tmB R E s fl h = 0 := by unfold tmB; rw [q]; simp only; rw [if_neg hf]
theorem tmU_le {S : SPc} {R : RUc} {E : NEc} {s : Nat} {fl : Nat → Nat → Bool} (hS : vSP S) (hR : vRU S R) (hE : vNE S E) (hs : s < E.ns) (h : Nat) : tmU S R E s fl h ≤ 98901 := by
  unfold tmU
  split
  · rename_i i e
    have h1 := hE.2.2.2.2.1 s h i hs e
    split
    · have h2 := (hR.2.2.2.2.2 h h1.1).2
      have h3 := (hS.2.2.1 h h1.1 i h1.2.1).2
      calc R.wt h * S.tm h i ≤ 99 * 999 := Nat.mul_le_mul h2 h3
        _ = 98901 := rfl
    · omega
  · omega
theorem tmB_le {S : SPc} {R : RUc} {E : NEc} {s : Nat} {fl : Nat → Nat → Bool} (hR : vRU S R) (hE : vNE S E) (hs : s < E.ns) (h : Nat) : tmB R E s fl h ≤ 99 := by
  unfold tmB
  split
  · rename_i i e
    have h1 := hE.2.2.2.2.1 s h i hs e
    split
    · exact (hR.2.2.2.2.2 h h1.1).2
    · omega
  · omega
theorem tmB_pos {S : SPc} {R : RUc} {E : NEc} {s : Nat} {fl : Nat → Nat → Bool} (hS : vSP S) (hR : vRU S R) (hE : vNE S E) (hs : s < E.ns) {h i : Nat} (e : E.th s h = some i) (hf : fl h i = true) : 0 < sm (tmB R E s fl) 5 := by
  have h1 := hE.2.2.2.2.1 s h i hs e
  have h2 := (hR.2.2.2.2.2 h h1.1).1
  have h3 : tmB R E s fl h = R.wt h := by unfold tmB; rw [e]; simp only; rw [if_pos hf]
  have h4 : sm (tmB R E s fl) (h + 1) ≤ sm (tmB R E s fl) 5 := sm_mono _ (by have := hS.1; omega)
  have h5 : sm (tmB R E s fl) (h + 1) = sm (tmB R E s fl) h + R.wt h := by rw [sm, h3]
  omega
theorem im1 : Int32.ofInt (-1) = (-1 : Int32) := by decide
theorem nI_m1 {k : Nat} (h : k < 2147483648) : ¬ nI k = (-1 : Int32) := fun q => by
  have := nI_pos h
  rw [q] at this
  exact this (by decide)
section MT
variable {N e k : Nat} {σ : ST} {Q : POST} {S : SPc} {R : RUc} {E : NEc}
set_option maxRecDepth 100000 in
theorem mt_loop (hS : vSP S) (hR : vRU S R) (hE : vNE S E) (cS : cSP σ 0 S) (cR : cRU σ 0 S R) (cE : cNE σ k E) {s : Nat} (hs : s < E.ns) {fl : Nat → Nat → Bool} {x2 x3 : Int32} (e2 : x2 = nI s)
    (hw : (x3 = (-1 : Int32) ∧ ∀ h i, fl h i = true) ∨ ∃ w, x3 = nI w ∧ w < 60 ∧ ∀ h i, fl h i = decide (S.wd h i = w)) (hp : 0 < sm (tmB R E s fl) 5) (hQ : Q (some (.inl (nI (tmF S R E s fl)))) σ) :
    ∀ (r h m : Nat) (x4 x5 x6 : Int32) (o7 : Option AV), h + r = 5 → 300 * r + 300 ≤ m → x4 = nI (sm (tmU S R E s fl) h) → x5 = nI (sm (tmB R E s fl) h) → x6 = nI h →
      wp N m (e + 1, 0) TX1_meanTime 6 [some (.inr (.inr (1, 0, 0))), some (.inr (.inr (3, k, 0))), some (.inl x2), some (.inl x3), some (.inl x4), some (.inl x5), some (.inl x6), o7] [] σ Q := by
  intro r
  induction r with
  | zero =>
    intro h m x4 x5 x6 o7 hr hm e4 e5 e6
    obtain ⟨n, rfl⟩ := il_ex (K := 30) (m := m) (by omega)
    obtain rfl : h = 5 := by omega
    have b1 : sm (tmU S R E s fl) 5 ≤ 5 * 98901 := sm_le (fun i _ => tmU_le hS hR hE hs i)
    have b2 : sm (tmB R E s fl) 5 ≤ 5 * 99 := sm_le (fun i _ => tmB_le hR hE hs i)
    refine b_ge e6 i5 (by omega) (by omega) (fun q => ?_) (fun q => by omega)
    refine b_le e5 z0 (by omega) (by omega) (fun q => by omega) (fun q => ?_)
    refine ⟨?_, trivial, Or.inl rfl, ?_⟩
    · rw [e5]; exact nI_ne0 hp (by omega)
    · have : x4 / x5 = nI (tmF S R E s fl) := by rw [e4, e5]; exact pk_div (by omega) hp (by omega)
      rw [this]
      exact hQ
  | succ r ih =>
    intro h m x4 x5 x6 o7 hr hm e4 e5 e6
    obtain ⟨n, rfl⟩ := il_ex (K := 200) (m := m) (by omega)
    have hns := vNE_ns hS hE
    have b1 : sm (tmU S R E s fl) h ≤ h * 98901 := sm_le (fun i _ => tmU_le hS hR hE hs i)
    have b2 : sm (tmB R E s fl) h ≤ h * 99 := sm_le (fun i _ => tmB_le hR hE hs i)
    have nxt : ∀ (y4 y5 : Int32) (p7 : Option AV) (n' : Nat), 300 * r + 310 ≤ n' → y4 = nI (sm (tmU S R E s fl) (h + 1)) → y5 = nI (sm (tmB R E s fl) (h + 1)) →
        wp N n' (e + 1, 0) TX1_meanTime 46 [some (.inr (.inr (1, 0, 0))), some (.inr (.inr (3, k, 0))), some (.inl x2), some (.inl x3), some (.inl y4), some (.inl y5), some (.inl x6), p7] [] σ Q := by
      intro y4 y5 p7 n' hn' g4 g5
      obtain ⟨n2, rfl⟩ := il_ex (K := 2) (m := n') (by omega)
      exact ⟨trivial, ih (h + 1) n2 _ _ _ _ (by omega) (by omega) g4 g5 (il_inc e6)⟩
    refine b_ge e6 i5 (by omega) (by omega) (fun q => by omega) (fun q => ?_)
    refine ⟨trivial, c_thereOf e2 e6 (by omega) (by omega) (by omega) ?_⟩
    have hth := cE.2.2.2.2.2 s hs h (by omega)
    rw [hth]
    have hlt : ∀ i, E.th s h = some i → i < 2147483648 := fun i e' => by
      have h1 := hE.2.2.2.2.1 s h i hs e'
      have h2 := (hS.2.1 h h1.1).2
      omega
    refine b_there ne2 rfl hlt (fun q1 => ?_) (fun i q1 q2 => ?_)
    · exact nxt _ _ _ _ (by omega) (by rw [e4, sm, tmU_n q1, Nat.add_zero]) (by rw [e5, sm, tmB_n q1, Nat.add_zero])
    · have h1 := hE.2.2.2.2.1 s h i hs q1
      have h2 := (hS.2.1 h h1.1).2
      have h3 := cS.2.2.2.1 h h1.1 i h1.2.1
      have h4 := cR.2.2.2.2.2 h h1.1
      have h5 := (hR.2.2.2.2.2 h h1.1)
      have h6 := hS.2.2.1 h h1.1 i h1.2.1
      have h7 := hS.2.2.2.1
      have add : ∀ n', 300 * r + 440 ≤ n' → fl h i = true → wp N n' (e + 1, 0) TX1_meanTime 26 [some (.inr (.inr (1, 0, 0))), some (.inr (.inr (3, k, 0))), some (.inl x2), some (.inl x3), some (.inl x4), some (.inl x5), some (.inl x6), some (.inl (oI (-2) (E.th s h)))] [] σ Q := by
        intro n' hn' hf
        obtain ⟨n2, rfl⟩ := il_ex (K := 100) (m := n') (by omega)
        refine ⟨trivial, c_weightOf e6 (by omega) (by omega) ?_⟩
        refine ⟨trivial, c_timeOf e6 q2 (by omega) (by omega) (by omega) ?_⟩
        refine ⟨trivial, c_weightOf e6 (by omega) (by omega) ?_⟩
        refine adv 2 (300 * r + 310) (by omega) (fun n3 hn3 => ?_)
        refine nxt _ _ _ n3 hn3 ?_ ?_
        · rw [h4, h3.2, e4, pk_mul, nI_add, sm, tmU_t q1 hf]
        · rw [h4, e5, nI_add, sm, tmB_t q1 hf]
      rcases hw with ⟨hw1, hw2⟩ | ⟨w, hw1, hw2, hw3⟩
      · refine ⟨fun q3 => add _ (by omega) (hw2 h i), fun q3 => absurd (show x3 = Int32.ofInt (-1) by rw [hw1, im1]) q3⟩
      · refine ⟨fun q3 => absurd (show nI w = (-1 : Int32) by rw [← hw1, ← im1]; exact q3) (nI_m1 (by omega)), fun q3 => ?_⟩
        refine ⟨trivial, c_wordOf e6 q2 (by omega) (by omega) (by omega) ?_⟩
        rw [h3.1]
        refine b_ne rfl hw1 (by omega) (by omega) (fun q4 => ?_) (fun q4 => ?_)
        · have hf : ¬ fl h i = true := by rw [hw3]; simp [q4]
          exact nxt _ _ _ _ (by omega) (by rw [e4, sm, tmU_f q1 hf, Nat.add_zero]) (by rw [e5, sm, tmB_f q1 hf, Nat.add_zero])
        · exact add _ (by omega) (by rw [hw3]; simp [q4])
set_option maxRecDepth 100000 in
/-- Ballot.meanTime -/
theorem c_meanTime (hS : vSP S) (hR : vRU S R) (hE : vNE S E) (cS : cSP σ 0 S) (cR : cRU σ 0 S R) (cE : cNE σ k E) {s m : Nat} (hs : s < E.ns) {fl : Nat → Nat → Bool} {x2 x3 : Int32} (e2 : x2 = nI s)
    (hw : (x3 = (-1 : Int32) ∧ ∀ h i, fl h i = true) ∨ ∃ w, x3 = nI w ∧ w < 60 ∧ ∀ h i, fl h i = decide (S.wd h i = w)) (hp : 0 < sm (tmB R E s fl) 5) (hm : 2000 ≤ m) (hQ : Q (some (.inl (nI (tmF S R E s fl)))) σ) :
    wp N m (e + 1, 0) TX1_meanTime 0 [some (.inr (.inr (1, 0, 0))), some (.inr (.inr (3, k, 0))), some (.inl x2), some (.inl x3), none, none, none, none] [] σ Q := by
  refine adv 6 1800 (by omega) (fun n hn => ?_)
  exact mt_loop hS hR hE cS cR cE hs e2 hw hp hQ 5 0 n _ _ _ _ (by omega) (by omega) oi_0 oi_0 oi_0
end MT
theorem i22 : (Int8.ofInt 22).toInt32 = nI 22 := by decide
section MOD
variable {N e m jv : Nat} {σ : ST} {Q : POST} {S : SPc} {R : RUc} {E : NEc}
/-- the reference's there -/
theorem c_there (a : arO N 11 jv = some (1, 322)) {x y : Int32} {s h : Nat} (ex : x = nI s) (ey : y = nI h) (hs : s < 60) (hh : h < 5) (hm : 40 ≤ m) (hQ : Q (some (.inl (σ.1 11 0 jv (22 + 5 * s + h)))) σ) : wp N m (e, 0) TX11_there 0 [some (.inr (.inr (11, 0, jv))), some (.inl x), some (.inl y)] [] σ Q := by
  obtain ⟨n, rfl⟩ := il_ex hm
  have g : (Int8.ofInt 22).toInt32 + Int32.ofInt 5 * x + y = nI (22 + 5 * s + h) := by rw [ex, ey, i5, i22, pk_mul, nI_add, nI_add]
  refine arr_of a ⟨il_in g (by omega) (by omega), Or.inl rfl, ?_⟩
  rw [← il_cl g (by omega)] at hQ
  exact hQ
set_option maxRecDepth 100000 in
theorem to_loop (a : arO N 11 jv = some (1, 322)) (hS : vSP S) (hR : vRU S R) (hE : vNE S E) (cS : mSP σ S) (cR : mRU (σ.1 11 0 jv) S R) (cE : mNE (σ.1 11 0 jv) E) {s : Nat} (hs : s < E.ns) {x2 : Int32} (e2 : x2 = nI s)
    (hQ : Q (some (.inl (nI (tmF S R E s (fun _ _ => true))))) σ) :
    ∀ (r h m : Nat) (x3 x4 x5 : Int32) (o6 : Option AV), h + r = S.nh → 300 * r + 300 ≤ m → x3 = nI (sm (tmU S R E s (fun _ _ => true)) h) → x4 = nI (sm (tmB R E s (fun _ _ => true)) h) → x5 = nI h →
      wp N m (e + 1, 0) TX11_timeOf 6 [some (.inr (.inr (11, 0, 0))), some (.inr (.inr (11, 0, jv))), some (.inl x2), some (.inl x3), some (.inl x4), some (.inl x5), o6] [] σ Q := by
  have z1 : ∀ i, S.nh ≤ i → i < 5 → E.th s i = none := by
    intro i h1 h2
    cases he : E.th s i with
    | none => rfl
    | some q => have := (hE.2.2.2.2.1 s i q hs he).1; omega
  have t1 : sm (tmU S R E s (fun _ _ => true)) 5 = sm (tmU S R E s (fun _ _ => true)) S.nh := sm_tail hS.1 (fun i h1 h2 => tmU_n (z1 i h1 h2))
  have t2 : sm (tmB R E s (fun _ _ => true)) 5 = sm (tmB R E s (fun _ _ => true)) S.nh := sm_tail hS.1 (fun i h1 h2 => tmB_n (z1 i h1 h2))
  have hp : 0 < sm (tmB R E s (fun _ _ => true)) 5 := by
    obtain ⟨h, i, he⟩ := hE.2.2.2.2.2.1 s hs
    exact tmB_pos hS hR hE hs he rfl
  have b1 : sm (tmU S R E s (fun _ _ => true)) 5 ≤ 5 * 98901 := sm_le (fun i _ => tmU_le hS hR hE hs i)
  have b2 : sm (tmB R E s (fun _ _ => true)) 5 ≤ 5 * 99 := sm_le (fun i _ => tmB_le hR hE hs i)
  have hnh := hS.1
  intro r
  induction r with
  | zero =>
    intro h m x3 x4 x5 o6 hr hm e3 e4 e5
    obtain ⟨n, rfl⟩ := il_ex (K := 30) (m := m) (by omega)
    obtain rfl : h = S.nh := by omega
    refine b_ge e5 cS.1 (by omega) (by omega) (fun q => ?_) (fun q => by omega)
    refine ⟨?_, Or.inl rfl, ?_⟩
    · rw [e4, ← t2]; exact nI_ne0 hp (by omega)
    · have : x3 / x4 = nI (tmF S R E s (fun _ _ => true)) := by rw [e3, e4, ← t1, ← t2]; exact pk_div (by omega) hp (by omega)
      rw [this]
      exact hQ
  | succ r ih =>
    intro h m x3 x4 x5 o6 hr hm e3 e4 e5
    obtain ⟨n, rfl⟩ := il_ex (K := 200) (m := m) (by omega)
    have hns := vNE_ns hS hE
    have nxt : ∀ (y3 y4 : Int32) (p6 : Option AV) (n' : Nat), 300 * r + 310 ≤ n' → y3 = nI (sm (tmU S R E s (fun _ _ => true)) (h + 1)) → y4 = nI (sm (tmB R E s (fun _ _ => true)) (h + 1)) →
        wp N n' (e + 1, 0) TX11_timeOf 43 [some (.inr (.inr (11, 0, 0))), some (.inr (.inr (11, 0, jv))), some (.inl x2), some (.inl y3), some (.inl y4), some (.inl x5), p6] [] σ Q := by
      intro y3 y4 p6 n' hn' g3 g4
      obtain ⟨n2, rfl⟩ := il_ex (K := 2) (m := n') (by omega)
      exact ⟨trivial, ih (h + 1) n2 _ _ _ _ (by omega) (by omega) g3 g4 (il_inc e5)⟩
    refine b_ge e5 cS.1 (by omega) (by omega) (fun q => by omega) (fun q => ?_)
    refine ⟨trivial, c_there a e2 e5 (by omega) (by omega) (by omega) ?_⟩
    rw [cE.2.2.2 s hs h (by omega)]
    have hlt : ∀ i, E.th s h = some i → i < 2147483648 := fun i e' => by
      have h1 := hE.2.2.2.2.1 s h i hs e'
      have h2 := (hS.2.1 h h1.1).2
      omega
    refine b_thereG ne1 rfl hlt (fun i q1 q2 => ?_) (fun q1 => ?_)
    · have h1 := hE.2.2.2.2.1 s h i hs q1
      have h2 := (hS.2.1 h h1.1).2
      have h3 := cS.2.2.2.1 h h1.1 i h1.2.1
      have h4 := cR.2.2.2.2.2 h h1.1
      have g1 : Int32.ofInt 5 + x5 = nI (5 + h) := by rw [e5, i5, nI_add]
      have g2 : (Int8.ofInt 12).toInt32 * x5 + oI (-1) (E.th s h) = nI (12 * h + i) := by rw [q2, e5, i12, pk_mul, nI_add]
      refine arr_of a ⟨il_in g1 (by omega) (by omega), ?_⟩
      refine ⟨il_in g2 (by omega) (by omega), ?_⟩
      refine arr_of a ⟨il_in g1 (by omega) (by omega), ?_⟩
      refine adv 2 (300 * r + 310) (by omega) (fun n3 hn3 => ?_)
      refine nxt _ _ _ n3 hn3 ?_ ?_
      · rw [il_cl g1 (by omega), il_cl g2 (by omega), h4, h3.2, e3, pk_mul, nI_add, sm, tmU_t q1 rfl]
      · rw [il_cl g1 (by omega), h4, e4, nI_add, sm, tmB_t q1 rfl]
    · exact ⟨trivial, nxt _ _ _ _ (by omega) (by rw [e3, sm, tmU_n q1, Nat.add_zero]) (by rw [e4, sm, tmB_n q1, Nat.add_zero])⟩
set_option maxRecDepth 100000 in
/-- the reference's timeOf -/
theorem c_timeOfM (a : arO N 11 jv = some (1, 322)) (hS : vSP S) (hR : vRU S R) (hE : vNE S E) (cS : mSP σ S) (cR : mRU (σ.1 11 0 jv) S R) (cE : mNE (σ.1 11 0 jv) E) {s : Nat} (hs : s < E.ns) {x2 : Int32} (e2 : x2 = nI s) (hm : 2000 ≤ m)
    (hQ : Q (some (.inl (nI (tmF S R E s (fun _ _ => true))))) σ) : wp N m (e + 1, 0) TX11_timeOf 0 [some (.inr (.inr (11, 0, 0))), some (.inr (.inr (11, 0, jv))), some (.inl x2), none, none, none, none] [] σ Q := by
  have hnh := hS.1
  refine adv 6 1800 (by omega) (fun n hn => ?_)
  exact to_loop a hS hR hE cS cR cE hs e2 hQ S.nh 0 n _ _ _ _ (by omega) (by omega) oi_0 oi_0 oi_0
end MOD
