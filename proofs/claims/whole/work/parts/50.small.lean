/-! small reads of a net, on both sides -/
theorem b_n1 {z : Nat} (hz : z < 2147483648) : ¬ nI z = Int32.ofInt (-1) := by rw [im1]; exact nI_m1 hz
/-- the greatest that divides both -/
theorem mod_half {y z : Nat} (hz : 0 < z) (h : z ≤ y) : 2 * (y % z) < y := by
  have h1 := Nat.div_add_mod y z
  have h2 := Nat.mod_lt y hz
  have h3 : 1 ≤ y / z := Nat.div_pos h hz
  have h4 : z * 1 ≤ z * (y / z) := Nat.mul_le_mul_left z h3
  omega
theorem gcd_st (x : Nat) {y : Nat} (hy : 0 < y) : Nat.gcd y (x % y) = Nat.gcd x y := by
  rw [Nat.gcd_comm y (x % y), ← Nat.gcd_rec y x, Nat.gcd_comm]
section CM
variable {N e m : Nat} {σ : ST} {Q : POST}
set_option maxRecDepth 100000 in
theorem cm_loop {x0 x1 : Int32} {g : Nat} (hg : g < 2147483648) (hQ : Q (some (.inl (nI g))) σ) :
    ∀ (b x y m : Nat) (x2 x3 : Int32) (o4 : Option AV), y < 2 ^ b → 40 * b + 40 ≤ m → x < 2147483648 → y < 2147483648 → Nat.gcd x y = g → x2 = nI x → x3 = nI y →
      wp N m (e, 0) TX11_common 4 [some (.inl x0), some (.inl x1), some (.inl x2), some (.inl x3), o4] [] σ Q := by
  intro b
  induction b with
  | zero =>
    intro x y m x2 x3 o4 hy hm hx hy2 h e2 e3
    obtain ⟨n, rfl⟩ := il_ex (K := 20) (m := m) (by omega)
    have y0 : y = 0 := by simpa using hy
    subst y0
    refine b_eq e3 z0 (by omega) (by omega) (fun _ => ?_) (fun q => absurd rfl q)
    refine ⟨Or.inl rfl, ?_⟩
    rw [Nat.gcd_zero_right] at h
    rw [e2, h]; exact hQ
  | succ b ih =>
    intro x y m x2 x3 o4 hy hm hx hy2 h e2 e3
    obtain ⟨n, rfl⟩ := il_ex (K := 30) (m := m) (by omega)
    refine b_eq e3 z0 (by omega) (by omega) (fun q => ?_) (fun q => ?_)
    · subst q
      refine ⟨Or.inl rfl, ?_⟩
      rw [Nat.gcd_zero_right] at h
      rw [e2, h]; exact hQ
    · refine ⟨by rw [e3]; exact nI_ne0 (by omega) (by omega), ?_⟩
      have r1 : x2 - x2 / x3 * x3 = nI (x % y) := by rw [e2, e3]; exact pk_rem (by omega) (by omega) (by omega)
      have l1 := Nat.mod_lt x (show 0 < y by omega)
      refine ⟨trivial, ?_⟩
      refine b_eq r1 z0 (by omega) (by omega) (fun q2 => ?_) (fun q2 => ?_)
      · refine ⟨Or.inl rfl, ?_⟩
        rw [← gcd_st x (by omega), q2, Nat.gcd_zero_right] at h
        rw [e3, h]; exact hQ
      · refine ⟨by rw [r1]; exact nI_ne0 (by omega) (by omega), ?_⟩
        have r2 : x3 - x3 / (x2 - x2 / x3 * x3) * (x2 - x2 / x3 * x3) = nI (y % (x % y)) := by rw [r1, e3]; exact pk_rem (by omega) (by omega) (by omega)
        have l2 := mod_half (show 0 < x % y by omega) (show x % y ≤ y by omega)
        rw [Nat.pow_succ] at hy
        exact ⟨trivial, ih (x % y) (y % (x % y)) _ _ _ _ (by omega) (by omega) (by omega) (by omega) (by rw [gcd_st y (by omega), gcd_st x (by omega), h]) r1 r2⟩
set_option maxRecDepth 100000 in
/-- the reference's common -/
theorem c_common {a b : Nat} (ha : a < 1073741824) (hb : b < 1073741824) {x0 x1 : Int32} (e0 : x0 = nI a) (e1 : x1 = nI b) (hm : 1500 ≤ m) (hQ : Q (some (.inl (nI (Nat.gcd a b)))) σ) :
    wp N m (e, 0) TX11_common 0 [some (.inl x0), some (.inl x1), none, none, none] [] σ Q := by
  have hg : Nat.gcd a b < 2147483648 := by
    by_cases q : b = 0
    · subst q; rw [Nat.gcd_zero_right]; omega
    · have := Nat.gcd_le_right a (show 0 < b by omega); omega
  refine adv 4 1450 (by omega) (fun n hn => ?_)
  exact cm_loop hg hQ 30 a b n _ _ _ (by omega) (by omega) (by omega) (by omega) rfl e0 e1
theorem i64 : (Int8.ofInt 64).toInt32 = nI 64 := by decide
set_option maxRecDepth 100000 in
theorem cp_loop {u x0 x1 : Int32} {q0 g : Nat} (hq0 : q0 < 2147483648) (eu : u = nI q0) (hg : g < 2147483648) (hg0 : 0 < g) (hQ : Q (some (.inl (nI (q0 / g)))) σ) :
    ∀ (b x y k m : Nat) (x2 x3 x4 : Int32) (o5 : Option AV), y < 2 ^ b → 40 * b + 40 ≤ m → k + 2 * b ≤ 62 → x < 2147483648 → y < 2147483648 → Nat.gcd x y = g → x2 = nI x → x3 = nI y → x4 = nI k →
      wp N m (e, 0) TX10_lessened 6 [some (.inl u), some (.inl x0), some (.inl x1), some (.inl x2), some (.inl x3), some (.inl x4), o5] [] σ Q := by
  intro b
  induction b with
  | zero =>
    intro x y k m x2 x3 x4 o5 hy hm hk hx hy2 h e2 e3 e4
    obtain ⟨n, rfl⟩ := il_ex (K := 20) (m := m) (by omega)
    have y0 : y = 0 := by simpa using hy
    subst y0
    rw [Nat.gcd_zero_right] at h
    refine b_ge e4 i64 (by omega) (by omega) (fun q => by omega) (fun _ => ?_)
    refine b_eq e3 z0 (by omega) (by omega) (fun _ => ?_) (fun q => absurd rfl q)
    refine b_le e2 z0 (by omega) (by omega) (fun q => by omega) (fun _ => ?_)
    refine ⟨by rw [e2, h]; exact nI_ne0 hg0 hg, trivial, Or.inl rfl, ?_⟩
    rw [eu, e2, h, pk_div hq0 hg0 hg]; exact hQ
  | succ b ih =>
    intro x y k m x2 x3 x4 o5 hy hm hk hx hy2 h e2 e3 e4
    obtain ⟨n, rfl⟩ := il_ex (K := 35) (m := m) (by omega)
    refine b_ge e4 i64 (by omega) (by omega) (fun q => by omega) (fun _ => ?_)
    refine b_eq e3 z0 (by omega) (by omega) (fun q => ?_) (fun q => ?_)
    · subst q
      rw [Nat.gcd_zero_right] at h
      refine b_le e2 z0 (by omega) (by omega) (fun q => by omega) (fun _ => ?_)
      refine ⟨by rw [e2, h]; exact nI_ne0 hg0 hg, trivial, Or.inl rfl, ?_⟩
      rw [eu, e2, h, pk_div hq0 hg0 hg]; exact hQ
    · refine ⟨by rw [e3]; exact nI_ne0 (by omega) (by omega), ?_⟩
      have r1 : x2 - x2 / x3 * x3 = nI (x % y) := by rw [e2, e3]; exact pk_rem (by omega) (by omega) (by omega)
      have l1 := Nat.mod_lt x (show 0 < y by omega)
      refine ⟨trivial, ?_⟩
      refine b_ge (il_inc e4) i64 (by omega) (by omega) (fun q => by omega) (fun _ => ?_)
      refine b_eq r1 z0 (by omega) (by omega) (fun q2 => ?_) (fun q2 => ?_)
      · rw [← gcd_st x (by omega), q2, Nat.gcd_zero_right] at h
        refine b_le e3 z0 (by omega) (by omega) (fun q => by omega) (fun _ => ?_)
        refine ⟨by rw [e3, h]; exact nI_ne0 hg0 hg, trivial, Or.inl rfl, ?_⟩
        rw [eu, e3, h, pk_div hq0 hg0 hg]; exact hQ
      · refine ⟨by rw [r1]; exact nI_ne0 (by omega) (by omega), ?_⟩
        have r2 : x3 - x3 / (x2 - x2 / x3 * x3) * (x2 - x2 / x3 * x3) = nI (y % (x % y)) := by rw [r1, e3]; exact pk_rem (by omega) (by omega) (by omega)
        have l2 := mod_half (show 0 < x % y by omega) (show x % y ≤ y by omega)
        rw [Nat.pow_succ] at hy
        exact ⟨trivial, ih (x % y) (y % (x % y)) (k + 2) _ _ _ _ _ (by omega) (by omega) (by omega) (by omega) (by omega) (by rw [gcd_st y (by omega), gcd_st x (by omega), h]) r1 r2 (il_inc (il_inc e4))⟩
set_option maxRecDepth 100000 in
/-- HeardVotes.lessened -/
theorem c_lessened {q0 a b : Nat} (hq0 : q0 < 2147483648) (ha : a < 1073741824) (hb : b < 1073741824) (hb0 : 0 < b) {u x0 x1 : Int32} (eu : u = nI q0) (e0 : x0 = nI a) (e1 : x1 = nI b) (hm : 1500 ≤ m) (hQ : Q (some (.inl (nI (q0 / Nat.gcd a b)))) σ) :
    wp N m (e, 0) TX10_lessened 0 [some (.inl u), some (.inl x0), some (.inl x1), none, none, none, none] [] σ Q := by
  have hg := Nat.gcd_le_right a hb0
  have hg0 : 0 < Nat.gcd a b := Nat.gcd_pos_of_pos_right a hb0
  refine adv 6 1450 (by omega) (fun n hn => ?_)
  exact cp_loop hq0 eu (by omega) hg0 hQ 30 a b 0 n _ _ _ _ (by omega) (by omega) (by omega) (by omega) (by omega) rfl e0 e1 oi_0
end CM
/-- a sum over those JOINED, by their places and by their numbers -/
def plS (E : NEc) (f : Nat → Nat) (h : Nat) : Nat := match plc E h with
  | some p => f p
  | none => 0
def plN (E : NEc) (f : Nat → Nat) (n h : Nat) : Nat := match (List.range n).find? (fun p => E.od p == h) with
  | some p => f p
  | none => 0
theorem plN_sum {S : SPc} {E : NEc} (hS : vSP S) (hE : vNE S E) (f : Nat → Nat) : ∀ n, n ≤ E.nj → sm (plN E f n) 5 = sm f n
  | 0, _ => rfl
  | n + 1, hn => by
    have ih := plN_sum hS hE f n (by omega)
    have hnh := hS.1
    have ho := hE.2.1 n (by omega)
    have key : ∀ h, plN E f (n + 1) h = plN E f n h + if h = E.od n then f n else 0 := by
      intro h
      unfold plN
      rw [List.range_succ, List.find?_append]
      cases q : (List.range n).find? (fun p => E.od p == h) with
      | some p =>
        have h1 := List.find?_some q
        have h2 := List.mem_of_find?_eq_some q
        rw [List.mem_range] at h2
        have h1 : E.od p = h := by simpa using h1
        rw [if_neg (fun z => by have := hE.2.2.1 p n (by omega) (by omega) (by rw [h1, z]); omega)]
        rfl
      | none =>
        by_cases z : h = E.od n
        · rw [if_pos z, z]
          simp [List.find?]
        · rw [if_neg z]
          have : (E.od n == h) = false := by simpa using fun w => z w.symm
          simp [List.find?, this]
    rw [sm_congr (fun h _ => key h), sm_add, ih]
    rw [show sm (fun h => if h = E.od n then f n else 0) 5 = f n by
      have := sm_one (c := E.od n) (p := f n) (ch := fun i => i) (i0 := E.od n) rfl (n := 5) (fun i _ hne => hne)
      rw [if_pos (by omega)] at this
      exact this]
    rfl
theorem plS_sum {S : SPc} {E : NEc} (hS : vSP S) (hE : vNE S E) (f : Nat → Nat) : sm (plS E f) 5 = sm f E.nj := plN_sum hS hE f E.nj (Nat.le_refl _)
theorem plS_s {E : NEc} {f : Nat → Nat} {h p : Nat} (q : plc E h = some p) : plS E f h = f p := by unfold plS; rw [q]
theorem plS_n {E : NEc} {f : Nat → Nat} {h : Nat} (q : plc E h = none) : plS E f h = 0 := by unfold plS; rw [q]
section SM
variable {N e m k jv ji : Nat} {σ : ST} {Q : POST} {S : SPc} {R : RUc} {E : NEc}
set_option maxRecDepth 100000 in
theorem co_loop (hS : vSP S) (hE : vNE S E) (cE : cNE σ 0 E) (hQ : Q (some (.inl (nI (sm E.ct E.nj)))) σ) :
    ∀ (r h m : Nat) (x1 x2 : Int32), h + r = 5 → 30 * r + 60 ≤ m → x1 = nI (sm (plS E E.ct) h) → x2 = nI h →
      wp N m (e + 2, 0) TX10_costsOfJoined 4 [some (.inr (.inr (10, 0, 0))), some (.inl x1), some (.inl x2)] [] σ Q := by
  have hnh := hS.1
  have hnj := hE.1
  intro r
  induction r with
  | zero =>
    intro h m x1 x2 hr hm e1 e2
    obtain ⟨n, rfl⟩ := il_ex (K := 10) (m := m) (by omega)
    obtain rfl : h = 5 := by omega
    refine b_ge e2 i5 (by omega) (by omega) (fun _ => ?_) (fun q => by omega)
    refine ⟨Or.inl rfl, ?_⟩
    rw [e1, plS_sum hS hE]; exact hQ
  | succ r ih =>
    intro h m x1 x2 hr hm e1 e2
    obtain ⟨n, rfl⟩ := il_ex (K := 30) (m := m) (by omega)
    have fin : ∀ (y : Int32) (n' : Nat), 30 * r + 64 ≤ n' → y = nI (plS E E.ct h) → wp N n' (e + 2, 0) TX10_costsOfJoined 19 [some (.inr (.inr (10, 0, 0))), some (.inl x1), some (.inl x2)] [.inl y, .inl x1] σ Q := by
      intro y n' hn' hy
      obtain ⟨n3, rfl⟩ := il_ex (K := 4) (m := n') (by omega)
      exact ⟨trivial, ih (h + 1) _ _ _ (by omega) (by omega) (by rw [e1, hy, nI_add]; rfl) (il_inc e2)⟩
    refine b_ge e2 i5 (by omega) (by omega) (fun q => by omega) (fun _ => ?_)
    refine ⟨trivial, c_holds (e := e) e2 (by omega) (by omega) ?_⟩
    rw [cE.2.2.2.1 h (by omega)]
    cases hp : plc E h with
    | none =>
      rw [if_pos (show oI (-2) none < 0 from ne2)]
      refine b_eq (a := 0) rfl z0 (by omega) (by omega) (fun _ => ?_) (fun q => absurd rfl q)
      exact adv 1 (30 * r + 64) (by omega) (fun n9 hn9 => fin _ n9 hn9 (by rw [plS_n hp]; exact oi_0))
    | some p =>
      have hz := plc_some hp
      rw [if_neg (show ¬ oI (-2) (some p) < 0 from nI_pos (by omega))]
      refine b_eq (a := 1) rfl z0 (by omega) (by omega) (fun q => by omega) (fun _ => ?_)
      refine ⟨trivial, c_costOf e2 (by omega) (by omega) ?_⟩
      refine ⟨trivial, fin _ _ (by omega) ?_⟩
      rw [plS_s hp, ← hz.2]
      exact cE.2.2.2.2.1 p hz.1
theorem c_costsOfJoined (hS : vSP S) (hE : vNE S E) (cE : cNE σ 0 E) (hm : 300 ≤ m) (hQ : Q (some (.inl (nI (sm E.ct E.nj)))) σ) :
    wp N m (e + 2, 0) TX10_costsOfJoined 0 [some (.inr (.inr (10, 0, 0))), none, none] [] σ Q := by
  refine adv 4 290 (by omega) (fun n hn => ?_)
  exact co_loop hS hE cE hQ 5 0 n _ _ (by omega) (by omega) oi_0 oi_0
set_option maxRecDepth 100000 in
theorem wj_loop (hS : vSP S) (hE : vNE S E) (cE : cNE σ 0 E) (cR : cRU σ 0 S R) (hQ : Q (some (.inl (nI (sm (fun p => R.wt (E.od p)) E.nj)))) σ) :
    ∀ (r h m : Nat) (x1 x2 : Int32), h + r = 5 → 30 * r + 60 ≤ m → x1 = nI (sm (plS E (fun p => R.wt (E.od p))) h) → x2 = nI h →
      wp N m (e + 2, 0) TX10_weightsOfJoined 4 [some (.inr (.inr (10, 0, 0))), some (.inl x1), some (.inl x2)] [] σ Q := by
  have hnh := hS.1
  have hnj := hE.1
  intro r
  induction r with
  | zero =>
    intro h m x1 x2 hr hm e1 e2
    obtain ⟨n, rfl⟩ := il_ex (K := 10) (m := m) (by omega)
    obtain rfl : h = 5 := by omega
    refine b_ge e2 i5 (by omega) (by omega) (fun _ => ?_) (fun q => by omega)
    refine ⟨Or.inl rfl, ?_⟩
    rw [e1, plS_sum hS hE]; exact hQ
  | succ r ih =>
    intro h m x1 x2 hr hm e1 e2
    obtain ⟨n, rfl⟩ := il_ex (K := 30) (m := m) (by omega)
    have fin : ∀ (y : Int32) (n' : Nat), 30 * r + 64 ≤ n' → y = nI (plS E (fun p => R.wt (E.od p)) h) → wp N n' (e + 2, 0) TX10_weightsOfJoined 19 [some (.inr (.inr (10, 0, 0))), some (.inl x1), some (.inl x2)] [.inl y, .inl x1] σ Q := by
      intro y n' hn' hy
      obtain ⟨n3, rfl⟩ := il_ex (K := 4) (m := n') (by omega)
      exact ⟨trivial, ih (h + 1) _ _ _ (by omega) (by omega) (by rw [e1, hy, nI_add]; rfl) (il_inc e2)⟩
    refine b_ge e2 i5 (by omega) (by omega) (fun q => by omega) (fun _ => ?_)
    refine ⟨trivial, c_holds (e := e) e2 (by omega) (by omega) ?_⟩
    rw [cE.2.2.2.1 h (by omega)]
    cases hp : plc E h with
    | none =>
      rw [if_pos (show oI (-2) none < 0 from ne2)]
      refine b_eq (a := 0) rfl z0 (by omega) (by omega) (fun _ => ?_) (fun q => absurd rfl q)
      exact adv 1 (30 * r + 64) (by omega) (fun n9 hn9 => fin _ n9 hn9 (by rw [plS_n hp]; exact oi_0))
    | some p =>
      have hz := plc_some hp
      have hh := hE.2.1 p hz.1
      rw [if_neg (show ¬ oI (-2) (some p) < 0 from nI_pos (by omega))]
      refine b_eq (a := 1) rfl z0 (by omega) (by omega) (fun q => by omega) (fun _ => ?_)
      refine ⟨trivial, c_weightOf e2 (by omega) (by omega) ?_⟩
      refine ⟨trivial, fin _ _ (by omega) ?_⟩
      rw [plS_s hp, hz.2]
      exact cR.2.2.2.2.2 h (by rw [← hz.2]; exact hh)
theorem c_weightsOfJoined (hS : vSP S) (hE : vNE S E) (cE : cNE σ 0 E) (cR : cRU σ 0 S R) (hm : 300 ≤ m) (hQ : Q (some (.inl (nI (sm (fun p => R.wt (E.od p)) E.nj)))) σ) :
    wp N m (e + 2, 0) TX10_weightsOfJoined 0 [some (.inr (.inr (10, 0, 0))), none, none] [] σ Q := by
  refine adv 4 290 (by omega) (fun n hn => ?_)
  exact wj_loop hS hE cE cR hQ 5 0 n _ _ (by omega) (by omega) oi_0 oi_0
set_option maxRecDepth 100000 in
theorem cf_loop (a : arO N 11 jv = some (1, 322)) (hS : vSP S) (hE : vNE S E) (cE : mNE (σ.1 11 0 jv) E) (hQ : Q (some (.inl (nI (sm E.ct E.nj)))) σ) :
    ∀ (r p m : Nat) (x1 x2 : Int32), p + r = E.nj → 30 * r + 60 ≤ m → x1 = nI (sm E.ct p) → x2 = nI p →
      wp N m (e, 0) TX11_costsOf 4 [some (.inr (.inr (11, 0, jv))), some (.inl x1), some (.inl x2)] [] σ Q := by
  have hnh := hS.1
  have hnj := hE.1
  have v10 : σ.1 11 0 jv (Int8.ofInt 10).toInt32.toNatClampNeg = nI E.nj := by rw [il_cl i10 (by omega)]; exact cE.1
  intro r
  induction r with
  | zero =>
    intro p m x1 x2 hr hm e1 e2
    obtain ⟨n, rfl⟩ := il_ex (K := 10) (m := m) (by omega)
    obtain rfl : p = E.nj := by omega
    refine arr_of a ⟨il_in i10 (by omega) (by omega), ?_⟩
    refine b_ge e2 v10 (by omega) (by omega) (fun _ => ?_) (fun q => by omega)
    refine ⟨Or.inl rfl, ?_⟩
    rw [e1]; exact hQ
  | succ r ih =>
    intro p m x1 x2 hr hm e1 e2
    obtain ⟨n, rfl⟩ := il_ex (K := 20) (m := m) (by omega)
    have g16 : (Int8.ofInt 16).toInt32 + x2 = nI (16 + p) := by rw [e2, i16, nI_add]
    refine arr_of a ⟨il_in i10 (by omega) (by omega), ?_⟩
    refine b_ge e2 v10 (by omega) (by omega) (fun q => by omega) (fun _ => ?_)
    refine arr_of a ⟨il_in g16 (by omega) (by omega), ?_⟩
    refine ⟨trivial, ih (p + 1) _ _ _ (by omega) (by omega) ?_ (il_inc e2)⟩
    rw [il_cl g16 (by omega), e1, (cE.2.2.1 p (by omega)).2, nI_add]; rfl
theorem c_costsOf (a : arO N 11 jv = some (1, 322)) (hS : vSP S) (hE : vNE S E) (cE : mNE (σ.1 11 0 jv) E) (hm : 300 ≤ m) (hQ : Q (some (.inl (nI (sm E.ct E.nj)))) σ) :
    wp N m (e, 0) TX11_costsOf 0 [some (.inr (.inr (11, 0, jv))), none, none] [] σ Q := by
  have hnh := hS.1
  have hnj := hE.1
  refine adv 4 290 (by omega) (fun n hn => ?_)
  exact cf_loop a hS hE cE hQ E.nj 0 n _ _ (by omega) (by omega) oi_0 oi_0
/-- the SLOT of a word -/
def slO (E : NEc) (h i : Nat) : Option Nat := (List.range E.ns).find? (fun s => E.th s h == some i)
theorem slO_s (hE : vNE S E) {s h i : Nat} (hs : s < E.ns) (q : E.th s h = some i) : slO E h i = some s := by
  cases z : slO E h i with
  | none =>
    have := List.find?_eq_none.mp z s (List.mem_range.mpr hs)
    rw [q] at this
    simp at this
  | some t =>
    have h1 : E.th t h = some i := by simpa using List.find?_some z
    have h2 := List.mem_range.mp (List.mem_of_find?_eq_some z)
    by_cases a : s < t
    · have := hE.2.2.2.2.2.2.2.1 s t h i i a h2 q h1; omega
    · by_cases b : t < s
      · have := hE.2.2.2.2.2.2.2.1 t s h i i b hs h1 q; omega
      · congr 1; omega
theorem slO_n {h i : Nat} (q : ∀ s, s < E.ns → E.th s h ≠ some i) : slO E h i = none := by
  apply List.find?_eq_none.mpr
  intro s hs
  have := q s (List.mem_range.mp hs)
  simpa using this
theorem slO_lt {h i s : Nat} (q : slO E h i = some s) : s < E.ns ∧ E.th s h = some i := ⟨List.mem_range.mp (List.mem_of_find?_eq_some q), by simpa using List.find?_some q⟩
theorem oI_i {z : Int32} (hz : z < 0) {o : Option Nat} {i : Nat} (ho : ∀ j, o = some j → j < 2147483648) (hi : i < 2147483648) : (oI z o = nI i) ↔ o = some i := by
  cases o with
  | none => exact ⟨fun q => absurd (show nI i < 0 by rw [← q]; exact hz) (nI_pos hi), fun q => by cases q⟩
  | some j => exact ⟨fun q => by rw [(nI_eq (ho j rfl) hi).mp q], fun q => by cases q; rfl⟩
set_option maxRecDepth 100000 in
theorem sn_loop (hS : vSP S) (hE : vNE S E) (cE : cNE σ k E) {h i : Nat} (hh : h < S.nh) (hi : i < S.cn h) {x1 x2 : Int32} (e1 : x1 = nI h) (e2 : x2 = nI i) (hQ : Q (some (.inl (oI (-2) (slO E h i)))) σ) :
    ∀ (r s m : Nat) (x3 : Int32), s + r = E.ns → 30 * r + 60 ≤ m → (∀ z, z < s → E.th z h ≠ some i) → x3 = nI s →
      wp N m (e + 1, 0) TX3_slotOf 2 [some (.inr (.inr (3, k, 0))), some (.inl x1), some (.inl x2), some (.inl x3)] [] σ Q := by
  have hns := vNE_ns hS hE
  have hnh := hS.1
  have hcn := hS.2.1 h hh
  intro r
  induction r with
  | zero =>
    intro s m x3 hr hm hz e3
    obtain ⟨n, rfl⟩ := il_ex (K := 10) (m := m) (by omega)
    obtain rfl : s = E.ns := by omega
    refine b_ge e3 cE.1 (by omega) (by omega) (fun _ => ?_) (fun q => by omega)
    refine ⟨Or.inl rfl, ?_⟩
    rw [slO_n hz] at hQ
    rw [im2]; exact hQ
  | succ r ih =>
    intro s m x3 hr hm hz e3
    obtain ⟨n, rfl⟩ := il_ex (K := 20) (m := m) (by omega)
    have hs : s < E.ns := by omega
    have hlt : ∀ j, E.th s h = some j → j < 2147483648 := fun j e' => by
      have h1 := hE.2.2.2.2.1 s h j hs e'
      omega
    refine b_ge e3 cE.1 (by omega) (by omega) (fun q => by omega) (fun _ => ?_)
    refine ⟨trivial, c_thereOf e3 e1 (by omega) (by omega) (by omega) ?_⟩
    rw [cE.2.2.2.2.2 s hs h (by omega)]
    refine ⟨fun q => ?_, fun q => ?_⟩
    · refine ⟨trivial, ih (s + 1) _ _ (by omega) (by omega) (fun z hz' => ?_) (il_inc e3)⟩
      by_cases w : z = s
      · rw [w]; exact fun y => q (by show oI (-2) (E.th s h) = x2; rw [e2]; exact (oI_i ne2 hlt (by omega)).mpr y)
      · exact hz z (by omega)
    · have q : oI (-2) (E.th s h) = x2 := Classical.byContradiction fun z => q z
      rw [e2] at q
      rw [slO_s hE hs ((oI_i ne2 hlt (by omega)).mp q)] at hQ
      refine ⟨Or.inl rfl, ?_⟩
      rw [e3]; exact hQ
theorem c_slotOf (hS : vSP S) (hE : vNE S E) (cE : cNE σ k E) {h i : Nat} (hh : h < S.nh) (hi : i < S.cn h) {x1 x2 : Int32} (e1 : x1 = nI h) (e2 : x2 = nI i) (hm : 2000 ≤ m) (hQ : Q (some (.inl (oI (-2) (slO E h i)))) σ) :
    wp N m (e + 1, 0) TX3_slotOf 0 [some (.inr (.inr (3, k, 0))), some (.inl x1), some (.inl x2), none] [] σ Q := by
  have hns := vNE_ns hS hE
  refine adv 2 1950 (by omega) (fun n hn => ?_)
  exact sn_loop hS hE cE hh hi e1 e2 hQ E.ns 0 n _ (by omega) (by omega) (fun z hz => absurd hz (Nat.not_lt_zero _)) oi_0
set_option maxRecDepth 100000 in
theorem sw_loop (hS : vSP S) (hE : vNE S E) (cE : mNE (σ.1 11 0 27) E) {h i t : Nat} (hh : h < S.nh) (hi : i < S.cn h) (ht : t < E.ns) (hth : E.th t h = some i) {x1 x2 : Int32} (e1 : x1 = nI h) (e2 : x2 = nI i) (hQ : Q (some (.inl (nI t))) σ) :
    ∀ (r s m : Nat) (x3 : Int32), s + r = t → 30 * r + 60 ≤ m → x3 = nI s →
      wp N m (e + 1, 0) TX11_slotWith 10 [some (.inr (.inr (11, 0, 0))), some (.inl x1), some (.inl x2), some (.inl x3)] [] σ Q := by
  have hns := vNE_ns hS hE
  have hnh := hS.1
  have hcn := hS.2.1 h hh
  intro r
  induction r with
  | zero =>
    intro s m x3 hr hm e3
    obtain ⟨n, rfl⟩ := il_ex (K := 20) (m := m) (by omega)
    obtain rfl : s = t := by omega
    refine ⟨trivial, c_there (jv := 27) rfl e3 e1 (by omega) (by omega) (by omega) ?_⟩
    rw [cE.2.2.2 s ht h (by omega), hth]
    refine b_eq rfl e2 (by omega) (by omega) (fun _ => ⟨Or.inl rfl, ?_⟩) (fun q => absurd rfl q)
    rw [e3]; exact hQ
  | succ r ih =>
    intro s m x3 hr hm e3
    obtain ⟨n, rfl⟩ := il_ex (K := 20) (m := m) (by omega)
    have hs : s < E.ns := by omega
    have hlt : ∀ j, E.th s h = some j → j < 2147483648 := fun j e' => by
      have h1 := hE.2.2.2.2.1 s h j hs e'
      omega
    refine ⟨trivial, c_there (jv := 27) rfl e3 e1 (by omega) (by omega) (by omega) ?_⟩
    rw [cE.2.2.2 s hs h (by omega)]
    refine ⟨fun q => ?_, fun _ => ?_⟩
    · have q : oI (-1) (E.th s h) = nI i := by rw [← e2]; exact q
      have := hE.2.2.2.2.2.2.2.1 s t h i i (by omega) ht ((oI_i ne1 hlt (by omega)).mp q) hth
      omega
    · exact ⟨trivial, ih (s + 1) _ _ (by omega) (by omega) (il_inc e3)⟩
set_option maxRecDepth 100000 in
theorem c_slotWith (hS : vSP S) (hE : vNE S E) (cE : mNE (σ.1 11 0 27) E) {h i : Nat} (hh : h < S.nh) (hi : i < S.cn h) {x1 x2 : Int32} (e1 : x1 = nI h) (e2 : x2 = nI i) (hm : 2500 ≤ m) (hQ : Q (some (.inl (oI (-2) (slO E h i)))) σ) :
    wp N m (e + 1, 0) TX11_slotWith 0 [some (.inr (.inr (11, 0, 0))), some (.inl x1), some (.inl x2), none] [] σ Q := by
  have hns := vNE_ns hS hE
  have hnj := hE.1
  have hnh := hS.1
  obtain ⟨n, rfl⟩ := il_ex (K := 10) (m := m) (by omega)
  refine ⟨trivial, c_placeOfM (jv := 27) rfl hS hE cE hh e1 (by omega) ?_⟩
  cases hp : plc E h with
  | none =>
    refine ⟨fun q => absurd (show (-1 : Int32) = Int32.ofInt (-1) by rw [im1]) q, fun _ => ?_⟩
    refine ⟨Or.inl rfl, ?_⟩
    rw [slO_n (fun s hs q => by have := (hE.2.2.2.2.1 s h i hs q).2.2; rw [hp] at this; cases this)] at hQ
    rw [im2]; exact hQ
  | some p =>
    have hz := plc_some hp
    refine ⟨fun _ => ?_, fun q => absurd (b_n1 (z := p) (by omega)) q⟩
    obtain ⟨t, ht, hth⟩ := hE.2.2.2.2.2.2.1 h hh (by rw [hp]; rfl) i hi
    rw [slO_s hE ht hth] at hQ
    refine adv 2 2300 (by omega) (fun n2 hn2 => ?_)
    exact sw_loop hS hE cE hh hi ht hth e1 e2 hQ t 0 n2 _ (by omega) (by omega) oi_0
def thU (E : NEc) (s h : Nat) : Nat := if (E.th s h).isSome = true then 1 else 0
set_option maxRecDepth 100000 in
theorem wt_loop (hS : vSP S) (hE : vNE S E) (cE : cNE σ k E) {s : Nat} (hs : s < E.ns) {x1 : Int32} (e1 : x1 = nI s) (hQ : Q (some (.inl (nI (sm (thU E s) 5)))) σ) :
    ∀ (r h m : Nat) (x2 x3 : Int32), h + r = 5 → 30 * r + 60 ≤ m → x2 = nI (sm (thU E s) h) → x3 = nI h →
      wp N m (e + 1, 0) TX3_wordsThere 4 [some (.inr (.inr (3, k, 0))), some (.inl x1), some (.inl x2), some (.inl x3)] [] σ Q := by
  have hns := vNE_ns hS hE
  intro r
  induction r with
  | zero =>
    intro h m x2 x3 hr hm e2 e3
    obtain ⟨n, rfl⟩ := il_ex (K := 10) (m := m) (by omega)
    obtain rfl : h = 5 := by omega
    refine b_ge e3 i5 (by omega) (by omega) (fun _ => ?_) (fun q => by omega)
    refine ⟨Or.inl rfl, ?_⟩
    rw [e2]; exact hQ
  | succ r ih =>
    intro h m x2 x3 hr hm e2 e3
    obtain ⟨n, rfl⟩ := il_ex (K := 20) (m := m) (by omega)
    have hlt : ∀ j, E.th s h = some j → j < 2147483648 := fun j e' => by
      have h1 := hE.2.2.2.2.1 s h j hs e'
      have h2 := (hS.2.1 h h1.1).2
      omega
    have fin : ∀ (y : Int32) (n' : Nat), 30 * r + 64 ≤ n' → y = nI (thU E s h) → wp N n' (e + 1, 0) TX3_wordsThere 16 [some (.inr (.inr (3, k, 0))), some (.inl x1), some (.inl x2), some (.inl x3)] [.inl y, .inl x2] σ Q := by
      intro y n' hn' hy
      obtain ⟨n3, rfl⟩ := il_ex (K := 4) (m := n') (by omega)
      exact ⟨trivial, ih (h + 1) _ _ _ (by omega) (by omega) (by rw [e2, hy, nI_add]; rfl) (il_inc e3)⟩
    refine b_ge e3 i5 (by omega) (by omega) (fun q => by omega) (fun _ => ?_)
    refine ⟨trivial, c_thereOf e1 e3 (by omega) (by omega) (by omega) ?_⟩
    rw [cE.2.2.2.2.2 s hs h (by omega)]
    refine b_there ne2 rfl hlt (fun q1 => ?_) (fun i q1 q2 => ?_)
    · exact adv 1 (30 * r + 64) (by omega) (fun n9 hn9 => fin _ n9 hn9 (by unfold thU; rw [q1]; exact oi_0))
    · exact ⟨trivial, fin _ _ (by omega) (by unfold thU; rw [q1]; exact oi_1)⟩
theorem c_wordsThere (hS : vSP S) (hE : vNE S E) (cE : cNE σ k E) {s : Nat} (hs : s < E.ns) {x1 : Int32} (e1 : x1 = nI s) (hm : 300 ≤ m) (hQ : Q (some (.inl (nI (sm (thU E s) 5)))) σ) :
    wp N m (e + 1, 0) TX3_wordsThere 0 [some (.inr (.inr (3, k, 0))), some (.inl x1), none, none] [] σ Q := by
  refine adv 4 290 (by omega) (fun n hn => ?_)
  exact wt_loop hS hE cE hs e1 hQ 5 0 n _ _ (by omega) (by omega) oi_0 oi_0
set_option maxRecDepth 100000 in
theorem wm_loop (hS : vSP S) (hE : vNE S E) (cS : mSP σ S) (cE : mNE (σ.1 11 0 27) E) {s : Nat} (hs : s < E.ns) {x1 : Int32} (e1 : x1 = nI s) (hQ : Q (some (.inl (nI (sm (thU E s) S.nh)))) σ) :
    ∀ (r h m : Nat) (x2 x3 : Int32), h + r = S.nh → 30 * r + 60 ≤ m → x2 = nI (sm (thU E s) h) → x3 = nI h →
      wp N m (e + 1, 0) TX11_wordsThere 4 [some (.inr (.inr (11, 0, 0))), some (.inl x1), some (.inl x2), some (.inl x3)] [] σ Q := by
  have hns := vNE_ns hS hE
  have hnh := hS.1
  intro r
  induction r with
  | zero =>
    intro h m x2 x3 hr hm e2 e3
    obtain ⟨n, rfl⟩ := il_ex (K := 10) (m := m) (by omega)
    obtain rfl : h = S.nh := by omega
    refine b_ge e3 cS.1 (by omega) (by omega) (fun _ => ?_) (fun q => by omega)
    refine ⟨Or.inl rfl, ?_⟩
    rw [e2]; exact hQ
  | succ r ih =>
    intro h m x2 x3 hr hm e2 e3
    obtain ⟨n, rfl⟩ := il_ex (K := 20) (m := m) (by omega)
    have hlt : ∀ j, E.th s h = some j → j < 2147483648 := fun j e' => by
      have h1 := hE.2.2.2.2.1 s h j hs e'
      have h2 := (hS.2.1 h h1.1).2
      omega
    have fin : ∀ (y : Int32) (n' : Nat), 30 * r + 64 ≤ n' → y = nI (thU E s h) → wp N n' (e + 1, 0) TX11_wordsThere 18 [some (.inr (.inr (11, 0, 0))), some (.inl x1), some (.inl x2), some (.inl x3)] [.inl y, .inl x2] σ Q := by
      intro y n' hn' hy
      obtain ⟨n3, rfl⟩ := il_ex (K := 4) (m := n') (by omega)
      exact ⟨trivial, ih (h + 1) _ _ _ (by omega) (by omega) (by rw [e2, hy, nI_add]; rfl) (il_inc e3)⟩
    refine b_ge e3 cS.1 (by omega) (by omega) (fun q => by omega) (fun _ => ?_)
    refine ⟨trivial, c_there (jv := 27) rfl e1 e3 (by omega) (by omega) (by omega) ?_⟩
    rw [cE.2.2.2 s hs h (by omega)]
    refine b_there ne1 rfl hlt (fun q1 => ?_) (fun i q1 q2 => ?_)
    · exact adv 1 (30 * r + 64) (by omega) (fun n9 hn9 => fin _ n9 hn9 (by unfold thU; rw [q1]; exact oi_0))
    · exact ⟨trivial, fin _ _ (by omega) (by unfold thU; rw [q1]; exact oi_1)⟩
theorem thU_up (hS : vSP S) (hE : vNE S E) {s : Nat} (hs : s < E.ns) : sm (thU E s) 5 = sm (thU E s) S.nh := sm_tail hS.1 (fun h h1 _ => by
  unfold thU
  cases q : E.th s h with
  | none => rfl
  | some i => have := (hE.2.2.2.2.1 s h i hs q).1; omega)
theorem c_wordsThereM (hS : vSP S) (hE : vNE S E) (cS : mSP σ S) (cE : mNE (σ.1 11 0 27) E) {s : Nat} (hs : s < E.ns) {x1 : Int32} (e1 : x1 = nI s) (hm : 300 ≤ m) (hQ : Q (some (.inl (nI (sm (thU E s) 5)))) σ) :
    wp N m (e + 1, 0) TX11_wordsThere 0 [some (.inr (.inr (11, 0, 0))), some (.inl x1), none, none] [] σ Q := by
  have hnh := hS.1
  rw [thU_up hS hE hs] at hQ
  refine adv 4 290 (by omega) (fun n hn => ?_)
  exact wm_loop hS hE cS cE hs e1 hQ S.nh 0 n _ _ (by omega) (by omega) oi_0 oi_0
end SM
