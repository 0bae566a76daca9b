/-! guards: what a number names, or nothing -/
def inR (x : Int32) (n : Nat) : Option Nat := if ¬ x < 0 ∧ x < nI n then some x.toNatClampNeg else none
theorem inR_c (x : Int32) {n : Nat} (hn : n < 2147483648) : (∃ j, j < n ∧ x = nI j ∧ inR x n = some j) ∨ (inR x n = none ∧ (x < 0 ∨ nI n ≤ x)) := by
  rcases pk_ix x (n := n) (by omega) with h | h | ⟨j, hj, h⟩
  · exact Or.inr ⟨if_neg (fun z => z.1 h), Or.inl h⟩
  · exact Or.inr ⟨if_neg (fun z => absurd z.2 (Int32.not_lt.mpr h)), Or.inr h⟩
  · refine Or.inl ⟨j, hj, h, ?_⟩
    unfold inR
    rw [if_pos (by rw [h]; exact ⟨nI_pos (by omega), nI_lt hj (by omega)⟩), h, nI_clamp (by omega)]
theorem inR_n {n j : Nat} (hn : n < 2147483648) (hj : j < n) : inR (nI j) n = some j := by
  unfold inR
  rw [if_pos ⟨nI_pos (by omega), nI_lt hj (by omega)⟩, nI_clamp (by omega)]
theorem inR_s {x : Int32} {n j : Nat} (hn : n < 2147483648) (h : inR x n = some j) : j < n ∧ x = nI j := by
  rcases inR_c x hn with ⟨i, h1, h2, h3⟩ | ⟨h1, _⟩
  · rw [h3] at h; cases h; exact ⟨h1, h2⟩
  · rw [h1] at h; cases h
theorem lt_pred {x : Int32} {n : Nat} (hn : n < 2147483648) : (nI n - Int32.ofInt 1 < x) ↔ nI n ≤ x := by
  cases n with
  | zero =>
    rw [show nI 0 - Int32.ofInt 1 = (-1 : Int32) from by decide, show nI 0 = (0 : Int32) from nI_0, Int32.lt_iff_toInt_lt, Int32.le_iff_toInt_le, show (-1 : Int32).toInt = -1 from by decide, show (0 : Int32).toInt = 0 from by decide]
    omega
  | succ n =>
    rw [show nI (n + 1) - Int32.ofInt 1 = nI n from il_sub1 rfl, Int32.lt_iff_toInt_lt, Int32.le_iff_toInt_le, nI_toInt (by omega), nI_toInt (by omega)]
    omega
/-- within two bounds -/
def inB (x : Int32) (a b : Nat) : Option Nat := if ¬ x < nI a ∧ ¬ nI b < x then some x.toNatClampNeg else none
theorem inB_c (x : Int32) {a b : Nat} (ha : a < 2147483648) (hb : b < 2147483647) : (∃ j, a ≤ j ∧ j ≤ b ∧ x = nI j ∧ inB x a b = some j) ∨ (inB x a b = none ∧ (x < nI a ∨ nI b < x)) := by
  unfold inB
  by_cases h : x < nI a
  · exact Or.inr ⟨if_neg (fun z => z.1 h), Or.inl h⟩
  · by_cases h2 : nI b < x
    · exact Or.inr ⟨if_neg (fun z => z.2 h2), Or.inr h2⟩
    · rcases pk_ix x (n := b + 1) (by omega) with q | q | ⟨j, hj, q⟩
      · exact absurd (Int32.lt_of_lt_of_le q (nI_pos' ha)) h
      · exact absurd (show nI b < x from Int32.lt_of_lt_of_le (nI_lt (by omega) (by omega)) q) h2
      · refine Or.inl ⟨j, ?_, by omega, q, ?_⟩
        · exact Nat.le_of_not_lt (fun z => h (by rw [q]; exact nI_lt z ha))
        · rw [if_pos ⟨h, h2⟩, q, nI_clamp (by omega)]
section GD
variable {N e m k jv ji : Nat} {σ : ST} {Q : POST} {S : SPc} {R : RUc} {E : NEc}
theorem c_refused {x1 : Int32} (hm : 20 ≤ m) (hQ : Q (some (.inl (-1))) (uI (uI σ 10 0 18 0 x1) 10 0 20 0 (-1))) : wp N m (e, 0) TX10_refused 0 [some (.inr (.inr (10, 0, 0))), some (.inl x1)] [] σ Q := by
  obtain ⟨n, rfl⟩ := il_ex hm
  refine ⟨Or.inl rfl, ?_⟩
  rw [im1]; exact hQ
theorem c_answered {x1 : Int32} (hm : 20 ≤ m) (hQ : Q (some (.inl x1)) (uI (uI σ 10 0 18 0 0) 10 0 20 0 (-1))) : wp N m (e, 0) TX10_answered 0 [some (.inr (.inr (10, 0, 0))), some (.inl x1)] [] σ Q := by
  obtain ⟨n, rfl⟩ := il_ex hm
  refine ⟨Or.inl rfl, ?_⟩
  rw [im1]; exact hQ
theorem c_refusedAct {x1 : Int32} (hm : 40 ≤ m) (hQ : Q (some (.inl (nI 0))) (uI (uI σ 10 0 18 0 x1) 10 0 20 0 (-1))) : wp N m (e + 1, 0) TX10_refusedAct 0 [some (.inr (.inr (10, 0, 0))), some (.inl x1)] [] σ Q := by
  obtain ⟨n, rfl⟩ := il_ex hm
  refine ⟨trivial, c_refused (by omega) ?_⟩
  exact ⟨Or.inr (Or.inl rfl), hQ⟩
theorem c_refusedM {x1 : Int32} (hm : 20 ≤ m) (hQ : Q (some (.inl (-1))) (uI (uI σ 11 0 2 0 x1) 11 0 3 0 (-1))) : wp N m (e, 0) TX11_refused 0 [some (.inr (.inr (11, 0, 0))), some (.inl x1)] [] σ Q := by
  obtain ⟨n, rfl⟩ := il_ex hm
  refine ⟨Or.inl rfl, ?_⟩
  rw [im1]; exact hQ
theorem c_good {x1 : Int32} (hm : 20 ≤ m) (hQ : Q (some (.inl x1)) (uI (uI σ 11 0 2 0 0) 11 0 3 0 (-1))) : wp N m (e, 0) TX11_good 0 [some (.inr (.inr (11, 0, 0))), some (.inl x1)] [] σ Q := by
  obtain ⟨n, rfl⟩ := il_ex hm
  refine ⟨Or.inl rfl, ?_⟩
  rw [im1]; exact hQ
theorem c_done {x1 : Int32} (hm : 20 ≤ m) (hQ : Q (some (.inl (if x1 = 0 then nI 1 else nI 0))) (uI (uI σ 11 0 2 0 x1) 11 0 3 0 (-1))) : wp N m (e, 0) TX11_done 0 [some (.inr (.inr (11, 0, 0))), some (.inl x1)] [] σ Q := by
  obtain ⟨n, rfl⟩ := il_ex hm
  refine ⟨fun q => ?_, fun q => ?_⟩
  · refine ⟨Or.inr (Or.inl rfl), ?_⟩
    rw [if_neg (show ¬ x1 = 0 from q)] at hQ
    rw [im1]; exact hQ
  · refine ⟨trivial, Or.inr (Or.inr rfl), ?_⟩
    rw [if_pos (show x1 = 0 from Classical.byContradiction fun z => q z)] at hQ
    rw [im1]; exact hQ
theorem c_isTold {n1 : Nat} (hS : σ.1 8 0 1 0 = nI n1) (hn : n1 < 2147483648) (hm : 20 ≤ m) (h1 : 0 < n1 → Q (some (.inl (nI 1))) σ) (h0 : n1 = 0 → Q (some (.inl (nI 0))) σ) : wp N m (e, 0) TX10_isTold 0 [some (.inr (.inr (10, 0, 0)))] [] σ Q := by
  obtain ⟨n, rfl⟩ := il_ex hm
  refine b_le hS z0 hn (by omega) (fun q => ⟨Or.inr (Or.inl rfl), h0 (by omega)⟩) (fun q => ⟨trivial, Or.inr (Or.inr rfl), h1 q⟩)
theorem c_isHearing {n1 : Nat} (hS : σ.1 8 0 1 0 = nI n1) (hn : n1 < 2147483648) {x1 : Int32} (hm : 30 ≤ m) (h1 : ∀ j, j < n1 → x1 = nI j → inR x1 n1 = some j → Q (some (.inl (nI 1))) σ) (h0 : inR x1 n1 = none → Q (some (.inl (nI 0))) σ) : wp N m (e, 0) TX10_isHearing 0 [some (.inr (.inr (10, 0, 0))), some (.inl x1)] [] σ Q := by
  obtain ⟨n, rfl⟩ := il_ex hm
  rcases inR_c x1 hn with ⟨j, hj, e1, q⟩ | ⟨q, w | w⟩
  · refine b_lt e1 z0 (by omega) (by omega) (fun q => by omega) (fun _ => ?_)
    refine b_ge e1 hS (by omega) hn (fun q => by omega) (fun _ => ⟨trivial, Or.inr (Or.inr rfl), h1 j hj e1 q⟩)
  · exact ⟨fun _ => ⟨Or.inr (Or.inl rfl), h0 q⟩, fun z => absurd w z⟩
  · refine ⟨fun _ => ⟨Or.inr (Or.inl rfl), h0 q⟩, fun _ => ?_⟩
    refine ⟨fun _ => ⟨Or.inr (Or.inl rfl), h0 q⟩, fun z => absurd (show σ.1 8 0 1 0 ≤ x1 by rw [hS]; exact w) z⟩
theorem c_isWord {n1 : Nat} (hS : σ.1 8 0 2 0 = nI n1) (hn : n1 < 2147483648) {x1 : Int32} (hm : 30 ≤ m) (h1 : ∀ j, j < n1 → x1 = nI j → inR x1 n1 = some j → Q (some (.inl (nI 1))) σ) (h0 : inR x1 n1 = none → Q (some (.inl (nI 0))) σ) : wp N m (e, 0) TX10_isWord 0 [some (.inr (.inr (10, 0, 0))), some (.inl x1)] [] σ Q := by
  obtain ⟨n, rfl⟩ := il_ex hm
  rcases inR_c x1 hn with ⟨j, hj, e1, q⟩ | ⟨q, w | w⟩
  · refine b_lt e1 z0 (by omega) (by omega) (fun q => by omega) (fun _ => ?_)
    refine b_ge e1 hS (by omega) hn (fun q => by omega) (fun _ => ⟨trivial, Or.inr (Or.inr rfl), h1 j hj e1 q⟩)
  · exact ⟨fun _ => ⟨Or.inr (Or.inl rfl), h0 q⟩, fun z => absurd w z⟩
  · refine ⟨fun _ => ⟨Or.inr (Or.inl rfl), h0 q⟩, fun _ => ?_⟩
    refine ⟨fun _ => ⟨Or.inr (Or.inl rfl), h0 q⟩, fun z => absurd (show σ.1 8 0 2 0 ≤ x1 by rw [hS]; exact w) z⟩
theorem c_isSlot {n1 : Nat} (hS : σ.1 3 0 1 0 = nI n1) (hn : n1 < 2147483648) {x1 : Int32} (hm : 30 ≤ m) (h1 : ∀ j, j < n1 → x1 = nI j → inR x1 n1 = some j → Q (some (.inl (nI 1))) σ) (h0 : inR x1 n1 = none → Q (some (.inl (nI 0))) σ) : wp N m (e, 0) TX10_isSlot 0 [some (.inr (.inr (10, 0, 0))), some (.inl x1)] [] σ Q := by
  obtain ⟨n, rfl⟩ := il_ex hm
  rcases inR_c x1 hn with ⟨j, hj, e1, q⟩ | ⟨q, w | w⟩
  · refine b_lt e1 z0 (by omega) (by omega) (fun q => by omega) (fun _ => ?_)
    refine b_ge e1 hS (by omega) hn (fun q => by omega) (fun _ => ⟨trivial, Or.inr (Or.inr rfl), h1 j hj e1 q⟩)
  · exact ⟨fun _ => ⟨Or.inr (Or.inl rfl), h0 q⟩, fun z => absurd w z⟩
  · refine ⟨fun _ => ⟨Or.inr (Or.inl rfl), h0 q⟩, fun _ => ?_⟩
    refine ⟨fun _ => ⟨Or.inr (Or.inl rfl), h0 q⟩, fun z => absurd (show σ.1 3 0 1 0 ≤ x1 by rw [hS]; exact w) z⟩
theorem c_isWithin {x0 x1 x2 : Int32} (hm : 30 ≤ m) (h1 : ¬ x0 < x1 → ¬ x2 < x0 → Q (some (.inl (nI 1))) σ) (h0 : (x0 < x1 ∨ x2 < x0) → Q (some (.inl (nI 0))) σ) : wp N m (e, 0) TX10_isWithin 0 [some (.inl x0), some (.inl x1), some (.inl x2)] [] σ Q := by
  obtain ⟨n, rfl⟩ := il_ex hm
  refine ⟨fun q => ⟨Or.inr (Or.inl rfl), h0 (Or.inl q)⟩, fun q => ?_⟩
  exact ⟨fun q2 => ⟨Or.inr (Or.inl rfl), h0 (Or.inr q2)⟩, fun q2 => ⟨trivial, Or.inr (Or.inr rfl), h1 q q2⟩⟩
theorem c_inM {x0 x1 x2 : Int32} (hm : 30 ≤ m) (h1 : ¬ x0 < x1 → ¬ x2 < x0 → Q (some (.inl (nI 1))) σ) (h0 : (x0 < x1 ∨ x2 < x0) → Q (some (.inl (nI 0))) σ) : wp N m (e, 0) TX11_in 0 [some (.inl x0), some (.inl x1), some (.inl x2)] [] σ Q := by
  obtain ⟨n, rfl⟩ := il_ex hm
  refine ⟨fun q => ⟨Or.inr (Or.inl rfl), h0 (Or.inl q)⟩, fun q => ?_⟩
  exact ⟨fun q2 => ⟨Or.inr (Or.inl rfl), h0 (Or.inr q2)⟩, fun q2 => ⟨trivial, Or.inr (Or.inr rfl), h1 q q2⟩⟩
/-- in(x, a, b) for bounds that are numbers -/
theorem c_inB {x0 x1 x2 : Int32} {a b : Nat} (ha : a < 2147483648) (hb : b < 2147483647) (e1 : x1 = nI a) (e2 : x2 = nI b) (hm : 30 ≤ m) (h1 : ∀ j, a ≤ j → j ≤ b → x0 = nI j → inB x0 a b = some j → Q (some (.inl (nI 1))) σ) (h0 : inB x0 a b = none → Q (some (.inl (nI 0))) σ) : wp N m (e, 0) TX11_in 0 [some (.inl x0), some (.inl x1), some (.inl x2)] [] σ Q := by
  rcases inB_c x0 ha hb with ⟨j, q1, q2, q3, q4⟩ | ⟨q1, q2⟩
  · refine c_inM hm (fun _ _ => h1 j q1 q2 q3 q4) (fun z => ?_)
    rw [e1, e2, q3] at z
    rcases z with z | z
    · exact absurd z (nI_nlt q1 (by omega))
    · exact absurd z (nI_nlt q2 (by omega))
  · exact c_inM hm (fun z1 z2 => by rw [e1] at z1; rw [e2] at z2; exact absurd q2 (fun z => z.elim z1 z2)) (fun _ => h0 q1)
theorem c_withinB {x0 x1 x2 : Int32} {a b : Nat} (ha : a < 2147483648) (hb : b < 2147483647) (e1 : x1 = nI a) (e2 : x2 = nI b) (hm : 30 ≤ m) (h1 : ∀ j, a ≤ j → j ≤ b → x0 = nI j → inB x0 a b = some j → Q (some (.inl (nI 1))) σ) (h0 : inB x0 a b = none → Q (some (.inl (nI 0))) σ) : wp N m (e, 0) TX10_isWithin 0 [some (.inl x0), some (.inl x1), some (.inl x2)] [] σ Q := by
  rcases inB_c x0 ha hb with ⟨j, q1, q2, q3, q4⟩ | ⟨q1, q2⟩
  · refine c_isWithin hm (fun _ _ => h1 j q1 q2 q3 q4) (fun z => ?_)
    rw [e1, e2, q3] at z
    rcases z with z | z
    · exact absurd z (nI_nlt q1 (by omega))
    · exact absurd z (nI_nlt q2 (by omega))
  · exact c_isWithin hm (fun z1 z2 => by rw [e1] at z1; rw [e2] at z2; exact absurd q2 (fun z => z.elim z1 z2)) (fun _ => h0 q1)
/-- in(x, 0, n - 1) -/
theorem c_inP {x0 x1 x2 : Int32} {n1 : Nat} (hn : n1 < 2147483648) (e1 : x1 = nI 0) (e2 : x2 = nI n1 - Int32.ofInt 1) (hm : 30 ≤ m) (h1 : ∀ j, j < n1 → x0 = nI j → inR x0 n1 = some j → Q (some (.inl (nI 1))) σ) (h0 : inR x0 n1 = none → Q (some (.inl (nI 0))) σ) : wp N m (e, 0) TX11_in 0 [some (.inl x0), some (.inl x1), some (.inl x2)] [] σ Q := by
  rcases inR_c x0 hn with ⟨j, q1, q2, q3⟩ | ⟨q1, q2⟩
  · refine c_inM hm (fun _ _ => h1 j q1 q2 q3) (fun z => ?_)
    rw [e1, e2] at z
    rcases z with z | z
    · rw [q2] at z; exact absurd z (nI_nlt (Nat.zero_le _) (by omega))
    · rw [lt_pred hn, q2] at z
      exact absurd z (nI_ge q1 (by omega))
  · refine c_inM hm (fun z1 z2 => ?_) (fun _ => h0 q1)
    rw [e1] at z1
    rw [e2, lt_pred hn] at z2
    rcases q2 with q2 | q2
    · exact absurd (show x0 < nI 0 by rw [nI_0]; exact q2) z1
    · exact absurd q2 z2
theorem c_isHearingM {n1 : Nat} (hS : σ.1 11 0 25 0 = nI n1) (hn : n1 < 2147483648) {x1 : Int32} (hm : 60 ≤ m) (h1 : ∀ j, j < n1 → x1 = nI j → inR x1 n1 = some j → Q (some (.inl (nI 1))) σ) (h0 : inR x1 n1 = none → Q (some (.inl (nI 0))) σ) : wp N m (e + 1, 0) TX11_isHearing 0 [some (.inr (.inr (11, 0, 0))), some (.inl x1)] [] σ Q := by
  obtain ⟨n, rfl⟩ := il_ex hm
  refine ⟨trivial, c_inP hn oi_0 (show σ.1 11 0 25 0 - Int32.ofInt 1 = _ by rw [hS]) (by omega) (fun j q1 q2 q3 => ⟨Or.inr (Or.inr rfl), h1 j q1 q2 q3⟩) (fun q => ⟨Or.inr (Or.inl rfl), h0 q⟩)⟩
/-- isSlot of the reference, behind a TEXT -/
theorem c_isSlotM {n1 n2 : Nat} (hS : σ.1 11 0 25 0 = nI n2) (h2 : 0 < n2) (hn2 : n2 < 2147483648) (hv : σ.1 11 0 27 21 = nI n1) (hn : n1 < 2147483648) {x1 : Int32} (hm : 60 ≤ m) (h1 : ∀ j, j < n1 → x1 = nI j → inR x1 n1 = some j → Q (some (.inl (nI 1))) σ) (h0 : inR x1 n1 = none → Q (some (.inl (nI 0))) σ) : wp N m (e + 1, 0) TX11_isSlot 0 [some (.inr (.inr (11, 0, 0))), some (.inl x1)] [] σ Q := by
  obtain ⟨n, rfl⟩ := il_ex hm
  refine b_le hS z0 hn2 (by omega) (fun q => by omega) (fun _ => ?_)
  refine ⟨il_in i21 (by omega) (by omega), ?_⟩
  refine ⟨trivial, c_inP hn oi_0 (show σ.1 11 0 27 (Int8.ofInt 21).toInt32.toNatClampNeg - Int32.ofInt 1 = _ by rw [il_cl i21 (by omega), hv]) (by omega) (fun j q1 q2 q3 => ?_) (fun q => ?_)⟩
  · refine b_eq (a := 1) rfl z0 (by omega) (by omega) (fun q => by omega) (fun _ => ⟨trivial, Or.inr (Or.inr rfl), h1 j q1 q2 q3⟩)
  · refine b_eq (a := 0) rfl z0 (by omega) (by omega) (fun _ => ⟨Or.inr (Or.inl rfl), h0 q⟩) (fun q => absurd rfl q)
theorem c_isSlotN (hS : σ.1 11 0 25 0 = nI 0) {x1 : Int32} (hm : 60 ≤ m) (h0 : Q (some (.inl (nI 0))) σ) : wp N m (e + 1, 0) TX11_isSlot 0 [some (.inr (.inr (11, 0, 0))), some (.inl x1)] [] σ Q := by
  obtain ⟨n, rfl⟩ := il_ex hm
  exact b_le hS z0 (by omega) (by omega) (fun _ => ⟨Or.inr (Or.inl rfl), h0⟩) (fun q => by omega)
/-- refusesPaper -/
theorem c_refusesPaper (hS : vSP S) (hE : vNE S E) (cS : mSP σ S) (cE : mNE (σ.1 11 0 27) E) {x1 : Int32} (hm : 400 ≤ m) (h1 : inR x1 S.nh = none → Q (some (.inl (nI 1))) σ) (h5 : ∀ j p, j < S.nh → x1 = nI j → inR x1 S.nh = some j → plc E j = some p → Q (some (.inl (nI 5))) σ) (h0 : ∀ j, j < S.nh → x1 = nI j → inR x1 S.nh = some j → plc E j = none → Q (some (.inl (nI 0))) σ) :
    wp N m (e + 2, 0) TX11_refusesPaper 0 [some (.inr (.inr (11, 0, 0))), some (.inl x1)] [] σ Q := by
  obtain ⟨n, rfl⟩ := il_ex (K := 30) (m := m) (by omega)
  have hnh := hS.1
  have hnj := hE.1
  refine ⟨trivial, c_isHearingM cS.1 (by omega) (by omega) (fun j q1 q2 q3 => ?_) (fun q => ?_)⟩
  · refine b_ne (a := 1) rfl z0 (by omega) (by omega) (fun _ => ?_) (fun q => by omega)
    refine ⟨trivial, c_placeOfM (jv := 27) rfl hS hE cE q1 q2 (by omega) ?_⟩
    cases hp : plc E j with
    | none => exact ⟨fun _ => ⟨Or.inl rfl, h0 j q1 q2 q3 hp⟩, fun q => absurd (show (-1 : Int32) = Int32.ofInt (-1) by rw [im1]) q⟩
    | some p =>
      have hz := plc_some hp
      exact ⟨fun q => absurd q (b_n1 (z := p) (by omega)), fun _ => ⟨trivial, Or.inl rfl, h5 j p q1 q2 q3 hp⟩⟩
  · refine b_ne (a := 0) rfl z0 (by omega) (by omega) (fun q => absurd rfl q) (fun _ => ?_)
    exact ⟨trivial, Or.inl rfl, h1 q⟩
end GD
