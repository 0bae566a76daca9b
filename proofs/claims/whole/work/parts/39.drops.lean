/-! the same on the reference's paper; places among the joined -/
theorem i322 : (Int16.ofInt 322).toInt32 = nI 322 := by decide
section DR
variable {N e m : Nat} {σ : ST} {Q : POST} {S : SPc} {R : RUc} {E : NEc}
set_option maxRecDepth 100000 in
theorem cs_loop (hQ : ∀ τ, off [(11, 0, 28)] σ τ → (∀ z, z < 322 → τ.1 11 0 28 z = σ.1 11 0 27 z) → Q none τ) :
    ∀ (r i m : Nat) (τ : ST) (x1 : Int32), i + r = 322 → 20 * r + 20 ≤ m → off [(11, 0, 28)] σ τ → (∀ z, z < i → τ.1 11 0 28 z = σ.1 11 0 27 z) → x1 = nI i → wp N m (e, 0) TX11_copies 2 [some (.inr (.inr (11, 0, 0))), some (.inl x1)] [] τ Q := by
  intro r
  induction r with
  | zero =>
    intro i m τ x1 hr hm ho h1 e1
    obtain ⟨n, rfl⟩ := il_ex (K := 10) (m := m) (by omega)
    refine b_ge e1 i322 (by omega) (by omega) (fun _ => ?_) (fun q => by omega)
    exact hQ τ ho (fun z hz => h1 z (by omega))
  | succ r ih =>
    intro i m τ x1 hr hm ho h1 e1
    obtain ⟨n, rfl⟩ := il_ex (K := 15) (m := m) (by omega)
    refine b_ge e1 i322 (by omega) (by omega) (fun q => by omega) (fun _ => ?_)
    refine ⟨il_in e1 (by omega) (by omega), ?_⟩
    refine ⟨il_in e1 (by omega) (by omega), trivial, ih (i + 1) _ _ _ (by omega) (by omega) (off_uI ho (by simp)) ?_ (il_inc e1)⟩
    intro z hz
    rw [il_cl e1 (by omega), uI_if]
    by_cases q : z = i
    · rw [if_pos q, q]
      exact off_1 ho (by simp) i
    · rw [if_neg q]
      exact h1 z (by omega)
theorem c_copies (hm : 7000 ≤ m) (hQ : ∀ τ, off [(11, 0, 28)] σ τ → (∀ z, z < 322 → τ.1 11 0 28 z = σ.1 11 0 27 z) → Q none τ) : wp N m (e, 0) TX11_copies 0 [some (.inr (.inr (11, 0, 0))), none] [] σ Q := by
  refine adv 2 6900 (by omega) (fun n hn => ?_)
  exact cs_loop hQ 322 0 n σ _ (by omega) (by omega) (off_rf _ _) (fun z hz => by omega) oi_0
theorem c_empties {jv : Nat} (a : arO N 11 jv = some (1, 322)) (hm : 40 ≤ m) (hQ : Q none (uI (uI σ 11 0 jv 10 (nI 0)) 11 0 jv 21 (nI 0))) : wp N m (e, 0) TX11_empties 0 [some (.inr (.inr (11, 0, jv)))] [] σ Q := by
  obtain ⟨n, rfl⟩ := il_ex hm
  refine arr_of a ⟨il_in i10 (by omega) (by omega), ?_⟩
  refine arr_of a ⟨il_in i21 (by omega) (by omega), ?_⟩
  rw [← oi_0] at hQ
  rw [il_cl i10 (by omega), il_cl i21 (by omega)]
  exact hQ
theorem mRU_eq {v w : Nat → Int32} (h : ∀ z, z < 10 → w z = v z) (hS : vSP S) (c : mRU v S R) : mRU w S R := by
  have hnh := hS.1
  obtain ⟨c1, c2, c3, c4, c5, c6⟩ := c
  exact ⟨by rw [h 0 (by omega)]; exact c1, by rw [h 1 (by omega)]; exact c2, by rw [h 2 (by omega)]; exact c3, by rw [h 3 (by omega)]; exact c4, by rw [h 4 (by omega)]; exact c5, fun g hg => by rw [h (5 + g) (by omega)]; exact c6 g hg⟩
set_option maxRecDepth 100000 in
theorem dp_loop (hS : vSP S) (hR : vRU S R) (hE : vNE S E) (cS : mSP σ S) (cE : mNE (σ.1 11 0 27) E) {x : Nat} (hx : x < S.nh) {x1 : Int32} (e1 : x1 = nI x) (hQ : ∀ τ, off (jOff 28) σ τ → mRU (τ.1 11 0 28) S R → mNE (τ.1 11 0 28) (wwN S R E x E.nj) → Q none τ) :
    ∀ (r p m : Nat) (τ : ST) (x2 : Int32) (o3 : Option AV), p + r = E.nj → 2700000 + 200 * r ≤ m → off (jOff 28) σ τ → mRU (τ.1 11 0 28) S R → mNE (τ.1 11 0 28) (wwN S R E x p) → x2 = nI p →
      wp N m (e + 6, 0) TX11_dropsOnPaper 7 [some (.inr (.inr (11, 0, 0))), some (.inl x1), some (.inl x2), o3] [] τ Q := by
  have hnh := hS.1
  have hnj := hE.1
  intro r
  induction r with
  | zero =>
    intro p m τ x2 o3 hr hm ho cR cW e2
    obtain ⟨n, rfl⟩ := il_ex (K := 20) (m := m) (by omega)
    have kE : mNE (τ.1 11 0 27) E := mNE_off ho (by decide) cE
    refine ⟨il_in i10 (by omega) (by omega), ?_⟩
    refine b_ge e2 (show τ.1 11 0 27 (Int8.ofInt 10).toInt32.toNatClampNeg = nI E.nj by rw [il_cl i10 (by omega)]; exact kE.1) (by omega) (by omega) (fun _ => ?_) (fun q => by omega)
    obtain rfl : p = E.nj := by omega
    exact hQ τ ho cR cW
  | succ r ih =>
    intro p m τ x2 o3 hr hm ho cR cW e2
    obtain ⟨n, rfl⟩ := il_ex (K := 60) (m := m) (by omega)
    have hod := hE.2.1 p (by omega)
    have kE : mNE (τ.1 11 0 27) E := mNE_off ho (by decide) cE
    have g11 : (Int8.ofInt 11).toInt32 + x2 = nI (11 + p) := by rw [e2, i11, nI_add]
    have vp : τ.1 11 0 27 ((Int8.ofInt 11).toInt32 + x2).toNatClampNeg = nI (E.od p) := by rw [il_cl g11 (by omega)]; exact (kE.2.2.1 p (by omega)).1
    have nxt : ∀ (τ' : ST) (y : Int32) (n' : Nat), 2700000 + 200 * r + 5 ≤ n' → off (jOff 28) σ τ' → mRU (τ'.1 11 0 28) S R → mNE (τ'.1 11 0 28) (wwN S R E x (p + 1)) → wp N n' (e + 6, 0) TX11_dropsOnPaper 33 [some (.inr (.inr (11, 0, 0))), some (.inl x1), some (.inl x2), o3] [.inl y] τ' Q := by
      intro τ' y n' hn' ho' cR' cW'
      obtain ⟨n2, rfl⟩ := il_ex (K := 3) (m := n') (by omega)
      exact ⟨trivial, ih (p + 1) _ τ' _ _ (by omega) (by omega) ho' cR' cW' (il_inc e2)⟩
    refine ⟨il_in i10 (by omega) (by omega), ?_⟩
    refine b_ge e2 (show τ.1 11 0 27 (Int8.ofInt 10).toInt32.toNatClampNeg = nI E.nj by rw [il_cl i10 (by omega)]; exact kE.1) (by omega) (by omega) (fun q => by omega) (fun _ => ?_)
    refine ⟨il_in g11 (by omega) (by omega), ?_⟩
    refine b_ne vp e1 (by omega) (by omega) (fun z => ?_) (fun z => ?_)
    · refine ⟨il_in g11 (by omega) (by omega), ?_⟩
      refine ⟨trivial, c_joins (jv := 28) rfl (by decide) (by omega) hS hR (wwN_v hS hR hE p (by omega)) (mSP_off ho (by decide) cS) cR cW hod (wwN_none hE (by omega)) vp (by omega) ?_⟩
      intro τ2 ho2 cR2 cW2
      exact nxt τ2 _ _ (by omega) (off_tr ho ho2) cR2 (by rw [wwN, if_neg z]; exact cW2)
    · exact ⟨trivial, nxt τ _ _ (by omega) ho cR (by rw [wwN, if_pos z]; exact cW)⟩
set_option maxRecDepth 100000 in
/-- the reference's dropsOnPaper -/
theorem c_dropsOnPaper (hS : vSP S) (hR : vRU S R) (hE : vNE S E) (cS : mSP σ S) (cR : mRU (σ.1 11 0 27) S R) (cE : mNE (σ.1 11 0 27) E) {x : Nat} (hx : x < S.nh) {x1 : Int32} (e1 : x1 = nI x) (hm : 2800000 ≤ m) (hQ : ∀ τ, off (jOff 28) σ τ → mRU (τ.1 11 0 28) S R → mNE (τ.1 11 0 28) (wwN S R E x E.nj) → Q none τ) :
    wp N m (e + 6, 0) TX11_dropsOnPaper 0 [some (.inr (.inr (11, 0, 0))), some (.inl x1), none, none] [] σ Q := by
  have hnh := hS.1
  have hnj := hE.1
  obtain ⟨n, rfl⟩ := il_ex (K := 20) (m := m) (by omega)
  refine ⟨trivial, c_copies (by omega) ?_⟩
  intro τ ho h1
  refine ⟨trivial, c_empties (jv := 28) rfl (by omega) ?_⟩
  refine adv 2 2750000 (by omega) (fun n1 hn1 => ?_)
  have ho' : off (jOff 28) σ (uI (uI τ 11 0 28 10 (nI 0)) 11 0 28 21 (nI 0)) := off_uI (off_uI (off_in ho (by decide)) (by decide)) (by decide)
  refine dp_loop hS hR hE cS cE hx e1 hQ E.nj 0 n1 _ _ _ (by omega) (by omega) ho' (mRU_eq (fun z hz => ?_) hS cR) ?_ oi_0
  · rw [uI_if, if_neg (by omega), uI_if, if_neg (by omega)]
    exact h1 z (by omega)
  · refine ⟨?_, ?_, fun p hp => absurd hp (Nat.not_lt_zero _), fun s hs => absurd hs (Nat.not_lt_zero _)⟩
    · rw [uI_if, if_neg (by omega), uI_at]; rfl
    · rw [uI_at]; rfl
set_option maxRecDepth 100000 in
theorem po_loop {jv : Nat} (a : arO N 11 jv = some (1, 322)) (hS : vSP S) (hE : vNE S E) (cE : mNE (σ.1 11 0 jv) E) {h : Nat} (hh : h < S.nh) {x1 : Int32} (e1 : x1 = nI h) (hQ : Q (some (.inl (oI (-1) (plc E h)))) σ) :
    ∀ (r p m : Nat) (x2 : Int32), p + r = E.nj → 30 * r + 30 ≤ m → (∀ q, q < p → E.od q ≠ h) → x2 = nI p → wp N m (e, 0) TX11_placeOf 2 [some (.inr (.inr (11, 0, jv))), some (.inl x1), some (.inl x2)] [] σ Q := by
  have hnh := hS.1
  have hnj := hE.1
  have v10 : σ.1 11 0 jv (Int8.ofInt 10).toInt32.toNatClampNeg = nI E.nj := by rw [il_cl i10 (by omega)]; exact cE.1
  intro r
  induction r with
  | zero =>
    intro p m x2 hr hm hq e2
    obtain ⟨n, rfl⟩ := il_ex (K := 20) (m := m) (by omega)
    refine arr_of a ⟨il_in i10 (by omega) (by omega), ?_⟩
    refine b_ge e2 v10 (by omega) (by omega) (fun _ => ?_) (fun q => by omega)
    have hn : plc E h = none := by
      cases hc : plc E h with
      | none => rfl
      | some z => have := plc_some hc; exact absurd this.2 (hq z (by omega))
    rw [hn] at hQ
    refine ⟨Or.inl rfl, ?_⟩
    rw [im1]
    exact hQ
  | succ r ih =>
    intro p m x2 hr hm hq e2
    obtain ⟨n, rfl⟩ := il_ex (K := 25) (m := m) (by omega)
    have g11 : (Int8.ofInt 11).toInt32 + x2 = nI (11 + p) := by rw [e2, i11, nI_add]
    have hod := hE.2.1 p (by omega)
    refine arr_of a ⟨il_in i10 (by omega) (by omega), ?_⟩
    refine b_ge e2 v10 (by omega) (by omega) (fun q => by omega) (fun _ => ?_)
    refine arr_of a ⟨il_in g11 (by omega) (by omega), ?_⟩
    refine b_ne (show σ.1 11 0 jv ((Int8.ofInt 11).toInt32 + x2).toNatClampNeg = nI (E.od p) by rw [il_cl g11 (by omega)]; exact (cE.2.2.1 p (by omega)).1) e1 (by omega) (by omega) (fun z => ?_) (fun z => ?_)
    · exact ⟨trivial, ih (p + 1) _ _ (by omega) (by omega) (fun q hq' => by
        by_cases e : q = p
        · subst e; exact z
        · exact hq q (by omega)) (il_inc e2)⟩
    · have hp : plc E h = some p := by
        cases hc : plc E h with
        | none => exact absurd z (plc_none hc p (by omega))
        | some q =>
          have := plc_some hc
          have := hE.2.2.1 q p this.1 (by omega) (by rw [this.2, z])
          rw [this]
      rw [hp] at hQ
      refine ⟨Or.inl rfl, ?_⟩
      rw [e2]
      exact hQ
/-- the reference's placeOf -/
theorem c_placeOfM {jv : Nat} (a : arO N 11 jv = some (1, 322)) (hS : vSP S) (hE : vNE S E) (cE : mNE (σ.1 11 0 jv) E) {h : Nat} (hh : h < S.nh) {x1 : Int32} (e1 : x1 = nI h) (hm : 300 ≤ m) (hQ : Q (some (.inl (oI (-1) (plc E h)))) σ) :
    wp N m (e, 0) TX11_placeOf 0 [some (.inr (.inr (11, 0, jv))), some (.inl x1), none] [] σ Q := by
  have hnh := hS.1
  have hnj := hE.1
  refine adv 2 250 (by omega) (fun n hn => ?_)
  exact po_loop a hS hE cE hh e1 hQ E.nj 0 n _ (by omega) (by omega) (fun q hq => by omega) oi_0
end DR
