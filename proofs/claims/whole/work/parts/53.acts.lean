/-! ACTS: what was ahead of each -/
abbrev PAc : Type := Nat → RUc × NEc
def vAC (S : SPc) (c : Nat) (P : PAc) : Prop := c ≤ 10 ∧ ∀ i, i < c → vRU S (P i).1 ∧ vNE S (P i).2
def cAC (σ : ST) (S : SPc) (c : Nat) (P : PAc) : Prop := ∃ nx, nx < 10 ∧ σ.1 0 0 1 0 = nI c ∧ σ.1 0 0 2 0 = nI nx ∧ ∀ i, i < c → mRU (fun z => σ.1 0 0 3 ((nx + 9 - i) % 10 * 82 + z)) S (P i).1 ∧ kNE (fun z => σ.1 0 0 3 ((nx + 9 - i) % 10 * 82 + 10 + z)) (P i).2
/-- one more, the newest first -/
def pcI (R : RUc) (E : NEc) (P : PAc) : PAc := fun i => if i = 0 then (R, E) else P (i - 1)
abbrev kOff : List RF := [(0, 0, 1), (0, 0, 2), (0, 0, 3)]
abbrev tOff : List RF := [(0, 0, 1), (0, 0, 2), (7, 0, 1), (7, 0, 2), (7, 0, 3), (7, 0, 4), (7, 0, 5), (7, 0, 6), (3, 0, 1), (3, 0, 2), (3, 0, 3), (3, 0, 4), (3, 0, 5), (3, 0, 6)]
section AC
variable {N e m k jv : Nat} {σ : ST} {Q : POST} {S : SPc} {R : RUc} {E : NEc}
set_option maxRecDepth 100000 in
/-- Acts.keep -/
theorem c_keep (hS : vSP S) (hE : vNE S E) (cR : cRU σ 0 S R) (cE : cNE σ 0 E) {c : Nat} {P : PAc} (hP : vAC S c P) (cA : cAC σ S c P) (hm : 30200 ≤ m) (hQ : ∀ τ, off kOff σ τ → cAC τ S (min (c + 1) 10) (pcI R E P) → Q none τ) :
    wp N m (e + 3, 0) TX0_keep 0 [some (.inr (.inr (0, 0, 0))), some (.inr (.inr (7, 0, 0))), some (.inr (.inr (3, 0, 0)))] [] σ Q := by
  have hc := hP.1
  obtain ⟨x, hx, a1, a2, a3⟩ := cA
  obtain ⟨n, rfl⟩ := il_ex (K := 60) (m := m) (by omega)
  have g1 : σ.1 0 0 (1 + 1) 0 * (Int8.ofInt 82).toInt32 = nI (x * 82) := by rw [show σ.1 0 0 (1 + 1) 0 = nI x from a2, i82c, pk_mul]
  refine ⟨trivial, c_rulesKeep (e := e + 1) (f := x * 82) hS cR g1 (by omega) (by omega) ?_⟩
  intro τ1 o1 s1 r1
  have b2 : τ1.1 0 0 2 0 = nI x := by rw [off_1 o1 (by decide)]; exact a2
  have g2 : τ1.1 0 0 (1 + 1) 0 * (Int8.ofInt 82).toInt32 + (Int8.ofInt 10).toInt32 = nI (x * 82 + 10) := by rw [show τ1.1 0 0 (1 + 1) 0 = nI x from b2, i82c, i10, pk_mul, nI_add]
  refine ⟨trivial, c_netKeep (e := e) (f := x * 82 + 10) hS hE (cNE_off o1 (by decide) cE) g2 (by omega) (by omega) ?_⟩
  intro τ2 o2 s2 r2
  have o12 : off kOff σ τ2 := off_tr (off_mono o1 (by decide)) (off_mono o2 (by decide))
  have b1' : τ2.1 0 0 1 0 = nI c := by rw [off_1 o2 (by decide), off_1 o1 (by decide)]; exact a1
  have b2' : τ2.1 0 0 2 0 = nI x := by rw [off_1 o2 (by decide)]; exact b2
  have r1' : mRU (fun z => τ2.1 0 0 3 (x * 82 + z)) S R := mRU_e3 hS (fun z hz => s2 _ (by omega)) r1
  have sq : ∀ z, z < x * 82 ∨ x * 82 + 82 ≤ z → τ2.1 0 0 3 z = σ.1 0 0 3 z := fun z hz => by rw [s2 z (by omega), s1 z (by omega)]
  have fin : ∀ (y : Int32) (m' x' : Nat), 40 ≤ m' → x' < 10 → x' = (x + 1) % 10 → y = nI x' → wp N m' (e + 3, 0) TX0_keep 31 [some (.inr (.inr (0, 0, 0))), some (.inr (.inr (7, 0, 0))), some (.inr (.inr (3, 0, 0)))] [.inl y, .inr (.inr (0, 0, 0))] τ2 Q := by
    intro y m' x' hm' hx' ex ey
    obtain ⟨n2, rfl⟩ := il_ex (K := 20) (m := m') (by omega)
    have b1 : (uI τ2 0 0 2 0 y).1 0 0 1 0 = nI c := by rw [uI_nr _ _ _ _ _ _ (by decide)]; exact b1'
    have keepA : ∀ (τ3 : ST), off [(0, 0, 1), (0, 0, 2)] τ2 τ3 → τ3.1 0 0 1 0 = nI (min (c + 1) 10) → τ3.1 0 0 2 0 = y → Q none τ3 := by
      intro τ3 o3 g1 g2
      refine hQ τ3 (off_tr o12 (off_mono o3 (by decide))) ⟨x', hx', g1, by rw [g2, ey], fun i hi => ?_⟩
      rw [(o3 0 0 3 (by decide)).1]
      by_cases q : i = 0
      · have e0 : (x' + 9 - i) % 10 = x := by omega
        rw [e0, show pcI R E P i = (R, E) from if_pos q]
        exact ⟨r1', r2⟩
      · have e1 : (x' + 9 - i) % 10 = (x + 9 - (i - 1)) % 10 := by omega
        have ne : (x + 9 - (i - 1)) % 10 ≠ x := by omega
        rw [e1, show pcI R E P i = P (i - 1) from if_neg q]
        have h3 := a3 (i - 1) (by omega)
        generalize (x + 9 - (i - 1)) % 10 = u at h3 ne ⊢
        exact ⟨mRU_e3 hS (fun z hz => sq _ (by omega)) h3.1, kNE_eq hS (hP.2 (i - 1) (by omega)).2 (fun z hz => sq _ (by omega)) h3.2⟩
    refine b_ge b1 i10 (by omega) (by omega) (fun q => ?_) (fun q => ?_)
    · refine keepA _ (off_uI (off_uI (off_rf _ _) (by decide)) (by decide)) ?_ ?_
      · rw [uI_at, i10]; congr 1; omega
      · rw [uI_nr _ _ _ _ _ _ (by decide), uI_at]
    · refine ⟨trivial, ?_⟩
      refine keepA _ (off_uI (off_uI (off_rf _ _) (by decide)) (by decide)) ?_ ?_
      · rw [uI_at]
        show (uI τ2 0 0 2 0 y).1 0 0 1 0 + Int32.ofInt 1 = _
        rw [b1, oi_1, nI_add]; congr 1; omega
      · rw [uI_nr _ _ _ _ _ _ (by decide), uI_at]
  have gx : τ2.1 0 0 (1 + 1) 0 + Int32.ofInt 1 = nI (x + 1) := il_inc b2'
  refine b_ge gx i10 (by omega) (by omega) (fun q => ?_) (fun q => ?_)
  · exact adv 1 40 (by omega) (fun n9 hn9 => fin _ n9 0 hn9 (by omega) (by omega) oi_0)
  · exact ⟨trivial, fin _ _ (x + 1) (by omega) (by omega) (by omega) gx⟩
set_option maxRecDepth 100000 in
/-- Acts.takeBack -/
theorem c_takeBack (hS : vSP S) {c : Nat} {P : PAc} (hc : c < 10) (hP : vAC S (c + 1) P) (cA : cAC σ S (c + 1) P) (hm : 8200 ≤ m) (hQ : ∀ τ, off tOff σ τ → cRU τ 0 S (P 0).1 → cNE τ 0 (P 0).2 → cAC τ S c (fun i => P (i + 1)) → Q none τ) :
    wp N m (e + 3, 0) TX0_takeBack 0 [some (.inr (.inr (0, 0, 0))), some (.inr (.inr (7, 0, 0))), some (.inr (.inr (3, 0, 0)))] [] σ Q := by
  obtain ⟨x, hx, a1, a2, a3⟩ := cA
  have g0 := a3 0 (by omega)
  have at10 : ∀ (y : Int32) (m' x' : Nat), 8100 ≤ m' → x' = (x + 9) % 10 → y = nI x' → wp N m' (e + 3, 0) TX0_takeBack 10 [some (.inr (.inr (0, 0, 0))), some (.inr (.inr (7, 0, 0))), some (.inr (.inr (3, 0, 0)))] [.inl y, .inr (.inr (0, 0, 0))] σ Q := by
    intro y m' x' hm' ex ey
    obtain ⟨n2, rfl⟩ := il_ex (K := 50) (m := m') (by omega)
    have hx' : x' < 10 := by omega
    have e0 : (x + 9 - 0) % 10 = x' := by omega
    rw [e0] at g0
    have oy : off [(0, 0, 2)] σ (uI σ 0 0 2 0 y) := off_uI (off_rf _ _) (by decide)
    have y2 : (uI σ 0 0 2 0 y).1 0 0 2 0 = nI x' := by rw [uI_at]; exact ey
    have y3 : (uI σ 0 0 2 0 y).1 0 0 3 = σ.1 0 0 3 := (oy 0 0 3 (by decide)).1
    have y1 : (uI σ 0 0 2 0 y).1 0 0 1 0 = nI (c + 1) := by rw [off_1 oy (by decide)]; exact a1
    generalize hσy : uI σ 0 0 2 0 y = σy at oy y2 y3 y1
    rw [← y3] at g0
    have g1 : σy.1 0 0 (1 + 1) 0 * (Int8.ofInt 82).toInt32 = nI (x' * 82) := by rw [show σy.1 0 0 (1 + 1) 0 = nI x' from y2, i82c, pk_mul]
    refine ⟨trivial, ?_⟩
    show wp N _ (e + 2, 0) TX7_takeFrom 0 [some (.inr (.inr (7, 0, 0))), some (.inr (.inr (0, 0, 3))), some (.inl ((uI σ 0 0 2 0 y).1 0 0 (1 + 1) 0 * (Int8.ofInt 82).toInt32))] [] (uI σ 0 0 2 0 y) _
    rw [hσy]
    refine c_rulesTake (e := e + 1) (f := x' * 82) hS g1 (by omega) g0.1 (by omega) ?_
    intro τ1 o1 r1
    have b2 : τ1.1 0 0 2 0 = nI x' := by rw [off_1 o1 (by decide)]; exact y2
    have g2 : τ1.1 0 0 (1 + 1) 0 * (Int8.ofInt 82).toInt32 + (Int8.ofInt 10).toInt32 = nI (x' * 82 + 10) := by rw [show τ1.1 0 0 (1 + 1) 0 = nI x' from b2, i82c, i10, pk_mul, nI_add]
    have k0 : kNE (fun z => τ1.1 0 0 3 (x' * 82 + 10 + z)) (P 0).2 := by rw [(o1 0 0 3 (by decide)).1]; exact g0.2
    refine ⟨trivial, c_netTake (e := e) (f := x' * 82 + 10) hS (hP.2 0 (by omega)).2 g2 (by omega) k0 (by omega) ?_⟩
    intro τ2 o2 r2
    have o12 : off tOff σ τ2 := off_tr (off_mono oy (by decide)) (off_tr (off_mono o1 (by decide)) (off_mono o2 (by decide)))
    have b1 : τ2.1 0 0 (0 + 1) 0 = nI (c + 1) := by rw [off_1 o2 (by decide), off_1 o1 (by decide)]; exact y1
    have b22 : τ2.1 0 0 2 0 = nI x' := by rw [off_1 o2 (by decide)]; exact b2
    have b3 : τ2.1 0 0 3 = σ.1 0 0 3 := by rw [(o2 0 0 3 (by decide)).1, (o1 0 0 3 (by decide)).1, y3]
    refine b_le b1 z0 (by omega) (by omega) (fun q => by omega) (fun _ => ?_)
    refine ⟨trivial, ?_⟩
    have o3 : off [(0, 0, 1)] τ2 (uI τ2 0 0 1 0 (τ2.1 0 0 1 0 - Int32.ofInt 1)) := off_uI (off_rf _ _) (by decide)
    refine hQ _ (off_tr o12 (off_mono o3 (by decide))) (cRU_off o3 (by decide) (cRU_off o2 (by decide) r1)) (cNE_off o3 (by decide) r2) ⟨x', hx', ?_, ?_, fun i hi => ?_⟩
    · rw [uI_at, show τ2.1 0 0 1 0 = nI (c + 1) from b1]; exact il_sub1 rfl
    · rw [off_1 o3 (by decide)]; exact b22
    · rw [(o3 0 0 3 (by decide)).1, b3]
      have := a3 (i + 1) (by omega)
      rw [show (x + 9 - (i + 1)) % 10 = (x' + 9 - i) % 10 by omega] at this
      exact this
  obtain ⟨n, rfl⟩ := il_ex (K := 15) (m := m) (by omega)
  refine b_le a2 z0 (by omega) (by omega) (fun q => ?_) (fun q => ?_)
  · exact adv 1 8100 (by omega) (fun n9 hn9 => at10 _ n9 9 hn9 (by omega) (by decide))
  · refine ⟨trivial, at10 _ _ (x - 1) (by omega) (by omega) ?_⟩
    exact il_sub1 (k := x - 1) (by rw [show x - 1 + 1 = x by omega]; exact a2)
end AC
/-! the same in the reference: a row of 3220 -/
theorem mNE_eq {v w : Nat → Int32} {S : SPc} {E : NEc} (hS : vSP S) (hE : vNE S E) (h : ∀ z, z < 322 → w z = v z) (c : mNE v E) : mNE w E := by
  have hns := vNE_ns hS hE
  have hnh := hS.1
  have hnj := hE.1
  exact ⟨by rw [h 10 (by omega)]; exact c.1, by rw [h 21 (by omega)]; exact c.2.1, fun p hp => by rw [h (11 + p) (by omega), h (16 + p) (by omega)]; exact c.2.2.1 p hp, fun s hs g hg => by rw [h (22 + 5 * s + g) (by omega)]; exact c.2.2.2 s hs g hg⟩
theorem mRU_e2 {v w : Nat → Int32} {S : SPc} {R : RUc} (hS : vSP S) (h : ∀ z, z < 322 → w z = v z) (c : mRU v S R) : mRU w S R := by
  have hnh := hS.1
  exact ⟨by rw [h 0 (by omega)]; exact c.1, by rw [h 1 (by omega)]; exact c.2.1, by rw [h 2 (by omega)]; exact c.2.2.1, by rw [h 3 (by omega)]; exact c.2.2.2.1, by rw [h 4 (by omega)]; exact c.2.2.2.2.1, fun g hg => by rw [h (5 + g) (by omega)]; exact c.2.2.2.2.2 g hg⟩
def mAC (σ : ST) (S : SPc) (c : Nat) (P : PAc) : Prop := σ.1 11 0 30 0 = nI c ∧ ∀ i, i < c → mRU (fun z => σ.1 11 0 29 (322 * (c - 1 - i) + z)) S (P i).1 ∧ mNE (fun z => σ.1 11 0 29 (322 * (c - 1 - i) + z)) (P i).2
section AM
variable {N e m k jv : Nat} {σ : ST} {Q : POST} {S : SPc} {R : RUc} {E : NEc}
set_option maxRecDepth 100000 in
theorem r1_loop {M : Nat} (h30 : σ.1 11 0 30 0 = nI 9) (K : ∀ (m : Nat) (τ : ST) (x1 : Int32), M ≤ m → off [(11, 0, 29)] σ τ → (∀ z, z < 2898 → τ.1 11 0 29 z = σ.1 11 0 29 (z + 322)) → wp N m (e, 0) TX11_remembers 30 [some (.inr (.inr (11, 0, 0))), some (.inl x1)] [] τ Q) :
    ∀ (r k m : Nat) (τ : ST) (x1 : Int32), k + r = 2898 → 20 * r + 20 + M ≤ m → off [(11, 0, 29)] σ τ → (∀ z, z < k → τ.1 11 0 29 z = σ.1 11 0 29 (z + 322)) → (∀ z, k ≤ z → τ.1 11 0 29 z = σ.1 11 0 29 z) → x1 = nI k →
      wp N m (e, 0) TX11_remembers 12 [some (.inr (.inr (11, 0, 0))), some (.inl x1)] [] τ Q := by
  intro r
  induction r with
  | zero =>
    intro k m τ x1 hr hm ho h1 h2 e1
    obtain ⟨n, rfl⟩ := il_ex (K := 6) (m := m) (by omega)
    obtain rfl : k = 2898 := by omega
    have g : (Int16.ofInt 322).toInt32 * τ.1 11 0 30 0 = nI 2898 := by rw [off_1 ho (by decide), h30, i322, pk_mul]
    refine b_ge e1 g (by omega) (by omega) (fun _ => ?_) (fun q => by omega)
    exact K _ τ _ (by omega) ho h1
  | succ r ih =>
    intro k m τ x1 hr hm ho h1 h2 e1
    obtain ⟨n, rfl⟩ := il_ex (K := 18) (m := m) (by omega)
    have g : (Int16.ofInt 322).toInt32 * τ.1 11 0 30 0 = nI 2898 := by rw [off_1 ho (by decide), h30, i322, pk_mul]
    have g2 : x1 + (Int16.ofInt 322).toInt32 = nI (k + 322) := by rw [e1, i322, nI_add]
    refine b_ge e1 g (by omega) (by omega) (fun q => by omega) (fun _ => ?_)
    refine ⟨il_in g2 (by omega) (by omega), il_in e1 (by omega) (by omega), ?_⟩
    rw [il_cl e1 (by omega), il_cl g2 (by omega)]
    refine ⟨trivial, ih (k + 1) _ _ _ (by omega) (by omega) (off_uI ho (by decide)) (fun z hz => ?_) (fun z hz => ?_) (il_inc e1)⟩
    · rw [uI_if]
      by_cases q : z = k
      · rw [if_pos q, q]; exact h2 (k + 322) (by omega)
      · rw [if_neg q]; exact h1 z (by omega)
    · rw [uI_if, if_neg (by omega)]; exact h2 z (by omega)
set_option maxRecDepth 100000 in
theorem r2_loop {a : Nat} (ha : a ≤ 9) (h30 : σ.1 11 0 30 0 = nI a) (hQ : ∀ τ, off [(11, 0, 29), (11, 0, 30)] σ τ → (∀ z, z < 322 * a → τ.1 11 0 29 z = σ.1 11 0 29 z) → (∀ z, z < 322 → τ.1 11 0 29 (322 * a + z) = σ.1 11 0 27 z) → τ.1 11 0 30 0 = nI (a + 1) → Q none τ) :
    ∀ (r k m : Nat) (τ : ST) (x1 : Int32), k + r = 322 → 20 * r + 30 ≤ m → off [(11, 0, 29)] σ τ → (∀ z, z < 322 * a → τ.1 11 0 29 z = σ.1 11 0 29 z) → (∀ z, z < k → τ.1 11 0 29 (322 * a + z) = σ.1 11 0 27 z) → x1 = nI k →
      wp N m (e, 0) TX11_remembers 32 [some (.inr (.inr (11, 0, 0))), some (.inl x1)] [] τ Q := by
  intro r
  induction r with
  | zero =>
    intro k m τ x1 hr hm ho h1 h2 e1
    obtain ⟨n, rfl⟩ := il_ex (K := 15) (m := m) (by omega)
    obtain rfl : k = 322 := by omega
    refine b_ge e1 i322 (by omega) (by omega) (fun _ => ?_) (fun q => by omega)
    refine hQ _ (off_uI (off_in ho (by decide)) (by decide)) (fun z hz => ?_) (fun z hz => ?_) ?_
    · rw [uI_nr _ _ _ _ _ _ (by decide)]; exact h1 z hz
    · rw [uI_nr _ _ _ _ _ _ (by decide)]; exact h2 z hz
    · rw [uI_at]
      show τ.1 11 0 30 0 + Int32.ofInt 1 = _
      rw [off_1 ho (by decide)]; exact il_inc h30
  | succ r ih =>
    intro k m τ x1 hr hm ho h1 h2 e1
    obtain ⟨n, rfl⟩ := il_ex (K := 18) (m := m) (by omega)
    have g : (Int16.ofInt 322).toInt32 * τ.1 11 0 30 0 + x1 = nI (322 * a + k) := by rw [off_1 ho (by decide), h30, i322, pk_mul, e1, nI_add]
    refine b_ge e1 i322 (by omega) (by omega) (fun q => by omega) (fun _ => ?_)
    refine ⟨il_in e1 (by omega) (by omega), il_in g (by omega) (by omega), ?_⟩
    rw [il_cl g (by omega), il_cl e1 (by omega)]
    refine ⟨trivial, ih (k + 1) _ _ _ (by omega) (by omega) (off_uI ho (by decide)) (fun z hz => ?_) (fun z hz => ?_) (il_inc e1)⟩
    · rw [uI_if, if_neg (by omega)]; exact h1 z hz
    · rw [uI_if]
      by_cases q : z = k
      · rw [if_pos (by omega), q]
        show τ.1 11 0 27 k = _
        rw [off_1 ho (by decide)]
      · rw [if_neg (by omega)]; exact h2 z (by omega)
set_option maxRecDepth 100000 in
/-- the reference's remembers -/
theorem c_remembers (hS : vSP S) (hE : vNE S E) (cR : mRU (σ.1 11 0 27) S R) (cE : mNE (σ.1 11 0 27) E) {c : Nat} {P : PAc} (hP : vAC S c P) (cA : mAC σ S c P) (hm : 70000 ≤ m) (hQ : ∀ τ, off [(11, 0, 29), (11, 0, 30)] σ τ → mAC τ S (min (c + 1) 10) (pcI R E P) → Q none τ) :
    wp N m (e, 0) TX11_remembers 0 [some (.inr (.inr (11, 0, 0))), none] [] σ Q := by
  have hc := hP.1
  obtain ⟨a1, a2⟩ := cA
  obtain ⟨n, rfl⟩ := il_ex (K := 6) (m := m) (by omega)
  refine b_ne a1 i10 (by omega) (by omega) (fun q => ?_) (fun q => ?_)
  · refine adv 2 60000 (by omega) (fun n2 hn2 => ?_)
    refine r2_loop (a := c) (by omega) a1 ?_ 322 0 n2 σ _ (by omega) (by omega) (off_rf _ _) (fun z hz => rfl) (fun z hz => absurd hz (Nat.not_lt_zero _)) oi_0
    intro τ ho h1 h2 h3
    refine hQ τ ho ⟨by rw [h3, show min (c + 1) 10 = c + 1 by omega], fun i hi => ?_⟩
    rw [show min (c + 1) 10 = c + 1 by omega] at hi ⊢
    by_cases w : i = 0
    · rw [show pcI R E P i = (R, E) from if_pos w, show c + 1 - 1 - i = c by omega]
      exact ⟨mRU_e2 hS h2 cR, mNE_eq hS hE h2 cE⟩
    · rw [show pcI R E P i = P (i - 1) from if_neg w, show c + 1 - 1 - i = c - 1 - (i - 1) by omega]
      have := a2 (i - 1) (by omega)
      have hv := hP.2 (i - 1) (by omega)
      exact ⟨mRU_e2 hS (fun z hz => h1 _ (by omega)) this.1, mNE_eq hS hv.2 (fun z hz => h1 _ (by omega)) this.2⟩
  · subst q
    obtain ⟨n, rfl⟩ := il_ex (K := 2) (m := n) (by omega)
    have g9 : (uI σ 11 0 30 0 (σ.1 11 0 30 0 - Int32.ofInt 1)).1 11 0 30 0 = nI 9 := by rw [uI_at]; exact il_sub1 a1
    refine adv 8 69000 (by omega) (fun n2 hn2 => ?_)
    refine r1_loop (M := 8000) (σ := uI σ 11 0 30 0 (σ.1 11 0 30 0 - Int32.ofInt 1)) g9 ?_ 2898 0 n2 _ _ (by omega) (by omega) (off_rf _ _) (fun z hz => absurd hz (Nat.not_lt_zero _)) (fun z hz => rfl) oi_0
    intro m3 τ1 x1 hm3 ho1 s1
    refine adv 2 7000 (by omega) (fun n4 hn4 => ?_)
    have f9 : τ1.1 11 0 30 0 = nI 9 := by rw [off_1 ho1 (by decide)]; exact g9
    refine r2_loop (a := 9) (by omega) f9 ?_ 322 0 n4 τ1 _ (by omega) (by omega) (off_rf _ _) (fun z hz => rfl) (fun z hz => absurd hz (Nat.not_lt_zero _)) oi_0
    intro τ ho h1 h2 h3
    have s1' : ∀ z, z < 2898 → τ1.1 11 0 29 z = σ.1 11 0 29 (z + 322) := fun z hz => by rw [s1 z hz, uI_nr _ _ _ _ _ _ (by decide)]
    have n27 : ∀ z, τ1.1 11 0 27 z = σ.1 11 0 27 z := fun z => by rw [off_1 ho1 (by decide), uI_nr _ _ _ _ _ _ (by decide)]
    refine hQ τ (off_tr (off_tr (off_uI (off_rf _ _) (by decide)) (off_in ho1 (by decide))) ho) ⟨by rw [h3]; rfl, fun i hi => ?_⟩
    rw [show min (10 + 1) 10 = 10 by omega] at hi ⊢
    by_cases w : i = 0
    · rw [show pcI R E P i = (R, E) from if_pos w, show 10 - 1 - i = 9 by omega]
      exact ⟨mRU_e2 hS (fun z hz => by rw [h2 z hz, n27]) cR, mNE_eq hS hE (fun z hz => by rw [h2 z hz, n27]) cE⟩
    · rw [show pcI R E P i = P (i - 1) from if_neg w]
      have := a2 (i - 1) (by omega)
      have hv := hP.2 (i - 1) (by omega)
      have key : ∀ z, z < 322 → τ.1 11 0 29 (322 * (10 - 1 - i) + z) = σ.1 11 0 29 (322 * (10 - 1 - (i - 1)) + z) := by
        intro z hz
        rw [h1 _ (by omega), s1' _ (by omega)]
        exact congrArg _ (by omega)
      exact ⟨mRU_e2 hS key this.1, mNE_eq hS hv.2 key this.2⟩
set_option maxRecDepth 100000 in
theorem ac_loop (hQ : ∀ τ, off [(11, 0, 27)] σ τ → (∀ z, z < 322 → τ.1 11 0 27 z = σ.1 11 0 28 z) → Q none τ) :
    ∀ (r k m : Nat) (τ : ST) (x1 : Int32), k + r = 322 → 20 * r + 30 ≤ m → off [(11, 0, 27)] σ τ → (∀ z, z < k → τ.1 11 0 27 z = σ.1 11 0 28 z) → x1 = nI k →
      wp N m (e, 0) TX11_acted 4 [some (.inr (.inr (11, 0, 0))), some (.inl x1)] [] τ Q := by
  intro r
  induction r with
  | zero =>
    intro k m τ x1 hr hm ho h1 e1
    obtain ⟨n, rfl⟩ := il_ex (K := 10) (m := m) (by omega)
    obtain rfl : k = 322 := by omega
    refine b_ge e1 i322 (by omega) (by omega) (fun _ => ?_) (fun q => by omega)
    exact hQ τ ho h1
  | succ r ih =>
    intro k m τ x1 hr hm ho h1 e1
    obtain ⟨n, rfl⟩ := il_ex (K := 18) (m := m) (by omega)
    refine b_ge e1 i322 (by omega) (by omega) (fun q => by omega) (fun _ => ?_)
    refine ⟨il_in e1 (by omega) (by omega), il_in e1 (by omega) (by omega), ?_⟩
    rw [il_cl e1 (by omega)]
    refine ⟨trivial, ih (k + 1) _ _ _ (by omega) (by omega) (off_uI ho (by decide)) (fun z hz => ?_) (il_inc e1)⟩
    rw [uI_if]
    by_cases q : z = k
    · rw [if_pos q, q]
      show τ.1 11 0 28 k = _
      rw [off_1 ho (by decide)]
    · rw [if_neg q]; exact h1 z (by omega)
set_option maxRecDepth 100000 in
/-- the reference's acted -/
theorem c_acted {R2 : RUc} {E2 : NEc} (hS : vSP S) (hE : vNE S E) (cR : mRU (σ.1 11 0 27) S R) (cE : mNE (σ.1 11 0 27) E) (hE2 : vNE S E2) (cR2 : mRU (σ.1 11 0 28) S R2) (cE2 : mNE (σ.1 11 0 28) E2) {c : Nat} {P : PAc} (hP : vAC S c P) (cA : mAC σ S c P) (hm : 80000 ≤ m) (hQ : ∀ τ, off [(11, 0, 29), (11, 0, 30), (11, 0, 27)] σ τ → mRU (τ.1 11 0 27) S R2 → mNE (τ.1 11 0 27) E2 → mAC τ S (min (c + 1) 10) (pcI R E P) → Q none τ) :
    wp N m (e + 1, 0) TX11_acted 0 [some (.inr (.inr (11, 0, 0))), none] [] σ Q := by
  obtain ⟨n, rfl⟩ := il_ex (K := 5) (m := m) (by omega)
  refine ⟨trivial, c_remembers hS hE cR cE hP cA (by omega) ?_⟩
  intro τ ho hA
  refine adv 2 70000 (by omega) (fun n2 hn2 => ?_)
  refine ac_loop (σ := τ) ?_ 322 0 n2 τ _ (by omega) (by omega) (off_rf _ _) (fun z hz => absurd hz (Nat.not_lt_zero _)) oi_0
  intro τ2 ho2 h2
  have g : ∀ z, z < 322 → τ2.1 11 0 27 z = σ.1 11 0 28 z := fun z hz => by rw [h2 z hz, off_1 ho (by decide)]
  refine hQ τ2 (off_tr (off_in ho (by decide)) (off_in ho2 (by decide))) (mRU_e2 hS g cR2) (mNE_eq hS hE2 g cE2) ⟨by rw [off_1 ho2 (by decide)]; exact hA.1, fun i hi => ?_⟩
  rw [(ho2 11 0 29 (by decide)).1]
  exact hA.2 i hi
set_option maxRecDepth 100000 in
/-- undo of the reference: the loop -/
theorem ud_loop {a : Nat} (ha : a ≤ 9) (h30 : σ.1 11 0 30 0 = nI a) (hQ : ∀ τ, off [(11, 0, 27)] σ τ → (∀ z, z < 322 → τ.1 11 0 27 z = σ.1 11 0 29 (322 * a + z)) → Q (some (.inl (nI a))) (uI (uI τ 11 0 2 0 0) 11 0 3 0 (-1))) :
    ∀ (r k m : Nat) (τ : ST) (x1 : Int32), k + r = 322 → 20 * r + 60 ≤ m → off [(11, 0, 27)] σ τ → (∀ z, z < k → τ.1 11 0 27 z = σ.1 11 0 29 (322 * a + z)) → x1 = nI k →
      wp N m (e + 1, 0) TX11_undo 25 [some (.inr (.inr (11, 0, 0))), some (.inl x1)] [] τ Q := by
  intro r
  induction r with
  | zero =>
    intro k m τ x1 hr hm ho h1 e1
    obtain ⟨n, rfl⟩ := il_ex (K := 12) (m := m) (by omega)
    obtain rfl : k = 322 := by omega
    refine b_ge e1 i322 (by omega) (by omega) (fun _ => ?_) (fun q => by omega)
    refine ⟨trivial, c_good (by omega) ?_⟩
    refine ⟨Or.inl rfl, ?_⟩
    rw [show τ.1 11 0 30 0 = nI a by rw [off_1 ho (by decide)]; exact h30]
    exact hQ τ ho h1
  | succ r ih =>
    intro k m τ x1 hr hm ho h1 e1
    obtain ⟨n, rfl⟩ := il_ex (K := 18) (m := m) (by omega)
    have g : (Int16.ofInt 322).toInt32 * τ.1 11 0 30 0 + x1 = nI (322 * a + k) := by rw [off_1 ho (by decide), h30, i322, pk_mul, e1, nI_add]
    refine b_ge e1 i322 (by omega) (by omega) (fun q => by omega) (fun _ => ?_)
    refine ⟨il_in g (by omega) (by omega), il_in e1 (by omega) (by omega), ?_⟩
    rw [il_cl g (by omega), il_cl e1 (by omega)]
    refine ⟨trivial, ih (k + 1) _ _ _ (by omega) (by omega) (off_uI ho (by decide)) (fun z hz => ?_) (il_inc e1)⟩
    rw [uI_if]
    by_cases q : z = k
    · rw [if_pos q, q]
      show τ.1 11 0 29 (322 * a + k) = _
      rw [off_1 ho (by decide)]
    · rw [if_neg q]; exact h1 z (by omega)
end AM
