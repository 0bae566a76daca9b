/-! a HEARING is joined to a row of the reference -/
section JN
variable {N e jv : Nat} {σ : ST} {Q : POST} {S : SPc} {R : RUc} {E : NEc}
abbrev jnV (jv : Nat) (x2 x3 x4 x5 x6 x7 : Int32) (o8 : Option AV) : List (Option AV) := [some (.inr (.inr (11, 0, 0))), some (.inr (.inr (11, 0, jv))), some (.inl x2), some (.inl x3), some (.inl x4), some (.inl x5), some (.inl x6), some (.inl x7), o8]
set_option maxRecDepth 100000 in
theorem jn_in (a : arO N 11 jv = some (1, 322)) (hj : jv ≠ 36) (cE : mNE (σ.1 11 0 jv) E) {s to p M : Nat} (hM : 200 ≤ M) (hs : p ≠ 2 → s < E.ns) (hns : E.ns ≤ 60) (hto : to < 60) (hp : p ≤ 2) {x2 x3 x4 x5 x6 x7 : Int32} (e5 : x5 = nI s) (e6 : x6 = nI to) (e7 : x7 = nI p)
    (K : ∀ (m : Nat) (τ : ST) (x8 : Int32), M ≤ m → off [(11, 0, 36)] σ τ → (∀ t z, z < 5 → τ.1 11 0 36 (5 * t + z) = if t = to then (if p = 2 then -1 else oI (-1) (E.th s z)) else σ.1 11 0 36 (5 * t + z)) → wp N m (e + 1, 0) TX11_joins 43 (jnV jv x2 x3 x4 x5 x6 x7 (some (.inl x8))) [] τ Q) :
    ∀ (r g m : Nat) (τ : ST) (x8 : Int32), g + r = 5 → 100 * r + 20 + M ≤ m → off [(11, 0, 36)] σ τ → (∀ t z, z < 5 → τ.1 11 0 36 (5 * t + z) = if t = to ∧ z < g then (if p = 2 then -1 else oI (-1) (E.th s z)) else σ.1 11 0 36 (5 * t + z)) → x8 = nI g →
      wp N m (e + 1, 0) TX11_joins 21 (jnV jv x2 x3 x4 x5 x6 x7 (some (.inl x8))) [] τ Q := by
  intro r
  induction r with
  | zero =>
    intro g m τ x8 hr hm ho h1 e8
    obtain ⟨n, rfl⟩ := il_ex (K := 3) (m := m) (by omega)
    obtain rfl : g = 5 := by omega
    refine b_ge e8 i5 (by omega) (by omega) (fun _ => ?_) (fun q => by omega)
    refine K n τ x8 (by omega) ho (fun t z hz => ?_)
    rw [h1 t z hz]
    by_cases q : t = to
    · rw [if_pos ⟨q, hz⟩, if_pos q]
    · rw [if_neg (fun y => q y.1), if_neg q]
  | succ r ih =>
    intro g m τ x8 hr hm ho h1 e8
    obtain ⟨n, rfl⟩ := il_ex (K := 60) (m := m) (by omega)
    have g1 : Int32.ofInt 5 * x6 + x8 = nI (5 * to + g) := by rw [e6, e8, i5, pk_mul, nI_add]
    have fin : ∀ (y : Int32) (n' : Nat), 100 * r + 30 + M ≤ n' → (y = if p = 2 then -1 else oI (-1) (E.th s g)) → wp N n' (e + 1, 0) TX11_joins 40 (jnV jv x2 x3 x4 x5 x6 x7 (some (.inl x8))) [.inl y, .inl (Int32.ofInt 5 * x6 + x8), .inr (.inr (11, 0, 36))] τ Q := by
      intro y n' hn' hy
      obtain ⟨n2, rfl⟩ := il_ex (K := 10) (m := n') (by omega)
      refine ⟨il_in g1 (by omega) (by omega), trivial, ih (g + 1) _ _ _ (by omega) (by omega) (off_uI ho (by simp)) ?_ (il_inc e8)⟩
      intro t z hz
      rw [il_cl g1 (by omega)]
      by_cases q : 5 * t + z = 5 * to + g
      · rw [q, uI_at, if_pos (show t = to ∧ z < g + 1 from ⟨by omega, by omega⟩), show z = g by omega]; exact hy
      · rw [uI_ne _ _ _ _ _ _ q, h1 t z hz]
        by_cases q2 : t = to ∧ z < g
        · rw [if_pos q2, if_pos (show t = to ∧ z < g + 1 from ⟨q2.1, by omega⟩)]
        · rw [if_neg q2, if_neg (show ¬ (t = to ∧ z < g + 1) from fun y => q2 ⟨y.1, by have := y.2; have := y.1; omega⟩)]
    refine b_ge e8 i5 (by omega) (by omega) (fun q => by omega) (fun _ => ?_)
    refine b_ne e7 i2 (by omega) (by omega) (fun z => ?_) (fun z => ?_)
    · have hs' := hs z
      refine ⟨trivial, c_there a e5 e8 (by omega) (by omega) (by omega) ?_⟩
      have cE' : mNE (τ.1 11 0 jv) E := mNE_off ho (by simp; omega) cE
      rw [cE'.2.2.2 s hs' g (by omega)]
      exact fin _ _ (by omega) (by rw [if_neg z])
    · exact ⟨trivial, fin _ _ (by omega) (by rw [if_pos z, im1])⟩
theorem uI_if (σ : ST) (c k j i : Nat) (x : Int32) (i' : Nat) : (uI σ c k j i x).1 c k j i' = if i' = i then x else σ.1 c k j i' := by rw [uI_row]; rfl
set_option maxRecDepth 100000 in
theorem jn_out (a : arO N 11 jv = some (1, 322)) (hj : jv ≠ 36) (cE : mNE (σ.1 11 0 jv) E) {h M : Nat} (hM : 1000 ≤ M) (hh5 : h < 5) (hns : E.ns ≤ 60) (hcn : S.cn h ≤ 12) (hT60 : wayT S R E h ≤ 60) (hthn : ∀ s, s < E.ns → E.th s h = none) (ht : ∀ i' s', i' ≤ S.cn h → s' ≤ E.ns → tbm S R E h (σ.1 11 0 34) (σ.1 11 0 35) i' s') {x2 x3 : Int32} (e2 : x2 = nI h)
    (K : ∀ (m : Nat) (τ : ST) (x4 x5 x6 x7 : Int32) (o8 : Option AV), M ≤ m → off [(11, 0, 36)] σ τ → (∀ t z, t < wayT S R E h → z < 5 → τ.1 11 0 36 (5 * t + z) = oI (-1) (thJ S R E h t z)) → x6 = nI (wayT S R E h) → wp N m (e + 1, 0) TX11_joins 86 (jnV jv x2 x3 x4 x5 x6 x7 o8) [] τ Q) :
    ∀ (r k m : Nat) (τ : ST) (x4 x5 x6 x7 : Int32) (o8 : Option AV), k + r = wayT S R E h → 1000 * r + 100 + M ≤ m → off [(11, 0, 36)] σ τ → (∀ t z, t < k → z < 5 → τ.1 11 0 36 (5 * t + z) = oI (-1) (thJ S R E h t z)) → x4 = nI (wkI S R E h k) → x5 = nI (wkS S R E h k) → x6 = nI k → (x7 = if k = wayT S R E h then -1 else nI (stK S R E h k)) →
      wp N m (e + 1, 0) TX11_joins 16 (jnV jv x2 x3 x4 x5 x6 x7 o8) [] τ Q := by
  intro r
  induction r with
  | zero =>
    intro k m τ x4 x5 x6 x7 o8 hr hm ho h1 e4 e5 e6 e7
    obtain ⟨n, rfl⟩ := il_ex (K := 3) (m := m) (by omega)
    have hk : k = wayT S R E h := by omega
    rw [if_pos hk] at e7
    refine ⟨fun _ => ?_, fun q => absurd (show x7 = Int32.ofInt (-1) by rw [e7, im1]) q⟩
    exact K n τ x4 x5 x6 x7 o8 (by omega) ho (fun t z ht' hz => h1 t z (by omega) hz) (by rw [e6, hk])
  | succ r ih =>
    intro k m τ x4 x5 x6 x7 o8 hr hm ho h1 e4 e5 e6 e7
    obtain ⟨n, rfl⟩ := il_ex (K := 5) (m := m) (by omega)
    have hk : k < wayT S R E h := by omega
    rw [if_neg (by omega)] at e7
    have hok := wk_ok (S := S) (R := R) (E := E) (h := h) (k := k) hk
    have hle := wk_le (S := S) (R := R) (E := E) (h := h) (k := k) (by omega)
    have hle1 := wk_le (S := S) (R := R) (E := E) (h := h) (k := k + 1) (by omega)
    have hle2 : wkI S R E h (k + 1) ≤ S.cn h ∧ wkS S R E h (k + 1) ≤ E.ns := hle1
    have hp2 : stK S R E h k ≤ 2 := by omega
    have hI := wkI_s (S := S) (R := R) (E := E) (h := h) k
    have hSs := wkS_s (S := S) (R := R) (E := E) (h := h) k
    refine ⟨fun q => absurd (show nI (stK S R E h k) = (-1 : Int32) by rw [← e7, ← im1]; exact q) (nI_m1 (by omega)), fun _ => ?_⟩
    have cE' : mNE (τ.1 11 0 jv) E := mNE_off ho (by simp; omega) cE
    refine jn_in a hj cE' (M := 1000 * r + 400 + M) (by omega) (fun z => by omega) hns (by omega) hp2 e5 e6 e7 ?_ 5 0 n τ _ (by omega) (by omega) (off_rf _ _) (fun t z hz => by rw [if_neg (by omega)]) oi_0
    intro m1 τ1 x8 hm1 ho1 r1
    obtain ⟨n1, rfl⟩ := il_ex (K := 100) (m := m1) (by omega)
    have g1 : Int32.ofInt 5 * x6 + x2 = nI (5 * k + h) := by rw [e6, e2, i5, pk_mul, nI_add]
    have body : ∀ (y : Int32) (n' : Nat), 1000 * r + 200 + M ≤ n' → (y = if stK S R E h k = 1 then -1 else nI (wkI S R E h k)) → wp N n' (e + 1, 0) TX11_joins 56 (jnV jv x2 x3 x4 x5 x6 x7 (some (.inl x8))) [.inl y, .inl (Int32.ofInt 5 * x6 + x2), .inr (.inr (11, 0, 36))] τ1 Q := by
      intro y n' hn' hy
      obtain ⟨n2, rfl⟩ := il_ex (K := 60) (m := n') (by omega)
      refine ⟨il_in g1 (by omega) (by omega), ?_⟩
      have ho2 : off [(11, 0, 36)] σ (uI τ1 11 0 36 (Int32.ofInt 5 * x6 + x2).toNatClampNeg y) := off_uI (off_tr ho ho1) (by simp)
      have rows : ∀ t z, t < k + 1 → z < 5 → (uI τ1 11 0 36 (Int32.ofInt 5 * x6 + x2).toNatClampNeg y).1 11 0 36 (5 * t + z) = oI (-1) (thJ S R E h t z) := by
        intro t z ht' hz
        rw [il_cl g1 (by omega), uI_if]
        by_cases q : 5 * t + z = 5 * k + h
        · have q1 : t = k := by omega
          have q2 : z = h := by omega
          rw [if_pos q, q1, q2, hy]
          unfold thJ
          rw [if_pos rfl]
          by_cases q3 : stK S R E h k = 1
          · rw [if_pos q3, if_pos q3]; rfl
          · rw [if_neg q3, if_neg q3]; rfl
        · rw [if_neg q, r1 t z hz]
          by_cases q1 : t = k
          · have q2 : z ≠ h := by omega
            rw [if_pos q1, q1]
            unfold thJ
            rw [if_neg q2]
            by_cases q3 : stK S R E h k = 2
            · rw [if_pos q3, if_pos q3]; rfl
            · rw [if_neg q3, if_neg q3]
          · rw [if_neg q1]
            exact h1 t z (by omega) hz
      generalize uI τ1 11 0 36 (Int32.ofInt 5 * x6 + x2).toNatClampNeg y = τ2 at ho2 rows ⊢
      have tail : ∀ (y4 w : Int32) (n3 : Nat), 1000 * r + 120 + M ≤ n3 → y4 = nI (wkI S R E h (k + 1)) → x5 + w = nI (wkS S R E h (k + 1)) → wp N n3 (e + 1, 0) TX11_joins 73 (jnV jv x2 x3 y4 x5 x6 x7 (some (.inl x8))) [.inl w, .inl x5] τ2 Q := by
        intro y4 w n3 hn3 g4 g5
        obtain ⟨n4, rfl⟩ := il_ex (K := 15) (m := n3) (by omega)
        have gi : (Int8.ofInt 61).toInt32 * y4 + (x5 + w) = nI (61 * wkI S R E h (k + 1) + wkS S R E h (k + 1)) := by rw [g4, g5, i61, pk_mul, nI_add]
        refine ⟨il_in gi (by omega) (by omega), trivial, ih (k + 1) _ τ2 _ _ _ _ _ (by omega) (by omega) ho2 rows g4 g5 (il_inc e6) ?_⟩
        rw [il_cl gi (by omega), off_1 ho2 (by simp)]
        have := (ht (wkI S R E h (k + 1)) (wkS S R E h (k + 1)) hle1.1 hle1.2).2
        rw [show σ.1 11 0 (34 + 1) (61 * wkI S R E h (k + 1) + wkS S R E h (k + 1)) = σ.1 11 0 35 (61 * wkI S R E h (k + 1) + wkS S R E h (k + 1)) from rfl, this]
        by_cases q : k + 1 = wayT S R E h
        · have he := wk_end (S := S) (R := R) (E := E) (h := h)
          rw [← q] at he
          rw [if_pos q, if_pos ⟨by show (wkp _ _).1 = _; rw [he], by show (wkp _ _).2 = _; rw [he]⟩]
        · rw [if_neg q, if_neg (wk_ne (by omega))]
          rfl
      have mid : ∀ (w : Int32) (n3 : Nat), 1000 * r + 150 + M ≤ n3 → x4 + w = nI (wkI S R E h (k + 1)) → wp N n3 (e + 1, 0) TX11_joins 64 (jnV jv x2 x3 x4 x5 x6 x7 (some (.inl x8))) [.inl w, .inl x4] τ2 Q := by
        intro w n3 hn3 g4
        obtain ⟨n4, rfl⟩ := il_ex (K := 15) (m := n3) (by omega)
        refine b_ne e7 i2 (by omega) (by omega) (fun z => ?_) (fun z => ?_)
        · refine adv 1 (1000 * r + 120 + M) (by omega) (fun n5 hn5 => ?_)
          exact tail _ _ n5 hn5 g4 (by rw [il_inc e5, hSs, if_neg z])
        · exact ⟨trivial, tail _ _ _ (by omega) g4 (by rw [e5, oi_0, nI_add, hSs, if_pos z]; rfl)⟩
      refine b_ne e7 oi_1 (by omega) (by omega) (fun z => ?_) (fun z => ?_)
      · refine adv 1 (1000 * r + 150 + M) (by omega) (fun n5 hn5 => ?_)
        exact mid _ n5 hn5 (by rw [il_inc e4, hI, if_neg z])
      · exact ⟨trivial, mid _ _ (by omega) (by rw [e4, oi_0, nI_add, hI, if_pos z]; rfl)⟩
    refine b_ne e7 oi_1 (by omega) (by omega) (fun z => ?_) (fun z => ?_)
    · refine adv 1 (1000 * r + 200 + M) (by omega) (fun n5 hn5 => ?_)
      exact body _ n5 hn5 (by rw [if_neg z]; exact e4)
    · exact ⟨trivial, body _ _ (by omega) (by rw [if_pos z, im1])⟩
theorem i10 : (Int8.ofInt 10).toInt32 = nI 10 := by decide
theorem i11 : (Int8.ofInt 11).toInt32 = nI 11 := by decide
theorem i16 : (Int8.ofInt 16).toInt32 = nI 16 := by decide
set_option maxRecDepth 100000 in
theorem jn_cp (a : arO N 11 jv = some (1, 322)) (hj : jv ≠ 36) {T M : Nat} (hT : T ≤ 60) {x2 x3 x4 x5 x6 : Int32} {o8 : Option AV} (e6 : x6 = nI T)
    (K : ∀ (m : Nat) (τ : ST) (x7 : Int32), M ≤ m → off [(11, 0, jv)] σ τ → (∀ z, z < 22 → τ.1 11 0 jv z = σ.1 11 0 jv z) → (∀ z, z < 5 * T → τ.1 11 0 jv (22 + z) = σ.1 11 0 36 z) → wp N m (e + 1, 0) TX11_joins 104 (jnV jv x2 x3 x4 x5 x6 x7 o8) [] τ Q) :
    ∀ (r c m : Nat) (τ : ST) (x7 : Int32), c + r = 5 * T → 30 * r + 20 + M ≤ m → off [(11, 0, jv)] σ τ → (∀ z, z < 22 → τ.1 11 0 jv z = σ.1 11 0 jv z) → (∀ z, z < c → τ.1 11 0 jv (22 + z) = σ.1 11 0 36 z) → x7 = nI c →
      wp N m (e + 1, 0) TX11_joins 88 (jnV jv x2 x3 x4 x5 x6 x7 o8) [] τ Q := by
  have g5 : Int32.ofInt 5 * x6 = nI (5 * T) := by rw [e6, i5, pk_mul]
  intro r
  induction r with
  | zero =>
    intro c m τ x7 hr hm ho h1 h2 e7
    obtain ⟨n, rfl⟩ := il_ex (K := 5) (m := m) (by omega)
    refine b_ge e7 g5 (by omega) (by omega) (fun _ => ?_) (fun q => by omega)
    exact K n τ x7 (by omega) ho h1 (fun z hz => h2 z (by omega))
  | succ r ih =>
    intro c m τ x7 hr hm ho h1 h2 e7
    obtain ⟨n, rfl⟩ := il_ex (K := 20) (m := m) (by omega)
    have g7 : (Int8.ofInt 22).toInt32 + x7 = nI (22 + c) := by rw [e7, i22, nI_add]
    refine b_ge e7 g5 (by omega) (by omega) (fun q => by omega) (fun _ => ?_)
    refine ⟨il_in e7 (by omega) (by omega), ?_⟩
    refine arr_of a ⟨il_in g7 (by omega) (by omega), trivial, ih (c + 1) _ _ _ (by omega) (by omega) (off_uI ho (by simp)) ?_ ?_ (il_inc e7)⟩
    · intro z hz
      rw [il_cl g7 (by omega), uI_if, if_neg (by omega)]
      exact h1 z hz
    · intro z hz
      rw [il_cl g7 (by omega), uI_if]
      by_cases q : z = c
      · rw [if_pos (by omega), il_cl e7 (by omega), q]
        exact off_1 ho (by simp; omega) c
      · rw [if_neg (by omega)]
        exact h2 z (by omega)
abbrev jOff (jv : Nat) : List RF := [(11, 0, 32), (11, 0, 33), (11, 0, 31), (11, 0, 34), (11, 0, 35), (11, 0, 36), (11, 0, jv)]
set_option maxRecDepth 100000 in
/-- the reference's joins -/
theorem c_joins (a : arO N 11 jv = some (1, 322)) (hj : (11, 0, jv) ∉ wOff) (hj36 : jv ≠ 36) (hS : vSP S) (hR : vRU S R) (hE : vNE S E) (cS : mSP σ S) (cR : mRU (σ.1 11 0 jv) S R) (cE : mNE (σ.1 11 0 jv) E) {h m : Nat} (hh : h < S.nh) (hn : plc E h = none) {x2 : Int32} (e2 : x2 = nI h) (hm : 2600000 ≤ m)
    (hQ : ∀ τ, off (jOff jv) σ τ → mRU (τ.1 11 0 jv) S R → mNE (τ.1 11 0 jv) (jnE S R E h) → Q (some (.inl (nI (dwS S R E h (S.cn h) E.ns).1))) τ) :
    wp N m (e + 5, 0) TX11_joins 0 [some (.inr (.inr (11, 0, 0))), some (.inr (.inr (11, 0, jv))), some (.inl x2), none, none, none, none, none, none] [] σ Q := by
  have hns := vNE_ns hS hE
  have hcn := hS.2.1 h hh
  have hnh := hS.1
  have hvj := vNE_jn (R := R) hS hR hE hh hn
  have hT60 : wayT S R E h ≤ 60 := vNE_ns hS hvj
  have hnj : E.nj + 1 ≤ S.nh := hvj.1
  have hthn : ∀ s, s < E.ns → E.th s h = none := by
    intro s hs
    cases q : E.th s h with
    | none => rfl
    | some i => have := (hE.2.2.2.2.1 s h i hs q).2.2; rw [hn] at this; cases this
  have hTp : 0 < wayT S R E h := by
    apply Nat.pos_of_ne_zero
    intro q
    have he := wk_end (S := S) (R := R) (E := E) (h := h)
    rw [q] at he
    have : S.cn h = 0 := by have := congrArg Prod.fst he; exact this.symm
    omega
  obtain ⟨n, rfl⟩ := il_ex (K := 100) (m := m) (by omega)
  refine ⟨trivial, c_ways a hj hS hR hE cS cR cE hh e2 (by omega) ?_⟩
  intro τ1 ho1 ht
  refine ⟨il_in oi_0 (by omega) (by omega), ?_⟩
  refine adv 1 2590000 (by omega) (fun n1 hn1 => ?_)
  have e7 : τ1.1 11 0 35 (Int32.ofInt 0).toNatClampNeg = if 0 = wayT S R E h then -1 else nI (stK S R E h 0) := by
    rw [il_cl oi_0 (by omega), if_neg (by omega)]
    have := (ht 0 0 (by omega) (by omega)).2
    rw [if_neg (by omega)] at this
    exact this
  refine jn_out (e := e + 4) a hj36 (mNE_off ho1 hj cE) (M := 2500000) (by omega) (by omega) hns (by omega) hT60 hthn ht e2 ?_ (wayT S R E h) 0 n1 τ1 _ _ _ _ _ (by omega) (by omega) (off_rf _ _) (fun t z ht' hz => by omega) oi_0 oi_0 oi_0 e7
  intro m2 τ2 x4 x5 x6 x7 o8 hm2 ho2 rows e6
  refine adv 2 2490000 (by omega) (fun n2 hn2 => ?_)
  refine jn_cp (e := e + 4) a hj36 (M := 1000) hT60 e6 ?_ (5 * wayT S R E h) 0 n2 τ2 _ (by omega) (by omega) (off_rf _ _) (fun z hz => rfl) (fun z hz => by omega) oi_0
  intro m3 τ3 x7' hm3 ho3 l1 l2
  obtain ⟨n3, rfl⟩ := il_ex (K := 100) (m := m3) (by omega)
  have cR2 : mRU (τ2.1 11 0 jv) S R := mRU_off ho2 (by simp; omega) (mRU_off ho1 hj cR)
  have cE2 : mNE (τ2.1 11 0 jv) E := mNE_off ho2 (by simp; omega) (mNE_off ho1 hj cE)
  have v10 : τ3.1 11 0 jv 10 = nI E.nj := by rw [l1 10 (by omega)]; exact cE2.1
  refine arr_of a ⟨il_in i21 (by omega) (by omega), ?_⟩
  rw [il_cl i21 (by omega)]
  have w10 : (uI τ3 11 0 jv 21 x6).1 11 0 jv (Int8.ofInt 10).toInt32.toNatClampNeg = nI E.nj := by rw [il_cl i10 (by omega), uI_if, if_neg (by omega)]; exact v10
  refine arr_of a ⟨il_in i10 (by omega) (by omega), ?_⟩
  have g16 : (Int8.ofInt 16).toInt32 + (uI τ3 11 0 jv 21 x6).1 11 0 jv (Int8.ofInt 10).toInt32.toNatClampNeg = nI (16 + E.nj) := by rw [w10, i16, nI_add]
  refine arr_of a ⟨il_in g16 (by omega) (by omega), ?_⟩
  rw [il_cl g16 (by omega)]
  have w10b : (uI (uI τ3 11 0 jv 21 x6) 11 0 jv (16 + E.nj) (nI (dwS S R E h (S.cn h) E.ns).1)).1 11 0 jv (Int8.ofInt 10).toInt32.toNatClampNeg = nI E.nj := by rw [il_cl i10 (by omega), uI_if, if_neg (by omega), uI_if, if_neg (by omega)]; exact v10
  refine arr_of a ⟨il_in i10 (by omega) (by omega), ?_⟩
  have g11 : (Int8.ofInt 11).toInt32 + (uI (uI τ3 11 0 jv 21 x6) 11 0 jv (16 + E.nj) (nI (dwS S R E h (S.cn h) E.ns).1)).1 11 0 jv (Int8.ofInt 10).toInt32.toNatClampNeg = nI (11 + E.nj) := by rw [w10b, i11, nI_add]
  refine arr_of a ⟨il_in g11 (by omega) (by omega), ?_⟩
  rw [il_cl g11 (by omega)]
  have w10c : (uI (uI (uI τ3 11 0 jv 21 x6) 11 0 jv (16 + E.nj) (nI (dwS S R E h (S.cn h) E.ns).1)) 11 0 jv (11 + E.nj) x2).1 11 0 jv (Int8.ofInt 10).toInt32.toNatClampNeg + Int32.ofInt 1 = nI (E.nj + 1) := by rw [il_cl i10 (by omega), uI_if, if_neg (by omega), uI_if, if_neg (by omega), uI_if, if_neg (by omega)]; exact il_inc v10
  refine arr_of a ⟨il_in i10 (by omega) (by omega), ?_⟩
  refine arr_of a ⟨il_in i10 (by omega) (by omega), Or.inl rfl, ?_⟩
  rw [w10c, il_cl i10 (by omega)]
  have rw1 : ∀ z, (uI (uI (uI (uI τ3 11 0 jv 21 x6) 11 0 jv (16 + E.nj) (nI (dwS S R E h (S.cn h) E.ns).1)) 11 0 jv (11 + E.nj) x2) 11 0 jv 10 (nI (E.nj + 1))).1 11 0 jv z = if z = 10 then nI (E.nj + 1) else if z = 11 + E.nj then x2 else if z = 16 + E.nj then nI (dwS S R E h (S.cn h) E.ns).1 else if z = 21 then x6 else τ3.1 11 0 jv z := by
    intro z
    rw [uI_if, uI_if, uI_if, uI_if]
  refine hQ _ ?_ ?_ ?_
  · refine off_uI (off_uI (off_uI (off_uI (off_tr (off_tr (off_mono ho1 ?_) (off_mono ho2 (by simp))) (off_mono ho3 (by simp))) (by simp)) (by simp)) (by simp)) (by simp)
    intro r hr
    simp only [List.mem_cons, List.not_mem_nil, or_false] at hr ⊢
    rcases hr with rfl | rfl | rfl | rfl | rfl <;> simp
  · obtain ⟨c1, c2, c3, c4, c5, c6⟩ := cR2
    refine ⟨?_, ?_, ?_, ?_, ?_, ?_⟩
    · rw [rw1, if_neg (by omega), if_neg (by omega), if_neg (by omega), if_neg (by omega), l1 0 (by omega)]; exact c1
    · rw [rw1, if_neg (by omega), if_neg (by omega), if_neg (by omega), if_neg (by omega), l1 1 (by omega)]; exact c2
    · rw [rw1, if_neg (by omega), if_neg (by omega), if_neg (by omega), if_neg (by omega), l1 2 (by omega)]; exact c3
    · rw [rw1, if_neg (by omega), if_neg (by omega), if_neg (by omega), if_neg (by omega), l1 3 (by omega)]; exact c4
    · rw [rw1, if_neg (by omega), if_neg (by omega), if_neg (by omega), if_neg (by omega), l1 4 (by omega)]; exact c5
    · intro g hg
      rw [rw1, if_neg (by omega), if_neg (by omega), if_neg (by omega), if_neg (by omega), l1 (5 + g) (by omega)]; exact c6 g hg
  · refine ⟨?_, ?_, ?_, ?_⟩
    · rw [rw1, if_pos rfl]; rfl
    · rw [rw1, if_neg (by omega), if_neg (by omega), if_neg (by omega), if_pos rfl]; exact e6
    · intro p hp
      have hp : p < E.nj + 1 := hp
      refine ⟨?_, ?_⟩
      · rw [rw1]
        show _ = nI (if p = E.nj then h else E.od p)
        by_cases q : p = E.nj
        · rw [if_pos q, if_neg (show ¬ 11 + p = 10 by omega), if_pos (show 11 + p = 11 + E.nj by omega)]; exact e2
        · rw [if_neg q, if_neg (show ¬ 11 + p = 10 by omega), if_neg (show ¬ 11 + p = 11 + E.nj by omega), if_neg (show ¬ 11 + p = 16 + E.nj by omega), if_neg (show ¬ 11 + p = 21 by omega), l1 _ (by omega)]
          exact (cE2.2.2.1 p (by omega)).1
      · rw [rw1]
        show _ = nI (if p = E.nj then (dwS S R E h (S.cn h) E.ns).1 else E.ct p)
        by_cases q : p = E.nj
        · rw [if_pos q, if_neg (show ¬ 16 + p = 10 by omega), if_neg (show ¬ 16 + p = 11 + E.nj by omega), if_pos (show 16 + p = 16 + E.nj by omega)]
        · rw [if_neg q, if_neg (show ¬ 16 + p = 10 by omega), if_neg (show ¬ 16 + p = 11 + E.nj by omega), if_neg (show ¬ 16 + p = 16 + E.nj by omega), if_neg (show ¬ 16 + p = 21 by omega), l1 _ (by omega)]
          exact (cE2.2.2.1 p (by omega)).2
    · intro t ht' g hg
      have ht' : t < wayT S R E h := ht'
      rw [rw1, if_neg (by omega), if_neg (by omega), if_neg (by omega), if_neg (by omega), show 22 + 5 * t + g = 22 + (5 * t + g) by omega, l2 _ (by omega)]
      exact rows t g ht' hg
end JN
