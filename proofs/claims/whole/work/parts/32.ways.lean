/-! the cheapest WAYS, as the reference finds them -/
abbrev wOff : List RF := [(11, 0, 32), (11, 0, 33), (11, 0, 31), (11, 0, 34), (11, 0, 35)]
def tbm (S : SPc) (R : RUc) (E : NEc) (h : Nat) (ro so : Nat → Int32) (i s : Nat) : Prop := ro (61 * i + s) = nI (dwS S R E h (S.cn h - i) (E.ns - s)).1 ∧ so (61 * i + s) = if i = S.cn h ∧ s = E.ns then -1 else nI (dwS S R E h (S.cn h - i) (E.ns - s)).2
theorem i21 : (Int8.ofInt 21).toInt32 = nI 21 := by decide
section WY
variable {N e jv : Nat} {σ : ST} {Q : POST} {S : SPc} {R : RUc} {E : NEc}
abbrev wyV (jv : Nat) (x2 x3 x4 : Int32) (o5 o6 o7 o8 : Option AV) : List (Option AV) := [some (.inr (.inr (11, 0, 0))), some (.inr (.inr (11, 0, jv))), some (.inl x2), some (.inl x3), some (.inl x4), o5, o6, o7, o8]
set_option maxRecDepth 100000 in
theorem wy_in (a : arO N 11 jv = some (1, 322)) (hj : (11, 0, jv) ∉ wOff) (hS : vSP S) (hR : vRU S R) (hE : vNE S E) (cS : mSP σ S) (cR : mRU (σ.1 11 0 jv) S R) (cE : mNE (σ.1 11 0 jv) E) {h M i : Nat} (hM : 1600000 ≤ M) (hh : h < S.nh) {x2 x3 x4 x5 : Int32} (e2 : x2 = nI h) (e3 : x3 = nI (S.cn h)) (e4 : x4 = nI E.ns) (e5 : x5 = nI i) (hi : i ≤ S.cn h)
    (K : ∀ (m : Nat) (τ : ST) (o6 o7 o8 : Option AV), M ≤ m → off wOff σ τ → (∀ i' s', i ≤ i' → i' ≤ S.cn h → s' ≤ E.ns → tbm S R E h (τ.1 11 0 34) (τ.1 11 0 35) i' s') → wp N m (e + 4, 0) TX11_ways 155 (wyV jv x2 x3 x4 (some (.inl x5)) o6 o7 o8) [] τ Q) :
    ∀ (b m : Nat) (τ : ST) (x6 : Int32) (o7 o8 : Option AV), b ≤ E.ns + 1 → 300 * b + 100 + M ≤ m → off wOff σ τ →
      (∀ i' s', i < i' → i' ≤ S.cn h → s' ≤ E.ns → tbm S R E h (τ.1 11 0 34) (τ.1 11 0 35) i' s') → (∀ s', b ≤ s' → s' ≤ E.ns → tbm S R E h (τ.1 11 0 34) (τ.1 11 0 35) i s') → x6 = nI b - 1 →
      wp N m (e + 4, 0) TX11_ways 15 (wyV jv x2 x3 x4 (some (.inl x5)) (some (.inl x6)) o7 o8) [] τ Q := by
  have hns := vNE_ns hS hE
  have hcn := hS.2.1 h hh
  intro b
  induction b with
  | zero =>
    intro m τ x6 o7 o8 hb hm ho h1 h2 e6
    obtain ⟨n, rfl⟩ := il_ex (K := 2) (m := m) (by omega)
    refine b_down e6 (by omega) (fun _ => ?_) (fun i q _ => by omega)
    refine K n τ _ _ _ (by omega) ho (fun i' s' q1 q2 q3 => ?_)
    by_cases q : i' = i
    · subst q; exact h2 s' (by omega) q3
    · exact h1 i' s' (by omega) q2 q3
  | succ s ih =>
    intro m τ x6 o7 o8 hb hm ho h1 h2 e6
    obtain ⟨n, rfl⟩ := il_ex (K := 150) (m := m) (by omega)
    have bA : ∀ a b, (dwS S R E h a b).1 ≤ 9 * (a + b) := dwS_le hR
    have cR' : ∀ τ', off wOff σ τ' → mRU (τ'.1 11 0 jv) S R := fun τ' ho' => mRU_off ho' hj cR
    refine b_down e6 (by omega) (fun q => by omega) (fun s0 q e6' => ?_)
    clear e6
    obtain rfl : s0 = s := by omega
    have g7 : (Int8.ofInt 61).toInt32 * x5 + x6 = nI (61 * i + s0) := by rw [e5, e6', i61, pk_mul, nI_add]
    have fin : ∀ (τ' : ST) (y7 y8 : Int32) (n' : Nat), 300 * s0 + 130 + M ≤ n' → off wOff σ τ' → τ'.1 11 0 34 = τ.1 11 0 34 → τ'.1 11 0 35 = τ.1 11 0 35 → y7 = nI (dwS S R E h (S.cn h - i) (E.ns - s0)).1 → (y8 = if i = S.cn h ∧ s0 = E.ns then -1 else nI (dwS S R E h (S.cn h - i) (E.ns - s0)).2) →
        wp N n' (e + 4, 0) TX11_ways 135 (wyV jv x2 x3 x4 (some (.inl x5)) (some (.inl x6)) (some (.inl y7)) (some (.inl y8))) [] τ' Q := by
      intro τ' y7 y8 n' hn' ho' t5 t6 g8 g9
      obtain ⟨n2, rfl⟩ := il_ex (K := 30) (m := n') (by omega)
      refine ⟨il_in g7 (by omega) (by omega), ?_⟩
      refine ⟨il_in g7 (by omega) (by omega), trivial, ?_⟩
      have r5 : ∀ z, (uI (uI τ' 11 0 34 ((Int8.ofInt 61).toInt32 * x5 + x6).toNatClampNeg y7) 11 0 35 ((Int8.ofInt 61).toInt32 * x5 + x6).toNatClampNeg y8).1 11 0 34 z = if z = 61 * i + s0 then y7 else τ.1 11 0 34 z := by
        intro z
        rw [uI_nr _ _ _ _ _ _ (by decide), uI_row, t5, il_cl g7 (by omega)]
        rfl
      have r6 : ∀ z, (uI (uI τ' 11 0 34 ((Int8.ofInt 61).toInt32 * x5 + x6).toNatClampNeg y7) 11 0 35 ((Int8.ofInt 61).toInt32 * x5 + x6).toNatClampNeg y8).1 11 0 35 z = if z = 61 * i + s0 then y8 else τ.1 11 0 35 z := by
        intro z
        rw [uI_row, il_cl g7 (by omega)]
        unfold upd
        rw [uI_nr _ _ _ _ _ _ (by decide), t6]
      refine ih _ _ _ _ _ (by omega) (by omega) (off_uI (off_uI ho' (by decide)) (by decide)) ?_ ?_ (il_down e6')
      · intro i' s' q1 q2 q3
        have hx := h1 i' s' q1 q2 q3
        unfold tbm at hx ⊢
        show (uI (uI τ' 11 0 34 _ _) 11 0 35 _ _).1 11 0 34 _ = _ ∧ (uI (uI τ' 11 0 34 _ _) 11 0 35 _ _).1 11 0 35 _ = _
        rw [r5, r6, if_neg (by omega), if_neg (by omega)]
        exact hx
      · intro s' q1 q2
        unfold tbm
        show (uI (uI τ' 11 0 34 _ _) 11 0 35 _ _).1 11 0 34 _ = _ ∧ (uI (uI τ' 11 0 34 _ _) 11 0 35 _ _).1 11 0 35 _ = _
        rw [r5, r6]
        by_cases hq : s' = s0
        · subst hq
          rw [if_pos rfl, if_pos rfl]
          exact ⟨g8, g9⟩
        · rw [if_neg (by omega), if_neg (by omega)]
          exact h2 s' (by omega) q2
    have g1 : (Int8.ofInt 61).toInt32 * x5 + x6 + Int32.ofInt 1 = nI (61 * i + (s0 + 1)) := by rw [g7, oi_1, nI_add]; rfl
    have g61 : (Int8.ofInt 61).toInt32 * (x5 + Int32.ofInt 1) + x6 = nI (61 * (i + 1) + s0) := by rw [il_inc e5, e6', i61, pk_mul, nI_add]
    have g62 : (Int8.ofInt 61).toInt32 * (x5 + Int32.ofInt 1) + x6 + Int32.ofInt 1 = nI (61 * (i + 1) + (s0 + 1)) := by rw [g61, oi_1, nI_add]; rfl
    have hgp := hR.2.1.2
    have hfr := hR.1.2
    have vfr : ∀ τ', off wOff σ τ' → τ'.1 11 0 34 = τ.1 11 0 34 → i < S.cn h → τ'.1 11 0 jv (Int32.ofInt 0).toNatClampNeg + τ'.1 11 0 34 ((Int8.ofInt 61).toInt32 * (x5 + Int32.ofInt 1) + x6).toNatClampNeg = nI (R.fr + (dwS S R E h (S.cn h - (i + 1)) (E.ns - s0)).1) := by
      intro τ' ho' t5 hin
      rw [il_cl oi_0 (by omega), il_cl g61 (by omega), t5, (cR' τ' ho').1, (h1 (i + 1) s0 (by omega) (by omega) (by omega)).1, nI_add]
    have vgp : ∀ τ', off wOff σ τ' → τ'.1 11 0 34 = τ.1 11 0 34 → s0 < E.ns → τ'.1 11 0 jv (Int32.ofInt 1).toNatClampNeg + τ'.1 11 0 34 ((Int8.ofInt 61).toInt32 * x5 + x6 + Int32.ofInt 1).toNatClampNeg = nI (R.gp + (dwS S R E h (S.cn h - i) (E.ns - (s0 + 1))).1) := by
      intro τ' ho' t5 hsn
      rw [il_cl oi_1 (by omega), il_cl g1 (by omega), t5, (cR' τ' ho').2.1, (h2 (s0 + 1) (by omega) (by omega)).1, nI_add]
    -- the third choice is taken
    have tk3 : ∀ (τ' : ST) (y7 y8 : Int32) (n' : Nat), 300 * s0 + 160 + M ≤ n' → off wOff σ τ' → τ'.1 11 0 34 = τ.1 11 0 34 → τ'.1 11 0 35 = τ.1 11 0 35 → i < S.cn h → dwS S R E h (S.cn h - i) (E.ns - s0) = (R.fr + (dwS S R E h (S.cn h - (i + 1)) (E.ns - s0)).1, 2) →
        wp N n' (e + 4, 0) TX11_ways 118 (wyV jv x2 x3 x4 (some (.inl x5)) (some (.inl x6)) (some (.inl y7)) (some (.inl y8))) [] τ' Q := by
      intro τ' y7 y8 n' hn' ho' t5 t6 hin hd
      obtain ⟨n2, rfl⟩ := il_ex (K := 30) (m := n') (by omega)
      refine arr_of a ⟨il_in oi_0 (by omega) (by omega), ?_⟩
      refine ⟨il_in g61 (by omega) (by omega), ?_⟩
      refine adv 4 (300 * s0 + 130 + M) (by omega) (fun n3 hn3 => ?_)
      exact fin τ' _ _ n3 hn3 ho' t5 t6 (by rw [hd]; exact vfr τ' ho' t5 hin) (by rw [if_neg (by omega), hd]; exact i2)
    by_cases hin : i = S.cn h
    · by_cases hsn : s0 = E.ns
      · refine b_ne e5 e3 (by omega) (by omega) (fun q => by omega) (fun _ => ?_)
        refine b_ne e6' e4 (by omega) (by omega) (fun q => by omega) (fun _ => ?_)
        refine ⟨trivial, ?_⟩
        refine b_ge e5 e3 (by omega) (by omega) (fun _ => ?_) (fun q => by omega)
        refine b_ge e6' e4 (by omega) (by omega) (fun _ => ?_) (fun q => by omega)
        refine b_ge e5 e3 (by omega) (by omega) (fun _ => ?_) (fun q => by omega)
        refine fin τ _ _ _ (by omega) ho rfl rfl ?_ (by rw [if_pos ⟨hin, hsn⟩, im1])
        rw [show S.cn h - i = 0 by omega, show E.ns - s0 = 0 by omega, dwS, dwc_00]
        exact oi_0
      · have hd : dwS S R E h (S.cn h - i) (E.ns - s0) = (R.gp + (dwS S R E h (S.cn h - i) (E.ns - (s0 + 1))).1, 1) := by
          rw [show S.cn h - i = 0 by omega, show E.ns - s0 = (E.ns - (s0 + 1)) + 1 by omega, dwS, dwc_0s]; rfl
        refine b_ne e5 e3 (by omega) (by omega) (fun q => by omega) (fun _ => ?_)
        refine b_ne e6' e4 (by omega) (by omega) (fun _ => ?_) (fun q => by omega)
        refine b_ge e5 e3 (by omega) (by omega) (fun _ => ?_) (fun q => by omega)
        refine b_ge e6' e4 (by omega) (by omega) (fun q => by omega) (fun _ => ?_)
        refine ⟨fun _ => ?_, fun q => absurd rfl q⟩
        refine arr_of a ⟨il_in oi_1 (by omega) (by omega), ?_⟩
        refine ⟨il_in g1 (by omega) (by omega), ?_⟩
        refine b_ge e5 e3 (by omega) (by omega) (fun _ => ?_) (fun q => by omega)
        exact fin τ _ _ _ (by omega) ho rfl rfl (by rw [hd]; exact vgp τ ho rfl (by omega)) (by rw [if_neg (by omega), hd]; exact oi_1)
    · by_cases hsn : s0 = E.ns
      · refine b_ne e5 e3 (by omega) (by omega) (fun _ => ?_) (fun q => by omega)
        refine b_ge e5 e3 (by omega) (by omega) (fun q => by omega) (fun _ => ?_)
        refine b_ge e6' e4 (by omega) (by omega) (fun _ => ?_) (fun q => by omega)
        refine b_ge e6' e4 (by omega) (by omega) (fun _ => ?_) (fun q => by omega)
        refine b_ge e5 e3 (by omega) (by omega) (fun q => by omega) (fun _ => ?_)
        refine ⟨fun _ => ?_, fun q => absurd rfl q⟩
        refine tk3 τ _ _ _ (by omega) ho rfl rfl (by omega) ?_
        rw [show S.cn h - i = (S.cn h - (i + 1)) + 1 by omega, show E.ns - s0 = 0 by omega, dwS, dwc_s0]
        rfl
      · have hd : dwS S R E h (S.cn h - i) (E.ns - s0) = pick3 (mcS S R E h i s0 + (dwS S R E h (S.cn h - (i + 1)) (E.ns - (s0 + 1))).1) (R.gp + (dwS S R E h (S.cn h - i) (E.ns - (s0 + 1))).1) (R.fr + (dwS S R E h (S.cn h - (i + 1)) (E.ns - s0)).1) := by
          have q1 : S.cn h - i = (S.cn h - (i + 1)) + 1 := by omega
          have q2 : E.ns - s0 = (E.ns - (s0 + 1)) + 1 := by omega
          unfold dwS
          rw [q1, q2, dwc_ss, ← q1, ← q2, show S.cn h - (S.cn h - i) = i by omega, show E.ns - (E.ns - s0) = s0 by omega]
        have b1 := bA (S.cn h - (i + 1)) (E.ns - (s0 + 1))
        have b2 := bA (S.cn h - i) (E.ns - (s0 + 1))
        have b3 := bA (S.cn h - (i + 1)) (E.ns - s0)
        have bm := mcS_le (E := E) (h := h) (i := i) (s := s0) hR
        -- the third choice is looked at
        have thr : ∀ (τ' : ST) (y7 y8 : Int32) (v7 v8 n' : Nat), 300 * s0 + 200 + M ≤ n' → off wOff σ τ' → τ'.1 11 0 34 = τ.1 11 0 34 → τ'.1 11 0 35 = τ.1 11 0 35 → y7 = nI v7 → y8 = nI v8 → v7 ≤ 2000 → v8 ≤ 2 →
            dwS S R E h (S.cn h - i) (E.ns - s0) = (if R.fr + (dwS S R E h (S.cn h - (i + 1)) (E.ns - s0)).1 < v7 then (R.fr + (dwS S R E h (S.cn h - (i + 1)) (E.ns - s0)).1, 2) else (v7, v8)) →
            wp N n' (e + 4, 0) TX11_ways 96 (wyV jv x2 x3 x4 (some (.inl x5)) (some (.inl x6)) (some (.inl y7)) (some (.inl y8))) [] τ' Q := by
          intro τ' y7 y8 v7 v8 n' hn' ho' t5 t6 g8 g9 hv hv8 hd'
          obtain ⟨n2, rfl⟩ := il_ex (K := 30) (m := n') (by omega)
          refine b_ge e5 e3 (by omega) (by omega) (fun q => by omega) (fun _ => ?_)
          refine ⟨fun q => absurd (show nI v8 = (-1 : Int32) by rw [← g9, ← im1]; exact q) (nI_m1 (by omega)), fun _ => ?_⟩
          refine arr_of a ⟨il_in oi_0 (by omega) (by omega), ?_⟩
          refine ⟨il_in g61 (by omega) (by omega), ?_⟩
          refine b_ge (vfr τ' ho' t5 (by omega)) g8 (by omega) (by omega) (fun q => ?_) (fun q => ?_)
          · rw [if_neg (by omega)] at hd'
            exact fin τ' _ _ _ (by omega) ho' t5 t6 (by rw [hd']; exact g8) (by rw [if_neg (by omega), hd']; exact g9)
          · rw [if_pos q] at hd'
            exact tk3 τ' _ _ _ (by omega) ho' t5 t6 (by omega) hd'
        refine b_ne e5 e3 (by omega) (by omega) (fun _ => ?_) (fun q => by omega)
        refine b_ge e5 e3 (by omega) (by omega) (fun q => by omega) (fun _ => ?_)
        refine b_ge e6' e4 (by omega) (by omega) (fun q => by omega) (fun _ => ?_)
        refine ⟨trivial, c_match a (fun q => hj (by revert q; simp; omega)) hS hR hE (mSP_off ho (by decide) cS) (cR' τ ho) (mNE_off ho hj cE) (by omega) hh (by omega) e2 e5 e6' (by omega) ?_⟩
        intro τ2 ho2
        have ho3 : off wOff σ τ2 := off_tr ho (off_in ho2 (by decide))
        have t5 : τ2.1 11 0 34 = τ.1 11 0 34 := (ho2 11 0 34 (by decide)).1
        have t6 : τ2.1 11 0 35 = τ.1 11 0 35 := (ho2 11 0 35 (by decide)).1
        have v0 : nI (mcS S R E h i s0) + τ2.1 11 0 34 ((Int8.ofInt 61).toInt32 * (x5 + Int32.ofInt 1) + x6 + Int32.ofInt 1).toNatClampNeg = nI (mcS S R E h i s0 + (dwS S R E h (S.cn h - (i + 1)) (E.ns - (s0 + 1))).1) := by
          rw [il_cl g62 (by omega), t5, (h1 (i + 1) (s0 + 1) (by omega) (by omega) (by omega)).1, nI_add]
        have v1 := vgp τ2 ho3 t5 (by omega)
        refine ⟨il_in g62 (by omega) (by omega), ?_⟩
        refine b_ge e6' e4 (by omega) (by omega) (fun q => by omega) (fun _ => ?_)
        refine ⟨fun q => absurd (show nI 0 = (-1 : Int32) by rw [← im1, ← oi_0]; exact q) (nI_m1 (by omega)), fun _ => ?_⟩
        refine arr_of a ⟨il_in oi_1 (by omega) (by omega), ?_⟩
        refine ⟨il_in g1 (by omega) (by omega), ?_⟩
        refine b_ge v1 v0 (by omega) (by omega) (fun q => ?_) (fun q => ?_)
        · refine thr τ2 _ _ _ 0 _ (by omega) ho3 t5 t6 v0 oi_0 (by omega) (by omega) ?_
          rw [hd]; unfold pick3; rw [if_neg (by omega)]
        · refine arr_of a ⟨il_in oi_1 (by omega) (by omega), ?_⟩
          refine ⟨il_in g1 (by omega) (by omega), ?_⟩
          refine adv 4 (300 * s0 + 200 + M) (by omega) (fun n3 hn3 => ?_)
          refine thr τ2 _ _ _ 1 n3 hn3 ho3 t5 t6 v1 oi_1 (by omega) (by omega) ?_
          rw [hd]; unfold pick3; rw [if_pos q]
set_option maxRecDepth 100000 in
theorem wy_out (a : arO N 11 jv = some (1, 322)) (hj : (11, 0, jv) ∉ wOff) (hS : vSP S) (hR : vRU S R) (hE : vNE S E) (cS : mSP σ S) (cR : mRU (σ.1 11 0 jv) S R) (cE : mNE (σ.1 11 0 jv) E) {h M : Nat} (hM : 1600000 ≤ M) (hh : h < S.nh) {x2 x3 x4 : Int32} (e2 : x2 = nI h) (e3 : x3 = nI (S.cn h)) (e4 : x4 = nI E.ns)
    (K : ∀ (m : Nat) (τ : ST) (o5 o6 o7 o8 : Option AV), M ≤ m → off wOff σ τ → (∀ i' s', i' ≤ S.cn h → s' ≤ E.ns → tbm S R E h (τ.1 11 0 34) (τ.1 11 0 35) i' s') → wp N m (e + 4, 0) TX11_ways 157 (wyV jv x2 x3 x4 o5 o6 o7 o8) [] τ Q) :
    ∀ (c m : Nat) (τ : ST) (x5 : Int32) (o6 o7 o8 : Option AV), c ≤ S.cn h + 1 → 20000 * c + 10 + M ≤ m → off wOff σ τ → (∀ i' s', c ≤ i' → i' ≤ S.cn h → s' ≤ E.ns → tbm S R E h (τ.1 11 0 34) (τ.1 11 0 35) i' s') → x5 = nI c - 1 →
      wp N m (e + 4, 0) TX11_ways 11 (wyV jv x2 x3 x4 (some (.inl x5)) o6 o7 o8) [] τ Q := by
  have hns := vNE_ns hS hE
  have hcn := hS.2.1 h hh
  intro c
  induction c with
  | zero =>
    intro m τ x5 o6 o7 o8 hc hm ho ht e5
    obtain ⟨n, rfl⟩ := il_ex (K := 2) (m := m) (by omega)
    refine b_down e5 (by omega) (fun _ => ?_) (fun i q _ => by omega)
    exact K n τ _ _ _ _ (by omega) ho (fun i' s' q1 q2 => ht i' s' (by omega) q1 q2)
  | succ i ih =>
    intro m τ x5 o6 o7 o8 hc hm ho ht e5
    obtain ⟨n, rfl⟩ := il_ex (K := 4) (m := m) (by omega)
    refine b_down e5 (by omega) (fun q => by omega) (fun i0 q e5' => ?_)
    obtain rfl : i0 = i := by omega
    refine wy_in a hj hS hR hE cS cR cE (M := 20000 * i0 + 12 + M) (by omega) hh e2 e3 e4 e5' (by omega) ?_ (E.ns + 1) n τ _ _ _ (by omega) (by omega) ho (fun i' s' q1 q2 q3 => ht i' s' (by omega) q2 q3) (fun s' q1 q2 => by omega) (by rw [e4]; exact (nI_pred _).symm)
    intro m' τ' p6 p7 p8 hm' ho' ht'
    obtain ⟨n', rfl⟩ := il_ex (K := 2) (m := m') (by omega)
    exact ⟨trivial, ih _ τ' _ _ _ _ (by omega) (by omega) ho' ht' (il_down e5')⟩
set_option maxRecDepth 100000 in
/-- the reference's ways -/
theorem c_ways (a : arO N 11 jv = some (1, 322)) (hj : (11, 0, jv) ∉ wOff) (hS : vSP S) (hR : vRU S R) (hE : vNE S E) (cS : mSP σ S) (cR : mRU (σ.1 11 0 jv) S R) (cE : mNE (σ.1 11 0 jv) E) {h m : Nat} (hh : h < S.nh) {x2 : Int32} (e2 : x2 = nI h) (hm : 2500000 ≤ m)
    (hQ : ∀ τ, off wOff σ τ → (∀ i' s', i' ≤ S.cn h → s' ≤ E.ns → tbm S R E h (τ.1 11 0 34) (τ.1 11 0 35) i' s') → Q (some (.inl (nI (dwS S R E h (S.cn h) E.ns).1))) τ) :
    wp N m (e + 4, 0) TX11_ways 0 [some (.inr (.inr (11, 0, 0))), some (.inr (.inr (11, 0, jv))), some (.inl x2), none, none, none, none, none, none] [] σ Q := by
  have hns := vNE_ns hS hE
  have hcn := hS.2.1 h hh
  have hnh := hS.1
  obtain ⟨n, rfl⟩ := il_ex (K := 11) (m := m) (by omega)
  refine ⟨il_in e2 (by omega) (by omega), ?_⟩
  refine arr_of a ⟨il_in i21 (by omega) (by omega), ?_⟩
  have e3 : σ.1 11 0 21 x2.toNatClampNeg = nI (S.cn h) := by rw [il_cl e2 (by omega)]; exact cS.2.2.1 h hh
  have e4 : σ.1 11 0 jv (Int8.ofInt 21).toInt32.toNatClampNeg = nI E.ns := by rw [il_cl i21 (by omega)]; exact cE.2.1
  refine wy_out a hj hS hR hE cS cR cE (M := 2000000) (by omega) hh e2 e3 e4 ?_ (S.cn h + 1) n σ _ _ _ _ (by omega) (by omega) (off_rf _ _) (fun i' s' q1 q2 q3 => by omega) (e3.trans (nI_pred _).symm)
  intro m1 τ o5 o6 o7 o8 hm1 ho ht
  obtain ⟨n1, rfl⟩ := il_ex (K := 10) (m := m1) (by omega)
  have hr : τ.1 11 0 34 (Int32.ofInt 0).toNatClampNeg = nI (dwS S R E h (S.cn h) E.ns).1 := by
    rw [il_cl oi_0 (by omega)]
    exact (ht 0 0 (by omega) (by omega)).1
  refine ⟨il_in oi_0 (by omega) (by omega), Or.inl rfl, ?_⟩
  have hq := hQ τ ho ht
  rw [← hr] at hq
  exact hq
end WY
