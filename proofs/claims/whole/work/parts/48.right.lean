/-! who was right; where a SLOT stands in what is HEARD -/
noncomputable def rgU (S : SPc) (R : RUc) (E : NEc) (h s : Nat) : Nat := match E.th s h with
  | some i => if S.wd h i = wnF S R E s then 1 else 0
  | none => 0
noncomputable def rgC (S : SPc) (R : RUc) (E : NEc) (h n : Nat) : Nat := sm (rgU S R E h) n
theorem rgU_n {S : SPc} {R : RUc} {E : NEc} {h s : Nat} (q : E.th s h = none) : rgU S R E h s = 0 := by unfold rgU; rw [q]
theorem rgU_s {S : SPc} {R : RUc} {E : NEc} {h s i : Nat} (q : E.th s h = some i) : rgU S R E h s = if S.wd h i = wnF S R E s then 1 else 0 := by unfold rgU; rw [q]
theorem rgU_le (S : SPc) (R : RUc) (E : NEc) (h s : Nat) : rgU S R E h s ≤ 1 := by
  cases q : E.th s h with
  | none => rw [rgU_n q]; omega
  | some i => rw [rgU_s q]; split <;> omega
theorem rgC_le (S : SPc) (R : RUc) (E : NEc) (h n : Nat) : rgC S R E h n ≤ n := by
  have := sm_le (f := rgU S R E h) (M := 1) (n := n) (fun i _ => rgU_le S R E h i)
  unfold rgC; omega
/-- no more are right than there are words -/
theorem rg_cn {S : SPc} {R : RUc} {E : NEc} (hE : vNE S E) {h : Nat} : ∀ n, n ≤ E.ns → (∀ z, z < n → E.th z h = none) ∧ rgC S R E h n = 0 ∨ ∃ s i, s < n ∧ E.th s h = some i ∧ (∀ z, s < z → z < n → E.th z h = none) ∧ rgC S R E h n ≤ i + 1
  | 0, _ => Or.inl ⟨fun z hz => absurd hz (Nat.not_lt_zero _), rfl⟩
  | n + 1, hn => by
    have ih := rg_cn (S := S) (R := R) hE (h := h) n (by omega)
    have hstep : rgC S R E h (n + 1) = rgC S R E h n + rgU S R E h n := rfl
    have hle := rgU_le S R E h n
    cases q : E.th n h with
    | none =>
      have hz := rgU_n (S := S) (R := R) q
      rcases ih with ⟨a, b⟩ | ⟨s, i, a, b, c, d⟩
      · refine Or.inl ⟨fun z hz' => ?_, by omega⟩
        by_cases e : z = n
        · rw [e]; exact q
        · exact a z (by omega)
      · refine Or.inr ⟨s, i, by omega, b, fun z h1 h2 => ?_, by omega⟩
        by_cases e : z = n
        · rw [e]; exact q
        · exact c z h1 (by omega)
    | some j =>
      rcases ih with ⟨a, b⟩ | ⟨s, i, a, b, c, d⟩
      · exact Or.inr ⟨n, j, by omega, q, fun z h1 h2 => by omega, by omega⟩
      · have := hE.2.2.2.2.2.2.2.1 s n h i j a (by omega) b q
        exact Or.inr ⟨n, j, by omega, q, fun z h1 h2 => by omega, by omega⟩
theorem rgC_cn {S : SPc} {R : RUc} {E : NEc} (hE : vNE S E) (h : Nat) : rgC S R E h E.ns ≤ S.cn h := by
  rcases rg_cn (S := S) (R := R) hE (h := h) E.ns (Nat.le_refl _) with ⟨_, b⟩ | ⟨s, i, a, b, _, d⟩
  · omega
  · have := (hE.2.2.2.2.1 s h i a b).2.1; omega
noncomputable def phI (S : SPc) (R : RUc) (E : NEc) (s : Nat) : Int32 := if wnF S R E s = 60 then -2 else nI (hdC S R E s)
section RG
variable {N e m k jv : Nat} {σ : ST} {Q : POST} {S : SPc} {R : RUc} {E : NEc}
set_option maxRecDepth 100000 in
theorem wo_loop (hS : vSP S) (hR : vRU S R) (hE : vNE S E) (cS : cSP σ 0 S) (cR : cRU σ 0 S R) (cE : cNE σ 0 E) {h : Nat} (hh : h < S.nh) {x1 : Int32} (e1 : x1 = nI h) (hQ : ∀ τ, off bOff σ τ → Q (some (.inl (nI (rgC S R E h E.ns)))) τ) :
    ∀ (r s m : Nat) (τ : ST) (x2 x3 : Int32) (o4 : Option AV), s + r = E.ns → 60 * r + 3000 ≤ m → off bOff σ τ → x2 = nI (rgC S R E h s) → x3 = nI s →
      wp N m (e + 3, 0) TX10_winnersOf 4 [some (.inr (.inr (10, 0, 0))), some (.inl x1), some (.inl x2), some (.inl x3), o4] [] τ Q := by
  have hns := vNE_ns hS hE
  have hnh := hS.1
  have hnw := hS.2.2.2.1
  intro r
  induction r with
  | zero =>
    intro s m τ x2 x3 o4 hr hm ho e2 e3
    obtain ⟨n, rfl⟩ := il_ex (K := 10) (m := m) (by omega)
    obtain rfl : s = E.ns := by omega
    refine b_ge e3 (cNE_off ho (by decide) cE).1 (by omega) (by omega) (fun _ => ?_) (fun q => by omega)
    refine ⟨Or.inl rfl, ?_⟩
    rw [e2]; exact hQ τ ho
  | succ r ih =>
    intro s m τ x2 x3 o4 hr hm ho e2 e3
    obtain ⟨n, rfl⟩ := il_ex (K := 50) (m := m) (by omega)
    have hs : s < E.ns := by omega
    have kS : cSP τ 0 S := cSP_off ho (by decide) cS
    have kR : cRU τ 0 S R := cRU_off ho (by decide) cR
    have kE : cNE τ 0 E := cNE_off ho (by decide) cE
    have nxt : ∀ (τ' : ST) (y2 : Int32) (p4 : Option AV) (n' : Nat), 60 * r + 3002 ≤ n' → off bOff σ τ' → y2 = nI (rgC S R E h (s + 1)) → wp N n' (e + 3, 0) TX10_winnersOf 39 [some (.inr (.inr (10, 0, 0))), some (.inl x1), some (.inl y2), some (.inl x3), p4] [] τ' Q := by
      intro τ' y2 p4 n' hn' ho' hy
      obtain ⟨n3, rfl⟩ := il_ex (K := 2) (m := n') (by omega)
      exact ⟨trivial, ih (s + 1) _ τ' _ _ _ (by omega) (by omega) ho' hy (il_inc e3)⟩
    have hlt : ∀ i, E.th s h = some i → i < 2147483648 := fun i e' => by
      have h1 := hE.2.2.2.2.1 s h i hs e'
      have h2 := (hS.2.1 h h1.1).2
      omega
    refine b_ge e3 kE.1 (by omega) (by omega) (fun q => by omega) (fun _ => ?_)
    refine ⟨trivial, c_thereOf e3 e1 (by omega) (by omega) (by omega) ?_⟩
    rw [kE.2.2.2.2.2 s hs h (by omega)]
    refine b_there ne2 rfl hlt (fun q1 => ?_) (fun i q1 q2 => ?_)
    · exact nxt τ _ _ _ (by omega) ho (by rw [e2]; show _ = nI (rgC S R E h s + rgU S R E h s); rw [rgU_n q1]; rfl)
    · have h1 := hE.2.2.2.2.1 s h i hs q1
      have h2 := (hS.2.1 h h1.1).2
      have h4 := (hS.2.2.1 h h1.1 i h1.2.1).1
      refine ⟨trivial, c_tally (e := e) hS hR hE kS kR kE hs e3 (by omega) ?_⟩
      intro τ1 ho1 v1
      have kS1 : cSP τ1 0 S := cSP_off ho1 (by decide) kS
      refine ⟨trivial, c_wordOf e1 q2 (by omega) (by omega) (by omega) ?_⟩
      refine ⟨trivial, c_wordOfChoice v1 (vc60 hS hR hE hs) oi_0 (vt_pos hE hS hs) (by omega) ?_⟩
      rw [(kS1.2.2.2.1 h h1.1 i h1.2.1).1]
      have hw := wnF_le (s := s) hS hR hE hs
      have ew : nI (S.wd h i) = wcI (S.wd h i) := by unfold wcI; rw [if_neg (by omega)]
      have fin : ∀ (y : Int32) (n' : Nat), 60 * r + 3020 ≤ n' → y = nI (rgU S R E h s) → wp N n' (e + 3, 0) TX10_winnersOf 37 [some (.inr (.inr (10, 0, 0))), some (.inl x1), some (.inl x2), some (.inl x3), some (.inl (oI (-2) (E.th s h)))] [.inl y, .inl x2] τ1 Q := by
        intro y n' hn' hy
        refine adv 2 (60 * r + 3002) (by omega) (fun n3 hn3 => ?_)
        exact nxt τ1 _ _ n3 hn3 (off_tr ho ho1) (by rw [e2, hy, nI_add]; rfl)
      refine ⟨fun q => ?_, fun q => ?_⟩
      · refine adv 1 (60 * r + 3020) (by omega) (fun n9 hn9 => fin _ n9 hn9 ?_)
        rw [rgU_s q1, if_neg (fun z => q (by show nI (S.wd h i) = wcI (wnF S R E s); rw [ew, z])), oi_0]
      · refine ⟨trivial, fin _ _ (by omega) ?_⟩
        have q : nI (S.wd h i) = wcI (wnF S R E s) := Classical.byContradiction fun z => q z
        rw [ew] at q
        rw [rgU_s q1, if_pos ((wcI_inj (by omega) hw.1).mp q), oi_1]
set_option maxRecDepth 100000 in
/-- HeardVotes.winnersOf -/
theorem c_winnersOf (hS : vSP S) (hR : vRU S R) (hE : vNE S E) (cS : cSP σ 0 S) (cR : cRU σ 0 S R) (cE : cNE σ 0 E) {h : Nat} (hh : h < S.nh) {x1 : Int32} (e1 : x1 = nI h) (hm : 7000 ≤ m) (hQ : ∀ τ, off bOff σ τ → Q (some (.inl (nI (rgC S R E h E.ns)))) τ) :
    wp N m (e + 3, 0) TX10_winnersOf 0 [some (.inr (.inr (10, 0, 0))), some (.inl x1), none, none, none] [] σ Q := by
  have hns := vNE_ns hS hE
  refine adv 4 6900 (by omega) (fun n hn => ?_)
  exact wo_loop hS hR hE cS cR cE hh e1 hQ E.ns 0 n _ _ _ _ (by omega) (by omega) (off_rf _ _) oi_0 oi_0
noncomputable def wrF (S : SPc) (R : RUc) (E : NEc) (h : Nat) : Nat := 98 * rgC S R E h E.ns / S.cn h + 1
theorem wrF_b (hE : vNE S E) (h : Nat) (hc : 1 ≤ S.cn h) : 1 ≤ wrF S R E h ∧ wrF S R E h ≤ 99 := by
  have := rgC_cn (R := R) hE h
  unfold wrF
  have : 98 * rgC S R E h E.ns / S.cn h ≤ 98 * S.cn h / S.cn h := Nat.div_le_div_right (Nat.mul_le_mul_left _ this)
  rw [Nat.mul_div_cancel _ (by omega)] at this
  exact ⟨Nat.le_add_left _ _, Nat.add_le_add_right this 1⟩
theorem i98 : (Int8.ofInt 98).toInt32 = nI 98 := by decide
theorem c_weightByRight (hS : vSP S) (hR : vRU S R) (hE : vNE S E) (cS : cSP σ 0 S) (cR : cRU σ 0 S R) (cE : cNE σ 0 E) {h : Nat} (hh : h < S.nh) {x1 : Int32} (e1 : x1 = nI h) (hm : 7100 ≤ m) (hQ : ∀ τ, off bOff σ τ → Q (some (.inl (nI (wrF S R E h)))) τ) :
    wp N m (e + 4, 0) TX10_weightByRight 0 [some (.inr (.inr (10, 0, 0))), some (.inl x1), none] [] σ Q := by
  obtain ⟨n, rfl⟩ := il_ex (K := 50) (m := m) (by omega)
  have hnh := hS.1
  have hc := hS.2.1 h hh
  have hrl := rgC_cn (R := R) hE h
  refine ⟨trivial, c_countOf e1 (by omega) (by omega) ?_⟩
  have ec := cS.2.2.1 h hh
  refine b_le ec z0 (by omega) (by omega) (fun q => by omega) (fun _ => ?_)
  refine ⟨trivial, c_winnersOf (e := e) hS hR hE cS cR cE hh e1 (by omega) ?_⟩
  intro τ ho
  refine ⟨by rw [ec]; exact nI_ne0 (by omega) (by omega), trivial, Or.inl rfl, ?_⟩
  rw [ec, i98, pk_mul, show nI (98 * rgC S R E h E.ns) / nI (S.cn h) = nI (98 * rgC S R E h E.ns / S.cn h) from pk_div (by omega) (by omega) (by omega), oi_1, nI_add]
  exact hQ τ ho
set_option maxRecDepth 100000 in
theorem ri_loop (a : arO N 11 jv = some (1, 322)) (hj : (11, 0, jv) ∉ gOff) (hS : vSP S) (hR : vRU S R) (hE : vNE S E) (cS : mSP σ S) (cR : mRU (σ.1 11 0 jv) S R) (cE : mNE (σ.1 11 0 jv) E) {h : Nat} (hh : h < S.nh) {x2 : Int32} (e2 : x2 = nI h) (hQ : ∀ τ, off gOff σ τ → Q (some (.inl (nI (rgC S R E h E.ns)))) τ) :
    ∀ (r s m : Nat) (τ : ST) (x3 x4 : Int32) (o5 : Option AV), s + r = E.ns → 60 * r + 3500 ≤ m → off gOff σ τ → x3 = nI (rgC S R E h s) → x4 = nI s →
      wp N m (e + 3, 0) TX11_rightOf 4 [some (.inr (.inr (11, 0, 0))), some (.inr (.inr (11, 0, jv))), some (.inl x2), some (.inl x3), some (.inl x4), o5] [] τ Q := by
  have hns := vNE_ns hS hE
  have hnh := hS.1
  have hnw := hS.2.2.2.1
  have v21 : ∀ τ, off gOff σ τ → τ.1 11 0 jv (Int8.ofInt 21).toInt32.toNatClampNeg = nI E.ns := fun τ ho => by rw [il_cl i21 (by omega)]; exact (mNE_off ho hj cE).2.1
  intro r
  induction r with
  | zero =>
    intro s m τ x3 x4 o5 hr hm ho e3 e4
    obtain ⟨n, rfl⟩ := il_ex (K := 10) (m := m) (by omega)
    obtain rfl : s = E.ns := by omega
    refine arr_of a ⟨il_in i21 (by omega) (by omega), ?_⟩
    refine b_ge e4 (v21 τ ho) (by omega) (by omega) (fun _ => ?_) (fun q => by omega)
    refine ⟨Or.inl rfl, ?_⟩
    rw [e3]; exact hQ τ ho
  | succ r ih =>
    intro s m τ x3 x4 o5 hr hm ho e3 e4
    obtain ⟨n, rfl⟩ := il_ex (K := 50) (m := m) (by omega)
    have hs : s < E.ns := by omega
    have kS : mSP τ S := mSP_off ho (by decide) cS
    have kR := mRU_off ho hj cR
    have kE := mNE_off ho hj cE
    have fin : ∀ (τ' : ST) (y : Int32) (p5 : Option AV) (n' : Nat), 60 * r + 3510 ≤ n' → off gOff σ τ' → y = nI (rgU S R E h s) → wp N n' (e + 3, 0) TX11_rightOf 33 [some (.inr (.inr (11, 0, 0))), some (.inr (.inr (11, 0, jv))), some (.inl x2), some (.inl x3), some (.inl x4), p5] [.inl y, .inl x3] τ' Q := by
      intro τ' y p5 n' hn' ho' hy
      obtain ⟨n3, rfl⟩ := il_ex (K := 4) (m := n') (by omega)
      exact ⟨trivial, ih (s + 1) _ τ' _ _ _ (by omega) (by omega) ho' (by rw [e3, hy, nI_add]; rfl) (il_inc e4)⟩
    have hlt : ∀ i, E.th s h = some i → i < 2147483648 := fun i e' => by
      have h1 := hE.2.2.2.2.1 s h i hs e'
      have h2 := (hS.2.1 h h1.1).2
      omega
    refine arr_of a ⟨il_in i21 (by omega) (by omega), ?_⟩
    refine b_ge e4 (v21 τ ho) (by omega) (by omega) (fun q => by omega) (fun _ => ?_)
    refine ⟨trivial, c_there a e4 e2 (by omega) (by omega) (by omega) ?_⟩
    rw [kE.2.2.2 s hs h (by omega)]
    refine b_there ne1 rfl hlt (fun q1 => ?_) (fun i q1 q2 => ?_)
    · exact adv 1 (60 * r + 3510) (by omega) (fun n9 hn9 => fin τ _ _ n9 hn9 ho (by rw [rgU_n q1]; exact oi_0))
    · have h1 := hE.2.2.2.2.1 s h i hs q1
      have h2 := (hS.2.1 h h1.1).2
      have h4 := (hS.2.2.1 h h1.1 i h1.2.1).1
      have g12 : (Int8.ofInt 12).toInt32 * x2 + oI (-1) (E.th s h) = nI (12 * h + i) := by rw [e2, i12, q1, pk_mul]; exact nI_add _ _
      have hwd : τ.1 11 0 22 ((Int8.ofInt 12).toInt32 * x2 + oI (-1) (E.th s h)).toNatClampNeg = nI (S.wd h i) := by rw [il_cl g12 (by omega)]; exact (kS.2.2.2.1 h h1.1 i h1.2.1).1
      refine ⟨il_in g12 (by omega) (by omega), ?_⟩
      refine ⟨trivial, c_winner a hj hS hR hE kS kR kE hs e4 (by omega) ?_⟩
      intro τ1 ho1 v1
      have hw := wnF_le (s := s) hS hR hE hs
      have ew : nI (S.wd h i) = wcI (S.wd h i) := by unfold wcI; rw [if_neg (by omega)]
      refine ⟨fun q => ?_, fun q => ?_⟩
      · refine adv 1 (60 * r + 3510) (by omega) (fun n9 hn9 => fin τ1 _ _ n9 hn9 (off_tr ho ho1) ?_)
        rw [rgU_s q1, if_neg (fun z => q (by show τ.1 11 0 22 _ = wcI (wnF S R E s); rw [hwd, ew, z])), oi_0]
      · refine ⟨trivial, fin τ1 _ _ _ (by omega) (off_tr ho ho1) ?_⟩
        have q : τ.1 11 0 22 ((Int8.ofInt 12).toInt32 * x2 + oI (-1) (E.th s h)).toNatClampNeg = wcI (wnF S R E s) := Classical.byContradiction fun z => q z
        rw [hwd, ew] at q
        rw [rgU_s q1, if_pos ((wcI_inj (by omega) hw.1).mp q), oi_1]
set_option maxRecDepth 100000 in
/-- the reference's rightOf -/
theorem c_rightOf (a : arO N 11 jv = some (1, 322)) (hj : (11, 0, jv) ∉ gOff) (hS : vSP S) (hR : vRU S R) (hE : vNE S E) (cS : mSP σ S) (cR : mRU (σ.1 11 0 jv) S R) (cE : mNE (σ.1 11 0 jv) E) {h : Nat} (hh : h < S.nh) {x2 : Int32} (e2 : x2 = nI h) (hm : 7500 ≤ m) (hQ : ∀ τ, off gOff σ τ → Q (some (.inl (nI (rgC S R E h E.ns)))) τ) :
    wp N m (e + 3, 0) TX11_rightOf 0 [some (.inr (.inr (11, 0, 0))), some (.inr (.inr (11, 0, jv))), some (.inl x2), none, none, none] [] σ Q := by
  have hns := vNE_ns hS hE
  refine adv 4 7400 (by omega) (fun n hn => ?_)
  exact ri_loop a hj hS hR hE cS cR cE hh e2 hQ E.ns 0 n _ _ _ _ (by omega) (by omega) (off_rf _ _) oi_0 oi_0
set_option maxRecDepth 100000 in
theorem ph_loop (hS : vSP S) (hE : vNE S E) (c : cHD σ S R E) {s : Nat} (hs : s < E.ns) {x1 : Int32} (e1 : x1 = nI s) (hQ : Q (some (.inl (phI S R E s))) σ) :
    ∀ (r i m : Nat) (x2 : Int32), i + r = hdC S R E E.ns → 30 * r + 60 ≤ m → (wnF S R E s = 60 ∨ i ≤ hdC S R E s) → x2 = nI i →
      wp N m (e + 1, 0) TX10_placeInHeard 7 [some (.inr (.inr (10, 0, 0))), some (.inl x1), some (.inl x2)] [] σ Q := by
  have hns := vNE_ns hS hE
  have hle := hdC_le S R E E.ns
  intro r
  induction r with
  | zero =>
    intro i m x2 hr hm hi e2
    obtain ⟨n, rfl⟩ := il_ex (K := 10) (m := m) (by omega)
    refine b_ge e2 c.1 (by omega) (by omega) (fun _ => ?_) (fun q => by omega)
    refine ⟨Or.inl rfl, ?_⟩
    have w : wnF S R E s = 60 := Classical.byContradiction fun w => by
      have := hdC_lt hs w
      rcases hi with hi | hi
      · exact w hi
      · omega
    unfold phI at hQ
    rw [if_pos w] at hQ
    rw [im2]; exact hQ
  | succ r ih =>
    intro i m x2 hr hm hi e2
    obtain ⟨n, rfl⟩ := il_ex (K := 20) (m := m) (by omega)
    obtain ⟨s', h1, h2, h3⟩ := hdC_ex (S := S) (R := R) (E := E) (i := i) (n := E.ns) (by omega)
    refine b_ge e2 c.1 (by omega) (by omega) (fun q => by omega) (fun _ => ?_)
    refine ⟨trivial, c_heardSlot c hS hE h1 h2 (by rw [h3]; exact e2) (by omega) ?_⟩
    refine b_ne rfl e1 (by omega) (by omega) (fun q => ?_) (fun q => ?_)
    · refine ⟨trivial, ih (i + 1) _ _ (by omega) (by omega) ?_ (il_inc e2)⟩
      rcases hi with hi | hi
      · exact Or.inl hi
      · by_cases w : wnF S R E s = 60
        · exact Or.inl w
        · right
          have : i ≠ hdC S R E s := fun z => q (hdC_inj h2 w (by rw [h3, z]))
          omega
    · refine ⟨Or.inl rfl, ?_⟩
      unfold phI at hQ
      rw [if_neg (by rw [← q]; exact h2)] at hQ
      rw [e2, ← h3, q]; exact hQ
set_option maxRecDepth 100000 in
/-- HeardVotes.placeInHeard -/
theorem c_placeInHeard (hS : vSP S) (hR : vRU S R) (hE : vNE S E) (cS : cSP σ 0 S) (cR : cRU σ 0 S R) (cE : cNE σ 0 E) {s : Nat} (hs : s < E.ns) {x1 : Int32} (e1 : x1 = nI s) (hm : 7100 ≤ m) (hQ : ∀ τ, off hOff σ τ → Q (some (.inl (phI S R E s))) τ) :
    wp N m (e + 4, 0) TX10_placeInHeard 0 [some (.inr (.inr (10, 0, 0))), some (.inl x1), none] [] σ Q := by
  have hns := vNE_ns hS hE
  have hle := hdC_le S R E E.ns
  obtain ⟨n, rfl⟩ := il_ex (K := 5) (m := m) (by omega)
  refine ⟨trivial, c_listHeard (e := e) hS hR hE cS cR cE (by omega) ?_⟩
  intro τ ho c
  refine adv 2 7000 (by omega) (fun n2 hn2 => ?_)
  exact ph_loop hS hE c hs e1 (hQ τ ho) (hdC S R E E.ns) 0 n2 _ (by omega) (by omega) (Or.inr (Nat.zero_le _)) oi_0
set_option maxRecDepth 100000 in
theorem pm_loop (hS : vSP S) (hR : vRU S R) (hE : vNE S E) (cS : mSP σ S) (cR : mRU (σ.1 11 0 27) S R) (cE : mNE (σ.1 11 0 27) E) {s : Nat} (hs : s < E.ns) {x1 : Int32} (e1 : x1 = nI s) (hQ : ∀ τ, off gOff σ τ → Q (some (.inl (nI (hdC S R E s)))) τ) :
    ∀ (r z m : Nat) (τ : ST) (x2 x3 : Int32), z + r = s → 60 * r + 3500 ≤ m → off gOff σ τ → x2 = nI (hdC S R E z) → x3 = nI z →
      wp N m (e + 3, 0) TX11_placeHeard 13 [some (.inr (.inr (11, 0, 0))), some (.inl x1), some (.inl x2), some (.inl x3)] [] τ Q := by
  have hns := vNE_ns hS hE
  intro r
  induction r with
  | zero =>
    intro z m τ x2 x3 hr hm ho e2 e3
    obtain ⟨n, rfl⟩ := il_ex (K := 10) (m := m) (by omega)
    obtain rfl : z = s := by omega
    refine b_ge e3 e1 (by omega) (by omega) (fun _ => ?_) (fun q => by omega)
    refine ⟨Or.inl rfl, ?_⟩
    rw [e2]; exact hQ τ ho
  | succ r ih =>
    intro z m τ x2 x3 hr hm ho e2 e3
    obtain ⟨n, rfl⟩ := il_ex (K := 40) (m := m) (by omega)
    refine b_ge e3 e1 (by omega) (by omega) (fun q => by omega) (fun _ => ?_)
    refine ⟨trivial, c_winner (jv := 27) rfl (by decide) hS hR hE (mSP_off ho (by decide) cS) (mRU_off ho (by decide) cR) (mNE_off ho (by decide) cE) (show z < E.ns by omega) e3 (by omega) ?_⟩
    intro τ1 ho1 v1
    have hw := wnF_le (s := z) hS hR hE (by omega)
    have fin : ∀ (y : Int32) (n' : Nat), 60 * r + 3510 ≤ n' → y = nI (if wnF S R E z = 60 then 0 else 1) → wp N n' (e + 3, 0) TX11_placeHeard 27 [some (.inr (.inr (11, 0, 0))), some (.inl x1), some (.inl x2), some (.inl x3)] [.inl y, .inl x2] τ1 Q := by
      intro y n' hn' hy
      obtain ⟨n3, rfl⟩ := il_ex (K := 4) (m := n') (by omega)
      exact ⟨trivial, ih (z + 1) _ τ1 _ _ (by omega) (by omega) (off_tr ho ho1) (by rw [e2, hy, nI_add, hdC]) (il_inc e3)⟩
    by_cases w : wnF S R E z = 60
    · refine ⟨fun q => absurd (show wcI (wnF S R E z) = (Int8.ofInt (-2)).toInt32 by rw [w, im2]; rfl) q, fun _ => ?_⟩
      exact ⟨trivial, fin _ _ (by omega) (by rw [if_pos w]; exact oi_0)⟩
    · refine ⟨fun _ => adv 1 (60 * r + 3510) (by omega) (fun n9 hn9 => fin _ n9 hn9 (by rw [if_neg w]; exact oi_1)), fun q => absurd (fun y => w ((wcI_inj (by omega) (by omega)).mp (show wcI (wnF S R E z) = wcI 60 by rw [show wcI 60 = (-2 : Int32) from rfl, ← im2]; exact y))) q⟩
set_option maxRecDepth 100000 in
/-- the reference's placeHeard -/
theorem c_placeHeard (hS : vSP S) (hR : vRU S R) (hE : vNE S E) (cS : mSP σ S) (cR : mRU (σ.1 11 0 27) S R) (cE : mNE (σ.1 11 0 27) E) {s : Nat} (hs : s < E.ns) {x1 : Int32} (e1 : x1 = nI s) (hm : 7500 ≤ m) (hQ : ∀ τ, off gOff σ τ → Q (some (.inl (phI S R E s))) τ) :
    wp N m (e + 3, 0) TX11_placeHeard 0 [some (.inr (.inr (11, 0, 0))), some (.inl x1), none, none] [] σ Q := by
  have hns := vNE_ns hS hE
  obtain ⟨n, rfl⟩ := il_ex (K := 10) (m := m) (by omega)
  refine ⟨trivial, c_winner (jv := 27) rfl (by decide) hS hR hE cS cR cE hs e1 (by omega) ?_⟩
  intro τ1 ho1 v1
  have hw := wnF_le (s := s) hS hR hE hs
  by_cases w : wnF S R E s = 60
  · refine ⟨fun q => absurd (show wcI (wnF S R E s) = (Int8.ofInt (-2)).toInt32 by rw [w, im2]; rfl) q, fun _ => ?_⟩
    refine ⟨Or.inl rfl, ?_⟩
    have := hQ τ1 ho1
    unfold phI at this
    rw [if_pos w] at this
    rw [im2]; exact this
  · refine ⟨fun _ => ?_, fun q => absurd (fun y => w ((wcI_inj (by omega) (by omega)).mp (show wcI (wnF S R E s) = wcI 60 by rw [show wcI 60 = (-2 : Int32) from rfl, ← im2]; exact y))) q⟩
    refine adv 4 7400 (by omega) (fun n2 hn2 => ?_)
    refine pm_loop (σ := τ1) hS hR hE (mSP_off ho1 (by decide) cS) (mRU_off ho1 (by decide) cR) (mNE_off ho1 (by decide) cE) hs e1 (fun τ2 ho2 => ?_) s 0 n2 _ _ _ (by omega) (by omega) (off_rf _ _) oi_0 oi_0
    have := hQ τ2 (off_tr ho1 ho2)
    unfold phI at this
    rw [if_neg w] at this
    exact this
end RG
