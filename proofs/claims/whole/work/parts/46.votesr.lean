/-! the reference's votes -/
theorem vI_up {F : VF} {a n : Nat} {ch : Nat → Nat} (hF : ∀ h, a ≤ h → F h = none) (v : vI F a n ch) : ∀ r, vI F (a + r) n ch
  | 0 => v
  | r + 1 => vI_none (hF (a + r) (by omega)) (vI_up hF v r)
theorem vcF_up {F : VF} {a b c : Nat} (hF : ∀ h, a ≤ h → F h = none) (v : vcF F b c) : vcF F a c := by
  obtain ⟨h, hh, p, q⟩ := v
  by_cases e : h < a
  · exact ⟨h, e, p, q⟩
  · rw [hF h (by omega)] at q; cases q
theorem vcF_mo {F : VF} {a b c : Nat} (hab : a ≤ b) (v : vcF F a c) : vcF F b c := by
  obtain ⟨h, hh, q⟩ := v
  exact ⟨h, by omega, q⟩
theorem ptF_up {F : VF} {a b c : Nat} (hab : a ≤ b) (hF : ∀ h, a ≤ h → F h = none) : ptF F b c = ptF F a c := sm_tail hab (fun i h1 _ => vP_n (hF i h1))
/-- what the variable of the gap holds -/
def gpV (F : VF) (h : Nat) (x : Int32) : Prop := (vcF F h 60 ∧ x = nI (ptF F h 60)) ∨ (¬ vcF F h 60 ∧ x = -1)
theorem gpV_n {F : VF} {h : Nat} {x : Int32} (q : ∀ p, F h ≠ some (60, p)) (g : gpV F h x) : gpV F (h + 1) x := by
  have e1 : vcF F (h + 1) 60 → vcF F h 60 := by
    rintro ⟨z, hz, p, hp⟩
    by_cases e : z = h
    · rw [e] at hp; exact absurd hp (q p)
    · exact ⟨z, by omega, p, hp⟩
  have e2 : ptF F (h + 1) 60 = ptF F h 60 := by
    show sm (vP F 60) h + vP F 60 h = _
    cases z : F h with
    | none => rw [vP_n z]; rfl
    | some y =>
      obtain ⟨c, p⟩ := y
      rw [vP_s z, if_neg (fun w => q p (by rw [z, w]))]; rfl
  rcases g with ⟨g1, g2⟩ | ⟨g1, g2⟩
  · exact Or.inl ⟨vcF_s g1, by rw [e2]; exact g2⟩
  · exact Or.inr ⟨fun z => g1 (e1 z), g2⟩
theorem gpV_g {F : VF} {h p : Nat} {x : Int32} (q : F h = some (60, p)) (e : x = nI (ptF F h 60 + p)) : gpV F (h + 1) x := by
  refine Or.inl ⟨⟨h, by omega, p, q⟩, ?_⟩
  rw [ptF_st q, if_pos rfl]; exact e
theorem vcO_hi {S : SPc} {R : RUc} {E : NEc} {s : Nat} (hS : vSP S) (hR : vRU S R) (hE : vNE S E) (hs : s < E.ns) (h : Nat) (hh : S.nh ≤ h) : vcO S R E s h = none := by
  cases q : vcO S R E s h with
  | none => rfl
  | some z => obtain ⟨c, p⟩ := z; have := (vcO_b hS hR hE hs q).1; omega
theorem vwO_hi {S : SPc} {R : RUc} {E : NEc} {s : Nat} (hE : vNE S E) (hs : s < E.ns) (h : Nat) (hh : S.nh ≤ h) : vwO S R E s h = none := by
  cases q : E.th s h with
  | none => exact vwO_n q
  | some i => have := (hE.2.2.2.2.1 s h i hs q).1; omega
theorem i4 : Int32.ofInt 4 = nI 4 := by decide
theorem insF_k {ch : Nat → Nat} {k : Nat} (z : Nat) : insF ch k k z = ch z := by
  unfold insF
  by_cases a : z < k
  · rw [if_pos a]
  · by_cases b : z = k
    · rw [if_neg a, if_pos b, b]
    · rw [if_neg a, if_neg b, if_neg (by omega)]
section VT
variable {N e jv : Nat} {σ : ST} {Q : POST} {S : SPc} {R : RUc} {E : NEc}
abbrev vtV (jv : Nat) (x2 x3 x4 : Int32) (o5 : Option AV) : List (Option AV) := [some (.inr (.inr (11, 0, 0))), some (.inr (.inr (11, 0, jv))), some (.inl x2), some (.inl x3), some (.inl x4), o5]
set_option maxRecDepth 100000 in
theorem vt_in {F : VF} {n k : Nat} {ch : Nat → Nat} {M : Nat} (hM : 150 ≤ M) (hk : k < n) (hn6 : n ≤ 6) (hch : ∀ i, i < n → ch i ≤ 60) (hinj : ∀ i j, i < n → j < n → ch i = ch j → i = j) (hb : ∀ c, ptF F 5 c < 2147483648) {x2 x3 x4 : Int32}
    (K : ∀ (m t : Nat) (τ : ST) (x5 : Int32), M ≤ m → off [(11, 0, 37), (11, 0, 38)] σ τ → t ≤ k → (t = 0 ∨ bef (ptF F 5) (ch (t - 1)) (ch k)) → (∀ j, t ≤ j → j < k → bef (ptF F 5) (ch k) (ch j)) → vR (τ.1 11 0 37) (τ.1 11 0 38) wcI n (insF ch k t) (ptF F 5) → wp N m (e + 1, 0) TX11_votes 108 (vtV jv x2 x3 x4 (some (.inl x5))) [] τ Q) :
    ∀ (i m : Nat) (τ : ST) (x5 : Int32), i ≤ k → 20 * i + 20 + M ≤ m → off [(11, 0, 37), (11, 0, 38)] σ τ → (∀ j, i ≤ j → j < k → bef (ptF F 5) (ch k) (ch j)) → vR (τ.1 11 0 37) (τ.1 11 0 38) wcI n (insF ch k i) (ptF F 5) → x5 = nI i →
      wp N m (e + 1, 0) TX11_votes 94 (vtV jv x2 x3 x4 (some (.inl x5))) [] τ Q := by
  intro i
  induction i with
  | zero =>
    intro m τ x5 hi hm ho hj hv e5
    obtain ⟨n1, rfl⟩ := il_ex (K := 2) (m := m) (by omega)
    refine b_le e5 z0 (by omega) (by omega) (fun _ => ?_) (fun q => by omega)
    exact K _ 0 τ _ (by omega) ho (by omega) (Or.inl rfl) hj hv
  | succ i ih =>
    intro m τ x5 hi hm ho hj hv e5
    obtain ⟨n1, rfl⟩ := il_ex (K := 15) (m := m) (by omega)
    have g : x5 - Int32.ofInt 1 = nI i := il_sub1 e5
    have f1 : insF ch k (i + 1) (i + 1) = ch k := by unfold insF; rw [if_neg (by omega), if_pos rfl]
    have f0 : insF ch k (i + 1) i = ch i := by unfold insF; rw [if_pos (by omega)]
    have r1 := hv (i + 1) (by omega)
    have r0 := hv i (by omega)
    rw [f1] at r1
    rw [f0] at r0
    refine b_le e5 z0 (by omega) (by omega) (fun q => by omega) (fun _ => ?_)
    refine ⟨trivial, c_isAhead e5 g (by omega) (by omega) (hch k hk) (hch i (by omega)) (fun q => by have := hinj k i hk (by omega) q; omega) (hb _) (hb _) r1.1 r0.1 r1.2 r0.2 (by omega) (fun q => ?_) (fun q => ?_)⟩
    · refine b_eq (a := 1) rfl z0 (by omega) (by omega) (fun q => by omega) (fun _ => ?_)
      refine ⟨trivial, c_swaps e5 (by omega) (by omega) ?_⟩
      intro τ2 ho2 t1 t2
      refine ⟨trivial, ih _ τ2 _ (by omega) (by omega) (off_tr ho ho2) (fun j h1 h2 => ?_) (fun z hz => ?_) (il_dec e5)⟩
      · by_cases w : j = i
        · rw [w]; exact q
        · exact hj j (by omega) h2
      · rw [t1, t2]
        by_cases w : z = i
        · rw [if_pos w, if_pos w, show insF ch k i z = ch k by unfold insF; rw [if_neg (by omega), if_pos w]]
          exact r1
        · rw [if_neg w, if_neg w]
          by_cases w2 : z = i + 1
          · rw [if_pos w2, if_pos w2, show insF ch k i z = ch i by unfold insF; rw [if_neg (by omega), if_neg w, if_pos (by omega), w2, Nat.add_sub_cancel]]
            exact r0
          · rw [if_neg w2, if_neg w2, show insF ch k i z = insF ch k (i + 1) z by
              unfold insF
              by_cases w3 : z < i
              · rw [if_pos w3, if_pos (show z < i + 1 by omega)]
              · rw [if_neg w3, if_neg w, if_neg (show ¬ z < i + 1 by omega), if_neg w2]]
            exact hv z hz
    · refine b_eq (a := 0) rfl z0 (by omega) (by omega) (fun _ => ?_) (fun q => absurd rfl q)
      exact K _ (i + 1) τ _ (by omega) ho hi (Or.inr (bef_tot q (fun w => by have := hinj k i hk (by omega) w; omega))) hj hv
set_option maxRecDepth 100000 in
theorem vt_srt {F : VF} {n : Nat} {ch : Nat → Nat} (v : vJ F n ch) (hn6 : n ≤ 6) (hb : ∀ c, ptF F 5 c < 2147483648) (hc : ∀ c, vcF F 5 c → c ≤ 60) {x2 x3 : Int32} (hn : σ.1 11 0 39 0 = nI n) (ht : σ.1 11 0 40 0 = nI (toF F 5))
    (hQ : ∀ τ, off [(11, 0, 37), (11, 0, 38)] σ τ → mVT τ F → Q none τ) :
    ∀ (r f m : Nat) (τ : ST) (x4 : Int32) (o5 : Option AV) (ch' : Nat → Nat), (f + r = n ∨ (r = 0 ∧ n = 0 ∧ f = 1)) → 1 ≤ f → 200 * r + 400 ≤ m → off [(11, 0, 37), (11, 0, 38)] σ τ → (∀ c, (∃ i, i < n ∧ ch' i = c) ↔ ∃ i, i < n ∧ ch i = c) → (∀ i j, i < n → j < n → ch' i = ch' j → i = j) → srt (ptF F 5) ch' f → vR (τ.1 11 0 37) (τ.1 11 0 38) wcI n ch' (ptF F 5) → x4 = nI f →
      wp N m (e + 1, 0) TX11_votes 88 (vtV jv x2 x3 x4 o5) [] τ Q := by
  intro r
  induction r with
  | zero =>
    intro f m τ x4 o5 ch' hr hf hm ho a1 a2 a3 hv e4
    obtain ⟨n1, rfl⟩ := il_ex (K := 10) (m := m) (by omega)
    have hn' : τ.1 11 0 39 0 = nI n := by rw [off_1 ho (by decide)]; exact hn
    refine b_ge e4 hn' (by omega) (by omega) (fun _ => ?_) (fun q => by omega)
    have a3' : srt (ptF F 5) ch' n := fun i j h1 h2 => a3 i j h1 (by omega)
    have rk := vtE_eq (rnk_ofJ v a1 a3')
    refine hQ τ ho ⟨by rw [hn', rk.1], by rw [off_1 ho (by decide)]; exact ht, fun i hi => ?_⟩
    rw [← rk.1] at hi
    rw [← rk.2 i hi]
    exact hv i hi
  | succ r ih =>
    intro f m τ x4 o5 ch' hr hf hm ho a1 a2 a3 hv e4
    obtain ⟨n1, rfl⟩ := il_ex (K := 10) (m := m) (by omega)
    have hfn : f < n := by omega
    have hn' : τ.1 11 0 39 0 = nI n := by rw [off_1 ho (by decide)]; exact hn
    have hch : ∀ i, i < n → ch' i ≤ 60 := by
      intro i hi
      obtain ⟨j, hj, ej⟩ := (a1 (ch' i)).mp ⟨i, hi, rfl⟩
      rw [← ej]
      exact hc _ (v.1 j hj)
    refine b_ge e4 hn' (by omega) (by omega) (fun q => by omega) (fun _ => ?_)
    refine vt_in (σ := τ) (M := 200 * r + 410) (by omega) hfn hn6 hch a2 hb ?_ f _ τ x4 (Nat.le_refl _) (by omega) (off_rf _ _) (fun j h1 h2 => by omega) (fun z hz => by rw [insF_k]; exact hv z hz) e4
    intro m2 t τ2 x5 hm2 ho2 t1 t2 t3 hv2
    obtain ⟨n2, rfl⟩ := il_ex (K := 2) (m := m2) (by omega)
    exact ⟨trivial, ih (f + 1) _ τ2 _ _ (insF ch' f t) (by omega) (by omega) (by omega) (off_tr ho ho2) (fun c => (insF_mem t1 hfn c).trans (a1 c)) (insF_inj t1 hfn a2) (insF_srt t1 a3 t2 t3) hv2 (il_inc e4)⟩
set_option maxRecDepth 100000 in
theorem vt_sum {F : VF} {n : Nat} {ch : Nat → Nat} (v : vJ F n ch) (hn6 : n ≤ 6) (hb : ∀ c, ptF F 5 c < 2147483648) (hc : ∀ c, vcF F 5 c → c ≤ 60) {x2 x3 : Int32} (hn : σ.1 11 0 39 0 = nI n) (hv : vR (σ.1 11 0 37) (σ.1 11 0 38) wcI n ch (ptF F 5))
    (hQ : ∀ τ, off gOff σ τ → mVT τ F → Q none τ) :
    ∀ (r k m : Nat) (τ : ST) (x4 : Int32) (o5 : Option AV), k + r = n → 30 * r + 1700 ≤ m → off [(11, 0, 40)] σ τ → τ.1 11 0 40 0 = nI (sm (fun i => ptF F 5 (ch i)) k) → x4 = nI k →
      wp N m (e + 1, 0) TX11_votes 71 (vtV jv x2 x3 x4 o5) [] τ Q := by
  intro r
  induction r with
  | zero =>
    intro k m τ x4 o5 hr hm ho ht e4
    obtain ⟨n1, rfl⟩ := il_ex (K := 10) (m := m) (by omega)
    obtain rfl : k = n := by omega
    have hn' : τ.1 11 0 39 0 = nI k := by rw [off_1 ho (by decide)]; exact hn
    have hv' : vR (τ.1 11 0 37) (τ.1 11 0 38) wcI k ch (ptF F 5) := by
      rw [(ho 11 0 37 (by decide)).1, (ho 11 0 38 (by decide)).1]; exact hv
    refine b_ge e4 hn' (by omega) (by omega) (fun _ => ?_) (fun q => by omega)
    refine adv 2 1650 (by omega) (fun n2 hn2 => ?_)
    refine vt_srt (σ := τ) v hn6 hb hc hn' (by rw [ht, v.2.2.2]) (fun τ2 ho2 h2 => hQ τ2 (off_tr (off_in ho (by decide)) (off_in ho2 (by decide))) h2) (k - 1) 1 n2 τ _ _ ch (by omega) (by omega) (by omega) (off_rf _ _) (fun c => Iff.rfl) v.2.2.1 (fun i j h1 h2 => by omega) hv' oi_1
  | succ r ih =>
    intro k m τ x4 o5 hr hm ho ht e4
    obtain ⟨n1, rfl⟩ := il_ex (K := 20) (m := m) (by omega)
    have hn' : τ.1 11 0 39 0 = nI n := by rw [off_1 ho (by decide)]; exact hn
    have hv' : τ.1 11 0 38 k = nI (ptF F 5 (ch k)) := by rw [off_1 ho (by decide)]; exact (hv k (by omega)).2
    refine b_ge e4 hn' (by omega) (by omega) (fun q => by omega) (fun _ => ?_)
    refine ⟨il_in e4 (by omega) (by omega), ?_⟩
    refine ⟨trivial, ih (k + 1) _ _ _ _ (by omega) (by omega) (off_uI ho (by decide)) ?_ (il_inc e4)⟩
    rw [uI_at, il_cl e4 (by omega)]
    show τ.1 11 0 40 0 + τ.1 11 0 38 k = _
    rw [ht, hv', nI_add]; rfl
set_option maxRecDepth 100000 in
theorem vt_loop (a : arO N 11 jv = some (1, 322)) (hj : (11, 0, jv) ∉ gOff) (hS : vSP S) (hR : vRU S R) (hE : vNE S E) (cS : mSP σ S) (cR : mRU (σ.1 11 0 jv) S R) (cE : mNE (σ.1 11 0 jv) E) {s : Nat} (hs : s < E.ns) {x2 : Int32} (e2 : x2 = nI s) (hQ : ∀ τ, off gOff σ τ → mVT τ (vcO S R E s) → Q none τ) :
    ∀ (r h m : Nat) (τ : ST) (x3 x4 : Int32) (o5 : Option AV) (n : Nat) (ch : Nat → Nat), h + r = S.nh → 60 * r + 2500 ≤ m → off gOff σ τ → vI (vwO S R E s) h n ch → τ.1 11 0 39 0 = nI n → τ.1 11 0 40 0 = nI 0 → vR (τ.1 11 0 37) (τ.1 11 0 38) wcI n ch (ptF (vwO S R E s) h) → gpV (vcO S R E s) h x3 → x4 = nI h →
      wp N m (e + 1, 0) TX11_votes 10 (vtV jv x2 x3 x4 o5) [] τ Q := by
  have hns := vNE_ns hS hE
  have hnh := hS.1
  have h60 := hS.2.2.2.1
  have hb : ∀ n c, n ≤ 5 → ptF (vcO S R E s) n c < 2147483648 := by
    intro n c hn
    have := ptF_le (F := vcO S R E s) (M := 19800) (fun h c p q => (vcO_b hS hR hE hs q).2.1) c n
    have : n * 19800 ≤ 5 * 19800 := Nat.mul_le_mul_right _ hn
    omega
  have hc : ∀ h c, vcF (vcO S R E s) h c → c ≤ 60 := by
    intro h c ⟨z, _, p, q⟩
    exact (vcO_b hS hR hE hs q).2.2.2
  have hw : ∀ h c, vcF (vwO S R E s) h c → c < 60 := by
    intro h c ⟨z, _, p, q⟩
    exact (vw_c hS hE hs q).1
  intro r
  induction r with
  | zero =>
    intro h m τ x3 x4 o5 n ch hr hm ho v hn ht hv hg e4
    obtain rfl : h = S.nh := by omega
    obtain ⟨n1, rfl⟩ := il_ex (K := 10) (m := m) (by omega)
    have cS' := mSP_off ho (by decide) cS
    refine b_ge e4 cS'.1 (by omega) (by omega) (fun _ => ?_) (fun q => by omega)
    have v5 : vI (vwO S R E s) 5 n ch := by
      have := vI_up (fun h hh => vwO_hi hE hs h hh) v (5 - S.nh)
      rw [show S.nh + (5 - S.nh) = 5 by omega] at this
      exact this
    have hv5 : vR (τ.1 11 0 37) (τ.1 11 0 38) wcI n ch (ptF (vwO S R E s) 5) := vR_pt hv (fun i _ => ptF_up hnh (fun h hh => vwO_hi hE hs h hh))
    have hn5 := v5.1
    have n60 : ∀ i, i < n → ch i < 60 := fun i hi => hw _ _ (v5.2.1 i hi)
    have p60 : ptF (vwO S R E s) 5 60 = 0 := ptF_0 (fun z => by have := hw _ _ z; omega)
    have g5 : (vcF (vcO S R E s) 5 60 ∧ x3 = nI (ptF (vcO S R E s) 5 60)) ∨ (¬ vcF (vcO S R E s) 5 60 ∧ x3 = -1) := by
      rcases hg with ⟨g1, g2⟩ | ⟨g1, g2⟩
      · exact Or.inl ⟨vcF_mo hnh g1, by rw [g2, ptF_up hnh (fun h hh => vcO_hi hS hR hE hs h hh)]⟩
      · exact Or.inr ⟨fun z => g1 (vcF_up (fun h hh => vcO_hi hS hR hE hs h hh) z), g2⟩
    rcases g5 with ⟨g1, g2⟩ | ⟨g1, g2⟩
    · refine ⟨fun q => absurd (show nI (ptF (vcO S R E s) 5 60) < 0 by rw [← g2]; exact q) (nI_pos (hb 5 60 (by omega))), fun _ => ?_⟩
      refine ⟨trivial, c_gives (c := 60) (show (Int8.ofInt (-2)).toInt32 = wcI 60 by rw [im2]; rfl) g2 (by omega) (by omega) (fun i hi => Nat.le_of_lt (n60 i hi)) v5.2.2.2.1 (fun _ => p60) hn hv5 (by omega) ?_⟩
      intro τ2 n2 ch2 ho2 st a1 a2
      rcases st with ⟨i, hi, w, _, _⟩ | ⟨_, w1, w2⟩
      · have := n60 i hi; omega
      · subst w1; subst w2
        refine adv 2 2000 (by omega) (fun n3 hn3 => ?_)
        refine vt_sum (σ := τ2) (vJ_yes hS hE hs v5 g1) (by omega) (fun c => hb 5 c (by omega)) (fun c => hc 5 c) a1 (vR_pt a2 (fun i hi => ?_)) (fun τ3 ho3 h3 => hQ τ3 (off_tr (off_tr ho (off_in ho2 (by decide))) ho3) h3) (n + 1) 0 n3 τ2 _ _ (by omega) (by omega) (off_rf _ _) (by rw [off_1 ho2 (by decide)]; exact ht) oi_0
        show ptF (vcO S R E s) 5 (if i = n then 60 else ch i) = ptF (vwO S R E s) 5 (if i = n then 60 else ch i) + if (if i = n then 60 else ch i) = 60 then ptF (vcO S R E s) 5 60 else 0
        by_cases w : i = n
        · rw [if_pos w, if_pos rfl, p60, Nat.zero_add]
        · rw [if_neg w, if_neg (by have := n60 i (by omega); omega), vw_pt hS hE hs (by have := n60 i (by omega); omega), Nat.add_zero]
    · refine ⟨fun _ => ?_, fun q => absurd (show x3 < 0 by rw [g2]; decide) q⟩
      refine adv 2 2000 (by omega) (fun n3 hn3 => ?_)
      refine vt_sum (σ := τ) (vJ_no hS hE hs v5 g1) (by omega) (fun c => hb 5 c (by omega)) (fun c => hc 5 c) hn (vR_pt hv5 (fun i hi => ?_)) (fun τ3 ho3 h3 => hQ τ3 (off_tr ho ho3) h3) n 0 n3 τ _ _ (by omega) (by omega) (off_rf _ _) ht oi_0
      exact (vw_pt hS hE hs (by have := n60 i hi; omega) 5).symm
  | succ r ih =>
    intro h m τ x3 x4 o5 n ch hr hm ho v hn ht hv hg e4
    obtain ⟨n1, rfl⟩ := il_ex (K := 45) (m := m) (by omega)
    have cS' := mSP_off ho (by decide) cS
    have cR' := mRU_off ho hj cR
    have cE' := mNE_off ho hj cE
    have v1 := v.1
    have nxt : ∀ (τ' : ST) (y3 : Int32) (p5 : Option AV) (n' n2 : Nat) (ch2 : Nat → Nat), 60 * r + 2502 ≤ n' → off gOff σ τ' → vI (vwO S R E s) (h + 1) n2 ch2 → τ'.1 11 0 39 0 = nI n2 → τ'.1 11 0 40 0 = nI 0 → vR (τ'.1 11 0 37) (τ'.1 11 0 38) wcI n2 ch2 (ptF (vwO S R E s) (h + 1)) → gpV (vcO S R E s) (h + 1) y3 →
        wp N n' (e + 1, 0) TX11_votes 61 (vtV jv x2 y3 x4 p5) [] τ' Q := by
      intro τ' y3 p5 n' n2 ch2 hn' ho' v' a1 a0 a2 a3
      obtain ⟨n3, rfl⟩ := il_ex (K := 2) (m := n') (by omega)
      exact ⟨trivial, ih (h + 1) _ τ' _ _ _ n2 ch2 (by omega) (by omega) ho' v' a1 a0 a2 a3 (il_inc e4)⟩
    have hlt : ∀ i, E.th s h = some i → i < 2147483648 := fun i e' => by
      have h1 := hE.2.2.2.2.1 s h i hs e'
      have h2 := (hS.2.1 h h1.1).2
      omega
    refine b_ge e4 cS'.1 (by omega) (by omega) (fun q => by omega) (fun _ => ?_)
    refine ⟨trivial, c_placeOfM a hS hE cE' (by omega) e4 (by omega) ?_⟩
    cases hpl : plc E h with
    | none =>
      refine ⟨fun q => absurd (show (-1 : Int32) = Int32.ofInt (-1) by rw [im1]) q, fun _ => ?_⟩
      have q1 : E.th s h = none := by
        cases q : E.th s h with
        | none => rfl
        | some i => have := (hE.2.2.2.2.1 s h i hs q).2.2; rw [hpl] at this; cases this
      have w1 := vwO_n (S := S) (R := R) q1
      refine ⟨trivial, nxt τ _ _ _ n ch (by omega) ho (vI_none w1 v) hn ht (vR_pt hv (fun i _ => ptF_nn w1 _)) (gpV_n (fun p z => ?_) hg)⟩
      rw [vcO_n q1 hpl] at z; cases z
    | some z =>
      have hz := plc_some hpl
      have hnj := hE.1
      refine ⟨fun _ => ?_, fun q => absurd (fun w => nI_m1 (k := z) (by omega) (by rw [← im1]; exact w)) q⟩
      have hj' : (plc E h).isSome = true := by rw [hpl]; rfl
      refine ⟨trivial, c_there a e2 e4 (by omega) (by omega) (by omega) ?_⟩
      rw [cE'.2.2.2 s hs h (by omega)]
      have g5 : Int32.ofInt 5 + x4 = nI (5 + h) := by rw [e4, i5, nI_add]
      have hwt : τ.1 11 0 jv (Int32.ofInt 5 + x4).toNatClampNeg = nI (R.wt h) := by rw [il_cl g5 (by omega)]; exact cR'.2.2.2.2.2 h (by omega)
      refine b_thereG ne1 rfl hlt (fun i q1 q2 => ?_) (fun q1 => ?_)
      · have h1 := hE.2.2.2.2.1 s h i hs q1
        have h2 := (hS.2.1 h h1.1).2
        have h3 := cS'.2.2.2.1 h h1.1 i h1.2.1
        have h4 := (hS.2.2.1 h h1.1 i h1.2.1).1
        have g12 : (Int8.ofInt 12).toInt32 * x4 + oI (-1) (E.th s h) = nI (12 * h + i) := by rw [e4, i12, q1, pk_mul]; exact nI_add _ _
        have hwd : τ.1 11 0 22 ((Int8.ofInt 12).toInt32 * x4 + oI (-1) (E.th s h)).toNatClampNeg = nI (S.wd h i) := by rw [il_cl g12 (by omega)]; exact h3.1
        have q := vwO_t (S := S) (R := R) q1
        refine ⟨il_in g12 (by omega) (by omega), ?_⟩
        refine arr_of a ⟨il_in g5 (by omega) (by omega), ?_⟩
        refine ⟨trivial, c_gives (c := S.wd h i) (p := 100 * R.wt h) (show _ = wcI (S.wd h i) by unfold wcI; rw [if_neg (by omega)]; exact hwd) (show (Int8.ofInt 100).toInt32 * τ.1 11 0 jv (Int32.ofInt 5 + x4).toNatClampNeg = nI (100 * R.wt h) by rw [i100, hwt, pk_mul]) (by omega) (by omega) (fun i hi => Nat.le_of_lt (hw _ _ (v.2.1 i hi))) v.2.2.2.1 (fun hne => ptF_0 (fun z => by obtain ⟨i, hi, ei⟩ := v.2.2.1 _ z; exact hne i hi ei)) hn hv (by omega) ?_⟩
        intro τ2 n2 ch2 ho2 st a1 a2
        refine nxt τ2 _ _ _ n2 ch2 (by omega) (off_tr ho (off_in ho2 (by decide))) (vI_st q v st) a1 (by rw [off_1 ho2 (by decide)]; exact ht) (vR_pt a2 (fun i _ => ptF_st q _)) (gpV_n (fun p w => ?_) hg)
        rw [vcO_t q1] at w
        have := (Prod.mk.inj (Option.some.inj w)).1
        omega
      · have w1 := vwO_n (S := S) (R := R) q1
        have q := vcO_g (S := S) (R := R) q1 hj'
        have at32 : ∀ (y : Int32) (n' : Nat) (p5 : Option AV), 60 * r + 2520 ≤ n' → y = nI (ptF (vcO S R E s) h 60) → wp N n' (e + 1, 0) TX11_votes 32 (vtV jv x2 x3 x4 p5) [.inl y] τ Q := by
          intro y n' p5 hn' hy
          obtain ⟨n3, rfl⟩ := il_ex (K := 12) (m := n') (by omega)
          refine arr_of a ⟨il_in i4 (by omega) (by omega), ?_⟩
          refine arr_of a ⟨il_in g5 (by omega) (by omega), ?_⟩
          refine ⟨trivial, nxt τ _ _ _ n ch (by omega) ho (vI_none w1 v) hn ht (vR_pt hv (fun i _ => ptF_nn w1 _)) (gpV_g q ?_)⟩
          have hsh : τ.1 11 0 jv (Int32.ofInt 4).toNatClampNeg = nI R.sh := by rw [il_cl i4 (by omega)]; exact cR'.2.2.2.2.1
          show y + τ.1 11 0 jv (Int32.ofInt 4).toNatClampNeg * τ.1 11 0 jv (Int32.ofInt 5 + x4).toNatClampNeg = _
          rw [hy, hsh, hwt, pk_mul, nI_add]
        rcases hg with ⟨g1, g2⟩ | ⟨g1, g2⟩
        · refine ⟨fun _ => adv 1 (60 * r + 2520) (by omega) (fun n9 hn9 => at32 _ n9 _ hn9 g2), fun q => absurd (show (0 : Int32) ≤ x3 by rw [g2]; exact nI_pos' (hb h 60 (by omega))) q⟩
        · refine ⟨fun q => absurd (show (0 : Int32) ≤ x3 from q) (by rw [g2]; decide), fun _ => ?_⟩
          exact ⟨trivial, at32 _ _ _ (by omega) (by rw [ptF_0 g1]; exact oi_0)⟩
set_option maxRecDepth 100000 in
/-- the reference's votes -/
theorem c_votes (a : arO N 11 jv = some (1, 322)) (hj : (11, 0, jv) ∉ gOff) (hS : vSP S) (hR : vRU S R) (hE : vNE S E) (cS : mSP σ S) (cR : mRU (σ.1 11 0 jv) S R) (cE : mNE (σ.1 11 0 jv) E) {s m : Nat} (hs : s < E.ns) {x2 : Int32} (e2 : x2 = nI s) (hm : 3000 ≤ m) (hQ : ∀ τ, off gOff σ τ → mVT τ (vcO S R E s) → Q none τ) :
    wp N m (e + 1, 0) TX11_votes 0 [some (.inr (.inr (11, 0, 0))), some (.inr (.inr (11, 0, jv))), some (.inl x2), none, none, none] [] σ Q := by
  have hnh := hS.1
  refine adv 10 2900 (by omega) (fun n hn => ?_)
  have ho : off gOff σ (uI (uI σ 11 0 39 0 (Int32.ofInt 0)) 11 0 40 0 (Int32.ofInt 0)) := off_uI (off_uI (off_rf _ _) (by decide)) (by decide)
  refine vt_loop a hj hS hR hE cS cR cE hs e2 hQ S.nh 0 n _ _ _ _ 0 (fun _ => 0) (by omega) (by omega) ho (vI_0 _ _) ?_ ?_ (fun i hi => absurd hi (Nat.not_lt_zero _)) (Or.inr ⟨fun ⟨z, hz, _⟩ => absurd hz (Nat.not_lt_zero _), im1⟩) oi_0
  · rw [uI_nr _ _ _ _ _ _ (by decide), uI_at]; exact oi_0
  · rw [uI_at]; exact oi_0
/-- every SLOT has a choice -/
theorem vt_pos {s : Nat} (hE : vNE S E) (hS : vSP S) (hs : s < E.ns) : 1 ≤ (vtE (vcO S R E s)).1 := by
  obtain ⟨h, i, q⟩ := hE.2.2.2.2.2.1 s hs
  have h1 := hE.2.2.2.2.1 s h i hs q
  have hnh := hS.1
  obtain ⟨j, hj, _⟩ := (vtE_ok (vcO S R E s)).2.2.1 (S.wd h i) ⟨h, by omega, _, vcO_t q⟩
  omega
/-- who wins (60: nobody) -/
noncomputable def wnF (S : SPc) (R : RUc) (E : NEc) (s : Nat) : Nat := (vtE (vcO S R E s)).2 0
theorem wnF_le {s : Nat} (hS : vSP S) (hR : vRU S R) (hE : vNE S E) (hs : s < E.ns) : wnF S R E s ≤ 60 ∧ (wnF S R E s ≠ 60 → wnF S R E s < S.nw) := by
  obtain ⟨h, hh, p, q⟩ := (vtE_ok (vcO S R E s)).2.1 0 (vt_pos (R := R) hE hS hs)
  have := vcO_b hS hR hE hs q
  unfold wnF
  exact ⟨this.2.2.2, fun z => by rcases this.2.2.1 with w | w <;> omega⟩
theorem vc60 {s : Nat} (hS : vSP S) (hR : vRU S R) (hE : vNE S E) (hs : s < E.ns) : ∀ c, vcF (vcO S R E s) 5 c → c ≤ 60 := by
  intro c ⟨z, _, p, q⟩
  exact (vcO_b hS hR hE hs q).2.2.2
theorem c_winner (a : arO N 11 jv = some (1, 322)) (hj : (11, 0, jv) ∉ gOff) (hS : vSP S) (hR : vRU S R) (hE : vNE S E) (cS : mSP σ S) (cR : mRU (σ.1 11 0 jv) S R) (cE : mNE (σ.1 11 0 jv) E) {s m : Nat} (hs : s < E.ns) {x2 : Int32} (e2 : x2 = nI s) (hm : 3100 ≤ m) (hQ : ∀ τ, off gOff σ τ → mVT τ (vcO S R E s) → Q (some (.inl (wcI (wnF S R E s)))) τ) :
    wp N m (e + 2, 0) TX11_winner 0 [some (.inr (.inr (11, 0, 0))), some (.inr (.inr (11, 0, jv))), some (.inl x2)] [] σ Q := by
  obtain ⟨n, rfl⟩ := il_ex (K := 20) (m := m) (by omega)
  refine ⟨trivial, c_votes a hj hS hR hE cS cR cE hs e2 (by omega) ?_⟩
  intro τ ho hv
  refine ⟨il_in oi_0 (by omega) (by omega), Or.inl rfl, ?_⟩
  have := (hv.2.2 0 (vt_pos hE hS hs)).1
  rw [il_cl oi_0 (by omega)]
  show Q (some (.inl (τ.1 11 0 37 0))) τ
  rw [this]
  exact hQ τ ho hv
theorem c_doubtOf (a : arO N 11 jv = some (1, 322)) (hj : (11, 0, jv) ∉ gOff) (hS : vSP S) (hR : vRU S R) (hE : vNE S E) (cS : mSP σ S) (cR : mRU (σ.1 11 0 jv) S R) (cE : mNE (σ.1 11 0 jv) E) {s m : Nat} (hs : s < E.ns) {x2 : Int32} (e2 : x2 = nI s) (hm : 3100 ≤ m) (hQ : ∀ τ, off gOff σ τ → mVT τ (vcO S R E s) → Q (some (.inl (nI (dbF (vcO S R E s))))) τ) :
    wp N m (e + 2, 0) TX11_doubtOf 0 [some (.inr (.inr (11, 0, 0))), some (.inr (.inr (11, 0, jv))), some (.inl x2)] [] σ Q := by
  obtain ⟨n, rfl⟩ := il_ex (K := 30) (m := m) (by omega)
  refine ⟨trivial, c_votes a hj hS hR hE cS cR cE hs e2 (by omega) ?_⟩
  intro τ ho hv
  have hp := vt_pos (R := R) hE hS hs
  have h5 := (vtE_ok (vcO S R E s)).1
  have q0 : τ.1 11 0 38 (Int32.ofInt 0).toNatClampNeg = nI (ptO (vcO S R E s) 0) := by
    rw [il_cl oi_0 (by omega)]; unfold ptO; rw [if_pos (by omega)]; exact (hv.2.2 0 (by omega)).2
  have fin : ∀ (y : Int32) (n' : Nat), 10 ≤ n' → y = nI (ptO (vcO S R E s) 1) → wp N n' (e + 2, 0) TX11_doubtOf 21 [some (.inr (.inr (11, 0, 0))), some (.inr (.inr (11, 0, jv))), some (.inl x2)] [.inl y, .inl (τ.1 11 0 40 0 - τ.1 11 0 38 (Int32.ofInt 0).toNatClampNeg)] τ Q := by
    intro y n' hn' hy
    obtain ⟨n2, rfl⟩ := il_ex (K := 2) (m := n') (by omega)
    refine ⟨Or.inl rfl, ?_⟩
    have h0 := ptO_to (vcO S R E s) 0
    rw [show τ.1 11 0 40 0 - τ.1 11 0 38 (Int32.ofInt 0).toNatClampNeg + y = nI (dbF (vcO S R E s)) by rw [q0, hy, hv.2.1, pk_sub h0, nI_add]; rfl]
    exact hQ τ ho hv
  refine ⟨il_in oi_0 (by omega) (by omega), ?_⟩
  refine b_le hv.1 oi_1 (by omega) (by omega) (fun q => ?_) (fun q => ?_)
  · exact adv 1 10 (by omega) (fun n9 hn9 => fin _ n9 hn9 (by unfold ptO; rw [if_neg (by omega)]; exact oi_0))
  · refine ⟨il_in oi_1 (by omega) (by omega), trivial, fin _ _ (by omega) ?_⟩
    rw [il_cl oi_1 (by omega)]
    unfold ptO; rw [if_pos (by omega)]; exact (hv.2.2 1 (by omega)).2
end VT
