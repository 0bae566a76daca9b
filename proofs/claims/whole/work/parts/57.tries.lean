/-! the reference's search for the best order -/
abbrev yOff : List RF := [(11, 0, 32), (11, 0, 33), (11, 0, 31), (11, 0, 34), (11, 0, 35), (11, 0, 36), (11, 0, 28), (11, 0, 44), (11, 0, 45), (11, 0, 46)]
def mB (σ : ST) (S : SPc) (b : BO) : Prop := (b = none ∧ σ.1 11 0 46 0 = -1) ∨ ∃ c o, b = some (c, o) ∧ c ≤ 10000 ∧ σ.1 11 0 46 0 = nI c ∧ ∀ i, i < S.nh → σ.1 11 0 45 i = nI (o i)
theorem mB_off {L : List RF} {σ τ : ST} {S : SPc} {b : BO} (h : off L σ τ) (h1 : (11, 0, 46) ∉ L) (h5 : (11, 0, 45) ∉ L) (c : mB σ S b) : mB τ S b := by
  unfold mB at *
  rw [(h 11 0 46 h1).1, (h 11 0 45 h5).1]
  exact c
section TR
variable {N e : Nat} {S : SPc} {R : RUc}
set_option maxRecDepth 100000 in
theorem ii_loop {σ : ST} {Q : POST} {o : Nat → Nat} {k h : Nat} (hk : k ≤ 5) (ho5 : ∀ p, p < k → o p < 2147483648) (hh : h < 2147483648) (hr : ∀ p, p < k → σ.1 11 0 44 p = nI (o p)) {x1 x2 : Int32} (e1 : x1 = nI k) (e2 : x2 = nI h) (h1 : ¬ (∀ p, p < k → o p ≠ h) → Q (some (.inl (nI 1))) σ) (h0 : (∀ p, p < k → o p ≠ h) → Q (some (.inl (nI 0))) σ) :
    ∀ (r i m : Nat) (x3 : Int32), i + r = k → 20 * r + 20 ≤ m → (∀ p, p < i → o p ≠ h) → x3 = nI i →
      wp N m (e, 0) TX11_isIn 2 [some (.inr (.inr (11, 0, 0))), some (.inl x1), some (.inl x2), some (.inl x3)] [] σ Q := by
  intro r
  induction r with
  | zero =>
    intro i m x3 hr' hm hp e3
    obtain ⟨n, rfl⟩ := il_ex (K := 10) (m := m) (by omega)
    obtain rfl : i = k := by omega
    refine b_ge e3 e1 (by omega) (by omega) (fun _ => ?_) (fun q => by omega)
    exact ⟨Or.inr (Or.inl rfl), h0 hp⟩
  | succ r ih =>
    intro i m x3 hr' hm hp e3
    obtain ⟨n, rfl⟩ := il_ex (K := 15) (m := m) (by omega)
    refine b_ge e3 e1 (by omega) (by omega) (fun q => by omega) (fun _ => ?_)
    refine ⟨il_in e3 (by omega) (by omega), ?_⟩
    refine b_ne (show σ.1 11 0 44 x3.toNatClampNeg = nI (o i) by rw [il_cl e3 (by omega)]; exact hr i (by omega)) e2 (ho5 i (by omega)) hh (fun q => ?_) (fun q => ?_)
    · refine ⟨trivial, ih (i + 1) _ _ (by omega) (by omega) (fun p hp' => ?_) (il_inc e3)⟩
      by_cases z : p = i
      · rw [z]; exact q
      · exact hp p (by omega)
    · exact ⟨Or.inr (Or.inr rfl), h1 (fun z => z i (by omega) q)⟩
set_option maxRecDepth 100000 in
theorem c_isIn {σ : ST} {Q : POST} {m : Nat} {o : Nat → Nat} {k h : Nat} (hk : k ≤ 5) (ho5 : ∀ p, p < k → o p < 2147483648) (hh : h < 2147483648) (hr : ∀ p, p < k → σ.1 11 0 44 p = nI (o p)) {x1 x2 : Int32} (e1 : x1 = nI k) (e2 : x2 = nI h) (hm : 200 ≤ m) (h1 : ¬ (∀ p, p < k → o p ≠ h) → Q (some (.inl (nI 1))) σ) (h0 : (∀ p, p < k → o p ≠ h) → Q (some (.inl (nI 0))) σ) :
    wp N m (e, 0) TX11_isIn 0 [some (.inr (.inr (11, 0, 0))), some (.inl x1), some (.inl x2), none] [] σ Q := by
  refine adv 2 190 (by omega) (fun n hn => ?_)
  exact ii_loop hk ho5 hh hr e1 e2 h1 h0 k 0 n _ (by omega) (by omega) (fun p hp => absurd hp (Nat.not_lt_zero _)) oi_0
set_option maxRecDepth 100000 in
theorem tk_loop {σ : ST} {Q : POST} {o : Nat → Nat} (hS : vSP S) (hs25 : σ.1 11 0 25 0 = nI S.nh) (hr : ∀ p, p < S.nh → σ.1 11 0 44 p = nI (o p)) {x1 x2 : Int32} (hQ : ∀ τ, off [(11, 0, 45)] σ τ → (∀ p, p < S.nh → τ.1 11 0 45 p = nI (o p)) → Q none τ) :
    ∀ (r i m : Nat) (τ : ST) (x3 : Int32), i + r = S.nh → 20 * r + 20 ≤ m → off [(11, 0, 45)] σ τ → (∀ p, p < i → τ.1 11 0 45 p = nI (o p)) → x3 = nI i →
      wp N m (e, 0) TX11_tries 73 [some (.inr (.inr (11, 0, 0))), some (.inl x1), some (.inl x2), some (.inl x3)] [] τ Q := by
  have hnh := hS.1
  intro r
  induction r with
  | zero =>
    intro i m τ x3 hr' hm ho hp e3
    obtain ⟨n, rfl⟩ := il_ex (K := 10) (m := m) (by omega)
    obtain rfl : i = S.nh := by omega
    refine b_ge e3 (show τ.1 11 0 25 0 = nI S.nh by rw [off_1 ho (by decide)]; exact hs25) (by omega) (by omega) (fun _ => ?_) (fun q => by omega)
    exact hQ τ ho hp
  | succ r ih =>
    intro i m τ x3 hr' hm ho hp e3
    obtain ⟨n, rfl⟩ := il_ex (K := 15) (m := m) (by omega)
    refine b_ge e3 (show τ.1 11 0 25 0 = nI S.nh by rw [off_1 ho (by decide)]; exact hs25) (by omega) (by omega) (fun q => by omega) (fun _ => ?_)
    refine ⟨il_in e3 (by omega) (by omega), il_in e3 (by omega) (by omega), ?_⟩
    rw [il_cl e3 (by omega)]
    refine ⟨trivial, ih (i + 1) _ _ _ (by omega) (by omega) (off_uI ho (by decide)) (fun p hp' => ?_) (il_inc e3)⟩
    rw [uI_if]
    by_cases z : p = i
    · rw [if_pos z, z]
      show τ.1 11 0 44 i = _
      rw [off_1 ho (by decide)]; exact hr i (by omega)
    · rw [if_neg z]; exact hp p (by omega)
set_option maxRecDepth 100000 in
theorem tj_loop {σ : ST} {Q : POST} {o : Nat → Nat} {M : Nat} (hS : vSP S) (hR : vRU S R) (cS : mSP σ S) (v : vOr S o S.nh) (hr : ∀ p, p < S.nh → σ.1 11 0 44 p = nI (o p)) {x1 : Int32}
    (K : ∀ (m : Nat) (τ : ST) (x2 x3 : Int32), M ≤ m → off (jOff 28) σ τ → x2 = nI (obC S R o S.nh) → wp N m (e + 6, 0) TX11_tries 59 [some (.inr (.inr (11, 0, 0))), some (.inl x1), some (.inl x2), some (.inl x3)] [] τ Q) :
    ∀ (r i m : Nat) (τ : ST) (x2 x3 : Int32), i + r = S.nh → 2700000 + 50 * r + M ≤ m → off (jOff 28) σ τ → mRU (τ.1 11 0 28) S R → mNE (τ.1 11 0 28) (obE S R o i) → x2 = nI (obC S R o i) → x3 = nI i →
      wp N m (e + 6, 0) TX11_tries 42 [some (.inr (.inr (11, 0, 0))), some (.inl x1), some (.inl x2), some (.inl x3)] [] τ Q := by
  have hnh := hS.1
  intro r
  induction r with
  | zero =>
    intro i m τ x2 x3 hr' hm ho cR cE e2 e3
    obtain ⟨n, rfl⟩ := il_ex (K := 4) (m := m) (by omega)
    obtain rfl : i = S.nh := by omega
    refine b_ge e3 (mSP_off ho (by decide) cS).1 (by omega) (by omega) (fun _ => ?_) (fun q => by omega)
    exact K _ τ _ _ (by omega) ho e2
  | succ r ih =>
    intro i m τ x2 x3 hr' hm ho cR cE e2 e3
    obtain ⟨n, rfl⟩ := il_ex (K := 25) (m := m) (by omega)
    have vi : vOr S o i := ⟨fun p hp => v.1 p (by omega), fun p q hp hq => v.2 p q (by omega) (by omega)⟩
    refine b_ge e3 (mSP_off ho (by decide) cS).1 (by omega) (by omega) (fun q => by omega) (fun _ => ?_)
    refine ⟨il_in e3 (by omega) (by omega), ?_⟩
    refine ⟨trivial, c_joins (jv := 28) (e := e) rfl (by decide) (by decide) hS hR (obE_v hS hR vi) (mSP_off ho (by decide) cS) cR cE (v.1 i (by omega)) (obE_plc.mpr (fun p hp z => by have := v.2 p i (by omega) (by omega) z; omega)) (show τ.1 11 0 44 x3.toNatClampNeg = nI (o i) by rw [il_cl e3 (by omega), off_1 ho (by decide)]; exact hr i (by omega)) (by omega) ?_⟩
    intro τ2 ho2 cR2 cE2
    refine ⟨trivial, ih (i + 1) _ τ2 _ _ (by omega) (by omega) (off_tr ho ho2) cR2 cE2 ?_ (il_inc e3)⟩
    rw [e2, nI_add]; rfl
set_option maxRecDepth 100000 in
/-- the reference's tries -/
theorem c_tries (hS : vSP S) (hR : vRU S R) (h0 : 0 < S.nh) : ∀ (r : Nat) (o : Nat → Nat) (k : Nat) (b : BO) (σ : ST) (Q : POST) (m d : Nat) (x1 : Int32), d = e + r + 6 → vOr S o k → k + r = S.nh → mB σ S b → mSP σ S → mRU (σ.1 11 0 27) S R → (∀ p, p < k → σ.1 11 0 44 p = nI (o p)) → x1 = nI k →
    2800000 + 600 * r ≤ m → (∀ τ, off yOff σ τ → mB τ S (fsr S R r o k b) → (∀ p, p < k → τ.1 11 0 44 p = nI (o p)) → Q none τ) →
    wp N m (d, 0) TX11_tries 0 [some (.inr (.inr (11, 0, 0))), some (.inl x1), none, none] [] σ Q := by
  have hnh := hS.1
  intro r
  induction r with
  | zero =>
    intro o k b σ Q m d x1 hd v hk hb cS cR hr e1 hm hQ
    subst hd
    obtain rfl : k = S.nh := by omega
    obtain ⟨n, rfl⟩ := il_ex (K := 30) (m := m) (by omega)
    have hcl := obC_le (R := R) hS hR v
    refine b_ge oi_0 cS.1 (by omega) (by omega) (fun q => by omega) (fun _ => ?_)
    refine b_ge e1 cS.1 (by omega) (by omega) (fun _ => ?_) (fun q => by omega)
    refine b_ge e1 cS.1 (by omega) (by omega) (fun _ => ?_) (fun q => by omega)
    refine ⟨trivial, c_copies (by omega) ?_⟩
    intro τ ho h1
    refine ⟨trivial, c_empties (jv := 28) rfl (by omega) ?_⟩
    refine adv 4 2750000 (by omega) (fun n1 hn1 => ?_)
    have ho' : off (jOff 28) σ (uI (uI τ 11 0 28 10 (nI 0)) 11 0 28 21 (nI 0)) := off_uI (off_uI (off_in ho (by decide)) (by decide)) (by decide)
    refine tj_loop (e := e) (M := 1000) (o := o) hS hR cS v hr ?_ S.nh 0 n1 _ _ _ (by omega) (by omega) ho' (mRU_eq (fun z hz => ?_) hS cR) ?_ oi_0 oi_0
    · intro m2 τ2 x2 x3 hm2 ho2 e2
      obtain ⟨n2, rfl⟩ := il_ex (K := 10) (m := m2) (by omega)
      have hb2 : mB τ2 S b := mB_off ho2 (by decide) (by decide) hb
      have take : ∀ m', 500 ≤ m' → fsr S R 0 o S.nh b = some (obC S R o S.nh, o) → wp N m' (e + 0 + 6, 0) TX11_tries 68 [some (.inr (.inr (11, 0, 0))), some (.inl x1), some (.inl x2), some (.inl x3)] [] τ2 Q := by
        intro m' hm' hf
        refine adv 5 400 (by omega) (fun n3 hn3 => ?_)
        refine tk_loop (σ := uI τ2 11 0 46 0 x2) (o := o) hS ?_ (fun p hp => ?_) ?_ S.nh 0 n3 _ _ (by omega) (by omega) (off_rf _ _) (fun p hp => absurd hp (Nat.not_lt_zero _)) oi_0
        · rw [uI_nr _ _ _ _ _ _ (by decide)]; exact (mSP_off ho2 (by decide) cS).1
        · rw [uI_nr _ _ _ _ _ _ (by decide), off_1 ho2 (by decide)]; exact hr p hp
        · intro τ3 ho3 h3
          refine hQ τ3 (off_tr (off_uI (off_in ho2 (by decide)) (by decide)) (off_in ho3 (by decide))) ?_ (fun p hp => ?_)
          · rw [hf]
            refine Or.inr ⟨_, _, rfl, by omega, ?_, h3⟩
            rw [off_1 ho3 (by decide), uI_at]; exact e2
          · rw [off_1 ho3 (by decide), uI_nr _ _ _ _ _ _ (by decide), off_1 ho2 (by decide)]; exact hr p hp
      rcases hb2 with ⟨bn, l1⟩ | ⟨c0, o0, bs, bc, l1, l2⟩
      · refine ⟨fun _ => take _ (by omega) (by rw [bn]; rfl), fun q => absurd (show τ2.1 11 0 46 0 = Int32.ofInt (-1) by rw [l1, im1]) q⟩
      · refine ⟨fun q => absurd (show nI c0 = Int32.ofInt (-1) by rw [← l1]; exact q) (b_n1 (by omega)), fun _ => ?_⟩
        refine b_lt e2 l1 (by omega) (by omega) (fun q => ?_) (fun q => ?_)
        · exact take _ (by omega) (by rw [bs]; exact if_pos q)
        · refine hQ τ2 (off_in ho2 (by decide)) ?_ (fun p hp => by rw [off_1 ho2 (by decide)]; exact hr p hp)
          rw [bs]
          refine Or.inr ⟨c0, o0, ?_, bc, l1, l2⟩
          exact if_neg (show ¬ obC S R o S.nh < c0 by omega)
    · rw [uI_if, if_neg (by omega), uI_if, if_neg (by omega)]
      exact h1 z (by omega)
    · refine ⟨?_, ?_, fun p hp => absurd hp (Nat.not_lt_zero _), fun s hs => absurd hs (Nat.not_lt_zero _)⟩
      · rw [uI_if, if_neg (by omega), uI_at]; rfl
      · rw [uI_at]; rfl
  | succ r ih =>
    intro o k b σ Q m d x1 hd v hk hb cS cR hr e1 hm hQ
    subst hd
    have loop : ∀ (q h m : Nat) (τ : ST) (x2 : Int32), h + q = S.nh → 2800000 + 600 * r + 80 * q + 20 ≤ m → off yOff σ τ → mB τ S (itB (fun h b => if (plc (obE S R o k) h).isSome = true then b else fsr S R r (exO o k h) (k + 1) b) h b) → (∀ p, p < k → τ.1 11 0 44 p = nI (o p)) → x2 = nI h →
        wp N m (e + (r + 1) + 6, 0) TX11_tries 2 [some (.inr (.inr (11, 0, 0))), some (.inl x1), some (.inl x2), none] [] τ Q := by
      intro q
      induction q with
      | zero =>
        intro h m τ x2 hq hm ho hb hr e2
        obtain ⟨n, rfl⟩ := il_ex (K := 10) (m := m) (by omega)
        obtain rfl : h = S.nh := by omega
        have cS' := (mSP_off ho (by decide) cS).1
        refine b_ge e2 cS' (by omega) (by omega) (fun _ => ?_) (fun q => by omega)
        refine b_ge e1 cS' (by omega) (by omega) (fun q => by omega) (fun _ => ?_)
        exact hQ τ ho hb hr
      | succ q ihq =>
        intro h m τ x2 hq hm ho hb hr e2
        obtain ⟨n, rfl⟩ := il_ex (K := 40) (m := m) (by omega)
        have cS1 := mSP_off ho (by decide) cS
        have cS' := cS1.1
        have nxt : ∀ (τ' : ST) (n' : Nat), 2800000 + 600 * r + 80 * q + 22 ≤ n' → off yOff σ τ' → mB τ' S (itB (fun h b => if (plc (obE S R o k) h).isSome = true then b else fsr S R r (exO o k h) (k + 1) b) (h + 1) b) → (∀ p, p < k → τ'.1 11 0 44 p = nI (o p)) →
            wp N n' (e + (r + 1) + 6, 0) TX11_tries 26 [some (.inr (.inr (11, 0, 0))), some (.inl x1), some (.inl x2), none] [] τ' Q := by
          intro τ' n' hn' ho' hb' hr'
          obtain ⟨n3, rfl⟩ := il_ex (K := 2) (m := n') (by omega)
          exact ⟨trivial, ihq (h + 1) _ τ' _ (by omega) (by omega) ho' hb' hr' (il_inc e2)⟩
        refine b_ge e2 cS' (by omega) (by omega) (fun q => by omega) (fun _ => ?_)
        refine b_ge e1 cS' (by omega) (by omega) (fun q => by omega) (fun _ => ?_)
        refine ⟨trivial, c_isIn (o := o) (by omega) (fun p hp => by have := v.1 p hp; omega) (show h < 2147483648 by omega) hr e1 e2 (by omega) (fun hin => ?_) (fun hin => ?_)⟩
        · refine b_eq (a := 1) rfl z0 (by omega) (by omega) (fun q => by omega) (fun _ => ?_)
          refine ⟨trivial, nxt τ _ (by omega) ho ?_ hr⟩
          have hp : (plc (obE S R o k) h).isSome = true := by
            cases z : plc (obE S R o k) h with
            | some p => rfl
            | none => exact absurd (obE_plc.mp z) hin
          rw [itB, if_pos hp]; exact hb
        · refine b_eq (a := 0) rfl z0 (by omega) (by omega) (fun _ => ?_) (fun q => absurd rfl q)
          have hp : plc (obE S R o k) h = none := obE_plc.mpr hin
          refine ⟨il_in e1 (by omega) (by omega), ?_⟩
          rw [il_cl e1 (by omega)]
          have ho1 : off yOff σ (uI τ 11 0 44 k x2) := off_uI ho (by decide)
          have hb1 : mB (uI τ 11 0 44 k x2) S (itB (fun h b => if (plc (obE S R o k) h).isSome = true then b else fsr S R r (exO o k h) (k + 1) b) h b) := mB_off (L := [(11, 0, 44)]) (off_uI (off_rf _ _) (by decide)) (by decide) (by decide) hb
          refine ⟨trivial, ih (exO o k h) (k + 1) _ _ _ _ _ _ (by omega) (exO_v v (show h < S.nh by omega) hin) (by omega) hb1 (mSP_off ho1 (by decide) cS) (mRU_off ho1 (by decide) cR) (fun p hp' => ?_) (il_inc e1) (by omega) ?_⟩
          · rw [uI_if]
            by_cases z : p = k
            · rw [if_pos z, z, exO_k]; exact e2
            · rw [if_neg z, exO_lt (by omega)]; exact hr p (by omega)
          · intro τ3 o3 b3 r3
            refine nxt τ3 _ (by omega) (off_tr ho1 o3) ?_ (fun p hp' => ?_)
            · rw [itB, if_neg (by rw [hp]; simp)]; exact b3
            · have := r3 p (by omega)
              rw [exO_lt hp'] at this
              exact this
    refine adv 2 (2800000 + 600 * r + 500) (by omega) (fun n2 hn2 => ?_)
    exact loop S.nh 0 n2 σ _ (by omega) (by omega) (off_rf _ _) hb hr oi_0
end TR
