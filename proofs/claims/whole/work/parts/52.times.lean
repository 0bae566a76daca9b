/-! the reference's order by DOUBT; TIMES of what is HEARD; the ends of a SLOT -/
abbrev aOff : List RF := [(11, 0, 37), (11, 0, 38), (11, 0, 39), (11, 0, 40), (11, 0, 41), (11, 0, 42)]
def mDB (σ : ST) (S : SPc) (R : RUc) (E : NEc) (n : Nat) : Prop := ∀ s, s < n → σ.1 11 0 41 s = nI (dA S R E s) ∧ σ.1 11 0 42 s = nI (dB S R E s)
def eTO (S : SPc) (E : NEc) (s : Nat) (mx : Bool) : Nat → Option Nat
  | 0 => none
  | h + 1 => match E.th s h with
    | none => eTO S E s mx h
    | some i => match eTO S E s mx h with
      | none => some (S.tm h i)
      | some t => if (if mx = true then t < S.tm h i else S.tm h i < t) then some (S.tm h i) else some t
theorem eTO_n {S : SPc} {E : NEc} {s h : Nat} {mx : Bool} (q : E.th s h = none) : eTO S E s mx (h + 1) = eTO S E s mx h := by rw [eTO, q]
theorem eTO_0 {S : SPc} {E : NEc} {s h i : Nat} {mx : Bool} (q : E.th s h = some i) (o : eTO S E s mx h = none) : eTO S E s mx (h + 1) = some (S.tm h i) := by rw [eTO, q, o]
theorem eTO_s {S : SPc} {E : NEc} {s h i t : Nat} {mx : Bool} (q : E.th s h = some i) (o : eTO S E s mx h = some t) : eTO S E s mx (h + 1) = if (if mx = true then t < S.tm h i else S.tm h i < t) then some (S.tm h i) else some t := by rw [eTO, q, o]
theorem eTO_ex {S : SPc} {E : NEc} {s g i : Nat} {mx : Bool} (q : E.th s g = some i) : ∀ n, g < n → ∃ t, eTO S E s mx n = some t
  | 0, h => absurd h (Nat.not_lt_zero _)
  | n + 1, h => by
    cases z : E.th s n with
    | none =>
      have hne : g ≠ n := fun w => by rw [w, z] at q; cases q
      rw [eTO_n z]
      exact eTO_ex q n (by omega)
    | some j =>
      cases o : eTO S E s mx n with
      | none => exact ⟨_, eTO_0 z o⟩
      | some t =>
        rw [eTO_s z o]
        by_cases c : (if mx = true then t < S.tm n j else S.tm n j < t)
        · rw [if_pos c]; exact ⟨_, rfl⟩
        · rw [if_neg c]; exact ⟨_, rfl⟩
theorem eTO_le {S : SPc} {E : NEc} {s : Nat} {mx : Bool} (hS : vSP S) (hE : vNE S E) (hs : s < E.ns) : ∀ n t, eTO S E s mx n = some t → t ≤ 999
  | 0, t, h => by cases h
  | n + 1, t, h => by
    cases z : E.th s n with
    | none => rw [eTO_n z] at h; exact eTO_le hS hE hs n t h
    | some j =>
      have h1 := hE.2.2.2.2.1 s n j hs z
      have h2 := (hS.2.2.1 n h1.1 j h1.2.1).2
      cases o : eTO S E s mx n with
      | none => rw [eTO_0 z o] at h; cases h; exact h2
      | some u =>
        have := eTO_le hS hE hs n u o
        rw [eTO_s z o] at h
        by_cases c : (if mx = true then u < S.tm n j else S.tm n j < u)
        · rw [if_pos c] at h; cases h; exact h2
        · rw [if_neg c] at h; cases h; exact this
theorem eTO_up {S : SPc} {E : NEc} {s : Nat} {mx : Bool} (hS : vSP S) (hE : vNE S E) (hs : s < E.ns) : ∀ r, eTO S E s mx (S.nh + r) = eTO S E s mx S.nh
  | 0 => rfl
  | r + 1 => by
    have : E.th s (S.nh + r) = none := by
      cases q : E.th s (S.nh + r) with
      | none => rfl
      | some i => have := (hE.2.2.2.2.1 s _ i hs q).1; omega
    rw [show S.nh + (r + 1) = (S.nh + r) + 1 from rfl, eTO_n this]
    exact eTO_up hS hE hs r
/-- the words that win there -/
noncomputable def fwW (S : SPc) (R : RUc) (E : NEc) (s : Nat) : Nat → Nat → Bool := fun h i => decide (S.wd h i = wnF S R E s)
section TI
variable {N e m k jv ji : Nat} {σ : ST} {Q : POST} {S : SPc} {R : RUc} {E : NEc}
theorem fwW_pos (hS : vSP S) (hR : vRU S R) (hE : vNE S E) {s : Nat} (hs : s < E.ns) (w : wnF S R E s ≠ 60) : 0 < sm (tmB R E s (fwW S R E s)) 5 := by
  obtain ⟨h, hh, p, q⟩ := (vtE_ok (vcO S R E s)).2.1 0 (vt_pos (R := R) hE hS hs)
  cases t : E.th s h with
  | some i =>
    rw [vcO_t t] at q
    have := (Prod.mk.inj (Option.some.inj q)).1
    exact tmB_pos hS hR hE hs t (by unfold fwW; rw [decide_eq_true_eq]; exact this)
  | none =>
    exfalso
    exact w (by
      have := vw_of (S := S) (R := R) (E := E) (s := s) (h := h) (c := wnF S R E s) (p := p) q
      apply Classical.byContradiction
      intro z
      have := this z
      rw [vwO_n t] at this
      cases this)
set_option maxRecDepth 100000 in
theorem ah_loop (hS : vSP S) (hR : vRU S R) (hE : vNE S E) (cE : mNE (σ.1 11 0 27) E) (cD : mDB σ S R E E.ns) {s : Nat} (hs : s < E.ns) {x1 : Int32} (e1 : x1 = nI s) (hQ : Q (some (.inl (nI (ahF (dA S R E) (dB S R E) E.ns s)))) σ) :
    ∀ (r k m : Nat) (x2 x3 : Int32) (o4 o6 : Option AV), k + r = E.ns → 60 * r + 60 ≤ m → x2 = nI (ahF (dA S R E) (dB S R E) k s) → x3 = nI k →
      wp N m (e, 0) TX11_ahead 4 [some (.inr (.inr (11, 0, 0))), some (.inl x1), some (.inl x2), some (.inl x3), o4, none, o6, none] [] σ Q := by
  have hns := vNE_ns hS hE
  have v21 : σ.1 11 0 27 (Int8.ofInt 21).toInt32.toNatClampNeg = nI E.ns := by rw [il_cl i21 (by omega)]; exact cE.2.1
  have as := dA_le hS hR hE hs
  have bs := dB_le hS hR hE hs
  intro r
  induction r with
  | zero =>
    intro k m x2 x3 o4 o6 hr hm e2 e3
    obtain ⟨n, rfl⟩ := il_ex (K := 10) (m := m) (by omega)
    obtain rfl : k = E.ns := by omega
    refine ⟨il_in i21 (by omega) (by omega), ?_⟩
    refine b_ge e3 v21 (by omega) (by omega) (fun _ => ?_) (fun q => by omega)
    refine ⟨Or.inl rfl, ?_⟩
    rw [e2]; exact hQ
  | succ r ih =>
    intro k m x2 x3 o4 o6 hr hm e2 e3
    obtain ⟨n, rfl⟩ := il_ex (K := 52) (m := m) (by omega)
    have hk : k < E.ns := by omega
    have ak := dA_le hS hR hE hk
    have bk := dB_le hS hR hE hk
    have j1 := il_in e1 (show s < 60 by omega) (by omega)
    have j3 := il_in e3 (show k < 60 by omega) (by omega)
    have w1 : σ.1 11 0 41 x1.toNatClampNeg = nI (dA S R E s) := by rw [il_cl e1 (by omega)]; exact (cD s hs).1
    have w2 : σ.1 11 0 42 x1.toNatClampNeg = nI (dB S R E s) := by rw [il_cl e1 (by omega)]; exact (cD s hs).2
    have w3 : σ.1 11 0 41 x3.toNatClampNeg = nI (dA S R E k) := by rw [il_cl e3 (by omega)]; exact (cD k hk).1
    have w4 : σ.1 11 0 42 x3.toNatClampNeg = nI (dB S R E k) := by rw [il_cl e3 (by omega)]; exact (cD k hk).2
    refine ⟨il_in i21 (by omega) (by omega), ?_⟩
    refine b_ge e3 v21 (by omega) (by omega) (fun q => by omega) (fun _ => ?_)
    refine ⟨j3, j1, j1, j3, ?_⟩
    have c : lg_cmp ((σ.1 11 0 41 x3.toNatClampNeg).toInt64 * (σ.1 11 0 42 x1.toNatClampNeg).toInt64) ((σ.1 11 0 41 x1.toNatClampNeg).toInt64 * (σ.1 11 0 42 x3.toNatClampNeg).toInt64) = if dA S R E s * dB S R E k < dA S R E k * dB S R E s then 1 else if dA S R E k * dB S R E s = dA S R E s * dB S R E k then 0 else -1 := by
      rw [w1, w2, w3, w4, nI_l (by omega), nI_l (by omega), nI_l (by omega), nI_l (by omega), lN_mul, lN_mul, b_lcm (pr_lt ak bs) (pr_lt as bk)]
    have fin : ∀ (y : Int32) (n' : Nat) (o4 o6 : Option AV), 60 * r + 64 ≤ n' → y = nI (if dl (dA S R E) (dB S R E) k s then 1 else 0) → wp N n' (e, 0) TX11_ahead 49 [some (.inr (.inr (11, 0, 0))), some (.inl x1), some (.inl x2), some (.inl x3), o4, none, o6, none] [.inl y, .inl x2] σ Q := by
      intro y n' o4 o6 hn' hy
      obtain ⟨n3, rfl⟩ := il_ex (K := 4) (m := n') (by omega)
      exact ⟨trivial, ih (k + 1) _ _ _ _ _ (by omega) (by omega) (by rw [e2, hy, nI_add]; rfl) (il_inc e3)⟩
    show (brI .gt (lg_cmp _ _) 0 → _) ∧ (¬ brI .gt (lg_cmp _ _) 0 → _)
    rw [c]
    by_cases q : dA S R E s * dB S R E k < dA S R E k * dB S R E s
    · rw [if_pos q]
      refine ⟨fun _ => ⟨trivial, fin _ _ _ _ (by omega) (by rw [if_pos (show dl (dA S R E) (dB S R E) k s from Or.inl q)]; exact oi_1)⟩, fun z => absurd (show (0 : Int32) < 1 by decide) z⟩
    · rw [if_neg q]
      refine ⟨fun z => absurd (show (0 : Int32) < (if dA S R E k * dB S R E s = dA S R E s * dB S R E k then 0 else -1) from z) (by split <;> decide), fun _ => ?_⟩
      show (brI .ne (lg_cmp _ _) 0 → _) ∧ (¬ brI .ne (lg_cmp _ _) 0 → _)
      rw [c, if_neg q]
      by_cases q2 : dA S R E k * dB S R E s = dA S R E s * dB S R E k
      · rw [if_pos q2]
        refine ⟨fun z => absurd rfl z, fun _ => ?_⟩
        refine b_ge e3 e1 (by omega) (by omega) (fun q3 => ?_) (fun q3 => ?_)
        · exact adv 1 (60 * r + 64) (by omega) (fun n9 hn9 => fin _ n9 _ _ hn9 (by rw [if_neg (show ¬ dl (dA S R E) (dB S R E) k s from fun z => z.elim q (fun z => by omega))]; exact oi_0))
        · exact ⟨trivial, fin _ _ _ _ (by omega) (by rw [if_pos (show dl (dA S R E) (dB S R E) k s from Or.inr ⟨q2, q3⟩)]; exact oi_1)⟩
      · rw [if_neg q2]
        refine ⟨fun _ => ?_, fun z => absurd (show ¬ (-1 : Int32) = 0 by decide) z⟩
        exact adv 1 (60 * r + 64) (by omega) (fun n9 hn9 => fin _ n9 _ _ hn9 (by rw [if_neg (show ¬ dl (dA S R E) (dB S R E) k s from fun z => z.elim q (fun z => q2 z.1))]; exact oi_0))
set_option maxRecDepth 100000 in
/-- the reference's ahead -/
theorem c_ahead (hS : vSP S) (hR : vRU S R) (hE : vNE S E) (cE : mNE (σ.1 11 0 27) E) (cD : mDB σ S R E E.ns) {s : Nat} (hs : s < E.ns) {x1 : Int32} (e1 : x1 = nI s) (hm : 4000 ≤ m) (hQ : Q (some (.inl (nI (ahF (dA S R E) (dB S R E) E.ns s)))) σ) :
    wp N m (e, 0) TX11_ahead 0 [some (.inr (.inr (11, 0, 0))), some (.inl x1), none, none, none, none, none, none] [] σ Q := by
  have hns := vNE_ns hS hE
  refine adv 4 3900 (by omega) (fun n hn => ?_)
  exact ah_loop hS hR hE cE cD hs e1 hQ E.ns 0 n _ _ _ _ (by omega) (by omega) oi_0 oi_0
set_option maxRecDepth 100000 in
/-- doubtful of the reference, the second loop -/
theorem dr_loop (hS : vSP S) (hR : vRU S R) (hE : vNE S E) (cE : mNE (σ.1 11 0 27) E) (cD : mDB σ S R E E.ns) {i t : Nat} (ht : dSl S R E i t) (hi : i < 2147483648) {x1 : Int32} (e1 : x1 = nI i) (hQ : Q (some (.inl (nI t))) (uI (uI σ 11 0 2 0 0) 11 0 3 0 (-1))) :
    ∀ (r s m : Nat) (x2 : Int32), s + r = t → 20 * r + 4100 ≤ m → x2 = nI s →
      wp N m (e + 1, 0) TX11_doubtful 47 [some (.inr (.inr (11, 0, 0))), some (.inl x1), some (.inl x2)] [] σ Q := by
  have hns := vNE_ns hS hE
  have hb : ∀ s, ahF (dA S R E) (dB S R E) E.ns s ≤ E.ns := fun s => by
    have := sm_le (f := fun k => if dl (dA S R E) (dB S R E) k s then 1 else 0) (M := 1) (n := E.ns) (fun k _ => by show (if _ then 1 else 0) ≤ 1; split <;> omega)
    unfold ahF; omega
  intro r
  induction r with
  | zero =>
    intro s m x2 hr hm e2
    obtain ⟨n, rfl⟩ := il_ex (K := 20) (m := m) (by omega)
    obtain rfl : s = t := by omega
    refine ⟨trivial, c_ahead hS hR hE cE cD ht.1 e2 (by omega) ?_⟩
    rw [ht.2]
    refine b_eq rfl e1 hi hi (fun _ => ?_) (fun q => absurd rfl q)
    refine ⟨trivial, c_good (by omega) ?_⟩
    refine ⟨Or.inl rfl, ?_⟩
    rw [e2]; exact hQ
  | succ r ih =>
    intro s m x2 hr hm e2
    obtain ⟨n, rfl⟩ := il_ex (K := 20) (m := m) (by omega)
    have hs : s < E.ns := by have := ht.1; omega
    have := hb s
    refine ⟨trivial, c_ahead hS hR hE cE cD hs e2 (by omega) ?_⟩
    refine b_eq rfl e1 (by omega) hi (fun q => ?_) (fun _ => ?_)
    · have := dSl_one hS hR hE (i := i) (s := s) (t := t) ⟨hs, q⟩ ht
      omega
    · exact ⟨trivial, ih (s + 1) _ _ (by omega) (by omega) (il_inc e2)⟩
set_option maxRecDepth 100000 in
/-- doubtful of the reference, the first loop -/
theorem dq_loop (hS : vSP S) (hR : vRU S R) (hE : vNE S E) (cS : mSP σ S) (cR : mRU (σ.1 11 0 27) S R) (cE : mNE (σ.1 11 0 27) E) {x1 : Int32} {M : Nat} (hM : 4000 ≤ M)
    (K : ∀ (m : Nat) (τ : ST) (x2 : Int32), M ≤ m → off aOff σ τ → mDB τ S R E E.ns → wp N m (e + 3, 0) TX11_doubtful 45 [some (.inr (.inr (11, 0, 0))), some (.inl x1), some (.inl x2)] [] τ Q) :
    ∀ (r s m : Nat) (τ : ST) (x2 : Int32), s + r = E.ns → 30 * r + 30 + M ≤ m → off aOff σ τ → mDB τ S R E s → x2 = nI s →
      wp N m (e + 3, 0) TX11_doubtful 22 [some (.inr (.inr (11, 0, 0))), some (.inl x1), some (.inl x2)] [] τ Q := by
  have hns := vNE_ns hS hE
  have v21 : ∀ τ, off aOff σ τ → τ.1 11 0 27 (Int8.ofInt 21).toInt32.toNatClampNeg = nI E.ns := fun τ ho => by rw [il_cl i21 (by omega)]; exact (mNE_off ho (by decide) cE).2.1
  intro r
  induction r with
  | zero =>
    intro s m τ x2 hr hm ho hd e2
    obtain ⟨n, rfl⟩ := il_ex (K := 6) (m := m) (by omega)
    obtain rfl : s = E.ns := by omega
    refine ⟨il_in i21 (by omega) (by omega), ?_⟩
    refine b_ge e2 (v21 τ ho) (by omega) (by omega) (fun _ => ?_) (fun q => by omega)
    exact K _ τ _ (by omega) ho hd
  | succ r ih =>
    intro s m τ x2 hr hm ho hd e2
    obtain ⟨n, rfl⟩ := il_ex (K := 25) (m := m) (by omega)
    have hs : s < E.ns := by omega
    refine ⟨il_in i21 (by omega) (by omega), ?_⟩
    refine b_ge e2 (v21 τ ho) (by omega) (by omega) (fun q => by omega) (fun _ => ?_)
    refine ⟨trivial, c_doubtOf (jv := 27) rfl (by decide) hS hR hE (mSP_off ho (by decide) cS) (mRU_off ho (by decide) cR) (mNE_off ho (by decide) cE) hs e2 (by omega) ?_⟩
    intro τ1 ho1 v1
    have j2 := il_in e2 (show s < 60 by omega) (by omega)
    refine ⟨j2, j2, ?_⟩
    rw [il_cl e2 (by omega)]
    refine ⟨trivial, ih (s + 1) _ _ _ (by omega) (by omega) (off_uI (off_uI (off_tr ho (off_in ho1 (by decide))) (by decide)) (by decide)) (fun z hz => ⟨?_, ?_⟩) (il_inc e2)⟩
    · rw [uI_nr _ _ _ _ _ _ (by decide), uI_if]
      by_cases q : z = s
      · rw [if_pos q, q]; rfl
      · rw [if_neg q, off_1 ho1 (by decide)]; exact (hd z (by omega)).1
    · rw [uI_if]
      by_cases q : z = s
      · rw [if_pos q, q]
        show (uI τ1 11 0 41 s _).1 11 0 40 0 = _
        rw [uI_nr _ _ _ _ _ _ (by decide)]; exact v1.2.1
      · rw [if_neg q, uI_nr _ _ _ _ _ _ (by decide), off_1 ho1 (by decide)]; exact (hd z (by omega)).2
set_option maxRecDepth 100000 in
theorem hx_loop (hS : vSP S) (hR : vRU S R) (hE : vNE S E) (cS : mSP σ S) (cR : mRU (σ.1 11 0 27) S R) (cE : mNE (σ.1 11 0 27) E) {s : Nat} (hs : s < E.ns) (w : wnF S R E s ≠ 60) {x1 x2 : Int32} (e1 : x1 = nI s) (e2 : x2 = nI (wnF S R E s))
    (hQ : Q (some (.inl (nI (tmF S R E s (fwW S R E s))))) σ) :
    ∀ (r h m : Nat) (x3 x4 x5 : Int32) (o6 : Option AV), h + r = S.nh → 300 * r + 300 ≤ m → x3 = nI (sm (tmU S R E s (fwW S R E s)) h) → x4 = nI (sm (tmB R E s (fwW S R E s)) h) → x5 = nI h →
      wp N m (e + 1, 0) TX11_heardAt 12 [some (.inr (.inr (11, 0, 0))), some (.inl x1), some (.inl x2), some (.inl x3), some (.inl x4), some (.inl x5), o6] [] σ Q := by
  have z1 : ∀ i, S.nh ≤ i → i < 5 → E.th s i = none := by
    intro i h1 h2
    cases he : E.th s i with
    | none => rfl
    | some q => have := (hE.2.2.2.2.1 s i q hs he).1; omega
  have t1 : sm (tmU S R E s (fwW S R E s)) 5 = sm (tmU S R E s (fwW S R E s)) S.nh := sm_tail hS.1 (fun i h1 h2 => tmU_n (z1 i h1 h2))
  have t2 : sm (tmB R E s (fwW S R E s)) 5 = sm (tmB R E s (fwW S R E s)) S.nh := sm_tail hS.1 (fun i h1 h2 => tmB_n (z1 i h1 h2))
  have hp := fwW_pos hS hR hE hs w
  have b1 : sm (tmU S R E s (fwW S R E s)) 5 ≤ 5 * 98901 := sm_le (fun i _ => tmU_le hS hR hE hs i)
  have b2 : sm (tmB R E s (fwW S R E s)) 5 ≤ 5 * 99 := sm_le (fun i _ => tmB_le hR hE hs i)
  have hnh := hS.1
  have hw := wnF_le (s := s) hS hR hE hs
  have hnw := hS.2.2.2.1
  intro r
  induction r with
  | zero =>
    intro h m x3 x4 x5 o6 hr hm e3 e4 e5
    obtain ⟨n, rfl⟩ := il_ex (K := 30) (m := m) (by omega)
    obtain rfl : h = S.nh := by omega
    refine b_ge e5 cS.1 (by omega) (by omega) (fun q => ?_) (fun q => by omega)
    refine ⟨?_, Or.inl rfl, ?_⟩
    · rw [e4, ← t2]; exact nI_ne0 hp (by omega)
    · have : x3 / x4 = nI (tmF S R E s (fwW S R E s)) := by rw [e3, e4, ← t1, ← t2]; exact pk_div (by omega) hp (by omega)
      rw [this]
      exact hQ
  | succ r ih =>
    intro h m x3 x4 x5 o6 hr hm e3 e4 e5
    obtain ⟨n, rfl⟩ := il_ex (K := 200) (m := m) (by omega)
    have hns := vNE_ns hS hE
    have nxt : ∀ (y3 y4 : Int32) (p6 : Option AV) (n' : Nat), 300 * r + 310 ≤ n' → y3 = nI (sm (tmU S R E s (fwW S R E s)) (h + 1)) → y4 = nI (sm (tmB R E s (fwW S R E s)) (h + 1)) →
        wp N n' (e + 1, 0) TX11_heardAt 62 [some (.inr (.inr (11, 0, 0))), some (.inl x1), some (.inl x2), some (.inl y3), some (.inl y4), some (.inl x5), p6] [] σ Q := by
      intro y3 y4 p6 n' hn' g3 g4
      obtain ⟨n2, rfl⟩ := il_ex (K := 2) (m := n') (by omega)
      exact ⟨trivial, ih (h + 1) n2 _ _ _ _ (by omega) (by omega) g3 g4 (il_inc e5)⟩
    refine b_ge e5 cS.1 (by omega) (by omega) (fun q => by omega) (fun q => ?_)
    refine ⟨trivial, c_there (jv := 27) rfl e1 e5 (by omega) (by omega) (by omega) ?_⟩
    rw [cE.2.2.2 s hs h (by omega)]
    have hlt : ∀ i, E.th s h = some i → i < 2147483648 := fun i e' => by
      have h1 := hE.2.2.2.2.1 s h i hs e'
      have h2 := (hS.2.1 h h1.1).2
      omega
    refine b_there ne1 rfl hlt (fun q1 => ?_) (fun i q1 q2 => ?_)
    · exact nxt _ _ _ _ (by omega) (by rw [e3, sm, tmU_n q1, Nat.add_zero]) (by rw [e4, sm, tmB_n q1, Nat.add_zero])
    · have h1 := hE.2.2.2.2.1 s h i hs q1
      have h2 := (hS.2.1 h h1.1).2
      have h3 := cS.2.2.2.1 h h1.1 i h1.2.1
      have h4 := cR.2.2.2.2.2 h h1.1
      have h5 := (hS.2.2.1 h h1.1 i h1.2.1).1
      have g1 : Int32.ofInt 5 + x5 = nI (5 + h) := by rw [e5, i5, nI_add]
      have g2 : (Int8.ofInt 12).toInt32 * x5 + oI (-1) (E.th s h) = nI (12 * h + i) := by rw [q2, e5, i12, pk_mul, nI_add]
      have hwd : σ.1 11 0 22 ((Int8.ofInt 12).toInt32 * x5 + oI (-1) (E.th s h)).toNatClampNeg = nI (S.wd h i) := by rw [il_cl g2 (by omega)]; exact h3.1
      refine ⟨il_in g2 (by omega) (by omega), ?_⟩
      refine b_eq hwd e2 (by omega) (by omega) (fun q3 => ?_) (fun q3 => ?_)
      · have hf : fwW S R E s h i = true := by unfold fwW; rw [decide_eq_true_eq]; exact q3
        refine ⟨il_in g1 (by omega) (by omega), ?_⟩
        refine ⟨il_in g2 (by omega) (by omega), ?_⟩
        refine ⟨il_in g1 (by omega) (by omega), ?_⟩
        refine adv 2 (300 * r + 310) (by omega) (fun n3 hn3 => ?_)
        refine nxt _ _ _ n3 hn3 ?_ ?_
        · rw [il_cl g1 (by omega), il_cl g2 (by omega), h4, h3.2, e3, pk_mul, nI_add, sm, tmU_t q1 hf]
        · rw [il_cl g1 (by omega), h4, e4, nI_add, sm, tmB_t q1 hf]
      · have hf : ¬ fwW S R E s h i = true := by unfold fwW; rw [decide_eq_true_eq]; exact q3
        exact ⟨trivial, nxt _ _ _ _ (by omega) (by rw [e3, sm, tmU_f q1 hf, Nat.add_zero]) (by rw [e4, sm, tmB_f q1 hf, Nat.add_zero])⟩
set_option maxRecDepth 100000 in
/-- the reference's heardAt -/
theorem c_heardAt (hS : vSP S) (hR : vRU S R) (hE : vNE S E) (cS : mSP σ S) (cR : mRU (σ.1 11 0 27) S R) (cE : mNE (σ.1 11 0 27) E) {s : Nat} (hs : s < E.ns) (w : wnF S R E s ≠ 60) {x1 : Int32} (e1 : x1 = nI s) (hm : 4000 ≤ m)
    (hQ : ∀ τ, off gOff σ τ → Q (some (.inl (nI (tmF S R E s (fwW S R E s))))) τ) : wp N m (e + 3, 0) TX11_heardAt 0 [some (.inr (.inr (11, 0, 0))), some (.inl x1), none, none, none, none, none] [] σ Q := by
  have hnh := hS.1
  obtain ⟨n, rfl⟩ := il_ex (K := 10) (m := m) (by omega)
  refine ⟨trivial, c_winner (jv := 27) rfl (by decide) hS hR hE cS cR cE hs e1 (by omega) ?_⟩
  intro τ ho v
  refine adv 7 3900 (by omega) (fun n2 hn2 => ?_)
  exact hx_loop (e := e + 2) hS hR hE (mSP_off ho (by decide) cS) (mRU_off ho (by decide) cR) (mNE_off ho (by decide) cE) hs w e1 (by unfold wcI; rw [if_neg w]) (hQ τ ho) S.nh 0 n2 _ _ _ _ (by omega) (by omega) oi_0 oi_0 oi_0
set_option maxRecDepth 100000 in
theorem ly_loop (ai : arO N 11 ji = some (1, 80)) (hi2 : ji ∉ [17, 21, 22, 23, 25, 26]) (hS : vSP S) (cS : mSP σ S) {h : Nat} (hh : h < S.nh) {x1 : Int32} (e1 : x1 = nI h) (hQ : ∀ τ, off [(11, 0, ji)] σ τ → (∀ i, i < S.cn h → τ.1 11 0 ji i = nI (S.wd h i)) → Q (some (.inl (nI (S.cn h)))) τ) :
    ∀ (r i m : Nat) (τ : ST) (x3 : Int32), i + r = S.cn h → 30 * r + 30 ≤ m → off [(11, 0, ji)] σ τ → (∀ z, z < i → τ.1 11 0 ji z = nI (S.wd h z)) → x3 = nI i →
      wp N m (e, 0) TX11_laysHearing 2 [some (.inr (.inr (11, 0, 0))), some (.inl x1), some (.inr (.inr (11, 0, ji))), some (.inl x3)] [] τ Q := by
  have hnh := hS.1
  have hcn := hS.2.1 h hh
  have hcL : ∀ j, j ∈ [17, 21, 22, 23, 25, 26] → ((11, 0, j) : RF) ∉ ([(11, 0, ji)] : List RF) := by
    intro j hjm q
    rcases List.mem_cons.mp q with q | q
    · cases q; exact hi2 hjm
    · cases q
  intro r
  induction r with
  | zero =>
    intro i m τ x3 hr hm ho hz e3
    obtain ⟨n, rfl⟩ := il_ex (K := 15) (m := m) (by omega)
    obtain rfl : i = S.cn h := by omega
    have j1 := il_in e1 (show h < 5 by omega) (by omega)
    have v : τ.1 11 0 21 x1.toNatClampNeg = nI (S.cn h) := by rw [il_cl e1 (by omega), off_1 ho (hcL 21 (by simp))]; exact cS.2.2.1 h hh
    refine ⟨j1, ?_⟩
    refine b_ge e3 v (by omega) (by omega) (fun _ => ?_) (fun q => by omega)
    refine ⟨j1, Or.inl rfl, ?_⟩
    rw [show τ.1 11 0 21 x1.toNatClampNeg = _ from v]
    exact hQ τ ho hz
  | succ r ih =>
    intro i m τ x3 hr hm ho hz e3
    obtain ⟨n, rfl⟩ := il_ex (K := 20) (m := m) (by omega)
    have j1 := il_in e1 (show h < 5 by omega) (by omega)
    have v : τ.1 11 0 21 x1.toNatClampNeg = nI (S.cn h) := by rw [il_cl e1 (by omega), off_1 ho (hcL 21 (by simp))]; exact cS.2.2.1 h hh
    have g2 : (Int8.ofInt 12).toInt32 * x1 + x3 = nI (12 * h + i) := by rw [e3, e1, i12, pk_mul, nI_add]
    refine ⟨j1, ?_⟩
    refine b_ge e3 v (by omega) (by omega) (fun q => by omega) (fun _ => ?_)
    refine ⟨il_in g2 (by omega) (by omega), ?_⟩
    refine cndF rfl ?_
    refine arr_of ai ⟨il_in e3 (by omega) (by omega), ?_⟩
    rw [il_cl e3 (by omega), il_cl g2 (by omega)]
    refine ⟨trivial, ih (i + 1) _ _ _ (by omega) (by omega) (off_uI ho (List.mem_cons_self)) (fun z hz' => ?_) (il_inc e3)⟩
    rw [uI_if]
    by_cases q : z = i
    · rw [if_pos q, q]
      show τ.1 11 0 22 (12 * h + i) = _
      rw [off_1 ho (hcL 22 (by simp))]; exact (cS.2.2.2.1 h hh i (by omega)).1
    · rw [if_neg q]; exact hz z (by omega)
set_option maxRecDepth 100000 in
/-- the reference's laysHearing -/
theorem c_laysHearing (ai : arO N 11 ji = some (1, 80)) (hi2 : ji ∉ [17, 21, 22, 23, 25, 26]) (hS : vSP S) (cS : mSP σ S) {h : Nat} (hh : h < S.nh) {x1 : Int32} (e1 : x1 = nI h) (hm : 500 ≤ m) (hQ : ∀ τ, off [(11, 0, ji)] σ τ → (∀ i, i < S.cn h → τ.1 11 0 ji i = nI (S.wd h i)) → Q (some (.inl (nI (S.cn h)))) τ) :
    wp N m (e, 0) TX11_laysHearing 0 [some (.inr (.inr (11, 0, 0))), some (.inl x1), some (.inr (.inr (11, 0, ji))), none] [] σ Q := by
  have hcn := hS.2.1 h hh
  refine adv 2 490 (by omega) (fun n hn => ?_)
  exact ly_loop ai hi2 hS cS hh e1 hQ (S.cn h) 0 n _ _ (by omega) (by omega) (off_rf _ _) (fun z hz => absurd hz (Nat.not_lt_zero _)) oi_0
theorem i999 : (Int16.ofInt 999).toInt32 = nI 999 := by decide
set_option maxRecDepth 100000 in
theorem lt_loop (hS : vSP S) (hE : vNE S E) (cS : cSP σ 0 S) (cE : cNE σ 0 E) {s : Nat} (hs : s < E.ns) {x1 : Int32} (e1 : x1 = nI s) (hQ : ∀ t, eTO S E s false 5 = some t → Q (some (.inl (nI t))) σ) :
    ∀ (r h m : Nat) (x2 x3 : Int32) (o4 : Option AV), h + r = 5 → 60 * r + 60 ≤ m → x2 = nI (match eTO S E s false h with | none => 999 | some t => t) → x3 = nI h →
      wp N m (e + 1, 0) TX10_leastTime 4 [some (.inr (.inr (10, 0, 0))), some (.inl x1), some (.inl x2), some (.inl x3), o4] [] σ Q := by
  have hns := vNE_ns hS hE
  have hnh := hS.1
  intro r
  induction r with
  | zero =>
    intro h m x2 x3 o4 hr hm e2 e3
    obtain ⟨n, rfl⟩ := il_ex (K := 10) (m := m) (by omega)
    obtain rfl : h = 5 := by omega
    refine b_ge e3 i5 (by omega) (by omega) (fun _ => ?_) (fun q => by omega)
    refine ⟨Or.inl rfl, ?_⟩
    obtain ⟨g, i, q⟩ := hE.2.2.2.2.2.1 s hs
    have h1 := hE.2.2.2.2.1 s g i hs q
    obtain ⟨t, ht⟩ := eTO_ex (S := S) (mx := false) q 5 (by omega)
    rw [e2, ht]
    exact hQ t ht
  | succ r ih =>
    intro h m x2 x3 o4 hr hm e2 e3
    obtain ⟨n, rfl⟩ := il_ex (K := 40) (m := m) (by omega)
    have nxt : ∀ (y2 : Int32) (p4 : Option AV) (n' : Nat), 60 * r + 62 ≤ n' → y2 = nI (match eTO S E s false (h + 1) with | none => 999 | some t => t) → wp N n' (e + 1, 0) TX10_leastTime 28 [some (.inr (.inr (10, 0, 0))), some (.inl x1), some (.inl y2), some (.inl x3), p4] [] σ Q := by
      intro y2 p4 n' hn' hy
      obtain ⟨n3, rfl⟩ := il_ex (K := 2) (m := n') (by omega)
      exact ⟨trivial, ih (h + 1) _ _ _ _ (by omega) (by omega) hy (il_inc e3)⟩
    have hlt : ∀ j, E.th s h = some j → j < 2147483648 := fun j e' => by
      have h1 := hE.2.2.2.2.1 s h j hs e'
      have h2 := (hS.2.1 h h1.1).2
      omega
    refine b_ge e3 i5 (by omega) (by omega) (fun q => by omega) (fun _ => ?_)
    refine ⟨trivial, c_thereOf e1 e3 (by omega) (by omega) (by omega) ?_⟩
    rw [cE.2.2.2.2.2 s hs h (by omega)]
    refine b_there ne2 rfl hlt (fun q1 => ?_) (fun i q1 q2 => ?_)
    · exact nxt _ _ _ (by omega) (by rw [e2, eTO_n q1])
    · have h1 := hE.2.2.2.2.1 s h i hs q1
      have h2 := (hS.2.1 h h1.1).2
      have h3 := (cS.2.2.2.1 h h1.1 i h1.2.1).2
      have h4 := (hS.2.2.1 h h1.1 i h1.2.1).2
      refine ⟨trivial, c_timeOf e3 q2 (by omega) (by omega) (by omega) ?_⟩
      cases o : eTO S E s false h with
      | none =>
        have e2 : x2 = nI 999 := by rw [o] at e2; exact e2
        refine b_ge h3 e2 (by omega) (by omega) (fun q => ?_) (fun q => ?_)
        · refine nxt _ _ _ (by omega) ?_
          rw [e2, eTO_0 q1 o]; congr 1; show _ = S.tm h i; omega
        · refine ⟨trivial, c_timeOf e3 q2 (by omega) (by omega) (by omega) ?_⟩
          refine adv 1 (60 * r + 62) (by omega) (fun n9 hn9 => nxt _ _ n9 hn9 ?_)
          rw [h3, eTO_0 q1 o]
      | some t =>
        have ht := eTO_le hS hE hs h t o
        have e2 : x2 = nI t := by rw [o] at e2; exact e2
        refine b_ge h3 e2 (by omega) (by omega) (fun q => ?_) (fun q => ?_)
        · refine nxt _ _ _ (by omega) ?_
          rw [e2, eTO_s q1 o, if_neg (show ¬ (if false = true then t < S.tm h i else S.tm h i < t) by rw [if_neg (by simp)]; omega)]
        · refine ⟨trivial, c_timeOf e3 q2 (by omega) (by omega) (by omega) ?_⟩
          refine adv 1 (60 * r + 62) (by omega) (fun n9 hn9 => nxt _ _ n9 hn9 ?_)
          rw [h3, eTO_s q1 o, if_pos (show (if false = true then t < S.tm h i else S.tm h i < t) by rw [if_neg (by simp)]; omega)]
set_option maxRecDepth 100000 in
theorem c_leastTime (hS : vSP S) (hE : vNE S E) (cS : cSP σ 0 S) (cE : cNE σ 0 E) {s : Nat} (hs : s < E.ns) {x1 : Int32} (e1 : x1 = nI s) (hm : 500 ≤ m) (hQ : ∀ t, eTO S E s false 5 = some t → Q (some (.inl (nI t))) σ) :
    wp N m (e + 1, 0) TX10_leastTime 0 [some (.inr (.inr (10, 0, 0))), some (.inl x1), none, none, none] [] σ Q := by
  refine adv 4 490 (by omega) (fun n hn => ?_)
  exact lt_loop hS hE cS cE hs e1 hQ 5 0 n _ _ _ (by omega) (by omega) i999 oi_0
set_option maxRecDepth 100000 in
theorem gt_loop (hS : vSP S) (hE : vNE S E) (cS : cSP σ 0 S) (cE : cNE σ 0 E) {s : Nat} (hs : s < E.ns) {x1 : Int32} (e1 : x1 = nI s) (hQ : ∀ t, eTO S E s true 5 = some t → Q (some (.inl (nI t))) σ) :
    ∀ (r h m : Nat) (x2 x3 : Int32) (o4 : Option AV), h + r = 5 → 60 * r + 60 ≤ m → x2 = nI (match eTO S E s true h with | none => 0 | some t => t) → x3 = nI h →
      wp N m (e + 1, 0) TX10_greatestTime 4 [some (.inr (.inr (10, 0, 0))), some (.inl x1), some (.inl x2), some (.inl x3), o4] [] σ Q := by
  have hns := vNE_ns hS hE
  have hnh := hS.1
  intro r
  induction r with
  | zero =>
    intro h m x2 x3 o4 hr hm e2 e3
    obtain ⟨n, rfl⟩ := il_ex (K := 10) (m := m) (by omega)
    obtain rfl : h = 5 := by omega
    refine b_ge e3 i5 (by omega) (by omega) (fun _ => ?_) (fun q => by omega)
    refine ⟨Or.inl rfl, ?_⟩
    obtain ⟨g, i, q⟩ := hE.2.2.2.2.2.1 s hs
    have h1 := hE.2.2.2.2.1 s g i hs q
    obtain ⟨t, ht⟩ := eTO_ex (S := S) (mx := true) q 5 (by omega)
    rw [e2, ht]
    exact hQ t ht
  | succ r ih =>
    intro h m x2 x3 o4 hr hm e2 e3
    obtain ⟨n, rfl⟩ := il_ex (K := 40) (m := m) (by omega)
    have nxt : ∀ (y2 : Int32) (p4 : Option AV) (n' : Nat), 60 * r + 62 ≤ n' → y2 = nI (match eTO S E s true (h + 1) with | none => 0 | some t => t) → wp N n' (e + 1, 0) TX10_greatestTime 28 [some (.inr (.inr (10, 0, 0))), some (.inl x1), some (.inl y2), some (.inl x3), p4] [] σ Q := by
      intro y2 p4 n' hn' hy
      obtain ⟨n3, rfl⟩ := il_ex (K := 2) (m := n') (by omega)
      exact ⟨trivial, ih (h + 1) _ _ _ _ (by omega) (by omega) hy (il_inc e3)⟩
    have hlt : ∀ j, E.th s h = some j → j < 2147483648 := fun j e' => by
      have h1 := hE.2.2.2.2.1 s h j hs e'
      have h2 := (hS.2.1 h h1.1).2
      omega
    refine b_ge e3 i5 (by omega) (by omega) (fun q => by omega) (fun _ => ?_)
    refine ⟨trivial, c_thereOf e1 e3 (by omega) (by omega) (by omega) ?_⟩
    rw [cE.2.2.2.2.2 s hs h (by omega)]
    refine b_there ne2 rfl hlt (fun q1 => ?_) (fun i q1 q2 => ?_)
    · exact nxt _ _ _ (by omega) (by rw [e2, eTO_n q1])
    · have h1 := hE.2.2.2.2.1 s h i hs q1
      have h2 := (hS.2.1 h h1.1).2
      have h3 := (cS.2.2.2.1 h h1.1 i h1.2.1).2
      have h4 := (hS.2.2.1 h h1.1 i h1.2.1).2
      refine ⟨trivial, c_timeOf e3 q2 (by omega) (by omega) (by omega) ?_⟩
      cases o : eTO S E s true h with
      | none =>
        have e2 : x2 = nI 0 := by rw [o] at e2; exact e2
        refine b_le h3 e2 (by omega) (by omega) (fun q => ?_) (fun q => ?_)
        · refine nxt _ _ _ (by omega) ?_
          rw [e2, eTO_0 q1 o]; congr 1; show _ = S.tm h i; omega
        · refine ⟨trivial, c_timeOf e3 q2 (by omega) (by omega) (by omega) ?_⟩
          refine adv 1 (60 * r + 62) (by omega) (fun n9 hn9 => nxt _ _ n9 hn9 ?_)
          rw [h3, eTO_0 q1 o]
      | some t =>
        have ht := eTO_le hS hE hs h t o
        have e2 : x2 = nI t := by rw [o] at e2; exact e2
        refine b_le h3 e2 (by omega) (by omega) (fun q => ?_) (fun q => ?_)
        · refine nxt _ _ _ (by omega) ?_
          rw [e2, eTO_s q1 o, if_neg (show ¬ (if true = true then t < S.tm h i else S.tm h i < t) by rw [if_pos rfl]; omega)]
        · refine ⟨trivial, c_timeOf e3 q2 (by omega) (by omega) (by omega) ?_⟩
          refine adv 1 (60 * r + 62) (by omega) (fun n9 hn9 => nxt _ _ n9 hn9 ?_)
          rw [h3, eTO_s q1 o, if_pos (show (if true = true then t < S.tm h i else S.tm h i < t) by rw [if_pos rfl]; omega)]
set_option maxRecDepth 100000 in
theorem c_greatestTime (hS : vSP S) (hE : vNE S E) (cS : cSP σ 0 S) (cE : cNE σ 0 E) {s : Nat} (hs : s < E.ns) {x1 : Int32} (e1 : x1 = nI s) (hm : 500 ≤ m) (hQ : ∀ t, eTO S E s true 5 = some t → Q (some (.inl (nI t))) σ) :
    wp N m (e + 1, 0) TX10_greatestTime 0 [some (.inr (.inr (10, 0, 0))), some (.inl x1), none, none, none] [] σ Q := by
  refine adv 4 490 (by omega) (fun n hn => ?_)
  exact gt_loop hS hE cS cE hs e1 hQ 5 0 n _ _ _ (by omega) (by omega) oi_0 oi_0
set_option maxRecDepth 100000 in
theorem et_loop (hS : vSP S) (hE : vNE S E) (cS : mSP σ S) (cE : mNE (σ.1 11 0 27) E) {mx : Bool} {s : Nat} (hs : s < E.ns) {x1 x2 : Int32} (e1 : x1 = nI s) (e2 : x2 = nI (if mx = true then 1 else 0)) (hQ : ∀ t, eTO S E s mx 5 = some t → Q (some (.inl (nI t))) σ) :
    ∀ (r h m : Nat) (x3 x4 : Int32) (o5 o6 : Option AV), h + r = S.nh → 60 * r + 60 ≤ m → x3 = oI (-1) (eTO S E s mx h) → x4 = nI h →
      wp N m (e + 1, 0) TX11_endTime 4 [some (.inr (.inr (11, 0, 0))), some (.inl x1), some (.inl x2), some (.inl x3), some (.inl x4), o5, o6] [] σ Q := by
  have hns := vNE_ns hS hE
  have hnh := hS.1
  intro r
  induction r with
  | zero =>
    intro h m x3 x4 o5 o6 hr hm e3 e4
    obtain ⟨n, rfl⟩ := il_ex (K := 10) (m := m) (by omega)
    obtain rfl : h = S.nh := by omega
    refine b_ge e4 cS.1 (by omega) (by omega) (fun _ => ?_) (fun q => by omega)
    refine ⟨Or.inl rfl, ?_⟩
    obtain ⟨g, i, q⟩ := hE.2.2.2.2.2.1 s hs
    have h1 := hE.2.2.2.2.1 s g i hs q
    obtain ⟨t, ht⟩ := eTO_ex (S := S) (mx := mx) q S.nh (by omega)
    have up := eTO_up (mx := mx) hS hE hs (5 - S.nh)
    rw [show S.nh + (5 - S.nh) = 5 by omega] at up
    rw [e3, ht]
    exact hQ t (by rw [up, ht])
  | succ r ih =>
    intro h m x3 x4 o5 o6 hr hm e3 e4
    obtain ⟨n, rfl⟩ := il_ex (K := 40) (m := m) (by omega)
    have nxt : ∀ (y3 : Int32) (p5 p6 : Option AV) (n' : Nat), 60 * r + 62 ≤ n' → y3 = oI (-1) (eTO S E s mx (h + 1)) → wp N n' (e + 1, 0) TX11_endTime 40 [some (.inr (.inr (11, 0, 0))), some (.inl x1), some (.inl x2), some (.inl y3), some (.inl x4), p5, p6] [] σ Q := by
      intro y3 p5 p6 n' hn' hy
      obtain ⟨n3, rfl⟩ := il_ex (K := 2) (m := n') (by omega)
      exact ⟨trivial, ih (h + 1) _ _ _ _ _ (by omega) (by omega) hy (il_inc e4)⟩
    have hlt : ∀ j, E.th s h = some j → j < 2147483648 := fun j e' => by
      have h1 := hE.2.2.2.2.1 s h j hs e'
      have h2 := (hS.2.1 h h1.1).2
      omega
    refine b_ge e4 cS.1 (by omega) (by omega) (fun q => by omega) (fun _ => ?_)
    refine ⟨trivial, c_there (jv := 27) rfl e1 e4 (by omega) (by omega) (by omega) ?_⟩
    rw [cE.2.2.2 s hs h (by omega)]
    refine b_thereG ne1 rfl hlt (fun i q1 q2 => ?_) (fun q1 => ?_)
    · have h1 := hE.2.2.2.2.1 s h i hs q1
      have h2 := (hS.2.1 h h1.1).2
      have h3 := (cS.2.2.2.1 h h1.1 i h1.2.1).2
      have h4 := (hS.2.2.1 h h1.1 i h1.2.1).2
      have g2 : (Int8.ofInt 12).toInt32 * x4 + oI (-1) (E.th s h) = nI (12 * h + i) := by rw [q2, e4, i12, pk_mul, nI_add]
      have ht : σ.1 11 0 23 ((Int8.ofInt 12).toInt32 * x4 + oI (-1) (E.th s h)).toNatClampNeg = nI (S.tm h i) := by rw [il_cl g2 (by omega)]; exact h3
      refine ⟨il_in g2 (by omega) (by omega), ?_⟩
      cases o : eTO S E s mx h with
      | none =>
        rw [o] at e3
        refine ⟨fun _ => ?_, fun q => absurd (show x3 = Int32.ofInt (-1) by rw [e3, im1]; rfl) q⟩
        refine adv 2 (60 * r + 62) (by omega) (fun n9 hn9 => nxt _ _ _ n9 hn9 ?_)
        rw [eTO_0 q1 o]; exact ht
      | some t =>
        have htl := eTO_le hS hE hs h t o
        rw [o] at e3
        refine ⟨fun q => absurd (show nI t = Int32.ofInt (-1) by rw [← show x3 = nI t from e3]; exact q) (b_n1 (by omega)), fun _ => ?_⟩
        cases mx with
        | true =>
          refine b_eq e2 z0 (by simp) (by omega) (fun q => by simp at q) (fun _ => ?_)
          refine b_le ht (show x3 = nI t from e3) (by omega) (by omega) (fun q => ?_) (fun q => ?_)
          · exact nxt _ _ _ _ (by omega) (by rw [e3, eTO_s q1 o, if_neg (show ¬ (if true = true then t < S.tm h i else S.tm h i < t) by rw [if_pos rfl]; omega)])
          · refine ⟨trivial, ?_⟩
            refine adv 2 (60 * r + 62) (by omega) (fun n9 hn9 => nxt _ _ _ n9 hn9 ?_)
            rw [eTO_s q1 o, if_pos (show (if true = true then t < S.tm h i else S.tm h i < t) by rw [if_pos rfl]; omega)]; exact ht
        | false =>
          refine b_eq e2 z0 (by simp) (by omega) (fun _ => ?_) (fun q => by simp at q)
          refine b_ge ht (show x3 = nI t from e3) (by omega) (by omega) (fun q => ?_) (fun q => ?_)
          · exact nxt _ _ _ _ (by omega) (by rw [e3, eTO_s q1 o, if_neg (show ¬ (if false = true then t < S.tm h i else S.tm h i < t) by rw [if_neg (by simp)]; omega)])
          · refine adv 2 (60 * r + 62) (by omega) (fun n9 hn9 => nxt _ _ _ n9 hn9 ?_)
            rw [eTO_s q1 o, if_pos (show (if false = true then t < S.tm h i else S.tm h i < t) by rw [if_neg (by simp)]; omega)]; exact ht
    · exact ⟨trivial, nxt _ _ _ _ (by omega) (by rw [e3, eTO_n q1])⟩
set_option maxRecDepth 100000 in
/-- the reference's endTime -/
theorem c_endTime (hS : vSP S) (hE : vNE S E) (cS : mSP σ S) (cE : mNE (σ.1 11 0 27) E) {mx : Bool} {s : Nat} (hs : s < E.ns) {x1 x2 : Int32} (e1 : x1 = nI s) (e2 : x2 = nI (if mx = true then 1 else 0)) (hm : 500 ≤ m) (hQ : ∀ t, eTO S E s mx 5 = some t → Q (some (.inl (nI t))) σ) :
    wp N m (e + 1, 0) TX11_endTime 0 [some (.inr (.inr (11, 0, 0))), some (.inl x1), some (.inl x2), none, none, none, none] [] σ Q := by
  have hnh := hS.1
  refine adv 4 490 (by omega) (fun n hn => ?_)
  exact et_loop hS hE cS cE hs e1 e2 hQ S.nh 0 n _ _ _ _ (by omega) (by omega) im1 oi_0
end TI
