/-! what is HEARD -/
noncomputable def hdC (S : SPc) (R : RUc) (E : NEc) : Nat → Nat
  | 0 => 0
  | s + 1 => hdC S R E s + if wnF S R E s = 60 then 0 else 1
theorem hdC_le (S : SPc) (R : RUc) (E : NEc) : ∀ s, hdC S R E s ≤ s
  | 0 => Nat.le_refl _
  | s + 1 => by have := hdC_le S R E s; rw [hdC]; split <;> omega
theorem hdC_mono (S : SPc) (R : RUc) (E : NEc) {a : Nat} : ∀ {b}, a ≤ b → hdC S R E a ≤ hdC S R E b
  | 0, h => by obtain rfl : a = 0 := by omega
               exact Nat.le_refl _
  | b + 1, h => by
    by_cases e : a = b + 1
    · rw [e]; exact Nat.le_refl _
    · have := hdC_mono S R E (a := a) (b := b) (by omega); rw [hdC]; omega
theorem hdC_lt {S : SPc} {R : RUc} {E : NEc} {a b : Nat} (h : a < b) (w : wnF S R E a ≠ 60) : hdC S R E a < hdC S R E b := by
  have := hdC_mono S R E (a := a + 1) (b := b) h
  rw [hdC, if_neg w] at this
  omega
theorem hdC_ex {S : SPc} {R : RUc} {E : NEc} {i : Nat} : ∀ {n}, i < hdC S R E n → ∃ s, s < n ∧ wnF S R E s ≠ 60 ∧ hdC S R E s = i
  | 0, h => absurd h (Nat.not_lt_zero _)
  | n + 1, h => by
    rw [hdC] at h
    by_cases w : wnF S R E n = 60
    · rw [if_pos w] at h
      obtain ⟨s, h1, h2⟩ := hdC_ex (S := S) (R := R) (E := E) (n := n) (i := i) (by omega)
      exact ⟨s, by omega, h2⟩
    · rw [if_neg w] at h
      by_cases e : i = hdC S R E n
      · exact ⟨n, by omega, w, e.symm⟩
      · obtain ⟨s, h1, h2⟩ := hdC_ex (S := S) (R := R) (E := E) (n := n) (i := i) (by omega)
        exact ⟨s, by omega, h2⟩
theorem hdC_inj {S : SPc} {R : RUc} {E : NEc} {a b : Nat} (ha : wnF S R E a ≠ 60) (hb : wnF S R E b ≠ 60) (h : hdC S R E a = hdC S R E b) : a = b := by
  by_cases q : a < b
  · have := hdC_lt q ha; omega
  · by_cases q2 : b < a
    · have := hdC_lt q2 hb; omega
    · omega
/-- the first n of a row are what is HEARD in the first n SLOTS -/
def hdR (S : SPc) (R : RUc) (E : NEc) (n : Nat) (w : Nat → Int32) : Prop := ∀ s, s < n → wnF S R E s ≠ 60 → w (hdC S R E s) = nI (wnF S R E s)
theorem hdR_eq {S : SPc} {R : RUc} {E : NEc} {n : Nat} {w v : Nat → Int32} (hw : hdR S R E n w) (hv : hdR S R E n v) {i : Nat} (hi : i < hdC S R E n) : w i = v i := by
  obtain ⟨s, h1, h2, h3⟩ := hdC_ex hi
  rw [← h3, hw s h1 h2, hv s h1 h2]
def cHD (σ : ST) (S : SPc) (R : RUc) (E : NEc) : Prop := σ.1 1 0 3 0 = nI (hdC S R E E.ns) ∧ hdR S R E E.ns (σ.1 1 0 4) ∧ ∀ s, s < E.ns → wnF S R E s ≠ 60 → σ.1 1 0 5 (hdC S R E s) = nI s
abbrev hOff : List RF := [(1, 0, 1), (1, 0, 2), (1, 0, 6), (1, 0, 7), (1, 0, 3), (1, 0, 4), (1, 0, 5)]
section HD
variable {N e m k jv ji : Nat} {σ : ST} {Q : POST} {S : SPc} {R : RUc} {E : NEc}
set_option maxRecDepth 100000 in
theorem lh_loop (hS : vSP S) (hR : vRU S R) (hE : vNE S E) (cS : cSP σ 0 S) (cR : cRU σ 0 S R) (cE : cNE σ k E) (hQ : ∀ τ, off hOff σ τ → cHD τ S R E → Q none τ) :
    ∀ (r s m : Nat) (τ : ST) (x2 : Int32) (o3 : Option AV), s + r = E.ns → 60 * r + 3000 ≤ m → off hOff σ τ → τ.1 1 0 3 0 = nI (hdC S R E s) → hdR S R E s (τ.1 1 0 4) → (∀ s', s' < s → wnF S R E s' ≠ 60 → τ.1 1 0 5 (hdC S R E s') = nI s') → x2 = nI s →
      wp N m (e + 3, 0) TX1_listHeard 5 [some (.inr (.inr (1, 0, 0))), some (.inr (.inr (3, k, 0))), some (.inl x2), o3] [] τ Q := by
  have hns := vNE_ns hS hE
  intro r
  induction r with
  | zero =>
    intro s m τ x2 o3 hr hm ho h1 h2 h3 e2
    obtain ⟨n, rfl⟩ := il_ex (K := 10) (m := m) (by omega)
    obtain rfl : s = E.ns := by omega
    have kE : cNE τ k E := cNE_off ho (by simp) cE
    refine b_ge e2 kE.1 (by omega) (by omega) (fun _ => ?_) (fun q => by omega)
    exact hQ τ ho ⟨h1, h2, h3⟩
  | succ r ih =>
    intro s m τ x2 o3 hr hm ho h1 h2 h3 e2
    obtain ⟨n, rfl⟩ := il_ex (K := 50) (m := m) (by omega)
    have kS : cSP τ 0 S := cSP_off ho (by decide) cS
    have kR : cRU τ 0 S R := cRU_off ho (by decide) cR
    have kE : cNE τ k E := cNE_off ho (by simp) cE
    have hs : s < E.ns := by omega
    have hl := hdC_le S R E s
    refine b_ge e2 kE.1 (by omega) (by omega) (fun q => by omega) (fun _ => ?_)
    refine ⟨trivial, c_tally (e := e) hS hR hE kS kR kE hs e2 (by omega) ?_⟩
    intro τ1 ho1 v1
    refine ⟨trivial, c_wordOfChoice v1 (vc60 hS hR hE hs) oi_0 (vt_pos hE hS hs) (by omega) ?_⟩
    have ho1' : off hOff σ τ1 := off_tr ho (off_in ho1 (by decide))
    have g3 : τ1.1 1 0 3 0 = nI (hdC S R E s) := by rw [off_1 ho1 (by decide)]; exact h1
    have g4 : ∀ z, τ1.1 1 0 4 z = τ.1 1 0 4 z := fun z => off_1 ho1 (by decide) z
    have g5 : ∀ z, τ1.1 1 0 5 z = τ.1 1 0 5 z := fun z => off_1 ho1 (by decide) z
    have hw := wnF_le (s := s) hS hR hE hs
    have hnw := hS.2.2.2.1
    show (brI .lt (wcI (wnF S R E s)) 0 → _) ∧ (¬ brI .lt (wcI (wnF S R E s)) 0 → _)
    by_cases w : wnF S R E s = 60
    · refine ⟨fun _ => ?_, fun q => absurd (show wcI (wnF S R E s) < 0 by rw [w]; decide) q⟩
      refine ⟨trivial, ih (s + 1) _ τ1 _ _ (by omega) (by omega) ho1' ?_ (fun s' hs' w' => ?_) (fun s' hs' w' => ?_) (il_inc e2)⟩
      · rw [g3, hdC, if_pos w]; rfl
      · rw [g4]; exact h2 s' (by by_cases q : s' = s; · exact absurd (q ▸ w) w'
                                 · omega) w'
      · rw [g5]; exact h3 s' (by by_cases q : s' = s; · exact absurd (q ▸ w) w'
                                 · omega) w'
    · have ew : wcI (wnF S R E s) = nI (wnF S R E s) := by unfold wcI; rw [if_neg w]
      refine ⟨fun q => absurd (show nI (wnF S R E s) < 0 by rw [← ew]; exact q) (nI_pos (by omega)), fun _ => ?_⟩
      refine b_ge g3 i60 (by omega) (by omega) (fun q => by omega) (fun _ => ?_)
      refine ⟨il_in g3 (by omega) (by omega), ?_⟩
      have c3 : (τ1.1 1 0 (2 + 1) 0).toNatClampNeg = hdC S R E s := il_cl g3 (by omega)
      have g3' : (uI τ1 1 0 4 (τ1.1 1 0 (2 + 1) 0).toNatClampNeg (wcI ((vtE (vcO S R E s)).2 0))).1 1 0 (2 + 1) 0 = nI (hdC S R E s) := by rw [uI_nr _ _ _ _ _ _ (by decide)]; exact g3
      refine ⟨il_in g3' (by omega) (by omega), ?_⟩
      refine ⟨trivial, ih (s + 1) _ _ _ _ (by omega) (by omega) (off_uI (off_uI (off_uI ho1' (by decide)) (by decide)) (by decide)) ?_ (fun s' hs' w' => ?_) (fun s' hs' w' => ?_) (il_inc e2)⟩
      · show (uI _ 1 0 3 0 _).1 1 0 3 0 = _
        rw [uI_at]
        show (uI (uI τ1 1 0 4 _ _) 1 0 5 _ _).1 1 0 3 0 + Int32.ofInt 1 = _
        rw [uI_nr _ _ _ _ _ _ (by decide), uI_nr _ _ _ _ _ _ (by decide), g3, oi_1, nI_add, hdC, if_neg w]
      · rw [il_cl g3' (by omega), c3]
        show (uI (uI (uI τ1 1 0 4 _ _) 1 0 5 _ _) 1 0 3 0 _).1 1 0 4 (hdC S R E s') = _
        rw [uI_nr _ _ _ _ _ _ (by decide), uI_nr _ _ _ _ _ _ (by decide), uI_if]
        by_cases q : s' = s
        · rw [if_pos (by rw [q]), q]; exact ew
        · have := hdC_lt (show s' < s by omega) w'
          rw [if_neg (by omega), g4]; exact h2 s' (by omega) w'
      · rw [il_cl g3' (by omega), c3]
        show (uI (uI (uI τ1 1 0 4 _ _) 1 0 5 _ _) 1 0 3 0 _).1 1 0 5 (hdC S R E s') = _
        rw [uI_nr _ _ _ _ _ _ (by decide), uI_if]
        by_cases q : s' = s
        · rw [if_pos (by rw [q]), q]; exact e2
        · have := hdC_lt (show s' < s by omega) w'
          rw [if_neg (by omega), uI_nr _ _ _ _ _ _ (by decide), g5]; exact h3 s' (by omega) w'
set_option maxRecDepth 100000 in
/-- Ballot.listHeard -/
theorem c_listHeard (hS : vSP S) (hR : vRU S R) (hE : vNE S E) (cS : cSP σ 0 S) (cR : cRU σ 0 S R) (cE : cNE σ k E) (hm : 7000 ≤ m) (hQ : ∀ τ, off hOff σ τ → cHD τ S R E → Q none τ) :
    wp N m (e + 3, 0) TX1_listHeard 0 [some (.inr (.inr (1, 0, 0))), some (.inr (.inr (3, k, 0))), none, none] [] σ Q := by
  have hns := vNE_ns hS hE
  refine adv 5 6900 (by omega) (fun n hn => ?_)
  refine lh_loop hS hR hE cS cR cE hQ E.ns 0 n _ _ _ (by omega) (by omega) (off_uI (off_rf _ _) (by decide)) ?_ (fun s hs => absurd hs (Nat.not_lt_zero _)) (fun s hs => absurd hs (Nat.not_lt_zero _)) oi_0
  rw [uI_at]; exact oi_0
theorem c_heardWord {x1 : Int32} {s : Nat} (c : cHD σ S R E) (hS : vSP S) (hE : vNE S E) (hs : s < E.ns) (w : wnF S R E s ≠ 60) (e1 : x1 = nI (hdC S R E s)) (hm : 30 ≤ m) (hQ : Q (some (.inl (nI (wnF S R E s)))) σ) :
    wp N m (e, 0) TX1_heardWord 0 [some (.inr (.inr (1, 0, 0))), some (.inl x1)] [] σ Q := by
  obtain ⟨n, rfl⟩ := il_ex hm
  have hns := vNE_ns hS hE
  have := hdC_lt hs w
  have := hdC_le S R E E.ns
  refine b_lt e1 z0 (by omega) (by omega) (fun q => by omega) (fun _ => ?_)
  refine b_ge e1 c.1 (by omega) (by omega) (fun q => by omega) (fun _ => ?_)
  refine ⟨il_in e1 (by omega) (by omega), trivial, Or.inl rfl, ?_⟩
  rw [il_cl e1 (by omega)]
  rw [← c.2.1 s hs w] at hQ
  exact hQ
theorem c_heardSlot {x1 : Int32} {s : Nat} (c : cHD σ S R E) (hS : vSP S) (hE : vNE S E) (hs : s < E.ns) (w : wnF S R E s ≠ 60) (e1 : x1 = nI (hdC S R E s)) (hm : 30 ≤ m) (hQ : Q (some (.inl (nI s))) σ) :
    wp N m (e, 0) TX1_heardSlot 0 [some (.inr (.inr (1, 0, 0))), some (.inl x1)] [] σ Q := by
  obtain ⟨n, rfl⟩ := il_ex hm
  have hns := vNE_ns hS hE
  have := hdC_lt hs w
  have := hdC_le S R E E.ns
  refine b_lt e1 z0 (by omega) (by omega) (fun q => by omega) (fun _ => ?_)
  refine b_ge e1 c.1 (by omega) (by omega) (fun q => by omega) (fun _ => ?_)
  refine ⟨il_in e1 (by omega) (by omega), trivial, Or.inl rfl, ?_⟩
  rw [il_cl e1 (by omega)]
  rw [← c.2.2 s hs w] at hQ
  exact hQ
/-- beyond what is HEARD -/
theorem c_heardSlotN {x1 : Int32} (c : cHD σ S R E) (hS : vSP S) (hE : vNE S E) (h : x1 < 0 ∨ ∃ i, x1 = nI i ∧ i < 2147483648 ∧ hdC S R E E.ns ≤ i) (hm : 30 ≤ m) (hQ : Q (some (.inl (-1))) σ) :
    wp N m (e, 0) TX1_heardSlot 0 [some (.inr (.inr (1, 0, 0))), some (.inl x1)] [] σ Q := by
  obtain ⟨n, rfl⟩ := il_ex hm
  have hns := vNE_ns hS hE
  have := hdC_le S R E E.ns
  rcases h with h | ⟨i, e1, h1, h2⟩
  · refine ⟨fun _ => ⟨Or.inl rfl, ?_⟩, fun q => absurd h q⟩
    rw [im1]; exact hQ
  · refine b_lt e1 z0 (by omega) (by omega) (fun q => by omega) (fun _ => ?_)
    refine b_ge e1 c.1 (by omega) (by omega) (fun _ => ⟨Or.inl rfl, ?_⟩) (fun q => by omega)
    rw [im1]; exact hQ
set_option maxRecDepth 100000 in
theorem hb_loop (a : arO N 11 jv = some (1, 322)) (ai : arO N 11 ji = some (1, 80)) (hj : (11, 0, jv) ∉ gOff) (hi : (11, 0, ji) ∉ gOff) (hij : ji ≠ jv) (hi2 : ji ∉ [17, 21, 22, 23, 25, 26]) (hS : vSP S) (hR : vRU S R) (hE : vNE S E) (cS : mSP σ S) (cR : mRU (σ.1 11 0 jv) S R) (cE : mNE (σ.1 11 0 jv) E) (hQ : ∀ τ, off ((11, 0, ji) :: gOff) σ τ → hdR S R E E.ns (τ.1 11 0 ji) → Q (some (.inl (nI (hdC S R E E.ns)))) τ) :
    ∀ (r s m : Nat) (τ : ST) (x3 x4 : Int32) (o5 : Option AV), s + r = E.ns → 60 * r + 3500 ≤ m → off ((11, 0, ji) :: gOff) σ τ → x3 = nI (hdC S R E s) → hdR S R E s (τ.1 11 0 ji) → x4 = nI s →
      wp N m (e + 3, 0) TX11_heardBy 4 [some (.inr (.inr (11, 0, 0))), some (.inr (.inr (11, 0, jv))), some (.inr (.inr (11, 0, ji))), some (.inl x3), some (.inl x4), o5] [] τ Q := by
  have hns := vNE_ns hS hE
  have hjL : (11, 0, jv) ∉ ((11, 0, ji) :: gOff : List RF) := by
    intro q
    rcases List.mem_cons.mp q with q | q
    · cases q; exact hij rfl
    · exact hj q
  have hcL : ∀ j, j ∈ [17, 21, 22, 23, 25, 26] → ((11, 0, j) : RF) ∉ ((11, 0, ji) :: gOff : List RF) := by
    intro j hjm q
    rcases List.mem_cons.mp q with q | q
    · cases q; exact hi2 hjm
    · simp at hjm q; omega
  have kS : ∀ τ, off ((11, 0, ji) :: gOff) σ τ → mSP τ S := by
    intro τ ho
    unfold mSP at *
    rw [(ho 11 0 25 (hcL 25 (by simp))).1, (ho 11 0 26 (hcL 26 (by simp))).1, (ho 11 0 21 (hcL 21 (by simp))).1, (ho 11 0 22 (hcL 22 (by simp))).1, (ho 11 0 23 (hcL 23 (by simp))).1, (ho 11 0 17 (hcL 17 (by simp))).2]
    exact cS
  have v21 : ∀ τ, off ((11, 0, ji) :: gOff) σ τ → τ.1 11 0 jv (Int8.ofInt 21).toInt32.toNatClampNeg = nI E.ns := fun τ ho => by rw [il_cl i21 (by omega)]; exact (mNE_off ho hjL cE).2.1
  intro r
  induction r with
  | zero =>
    intro s m τ x3 x4 o5 hr hm ho e3 h2 e4
    obtain ⟨n, rfl⟩ := il_ex (K := 10) (m := m) (by omega)
    obtain rfl : s = E.ns := by omega
    refine arr_of a ⟨il_in i21 (by omega) (by omega), ?_⟩
    refine b_ge e4 (v21 τ ho) (by omega) (by omega) (fun _ => ?_) (fun q => by omega)
    refine ⟨Or.inl rfl, ?_⟩
    rw [e3]; exact hQ τ ho h2
  | succ r ih =>
    intro s m τ x3 x4 o5 hr hm ho e3 h2 e4
    obtain ⟨n, rfl⟩ := il_ex (K := 40) (m := m) (by omega)
    have hs : s < E.ns := by omega
    have hl := hdC_le S R E s
    refine arr_of a ⟨il_in i21 (by omega) (by omega), ?_⟩
    refine b_ge e4 (v21 τ ho) (by omega) (by omega) (fun q => by omega) (fun _ => ?_)
    refine ⟨trivial, c_winner a hj hS hR hE (kS τ ho) (mRU_off ho hjL cR) (mNE_off ho hjL cE) hs e4 (by omega) ?_⟩
    intro τ1 ho1 v1
    have hw := wnF_le (s := s) hS hR hE hs
    have hnw := hS.2.2.2.1
    have ho1' : off ((11, 0, ji) :: gOff) σ τ1 := off_tr ho (off_mono ho1 (fun r hr => List.mem_cons_of_mem _ hr))
    have g : ∀ z, τ1.1 11 0 ji z = τ.1 11 0 ji z := fun z => off_1 ho1 hi z
    by_cases w : wnF S R E s = 60
    · refine ⟨fun q => absurd (show wcI (wnF S R E s) = (Int8.ofInt (-2)).toInt32 by rw [w, im2]; rfl) q, fun _ => ?_⟩
      refine ⟨trivial, trivial, ih (s + 1) _ τ1 _ _ _ (by omega) (by omega) ho1' ?_ (fun s' hs' w' => ?_) (il_inc e4)⟩
      · rw [e3, hdC, if_pos w]; rfl
      · rw [g]; exact h2 s' (by by_cases q : s' = s; · exact absurd (q ▸ w) w'
                                · omega) w'
    · have ew : wcI (wnF S R E s) = nI (wnF S R E s) := by unfold wcI; rw [if_neg w]
      refine ⟨fun _ => ?_, fun q => absurd (fun z => w ((wcI_inj (by omega) (by omega)).mp (show wcI (wnF S R E s) = wcI 60 by rw [show wcI 60 = (-2 : Int32) from rfl, ← im2]; exact z))) q⟩
      refine cndF rfl ?_
      refine arr_of ai ⟨il_in e3 (by omega) (by omega), ?_⟩
      refine ⟨trivial, ih (s + 1) _ _ _ _ _ (by omega) (by omega) (off_uI ho1' (List.mem_cons_self)) ?_ (fun s' hs' w' => ?_) (il_inc e4)⟩
      · rw [il_inc e3, hdC, if_neg w]
      · rw [il_cl e3 (by omega)]
        show (uI τ1 11 0 ji _ _).1 11 0 ji (hdC S R E s') = _
        rw [uI_if]
        by_cases q : s' = s
        · rw [if_pos (by rw [q]), q]; exact ew
        · have := hdC_lt (show s' < s by omega) w'
          rw [if_neg (by omega), g]; exact h2 s' (by omega) w'
set_option maxRecDepth 100000 in
/-- the reference's heardBy -/
theorem c_heardBy (a : arO N 11 jv = some (1, 322)) (ai : arO N 11 ji = some (1, 80)) (hj : (11, 0, jv) ∉ gOff) (hi : (11, 0, ji) ∉ gOff) (hij : ji ≠ jv) (hi2 : ji ∉ [17, 21, 22, 23, 25, 26]) (hS : vSP S) (hR : vRU S R) (hE : vNE S E) (cS : mSP σ S) (cR : mRU (σ.1 11 0 jv) S R) (cE : mNE (σ.1 11 0 jv) E) (hm : 7500 ≤ m) (hQ : ∀ τ, off ((11, 0, ji) :: gOff) σ τ → hdR S R E E.ns (τ.1 11 0 ji) → Q (some (.inl (nI (hdC S R E E.ns)))) τ) :
    wp N m (e + 3, 0) TX11_heardBy 0 [some (.inr (.inr (11, 0, 0))), some (.inr (.inr (11, 0, jv))), some (.inr (.inr (11, 0, ji))), none, none, none] [] σ Q := by
  have hns := vNE_ns hS hE
  refine adv 4 7400 (by omega) (fun n hn => ?_)
  exact hb_loop a ai hj hi hij hi2 hS hR hE cS cR cE hQ E.ns 0 n _ _ _ _ (by omega) (by omega) (off_rf _ _) oi_0 (fun s hs => absurd hs (Nat.not_lt_zero _)) oi_0
set_option maxRecDepth 100000 in
theorem so_loop (hS : vSP S) (hR : vRU S R) (hE : vNE S E) (cS : mSP σ S) (cR : mRU (σ.1 11 0 27) S R) (cE : mNE (σ.1 11 0 27) E) {i : Nat} (hi : i < 2147483648) {x1 : Int32} (e1 : x1 = nI i) (h1 : ∀ τ s, off gOff σ τ → s < E.ns → wnF S R E s ≠ 60 → hdC S R E s = i → Q (some (.inl (nI s))) τ) (h0 : ∀ τ, off gOff σ τ → hdC S R E E.ns ≤ i → Q (some (.inl (-1))) τ) :
    ∀ (r s m : Nat) (τ : ST) (x2 x3 : Int32), s + r = E.ns → 60 * r + 3500 ≤ m → off gOff σ τ → hdC S R E s ≤ i → x2 = nI (i - hdC S R E s) → x3 = nI s →
      wp N m (e + 3, 0) TX11_slotOf 4 [some (.inr (.inr (11, 0, 0))), some (.inl x1), some (.inl x2), some (.inl x3)] [] τ Q := by
  have hns := vNE_ns hS hE
  have v21 : ∀ τ, off gOff σ τ → τ.1 11 0 27 (Int8.ofInt 21).toInt32.toNatClampNeg = nI E.ns := fun τ ho => by rw [il_cl i21 (by omega)]; exact (mNE_off ho (by decide) cE).2.1
  intro r
  induction r with
  | zero =>
    intro s m τ x2 x3 hr hm ho hle e2 e3
    obtain ⟨n, rfl⟩ := il_ex (K := 10) (m := m) (by omega)
    obtain rfl : s = E.ns := by omega
    refine ⟨il_in i21 (by omega) (by omega), ?_⟩
    refine b_ge e3 (v21 τ ho) (by omega) (by omega) (fun _ => ?_) (fun q => by omega)
    refine ⟨Or.inl rfl, ?_⟩
    rw [im1]; exact h0 τ ho hle
  | succ r ih =>
    intro s m τ x2 x3 hr hm ho hle e2 e3
    obtain ⟨n, rfl⟩ := il_ex (K := 40) (m := m) (by omega)
    have hs : s < E.ns := by omega
    refine ⟨il_in i21 (by omega) (by omega), ?_⟩
    refine b_ge e3 (v21 τ ho) (by omega) (by omega) (fun q => by omega) (fun _ => ?_)
    refine b_lt e1 z0 (by omega) (by omega) (fun q => by omega) (fun _ => ?_)
    refine ⟨trivial, c_winner (jv := 27) rfl (by decide) hS hR hE (mSP_off ho (by decide) cS) (mRU_off ho (by decide) cR) (mNE_off ho (by decide) cE) hs e3 (by omega) ?_⟩
    intro τ1 ho1 v1
    have hw := wnF_le (s := s) hS hR hE hs
    have hnw := hS.2.2.2.1
    have ho1' : off gOff σ τ1 := off_tr ho ho1
    by_cases w : wnF S R E s = 60
    · refine ⟨fun q => absurd (show wcI (wnF S R E s) = (Int8.ofInt (-2)).toInt32 by rw [w, im2]; rfl) q, fun _ => ?_⟩
      refine ⟨trivial, trivial, ih (s + 1) _ τ1 _ _ (by omega) (by omega) ho1' ?_ ?_ (il_inc e3)⟩
      · rw [hdC, if_pos w]; exact hle
      · rw [e2, hdC, if_pos w]; rfl
    · refine ⟨fun _ => ?_, fun q => absurd (fun z => w ((wcI_inj (by omega) (by omega)).mp (show wcI (wnF S R E s) = wcI 60 by rw [show wcI 60 = (-2 : Int32) from rfl, ← im2]; exact z))) q⟩
      refine b_ne e2 z0 (by omega) (by omega) (fun q => ?_) (fun q => ?_)
      · refine ⟨trivial, ih (s + 1) _ τ1 _ _ (by omega) (by omega) ho1' ?_ ?_ (il_inc e3)⟩
        · rw [hdC, if_neg w]; omega
        · rw [hdC, if_neg w]
          refine il_dec ?_
          rw [e2]; congr 1; omega
      · refine ⟨Or.inl rfl, ?_⟩
        rw [e3]; exact h1 τ1 s ho1' hs w (by omega)
set_option maxRecDepth 100000 in
/-- the reference's slotOf -/
theorem c_slotOfM (hS : vSP S) (hR : vRU S R) (hE : vNE S E) (cS : mSP σ S) (cR : mRU (σ.1 11 0 27) S R) (cE : mNE (σ.1 11 0 27) E) {i : Nat} (hi : i < 2147483648) {x1 : Int32} (e1 : x1 = nI i) (hm : 7500 ≤ m) (h1 : ∀ τ s, off gOff σ τ → s < E.ns → wnF S R E s ≠ 60 → hdC S R E s = i → Q (some (.inl (nI s))) τ) (h0 : ∀ τ, off gOff σ τ → hdC S R E E.ns ≤ i → Q (some (.inl (-1))) τ) :
    wp N m (e + 3, 0) TX11_slotOf 0 [some (.inr (.inr (11, 0, 0))), some (.inl x1), none, none] [] σ Q := by
  have hns := vNE_ns hS hE
  refine adv 4 7400 (by omega) (fun n hn => ?_)
  exact so_loop hS hR hE cS cR cE hi e1 h1 h0 E.ns 0 n _ _ _ (by omega) (by omega) (off_rf _ _) (Nat.zero_le _) e1 oi_0
set_option maxRecDepth 100000 in
theorem c_slotOfN (cE : mNE (σ.1 11 0 27) E) (hns : E.ns ≤ 60) {x1 : Int32} (h : x1 < 0) (hm : 50 ≤ m) (hQ : Q (some (.inl (-1))) σ) :
    wp N m (e, 0) TX11_slotOf 0 [some (.inr (.inr (11, 0, 0))), some (.inl x1), none, none] [] σ Q := by
  obtain ⟨n, rfl⟩ := il_ex (K := 30) (m := m) (by omega)
  have v21 : σ.1 11 0 27 (Int8.ofInt 21).toInt32.toNatClampNeg = nI E.ns := by rw [il_cl i21 (by omega)]; exact cE.2.1
  have hQ' : Q (some (.inl (Int32.ofInt (-1)))) σ := by rw [im1]; exact hQ
  refine ⟨il_in i21 (by omega) (by omega), ?_⟩
  refine b_ge oi_0 v21 (by omega) (by omega) (fun _ => ⟨Or.inl rfl, hQ'⟩) (fun _ => ?_)
  refine ⟨fun _ => ⟨Or.inl rfl, hQ'⟩, fun q => absurd h q⟩
end HD
