/-! all that are left are JOINED, one by one -/
theorem nfS_none {S : SPc} {R : RUc} {E : NEc} {kd : Nat} : ∀ n, nfS S R E kd n = none → ∀ h, h < n → (plc E h).isSome = true
  | 0, _, h, hh => absurd hh (Nat.not_lt_zero _)
  | n + 1, q, h, hh => by
    rw [nfS] at q
    by_cases hj : (plc E n).isSome = true
    · rw [if_pos hj] at q
      by_cases e : h = n
      · rw [e]; exact hj
      · exact nfS_none n q h (by omega)
    · rw [if_neg hj] at q
      exfalso
      cases z : nfS S R E kd n with
      | none => rw [z] at q; simp only at q; cases q
      | some w =>
        obtain ⟨b, l⟩ := w
        rw [z] at q
        simp only at q
        by_cases c : rkI S R E kd n < l
        · rw [if_pos c] at q; cases q
        · rw [if_neg c] at q; cases q
theorem sm_c1 : ∀ n, sm (fun _ => 1) n = n
  | 0 => rfl
  | n + 1 => by rw [sm, sm_c1 n]
/-- who isn't JOINED -/
theorem plc_left {S : SPc} {E : NEc} (hS : vSP S) (hE : vNE S E) (h : E.nj < S.nh) : ∃ g, g < S.nh ∧ plc E g = none := by
  apply Classical.byContradiction
  intro q
  have all : ∀ g, g < S.nh → plS E (fun _ => 1) g = 1 := by
    intro g hg
    cases z : plc E g with
    | none => exact absurd ⟨g, hg, z⟩ q
    | some p => exact plS_s z
  have h1 := plS_sum hS hE (fun _ => 1)
  rw [sm_c1] at h1
  have h2 : sm (plS E (fun _ => 1)) S.nh = S.nh := by rw [sm_congr all, sm_c1]
  have h3 := sm_mono (plS E (fun _ => 1)) hS.1
  omega
theorem plc_full {S : SPc} {E : NEc} (hS : vSP S) (hE : vNE S E) (h : E.nj = S.nh) {g : Nat} (hg : g < S.nh) : (plc E g).isSome = true := by
  cases z : plc E g with
  | some p => rfl
  | none =>
    exfalso
    have h1 := plS_sum hS hE (fun _ => 1)
    rw [sm_c1] at h1
    have h2 : sm (plS E (fun _ => 1)) 5 = sm (plS E (fun _ => 1)) S.nh := sm_tail hS.1 (fun i h3 h4 => by
      cases w : plc E i with
      | none => exact plS_n w
      | some p => have := plc_some w; have := hE.2.1 p this.1; omega)
    have h5 : sm (plS E (fun _ => 1)) S.nh < sm (fun _ => 1) S.nh := sm_lt hg (fun k _ => by
      cases w : plc E k with
      | none => rw [plS_n w]; omega
      | some p => rw [plS_s w]; exact Nat.le_refl _) (by rw [plS_n z]; omega)
    rw [sm_c1] at h5
    omega
theorem nfS_left {S : SPc} {R : RUc} {E : NEc} {kd : Nat} (hS : vSP S) (hE : vNE S E) (h : E.nj < S.nh) : ∃ g, g < S.nh ∧ plc E g = none ∧ nfO (nfS S R E kd S.nh) = some g := by
  cases z : nfS S R E kd S.nh with
  | none =>
    obtain ⟨g, hg, q⟩ := plc_left hS hE h
    have := nfS_none S.nh z g hg
    rw [q] at this; cases this
  | some w =>
    obtain ⟨b, l⟩ := w
    have := nfS_lt S.nh b l z
    exact ⟨b, this.1, this.2, rfl⟩
theorem nfS_full {S : SPc} {R : RUc} {E : NEc} {kd : Nat} (hS : vSP S) (hE : vNE S E) (h : E.nj = S.nh) : nfO (nfS S R E kd S.nh) = none := by
  cases z : nfS S R E kd S.nh with
  | none => rfl
  | some w =>
    obtain ⟨b, l⟩ := w
    have := nfS_lt S.nh b l z
    have h2 := plc_full hS hE h this.1
    rw [this.2] at h2; cases h2
def ctS (S : SPc) (R : RUc) (E : NEc) (h : Nat) : Nat := (dwS S R E h (S.cn h) E.ns).1
def jaT (S : SPc) (R : RUc) (kd : Nat) : Nat → NEc → Nat × NEc
  | 0, E => (0, E)
  | n + 1, E => match nfO (nfS S R E kd S.nh) with
    | none => (0, E)
    | some h => (ctS S R E h + (jaT S R kd n (jnE S R E h)).1, (jaT S R kd n (jnE S R E h)).2)
theorem jaT_s {S : SPc} {R : RUc} {kd n h : Nat} {E : NEc} (q : nfO (nfS S R E kd S.nh) = some h) : jaT S R kd (n + 1) E = (ctS S R E h + (jaT S R kd n (jnE S R E h)).1, (jaT S R kd n (jnE S R E h)).2) := by rw [jaT, q]
theorem jaT_v {S : SPc} {R : RUc} {kd : Nat} (hS : vSP S) (hR : vRU S R) : ∀ n E, vNE S E → vNE S (jaT S R kd n E).2
  | 0, E, h => h
  | n + 1, E, h => by
    cases z : nfS S R E kd S.nh with
    | none => rw [jaT, z]; exact h
    | some w =>
      obtain ⟨b, l⟩ := w
      have := nfS_lt S.nh b l z
      rw [jaT_s (show nfO (nfS S R E kd S.nh) = some b by rw [z]; rfl)]
      exact jaT_v hS hR n _ (vNE_jn hS hR h this.1 this.2)
section JA
variable {N e m : Nat} {σ : ST} {Q : POST} {S : SPc} {R : RUc}
set_option maxRecDepth 100000 in
theorem ja_loop (hS : vSP S) (hR : vRU S R) (cS : cSP σ 0 S) (cR : cRU σ 0 S R) {kd l : Nat} (hl : l ≤ S.nh) (hkd : kd ≤ 2) {x1 x3 : Int32} (e1 : x1 = nI kd) (e3 : x3 = nI l) :
    ∀ (r k m : Nat) (E : NEc) (acc : Nat) (τ : ST) (x2 x4 : Int32), vNE S E → k + r = l → E.nj + r = S.nh → 2300000 + 50 * r ≤ m → off (vOff 0) σ τ → cFA τ S → cNE τ 0 E → x2 = nI acc → x4 = nI k →
      (∀ τ', off (vOff 0) σ τ' → cFA τ' S → cNE τ' 0 (jaT S R kd r E).2 → Q (some (.inl (nI (acc + (jaT S R kd r E).1)))) τ') →
      wp N m (e + 6, 0) TX10_joinAll 26 [some (.inr (.inr (10, 0, 0))), some (.inl x1), some (.inl x2), some (.inl x3), some (.inl x4)] [] τ Q := by
  have hnh := hS.1
  intro r
  induction r with
  | zero =>
    intro k m E acc τ x2 x4 hE hr hn hm ho hf hc e2 e4 hQ
    obtain ⟨n, rfl⟩ := il_ex (K := 10) (m := m) (by omega)
    refine b_ge e4 e3 (by omega) (by omega) (fun _ => ?_) (fun q => by omega)
    refine ⟨Or.inl rfl, ?_⟩
    rw [e2]; exact hQ τ ho hf hc
  | succ r ih =>
    intro k m E acc τ x2 x4 hE hr hn hm ho hf hc e2 e4 hQ
    obtain ⟨n, rfl⟩ := il_ex (K := 30) (m := m) (by omega)
    obtain ⟨g, hg, pg, eg⟩ := nfS_left (R := R) (kd := kd) hS hE (by omega)
    refine b_ge e4 e3 (by omega) (by omega) (fun q => by omega) (fun _ => ?_)
    refine ⟨trivial, c_nextToJoin (e := e) hS hR hE (cSP_off ho (by decide) cS) (cRU_off ho (by decide) cR) hc hf hkd e1 (by omega) ?_⟩
    intro τ1 ho1 hf1
    rw [eg]
    have ho1' : off (vOff 0) σ τ1 := off_tr ho (off_in ho1 (by decide))
    refine ⟨trivial, c_weave (k := 0) (e := e) hS hR hE (cSP_off ho1' (by decide) cS) (cRU_off ho1' (by decide) cR) (cNE_off ho1 (by decide) hc) hf1 hg pg rfl (by omega) ?_⟩
    intro τ2 ho2 hf2 hc2
    refine ⟨trivial, ih (k + 1) _ (jnE S R E g) (acc + ctS S R E g) τ2 _ _ (vNE_jn hS hR hE hg pg) (by omega) (by show E.nj + 1 + r = _; omega) (by omega) (off_tr ho1' ho2) hf2 hc2 (by rw [e2, nI_add]; rfl) (il_inc e4) ?_⟩
    intro τ' ho' hf' hc'
    have := hQ τ' ho' hf' (by rw [jaT_s eg]; exact hc')
    rw [jaT_s eg] at this
    rw [Nat.add_assoc]
    exact this
set_option maxRecDepth 100000 in
theorem jm_loop (hS : vSP S) (hR : vRU S R) (cS : mSP σ S) {kd : Nat} (hkd : kd ≤ 2) {x1 : Int32} (e1 : x1 = nI kd) :
    ∀ (r m : Nat) (E : NEc) (acc : Nat) (τ : ST) (x2 x3 : Int32), vNE S E → E.nj + r = S.nh → 2800000 + 50 * r ≤ m → off (jOff 27) σ τ → mRU (τ.1 11 0 27) S R → mNE (τ.1 11 0 27) E → x2 = nI acc → x3 = oI (-1) (nfO (nfS S R E kd S.nh)) →
      (∀ τ', off (jOff 27) σ τ' → mRU (τ'.1 11 0 27) S R → mNE (τ'.1 11 0 27) (jaT S R kd r E).2 → Q (some (.inl (nI (acc + (jaT S R kd r E).1)))) (uI (uI τ' 11 0 2 0 0) 11 0 3 0 (-1))) →
      wp N m (e + 6, 0) TX11_joinAll 23 [some (.inr (.inr (11, 0, 0))), some (.inl x1), some (.inl x2), some (.inl x3)] [] τ Q := by
  have hnh := hS.1
  intro r
  induction r with
  | zero =>
    intro m E acc τ x2 x3 hE hn hm ho hr hc e2 e3 hQ
    obtain ⟨n, rfl⟩ := il_ex (K := 10) (m := m) (by omega)
    rw [nfS_full hS hE (by omega)] at e3
    refine ⟨fun _ => ?_, fun q => absurd (show x3 = Int32.ofInt (-1) by rw [e3, im1]; rfl) q⟩
    refine ⟨trivial, c_good (by omega) ?_⟩
    refine ⟨Or.inl rfl, ?_⟩
    rw [e2]; exact hQ τ ho hr hc
  | succ r ih =>
    intro m E acc τ x2 x3 hE hn hm ho hr hc e2 e3 hQ
    obtain ⟨n, rfl⟩ := il_ex (K := 30) (m := m) (by omega)
    obtain ⟨g, hg, pg, eg⟩ := nfS_left (R := R) (kd := kd) hS hE (by omega)
    rw [eg] at e3
    have e3 : x3 = nI g := e3
    refine ⟨fun q => absurd (show nI g = Int32.ofInt (-1) by rw [← e3]; exact q) (b_n1 (by omega)), fun _ => ?_⟩
    refine ⟨trivial, c_joins (jv := 27) (e := e) rfl (by decide) (by decide) hS hR hE (mSP_off ho (by decide) cS) hr hc hg pg e3 (by omega) ?_⟩
    intro τ2 ho2 hr2 hc2
    have ho2' := off_tr ho ho2
    refine ⟨trivial, c_nextOne (e := e) hS hR (vNE_jn hS hR hE hg pg) (mSP_off ho2' (by decide) cS) hr2 hc2 hkd e1 (by omega) ?_⟩
    intro τ3 ho3
    refine ⟨trivial, ih _ (jnE S R E g) (acc + ctS S R E g) τ3 _ _ (vNE_jn hS hR hE hg pg) (by show E.nj + 1 + r = _; omega) (by omega) (off_tr ho2' (off_in ho3 (by decide))) (mRU_off ho3 (by decide) hr2) (mNE_off ho3 (by decide) hc2) (by rw [e2, nI_add]; rfl) rfl ?_⟩
    intro τ' ho' hr' hc'
    have := hQ τ' ho' hr' (by rw [jaT_s eg]; exact hc')
    rw [jaT_s eg] at this
    rw [Nat.add_assoc]
    exact this
end JA
