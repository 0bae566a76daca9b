/-! acts: weigh -/
noncomputable def wgU (A : AS) (h : Nat) : Nat := match plc A.2.2.1 h with
  | none => 0
  | some _ => if wrF A.1 A.2.1 A.2.2.1 h = A.2.1.wt h then 0 else 1
noncomputable def wgW (A : AS) (h : Nat) : Nat := match plc A.2.2.1 h with
  | none => A.2.1.wt h
  | some _ => wrF A.1 A.2.1 A.2.2.1 h
theorem wgU_le (A : AS) (h : Nat) : wgU A h ≤ 1 := by
  unfold wgU
  cases plc A.2.2.1 h with
  | none => exact Nat.zero_le _
  | some p => simp only; split <;> omega
theorem sm_le1 {f : Nat → Nat} (h : ∀ i, f i ≤ 1) : ∀ n, sm f n ≤ n
  | 0 => Nat.le_refl _
  | n + 1 => by
    have := sm_le1 h n
    have := h n
    show sm f n + f n ≤ n + 1
    omega
theorem plc_big {S : SPc} {E : NEc} (hE : vNE S E) {h : Nat} (hh : S.nh ≤ h) : plc E h = none := by
  cases hp : plc E h with
  | none => rfl
  | some p =>
    have := plc_some hp
    have := hE.2.1 p (by omega)
    omega
section WG
variable {N e m : Nat} {σ : ST} {Q : POST} {A : AS}
noncomputable def st_weigh (A : AS) : Int32 × AS := if A.1.nh = 0 then reA A 1 else (nI (sm (wgU A) A.1.nh), actA A (A.2.1.fr, A.2.1.gp, A.2.1.nr, A.2.1.wn, A.2.1.sh, wgW A) A.2.2.1)
theorem wgW_b (v : VV A) (h0 : 0 < A.1.nh) {h : Nat} (hh : h < A.1.nh) : 1 ≤ wgW A h ∧ wgW A h ≤ 99 := by
  unfold wgW
  cases plc A.2.2.1 h with
  | none => exact (v.r h0).2.2.2.2.2 h hh
  | some p => exact wrF_b v.e h (v.s.2.1 h hh).1
theorem V_weigh (v : VV A) : VV (st_weigh A).2 := by
  unfold st_weigh
  by_cases q : A.1.nh = 0
  · rw [if_pos q]; exact V_re v _
  · rw [if_neg q]
    have r := v.r (by omega)
    exact V_act v (by omega) ⟨r.1, r.2.1, r.2.2.1, r.2.2.2.1, r.2.2.2.2.1, fun g hg => wgW_b v (by omega) hg⟩ v.e
abbrev wgOff : List RF := [(10, 0, 3), (1, 0, 1), (1, 0, 2), (1, 0, 6), (1, 0, 7)]
noncomputable def wgI (σ : ST) (A : AS) (h : Nat) : Int32 := match plc A.2.2.1 h with
  | none => σ.1 7 0 6 h
  | some _ => nI (wrF A.1 A.2.1 A.2.2.1 h)
set_option maxRecDepth 100000 in
theorem wg1_loop (v : VV A) (h0 : 0 < A.1.nh) (cS : cSP σ 0 A.1) (cR : cRU σ 0 A.1 A.2.1) (cE : cNE σ 0 A.2.2.1) {M : Nat} (hM : 30 ≤ M)
    (K : ∀ (m : Nat) (τ : ST) (x1 : Int32), M ≤ m → off wgOff σ τ → (∀ g, g < 5 → τ.1 10 0 3 g = wgI σ A g) → wp N m (e + 5, 0) TX10_weigh 33 [H10, iA x1, none] [] τ Q) :
    ∀ (r h m : Nat) (τ : ST) (x1 : Int32), h + r = 5 → 40 * r + 7200 + M ≤ m → off wgOff σ τ → (∀ g, g < h → τ.1 10 0 3 g = wgI σ A g) → x1 = nI h →
      wp N m (e + 5, 0) TX10_weigh 11 [H10, iA x1, none] [] τ Q := by
  have hnh := v.s.1
  intro r
  induction r with
  | zero =>
    intro h m τ x1 hr hm ho hw e1
    obtain ⟨n, rfl⟩ := il_ex (K := 10) (m := m) (by omega)
    refine b_ge e1 i5 (by omega) (by omega) (fun _ => ?_) (fun q => by omega)
    exact K _ τ _ (by omega) ho (fun g hg => hw g (by omega))
  | succ r ih =>
    intro h m τ x1 hr hm ho hw e1
    obtain ⟨n, rfl⟩ := il_ex (K := 40) (m := m) (by omega)
    refine b_ge e1 i5 (by omega) (by omega) (fun q => by omega) (fun _ => ?_)
    refine ⟨trivial, c_holds (e := e + 3) e1 (by omega) (by omega) ?_⟩
    have cE' := cNE_off ho (by decide) cE
    rw [cE'.2.2.2.1 h (by omega)]
    cases hp : plc A.2.2.1 h with
    | none =>
      rw [if_pos (show oI (-2) none < 0 from ne2)]
      refine b_eq (a := 0) rfl z0 (by omega) (by omega) (fun _ => ?_) (fun q => absurd rfl q)
      refine ⟨trivial, c_weightOf e1 (by omega) (by omega) ?_⟩
      refine ⟨il_in e1 (by omega) (by omega), ?_⟩
      rw [il_cl e1 (by omega)]
      refine ⟨trivial, ih (h + 1) _ _ _ (by omega) (by omega) (off_uI ho (by decide)) (fun g hg => ?_) (il_inc e1)⟩
      rw [uI_if]
      by_cases z : g = h
      · rw [if_pos z, z, off_1 ho (by decide)]; unfold wgI; rw [hp]
      · rw [if_neg z]; exact hw g (by omega)
    | some p =>
      have hz := plc_some hp
      have hhn : h < A.1.nh := by have := v.e.2.1 p (by omega); omega
      rw [if_neg (show ¬ oI (-2) (some p) < 0 from nI_pos (by have := v.e.1; omega))]
      refine b_eq (a := 1) rfl z0 (by omega) (by omega) (fun q => by omega) (fun _ => ?_)
      refine ⟨trivial, c_weightByRight (e := e) v.s (v.r h0) v.e (cSP_off ho (by decide) cS) (cRU_off ho (by decide) cR) cE' hhn e1 (by omega) (fun τ2 o2 => ?_)⟩
      refine ⟨trivial, il_in e1 (by omega) (by omega), ?_⟩
      rw [il_cl e1 (by omega)]
      refine ⟨trivial, ih (h + 1) _ _ _ (by omega) (by omega) (off_uI (off_tr ho (off_mono o2 (by decide))) (by decide)) (fun g hg => ?_) (il_inc e1)⟩
      rw [uI_if]
      by_cases z : g = h
      · rw [if_pos z, z]; unfold wgI; rw [hp]
      · rw [if_neg z, off_1 o2 (by decide)]; exact hw g (by omega)
set_option maxRecDepth 100000 in
theorem wg2_loop (v : VV A) (h0 : 0 < A.1.nh) {σ0 : ST} (hr7 : ∀ h, h < A.1.nh → σ0.1 7 0 6 h = nI (A.2.1.wt h)) (hw7 : ∀ h, σ.1 7 0 6 h = σ0.1 7 0 6 h) (hw : ∀ g, g < 5 → σ.1 10 0 3 g = wgI σ0 A g)
    (hQ : ∀ τ, off [(7, 0, 6)] σ τ → (∀ g, g < 5 → τ.1 7 0 6 g = wgI σ0 A g) → Q (some (.inl (nI (sm (wgU A) 5)))) τ) :
    ∀ (r h m : Nat) (τ : ST) (x1 x2 : Int32), h + r = 5 → 60 * r + 100 ≤ m → off [(7, 0, 6)] σ τ → (∀ g, g < h → τ.1 7 0 6 g = wgI σ0 A g) → (∀ g, h ≤ g → τ.1 7 0 6 g = σ0.1 7 0 6 g) → x1 = nI (sm (wgU A) h) → x2 = nI h →
      wp N m (e + 5, 0) TX10_weigh 37 [H10, iA x1, iA x2] [] τ Q := by
  have hnh := v.s.1
  intro r
  induction r with
  | zero =>
    intro h m τ x1 x2 hr hm ho hl hg e1 e2
    obtain ⟨n, rfl⟩ := il_ex (K := 10) (m := m) (by omega)
    obtain rfl : h = 5 := by omega
    refine b_ge e2 i5 (by omega) (by omega) (fun _ => ?_) (fun q => by omega)
    refine ⟨Or.inl rfl, ?_⟩
    rw [e1]; exact hQ τ ho hl
  | succ r ih =>
    intro h m τ x1 x2 hr hm ho hl hg e1 e2
    obtain ⟨n, rfl⟩ := il_ex (K := 40) (m := m) (by omega)
    refine b_ge e2 i5 (by omega) (by omega) (fun q => by omega) (fun _ => ?_)
    refine ⟨il_in e2 (by omega) (by omega), ?_⟩
    refine ⟨trivial, c_weightOf e2 (by omega) (by omega) ?_⟩
    have g10 : τ.1 10 0 (2 + 1) x2.toNatClampNeg = wgI σ0 A h := by
      rw [il_cl e2 (by omega), off_1 ho (by decide)]; exact hw h (by omega)
    have fin : ∀ (m' : Nat) (x : Int32), 60 * r + 120 ≤ m' → x = nI (wgU A h) → wp N m' (e + 5, 0) TX10_weigh 53 [H10, iA x1, iA x2] [.inl x, .inl x1] τ Q := by
      intro m' x hm' ex
      obtain ⟨n2, rfl⟩ := il_ex (K := 20) (m := m') (by omega)
      refine ⟨il_in e2 (by omega) (by omega), ?_⟩
      rw [g10]
      refine ⟨trivial, c_setWeight7 e2 (by omega) (by omega) ?_⟩
      refine ⟨trivial, ih (h + 1) _ _ _ _ (by omega) (by omega) (off_uI ho (by decide)) (fun g hg' => ?_) (fun g hg' => ?_) (by rw [e1, ex, nI_add]; rfl) (il_inc e2)⟩
      · rw [uI_if]
        by_cases z : g = h
        · rw [if_pos z, z]
        · rw [if_neg z]; exact hl g (by omega)
      · rw [uI_if, if_neg (by omega)]; exact hg g (by omega)
    rw [g10, hg h (Nat.le_refl _)]
    cases hp : plc A.2.2.1 h with
    | none =>
      have w0 : wgI σ0 A h = σ0.1 7 0 6 h := by unfold wgI; rw [hp]
      have u0 : wgU A h = 0 := by unfold wgU; rw [hp]
      refine ⟨fun q => absurd w0 q, fun _ => ?_⟩
      exact ⟨trivial, fin _ _ (by omega) (by rw [u0]; rfl)⟩
    | some p =>
      have hz := plc_some hp
      have hhn : h < A.1.nh := by have := v.e.2.1 p (by omega); omega
      have w0 : wgI σ0 A h = nI (wrF A.1 A.2.1 A.2.2.1 h) := by unfold wgI; rw [hp]
      have u0 : wgU A h = if wrF A.1 A.2.1 A.2.2.1 h = A.2.1.wt h then 0 else 1 := by unfold wgU; rw [hp]
      have b1 := wrF_b (R := A.2.1) v.e h (v.s.2.1 h hhn).1
      have b2 := (v.r h0).2.2.2.2.2 h hhn
      refine b_ne w0 (hr7 h hhn) (by omega) (by omega) (fun q => ?_) (fun q => ?_)
      · exact adv 1 (60 * r + 120) (by omega) (fun n2 hn2 => fin n2 _ hn2 (by rw [u0, if_neg q]; rfl))
      · exact ⟨trivial, fin _ _ (by omega) (by rw [u0, if_pos (by omega)]; rfl)⟩
set_option maxRecDepth 100000 in
theorem C_weigh (v : VV A) (h : CC σ A) (hm : 40000 ≤ m) (hQ : ∀ τ, frC σ τ → CC τ (st_weigh A).2 → Q (some (.inl (st_weigh A).1)) τ) :
    wp N m (e + 6, 0) TX10_weigh 0 [H10, none, none] [] σ Q := by
  have hnh := v.s.1
  obtain ⟨n, rfl⟩ := il_ex (K := 60) (m := m) (by omega)
  unfold st_weigh at hQ
  refine ⟨trivial, c_isTold h.s.1 (by omega) (by omega) (fun q0 => ?_) (fun q0 => ?_)⟩
  · rw [if_neg (by omega)] at hQ
    refine b_ne (a := 1) rfl z0 (by omega) (by omega) (fun _ => ?_) (fun q => by omega)
    refine ⟨trivial, C_beginAct (e := e + 1) v h q0 (by omega) (fun τ fr1 h1 kn => ?_)⟩
    refine adv 2 8000 (by omega) (fun n2 hn2 => ?_)
    refine wg1_loop (e := e + 1) (σ := τ) (A := A) (M := 500) v q0 h1.s (h1.r q0) h1.e (by omega) ?_ 5 0 n2 τ _ (by omega) (by omega) (off_rf _ _) (fun g hg => absurd hg (Nat.not_lt_zero _)) oi_0
    intro m2 τ2 x1 hm2 o2 w2
    refine adv 4 450 (by omega) (fun n3 hn3 => ?_)
    refine wg2_loop (e := e + 1) (σ := τ2) (σ0 := τ) (A := A) v q0 (h1.r q0).2.2.2.2.2 (fun g => off_1 o2 (by decide) g) w2 ?_ 5 0 n3 τ2 _ _ (by omega) (by omega) (off_rf _ _) (fun g hg => absurd hg (Nat.not_lt_zero _)) (fun g _ => off_1 o2 (by decide) g) oi_0 oi_0
    intro τ3 o3 w3
    have h2 : CC τ2 (actA A A.2.1 A.2.2.1) := CC_o2 (A := actA A A.2.1 A.2.2.1) o2 (by decide) (by decide) h1
    have kn2 : τ2.1 4 0 2 0 = 0 := by rw [off_1 o2 (by decide)]; exact kn
    obtain ⟨r1, r2, r3, r4, r5, r6⟩ := h2.r q0
    have hs : sm (wgU A) 5 = sm (wgU A) A.1.nh := sm_tail hnh (fun i hi _ => by unfold wgU; rw [plc_big v.e hi])
    rw [hs]
    refine hQ τ3 (frC_tr fr1 (frC_tr (frC_off o2 (by decide)) (frC_off o3 (by decide)))) (CC_set (A := actA A A.2.1 A.2.2.1) h2 kn2 o3 (by decide) (cFA_eq (o3 2 0 3 (by decide)).1 h2.f) ⟨by rw [off_1 o3 (by decide)]; exact r1, by rw [off_1 o3 (by decide)]; exact r2, by rw [off_1 o3 (by decide)]; exact r3, by rw [off_1 o3 (by decide)]; exact r4, by rw [off_1 o3 (by decide)]; exact r5, fun g hg => ?_⟩ (cNE_off o3 (by decide) h2.e))
    have hg : g < A.1.nh := hg
    rw [w3 g (by omega)]
    show _ = nI (wgW A g)
    unfold wgI wgW
    cases plc A.2.2.1 g with
    | none => exact (h1.r q0).2.2.2.2.2 g hg
    | some p => rfl
  · rw [if_pos q0] at hQ
    refine b_ne (a := 0) rfl z0 (by omega) (by omega) (fun q => absurd rfl q) (fun _ => ?_)
    refine ⟨trivial, c_refused (by omega) ⟨Or.inl rfl, ?_⟩⟩
    exact hQ _ frC_tp (CC_tp h _ _)
abbrev wmOff : List RF := [(11, 0, 28), (11, 0, 37), (11, 0, 38), (11, 0, 39), (11, 0, 40)]
set_option maxRecDepth 100000 in
theorem wgm_loop (v : VV A) (h0 : 0 < A.1.nh) (cS : mSP σ A.1) (cR : mRU (σ.1 11 0 27) A.1 A.2.1) (cE : mNE (σ.1 11 0 27) A.2.2.1) {M : Nat} (hM : 30 ≤ M)
    (K : ∀ (m : Nat) (τ : ST) (x1 x2 : Int32), M ≤ m → off wmOff σ τ → (∀ g, g < A.1.nh → τ.1 11 0 28 (5 + g) = nI (wgW A g)) → (∀ z, (z < 5 ∨ 10 ≤ z) → τ.1 11 0 28 z = σ.1 11 0 28 z) → x1 = nI (sm (wgU A) A.1.nh) → wp N m (e + 4, 0) TX11_weigh 68 [H11, iA x1, iA x2] [] τ Q) (h28 : ∀ g, g < A.1.nh → σ.1 11 0 28 (5 + g) = nI (A.2.1.wt g)) :
    ∀ (r h m : Nat) (τ : ST) (x1 x2 : Int32), h + r = A.1.nh → 60 * r + 7700 + M ≤ m → off wmOff σ τ → (∀ g, g < h → τ.1 11 0 28 (5 + g) = nI (wgW A g)) → (∀ g, h ≤ g → g < A.1.nh → τ.1 11 0 28 (5 + g) = nI (A.2.1.wt g)) → (∀ z, (z < 5 ∨ 10 ≤ z) → τ.1 11 0 28 z = σ.1 11 0 28 z) → x1 = nI (sm (wgU A) h) → x2 = nI h →
      wp N m (e + 4, 0) TX11_weigh 16 [H11, iA x1, iA x2] [] τ Q := by
  have hnh := v.s.1
  intro r
  induction r with
  | zero =>
    intro h m τ x1 x2 hr hm ho hw hg hz e1 e2
    obtain ⟨n, rfl⟩ := il_ex (K := 10) (m := m) (by omega)
    obtain rfl : h = A.1.nh := by omega
    refine b_ge e2 (mSP_off ho (by decide) cS).1 (by omega) (by omega) (fun _ => ?_) (fun q => by omega)
    exact K _ τ _ _ (by omega) ho hw hz e1
  | succ r ih =>
    intro h m τ x1 x2 hr hm ho hw hg hz e1 e2
    obtain ⟨n, rfl⟩ := il_ex (K := 60) (m := m) (by omega)
    have cS' := mSP_off ho (by decide) cS
    have cE' := mNE_off (jv := 27) ho (by decide) cE
    refine b_ge e2 cS'.1 (by omega) (by omega) (fun q => by omega) (fun _ => ?_)
    refine ⟨trivial, c_placeOfM (jv := 27) rfl v.s v.e cE' (show h < A.1.nh by omega) e2 (by omega) ?_⟩
    cases hp : plc A.2.2.1 h with
    | none =>
      have w0 : wgW A h = A.2.1.wt h := by unfold wgW; rw [hp]
      have u0 : wgU A h = 0 := by unfold wgU; rw [hp]
      refine ⟨fun q => absurd (show (-1 : Int32) = Int32.ofInt (-1) by rw [im1]) q, fun _ => ⟨trivial, ?_⟩⟩
      refine ⟨trivial, ih (h + 1) _ τ _ _ (by omega) (by omega) ho (fun g hg' => ?_) (fun g a b => hg g (by omega) b) hz (by rw [e1]; show _ = nI (sm (wgU A) h + wgU A h); rw [u0]; rfl) (il_inc e2)⟩
      by_cases z : g = h
      · rw [z, w0]; exact hg h (Nat.le_refl _) (by omega)
      · exact hw g (by omega)
    | some p =>
      have hpz := plc_some hp
      have w0 : wgW A h = wrF A.1 A.2.1 A.2.2.1 h := by unfold wgW; rw [hp]
      have u0 : wgU A h = if wrF A.1 A.2.1 A.2.2.1 h = A.2.1.wt h then 0 else 1 := by unfold wgU; rw [hp]
      have b1 := wrF_b (R := A.2.1) v.e h (v.s.2.1 h (by omega)).1
      have b2 := (v.r h0).2.2.2.2.2 h (by omega)
      have hc := v.s.2.1 h (by omega)
      have hrl := rgC_cn (R := A.2.1) v.e h
      refine ⟨fun _ => ?_, fun q => absurd (b_n1 (z := p) (by have := v.e.1; omega)) q⟩
      refine ⟨trivial, c_rightOf (jv := 27) (e := e) rfl (by decide) v.s (v.r h0) v.e cS' (mRU_off (jv := 27) ho (by decide) cR) cE' (show h < A.1.nh by omega) e2 (by omega) (fun τ2 o2 => ?_)⟩
      have o2' : off wmOff σ τ2 := off_tr ho (off_mono o2 (by decide))
      have ec : τ2.1 11 0 (20 + 1) x2.toNatClampNeg = nI (A.1.cn h) := by
        rw [il_cl e2 (by omega)]; exact (mSP_off o2' (by decide) cS).2.2.1 h (by omega)
      have g5 : Int32.ofInt 5 + x2 = nI (5 + h) := by rw [e2, i5, nI_add]
      refine ⟨il_in e2 (by omega) (by omega), ?_⟩
      refine ⟨by rw [ec]; exact nI_ne0 (by omega) (by omega), il_in g5 (by omega) (by omega), ?_⟩
      rw [ec, i98, pk_mul, show nI (98 * rgC A.1 A.2.1 A.2.2.1 h A.2.2.1.ns) / nI (A.1.cn h) = nI (98 * rgC A.1 A.2.1 A.2.2.1 h A.2.2.1.ns / A.1.cn h) from pk_div (by omega) (by omega) (by omega), oi_1, nI_add, il_cl g5 (by omega)]
      refine ⟨il_in g5 (by omega) (by omega), il_in g5 (by omega) (by omega), ?_⟩
      have o3 : off wmOff σ (uI τ2 11 0 28 (5 + h) (nI (wrF A.1 A.2.1 A.2.2.1 h))) := off_uI o2' (by decide)
      have a1 : (uI τ2 11 0 28 (5 + h) (nI (wrF A.1 A.2.1 A.2.2.1 h))).1 11 0 (27 + 1) (Int32.ofInt 5 + x2).toNatClampNeg = nI (wrF A.1 A.2.1 A.2.2.1 h) := by
        rw [il_cl g5 (by omega)]; exact uI_at _ _ _ _ _ _
      have a2 : (uI τ2 11 0 28 (5 + h) (nI (wrF A.1 A.2.1 A.2.2.1 h))).1 11 0 (26 + 1) (Int32.ofInt 5 + x2).toNatClampNeg = nI (A.2.1.wt h) := by
        rw [il_cl g5 (by omega)]; exact (mRU_off (jv := 27) o3 (by decide) cR).2.2.2.2.2 h (by omega)
      have fin : ∀ (m' : Nat) (x : Int32), 60 * r + 7710 + M ≤ m' → x = nI (wgU A h) → wp N m' (e + 4, 0) TX11_weigh 64 [H11, iA x1, iA x2] [.inl x, .inl x1] (uI τ2 11 0 28 (5 + h) (nI (wrF A.1 A.2.1 A.2.2.1 h))) Q := by
        intro m' x hm' ex
        obtain ⟨n2, rfl⟩ := il_ex (K := 5) (m := m') (by omega)
        refine ⟨trivial, ih (h + 1) _ _ _ _ (by omega) (by omega) o3 (fun g hg' => ?_) (fun g ga gb => ?_) (fun z zz => ?_) (by rw [e1, ex, nI_add]; rfl) (il_inc e2)⟩
        · rw [uI_if]
          by_cases z : g = h
          · rw [if_pos (by omega), z, w0]
          · rw [if_neg (by omega), off_1 o2 (by decide)]; exact hw g (by omega)
        · rw [uI_if, if_neg (by omega), off_1 o2 (by decide)]; exact hg g (by omega) gb
        · rw [uI_if, if_neg (by omega), off_1 o2 (by decide)]; exact hz z zz
      refine b_ne a1 a2 (by omega) (by omega) (fun q => ?_) (fun q => ?_)
      · exact adv 1 (60 * r + 7710 + M) (by omega) (fun n2 hn2 => fin n2 _ hn2 (by rw [u0, if_neg q]; rfl))
      · exact ⟨trivial, fin _ _ (by omega) (by rw [u0, if_pos (by omega)]; rfl)⟩
theorem MM_acted {τ : ST} (h : MM σ A) (o2 : off [(11, 0, 29), (11, 0, 30), (11, 0, 27)] σ τ) {R : RUc} {E : NEc} {c : Nat} {P : PAc} (r2 : mRU (τ.1 11 0 27) A.1 R) (n2 : mNE (τ.1 11 0 27) E) (a2 : mAC τ A.1 c P) : MM τ ⟨A.1, R, E, c, P, A.2.2.2.2.2.1, A.2.2.2.2.2.2.1, A.2.2.2.2.2.2.2.1, A.2.2.2.2.2.2.2.2.1, A.2.2.2.2.2.2.2.2.2.1, A.2.2.2.2.2.2.2.2.2.2⟩ := by
  have k : ∀ j, (j ≠ 29 ∧ j ≠ 30 ∧ j ≠ 27) → τ.1 11 0 j = σ.1 11 0 j ∧ τ.2 11 0 j = σ.2 11 0 j := fun j hj => o2 11 0 j (fun z => by simp at z; omega)
  refine ⟨?_, fun _ => r2, fun _ => n2, a2, ?_, ?_, ?_⟩
  · have := h.s
    unfold mSP at *
    rw [(k 25 (by omega)).1, (k 26 (by omega)).1, (k 21 (by omega)).1, (k 22 (by omega)).1, (k 23 (by omega)).1, (k 17 (by omega)).2]
    exact this
  · rw [(k 5 (by omega)).1, (k 4 (by omega)).1]; exact h.t
  · have := h.w
    unfold mWR at *
    rw [(k 48 (by omega)).1, (k 47 (by omega)).1]
    exact this
  · rw [(k 2 (by omega)).1, (k 8 (by omega)).1, (k 3 (by omega)).1]; exact h.m
set_option maxRecDepth 100000 in
theorem M_weigh (v : VV A) (h : MM σ A) (hm : 90000 ≤ m) (hQ : ∀ τ, frM σ τ → MM τ (st_weigh A).2 → Q (some (.inl (st_weigh A).1)) τ) :
    wp N m (e + 6, 0) TX11_weigh 0 [H11, none, none] [] σ Q := by
  have hnh := v.s.1
  obtain ⟨n, rfl⟩ := il_ex (K := 60) (m := m) (by omega)
  unfold st_weigh at hQ
  have h' := MM_th h (Int32.ofInt 0)
  have fr0 : frM σ (uI σ 11 0 1 0 (Int32.ofInt 0)) := frM_uI
  refine b_ne h'.s.1 z0 (by omega) (by omega) (fun q0 => ?_) (fun q0 => ?_)
  · rw [if_neg q0] at hQ
    have q1 : 0 < A.1.nh := by omega
    refine ⟨trivial, c_copies (by omega) (fun τ o1 c1 => ?_)⟩
    have h1 := MM_of o1 (by decide) h'
    refine adv 4 89900 (by omega) (fun n2 hn2 => ?_)
    have cr := mRU_e2 v.s c1 (h'.r q1)
    have ce := mNE_eq v.s v.e c1 (h'.e q1)
    refine wgm_loop (e := e + 2) (σ := τ) (A := A) (M := 80500) v q1 h1.s (h1.r q1) (h1.e q1) (by omega) ?_ cr.2.2.2.2.2 A.1.nh 0 n2 τ _ _ (by omega) (by omega) (off_rf _ _) (fun g hg => absurd hg (Nat.not_lt_zero _)) (fun g _ hg => cr.2.2.2.2.2 g hg) (fun _ _ => rfl) oi_0 oi_0
    intro m2 τ2 x1 x2 hm2 o2 w2 z2 e1
    have h2 := MM_of o2 (by decide) h1
    obtain ⟨n3, rfl⟩ := il_ex (K := 20) (m := m2) (by omega)
    have cr2 : mRU (τ2.1 11 0 28) A.1 (A.2.1.fr, A.2.1.gp, A.2.1.nr, A.2.1.wn, A.2.1.sh, wgW A) := ⟨by rw [z2 0 (by omega)]; exact cr.1, by rw [z2 1 (by omega)]; exact cr.2.1, by rw [z2 2 (by omega)]; exact cr.2.2.1, by rw [z2 3 (by omega)]; exact cr.2.2.2.1, by rw [z2 4 (by omega)]; exact cr.2.2.2.2.1, w2⟩
    have ce2 : mNE (τ2.1 11 0 28) A.2.2.1 := ⟨by rw [z2 10 (by omega)]; exact ce.1, by rw [z2 21 (by omega)]; exact ce.2.1, fun p hp => by rw [z2 (11 + p) (by omega), z2 (16 + p) (by omega)]; exact ce.2.2.1 p hp, fun s hs g hg => by rw [z2 (22 + 5 * s + g) (by omega)]; exact ce.2.2.2 s hs g hg⟩
    refine ⟨trivial, c_acted (e := e + 4) v.s v.e (h2.r q1) (h2.e q1) v.e cr2 ce2 v.p h2.p (by omega) (fun τ3 o3 r3 n3 a3 => ?_)⟩
    refine ⟨trivial, c_good (by omega) ⟨Or.inl rfl, ?_⟩⟩
    rw [e1]
    exact hQ _ (frM_tr fr0 (frM_tr (frM_off o1 (by decide)) (frM_tr (frM_off o2 (by decide)) (frM_tr (frM_off o3 (by decide)) frM_tp)))) (MM_tp (MM_acted h2 o3 r3 n3 a3) 0 (-1))
  · rw [if_pos q0] at hQ
    refine ⟨trivial, c_refusedM (by omega) ⟨Or.inl rfl, ?_⟩⟩
    exact hQ _ (frM_tr fr0 frM_tp) (MM_tp h' _ _)
end WG
