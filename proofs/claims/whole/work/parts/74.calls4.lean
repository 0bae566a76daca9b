/-! calls: between, at, cost, errors -/
noncomputable def hwF (S : SPc) (R : RUc) (E : NEc) (i : Nat) : Int32 := @dite _ (∃ s, s < E.ns ∧ wnF S R E s ≠ 60 ∧ hdC S R E s = i) (Classical.propDecidable _) (fun h => nI (wnF S R E (Classical.choose h))) (fun _ => 0)
theorem hwF_ok (S : SPc) (R : RUc) (E : NEc) : hdR S R E E.ns (hwF S R E) := by
  intro s hs w
  unfold hwF
  have hex : ∃ s', s' < E.ns ∧ wnF S R E s' ≠ 60 ∧ hdC S R E s' = hdC S R E s := ⟨s, hs, w, rfl⟩
  rw [dif_pos hex]
  have := Classical.choose_spec hex
  rw [hdC_inj this.2.1 w this.2.2]
section CA4
variable {N e m : Nat} {σ : ST} {Q : POST} {A : AS}
def st_between (A : AS) (x y : Int32) : Int32 × AS := match inR x A.1.nh with
  | none => reA A 1
  | some h => match inR y A.1.nh with
    | none => reA A 1
    | some g => goA A (nI (lev (fun z => nI (A.1.wd h z)) (fun z => nI (A.1.wd g z)) (A.1.cn h) (A.1.cn g)))
theorem V_between (v : VV A) (x y : Int32) : VV (st_between A x y).2 := by
  unfold st_between
  cases inR x A.1.nh with
  | none => exact V_re v _
  | some w =>
    simp only
    cases inR y A.1.nh with
    | none => exact V_re v _
    | some u => exact V_go v _
set_option maxRecDepth 100000 in
theorem C_between (v : VV A) (h : CC σ A) {x y : Int32} (hm : 2000000 ≤ m) (hQ : ∀ τ, frC σ τ → CC τ (st_between A x y).2 → Q (some (.inl (st_between A x y).1)) τ) :
    wp N m (e + 6, 0) TX10_between 0 [H10, iA x, iA y] [] σ Q := by
  have hnh := v.s.1
  obtain ⟨n, rfl⟩ := il_ex (K := 60) (m := m) (by omega)
  unfold st_between at hQ
  have ref : ∀ m', 30 ≤ m' → (∀ τ, frC σ τ → CC τ (reA A 1).2 → Q (some (.inl (reA A 1).1)) τ) → wp N m' (e + 6, 0) TX10_between 8 [H10, iA x, iA y] [] σ Q := by
    intro m' hm' hq
    obtain ⟨n2, rfl⟩ := il_ex (K := 5) (m := m') (by omega)
    refine ⟨trivial, c_refused (by omega) ⟨Or.inl rfl, ?_⟩⟩
    exact hq _ frC_tp (CC_tp h _ _)
  refine ⟨trivial, c_isHearing h.s.1 (by omega) (by omega) (fun w hw ew qw => ?_) (fun q0 => ?_)⟩
  · rw [qw] at hQ
    simp only at hQ
    refine b_eq (a := 1) rfl z0 (by omega) (by omega) (fun q => by omega) (fun _ => ?_)
    refine ⟨trivial, c_isHearing h.s.1 (by omega) (by omega) (fun u hu eu qu => ?_) (fun q0 => ?_)⟩
    · rw [qu] at hQ
      have cw := v.s.2.1 w hw
      have cu := v.s.2.1 u hu
      refine b_ne (a := 1) rfl z0 (by omega) (by omega) (fun _ => ?_) (fun q => by omega)
      refine ⟨trivial, c_countOf ew (by omega) (by omega) ?_⟩
      refine ⟨trivial, c_countOf eu (by omega) (by omega) ?_⟩
      refine ⟨trivial, c_changes (e := e + 4) (L1 := 60) (L2 := 60) rfl rfl (by decide) (by decide) (lf := w * 12) (rg := u * 12) (ln := A.1.cn w) (rn := A.1.cn u) (by omega) (by omega) (by omega) (by omega) (by omega) (by omega) (by rw [ew, i12, pk_mul]) (h.s.2.2.1 w hw) (by rw [eu, i12, pk_mul]) (h.s.2.2.1 u hu) (by omega) (fun τ o1 => ?_)⟩
      refine ⟨trivial, c_answered (by omega) ⟨Or.inl rfl, ?_⟩⟩
      rw [lev_congr _ _ (fun z hz => (h.s.2.2.2.1 w hw z hz).1) (fun z hz => (h.s.2.2.2.1 u hu z hz).1)]
      exact hQ _ (frC_tr (frC_off o1 (by decide)) frC_tp) (CC_tp (CC_o2 o1 (by decide) (by decide) h) _ _)
    · rw [q0] at hQ
      exact b_ne (a := 0) rfl z0 (by omega) (by omega) (fun q => absurd rfl q) (fun _ => ref _ (by omega) hQ)
  · rw [q0] at hQ
    exact b_eq (a := 0) rfl z0 (by omega) (by omega) (fun _ => ref _ (by omega) hQ) (fun q => absurd rfl q)
set_option maxRecDepth 100000 in
theorem M_between (v : VV A) (h : MM σ A) {x y : Int32} (hm : 2000000 ≤ m) (hQ : ∀ τ, frM σ τ → MM τ (st_between A x y).2 → Q (some (.inl (st_between A x y).1)) τ) :
    wp N m (e + 6, 0) TX11_between 0 [H11, iA x, iA y, none, none] [] σ Q := by
  have hnh := v.s.1
  obtain ⟨n, rfl⟩ := il_ex (K := 60) (m := m) (by omega)
  unfold st_between at hQ
  have h' := MM_th h (Int32.ofInt 0)
  have fr0 : frM σ (uI σ 11 0 1 0 (Int32.ofInt 0)) := frM_uI
  have ref : ∀ m', 30 ≤ m' → (∀ τ, frM σ τ → MM τ (reA A 1).2 → Q (some (.inl (reA A 1).1)) τ) → wp N m' (e + 6, 0) TX11_between 11 [H11, iA x, iA y, none, none] [] (uI σ 11 0 1 0 (Int32.ofInt 0)) Q := by
    intro m' hm' hq
    obtain ⟨n2, rfl⟩ := il_ex (K := 5) (m := m') (by omega)
    refine ⟨trivial, c_refusedM (by omega) ⟨Or.inl rfl, ?_⟩⟩
    exact hq _ (frM_tr fr0 frM_tp) (MM_tp h' _ _)
  refine ⟨trivial, c_isHearingM h'.s.1 (by omega) (by omega) (fun w hw ew qw => ?_) (fun q0 => ?_)⟩
  · rw [qw] at hQ
    simp only at hQ
    refine b_eq (a := 1) rfl z0 (by omega) (by omega) (fun q => by omega) (fun _ => ?_)
    refine ⟨trivial, c_isHearingM h'.s.1 (by omega) (by omega) (fun u hu eu qu => ?_) (fun q0 => ?_)⟩
    · rw [qu] at hQ
      have cw := v.s.2.1 w hw
      have cu := v.s.2.1 u hu
      refine b_ne (a := 1) rfl z0 (by omega) (by omega) (fun _ => ?_) (fun q => by omega)
      refine ⟨trivial, c_laysHearing (ji := 32) rfl (by decide) v.s h'.s hw ew (by omega) (fun τ1 o1 r1 => ?_)⟩
      have h1 := MM_of o1 (by decide) h'
      refine ⟨trivial, c_laysHearing (ji := 33) rfl (by decide) v.s h1.s hu eu (by omega) (fun τ2 o2 r2 => ?_)⟩
      refine ⟨trivial, c_apart (by omega) (by omega) rfl rfl (by omega) (fun τ3 o3 => ?_)⟩
      refine ⟨trivial, c_good (by omega) ⟨Or.inl rfl, ?_⟩⟩
      rw [lev_congr (a' := fun z => nI (A.1.wd w z)) (b' := fun z => nI (A.1.wd u z)) _ _ (fun z hz => by rw [off_1 o2 (by decide)]; exact r1 z hz) (fun z hz => r2 z hz)]
      exact hQ _ (frM_tr fr0 (frM_tr (frM_off o1 (by decide)) (frM_tr (frM_off o2 (by decide)) (frM_tr (frM_off o3 (by decide)) frM_tp)))) (MM_tp (MM_of o3 (by decide) (MM_of o2 (by decide) h1)) _ _)
    · rw [q0] at hQ
      exact b_ne (a := 0) rfl z0 (by omega) (by omega) (fun q => absurd rfl q) (fun _ => ref _ (by omega) hQ)
  · rw [q0] at hQ
    exact b_eq (a := 0) rfl z0 (by omega) (by omega) (fun _ => ref _ (by omega) hQ) (fun q => absurd rfl q)
/-- isSlot of the reference -/
theorem c_isSlotA (v : VV A) (h : MM σ A) {x1 : Int32} (hm : 60 ≤ m) (h1 : ∀ j, j < A.2.2.1.ns → 0 < A.1.nh → x1 = nI j → inR x1 A.2.2.1.ns = some j → Q (some (.inl (nI 1))) σ) (h0 : inR x1 A.2.2.1.ns = none → Q (some (.inl (nI 0))) σ) : wp N m (e + 1, 0) TX11_isSlot 0 [H11, iA x1] [] σ Q := by
  have hnh := v.s.1
  have hns := vNE_ns v.s v.e
  by_cases q : A.1.nh = 0
  · refine c_isSlotN (by rw [h.s.1, q]) hm (h0 ?_)
    rw [(v.z q).1]
    exact inR_0 _
  · exact c_isSlotM h.s.1 (by omega) (by omega) (h.e (by omega)).2.1 (by omega) hm (fun j a b c => h1 j a (by omega) b c) h0
theorem nh_of_slot (v : VV A) {s : Nat} (hs : s < A.2.2.1.ns) : 0 < A.1.nh := by
  apply Nat.pos_of_ne_zero
  intro q
  rw [(v.z q).1] at hs
  exact absurd hs (Nat.not_lt_zero _)
def st_at (A : AS) (x y : Int32) : Int32 × AS := match inR x A.2.2.1.ns with
  | none => reA A 1
  | some s => match inR y A.1.nh with
    | none => reA A 1
    | some h => goA A (oI (-2) (A.2.2.1.th s h))
theorem V_at (v : VV A) (x y : Int32) : VV (st_at A x y).2 := by
  unfold st_at
  cases inR x A.2.2.1.ns with
  | none => exact V_re v _
  | some w =>
    simp only
    cases inR y A.1.nh with
    | none => exact V_re v _
    | some u => exact V_go v _
set_option maxRecDepth 100000 in
theorem C_at (v : VV A) (h : CC σ A) {x y : Int32} (hm : 1000 ≤ m) (hQ : ∀ τ, frC σ τ → CC τ (st_at A x y).2 → Q (some (.inl (st_at A x y).1)) τ) :
    wp N m (e + 6, 0) TX10_at 0 [H10, iA x, iA y] [] σ Q := by
  have hnh := v.s.1
  have hns := vNE_ns v.s v.e
  obtain ⟨n, rfl⟩ := il_ex (K := 60) (m := m) (by omega)
  unfold st_at at hQ
  have ref : ∀ m', 30 ≤ m' → (∀ τ, frC σ τ → CC τ (reA A 1).2 → Q (some (.inl (reA A 1).1)) τ) → wp N m' (e + 6, 0) TX10_at 8 [H10, iA x, iA y] [] σ Q := by
    intro m' hm' hq
    obtain ⟨n2, rfl⟩ := il_ex (K := 5) (m := m') (by omega)
    refine ⟨trivial, c_refused (by omega) ⟨Or.inl rfl, ?_⟩⟩
    exact hq _ frC_tp (CC_tp h _ _)
  refine ⟨trivial, c_isSlot h.e.1 (by omega) (by omega) (fun s hs es qs => ?_) (fun q0 => ?_)⟩
  · rw [qs] at hQ
    simp only at hQ
    refine b_eq (a := 1) rfl z0 (by omega) (by omega) (fun q => by omega) (fun _ => ?_)
    refine ⟨trivial, c_isHearing h.s.1 (by omega) (by omega) (fun u hu eu qu => ?_) (fun q0 => ?_)⟩
    · rw [qu] at hQ
      refine b_ne (a := 1) rfl z0 (by omega) (by omega) (fun _ => ?_) (fun q => by omega)
      refine ⟨trivial, c_thereOf es eu (by omega) (by omega) (by omega) ?_⟩
      refine ⟨trivial, c_answered (by omega) ⟨Or.inl rfl, ?_⟩⟩
      rw [h.e.2.2.2.2.2 s hs u (by omega)]
      exact hQ _ frC_tp (CC_tp h _ _)
    · rw [q0] at hQ
      exact b_ne (a := 0) rfl z0 (by omega) (by omega) (fun q => absurd rfl q) (fun _ => ref _ (by omega) hQ)
  · rw [q0] at hQ
    exact b_eq (a := 0) rfl z0 (by omega) (by omega) (fun _ => ref _ (by omega) hQ) (fun q => absurd rfl q)
set_option maxRecDepth 100000 in
theorem M_at (v : VV A) (h : MM σ A) {x y : Int32} (hm : 1000 ≤ m) (hQ : ∀ τ, frM σ τ → MM τ (st_at A x y).2 → Q (some (.inl (st_at A x y).1)) τ) :
    wp N m (e + 6, 0) TX11_at 0 [H11, iA x, iA y] [] σ Q := by
  have hnh := v.s.1
  have hns := vNE_ns v.s v.e
  obtain ⟨n, rfl⟩ := il_ex (K := 60) (m := m) (by omega)
  unfold st_at at hQ
  have h' := MM_th h (Int32.ofInt 0)
  have fr0 : frM σ (uI σ 11 0 1 0 (Int32.ofInt 0)) := frM_uI
  have ref : ∀ m', 30 ≤ m' → (∀ τ, frM σ τ → MM τ (reA A 1).2 → Q (some (.inl (reA A 1).1)) τ) → wp N m' (e + 6, 0) TX11_at 11 [H11, iA x, iA y] [] (uI σ 11 0 1 0 (Int32.ofInt 0)) Q := by
    intro m' hm' hq
    obtain ⟨n2, rfl⟩ := il_ex (K := 5) (m := m') (by omega)
    refine ⟨trivial, c_refusedM (by omega) ⟨Or.inl rfl, ?_⟩⟩
    exact hq _ (frM_tr fr0 frM_tp) (MM_tp h' _ _)
  refine ⟨trivial, c_isSlotA (e := e + 4) v h' (by omega) (fun s hs q1 es qs => ?_) (fun q0 => ?_)⟩
  · rw [qs] at hQ
    simp only at hQ
    refine b_eq (a := 1) rfl z0 (by omega) (by omega) (fun q => by omega) (fun _ => ?_)
    refine ⟨trivial, c_isHearingM h'.s.1 (by omega) (by omega) (fun u hu eu qu => ?_) (fun q0 => ?_)⟩
    · rw [qu] at hQ
      simp only at hQ
      have cE := h'.e q1
      have hlt : ∀ i, A.2.2.1.th s u = some i → i < 2147483648 := fun i e' => by
        have h1 := v.e.2.2.2.2.1 s u i hs e'
        have h2 := (v.s.2.1 u h1.1).2
        omega
      refine b_ne (a := 1) rfl z0 (by omega) (by omega) (fun _ => ?_) (fun q => by omega)
      refine ⟨trivial, c_there (jv := 27) rfl es eu (by omega) (by omega) (by omega) ?_⟩
      rw [cE.2.2.2 s hs u (by omega)]
      refine b_there ne1 rfl hlt (fun q1 => ?_) (fun i q1 q2 => ?_)
      · refine ⟨trivial, c_good (by omega) ⟨Or.inl rfl, ?_⟩⟩
        rw [q1] at hQ
        rw [im2]
        exact hQ _ (frM_tr fr0 frM_tp) (MM_tp h' _ _)
      · refine ⟨trivial, c_there (jv := 27) rfl es eu (by omega) (by omega) (by omega) ?_⟩
        refine ⟨trivial, trivial, c_good (by omega) ⟨Or.inl rfl, ?_⟩⟩
        rw [cE.2.2.2 s hs u (by omega), q1]
        rw [q1] at hQ
        exact hQ _ (frM_tr fr0 frM_tp) (MM_tp h' _ _)
    · rw [q0] at hQ
      exact b_ne (a := 0) rfl z0 (by omega) (by omega) (fun q => absurd rfl q) (fun _ => ref _ (by omega) hQ)
  · rw [q0] at hQ
    exact b_eq (a := 0) rfl z0 (by omega) (by omega) (fun _ => ref _ (by omega) hQ) (fun q => absurd rfl q)
def st_cost (A : AS) (x : Int32) : Int32 × AS := match inR x A.1.nh with
  | none => reA A 1
  | some h => match plc A.2.2.1 h with
    | some _ => reA A 5
    | none => goA A (nI (ctS A.1 A.2.1 A.2.2.1 h))
theorem V_cost (v : VV A) (x : Int32) : VV (st_cost A x).2 := by
  unfold st_cost
  cases inR x A.1.nh with
  | none => exact V_re v _
  | some w =>
    simp only
    cases plc A.2.2.1 w with
    | none => exact V_go v _
    | some u => exact V_re v _
set_option maxRecDepth 100000 in
theorem C_cost (v : VV A) (h : CC σ A) {x : Int32} (hm : 2500000 ≤ m) (hQ : ∀ τ, frC σ τ → CC τ (st_cost A x).2 → Q (some (.inl (st_cost A x).1)) τ) :
    wp N m (e + 6, 0) TX10_cost 0 [H10, iA x] [] σ Q := by
  have hnh := v.s.1
  have hnj := v.e.1
  obtain ⟨n, rfl⟩ := il_ex (K := 60) (m := m) (by omega)
  unfold st_cost at hQ
  refine ⟨trivial, c_isHearing h.s.1 (by omega) (by omega) (fun j hj ej qj => ?_) (fun q0 => ?_)⟩
  · rw [qj] at hQ
    simp only at hQ
    have q1 : 0 < A.1.nh := by omega
    refine b_ne (a := 1) rfl z0 (by omega) (by omega) (fun _ => ?_) (fun q => by omega)
    refine ⟨trivial, c_holds (e := e + 4) ej (by omega) (by omega) ?_⟩
    rw [h.e.2.2.2.1 j (by omega)]
    cases hp : plc A.2.2.1 j with
    | none =>
      rw [hp] at hQ
      rw [if_pos (show oI (-2) none < 0 from ne2)]
      refine b_eq (a := 0) rfl z0 (by omega) (by omega) (fun _ => ?_) (fun q => absurd rfl q)
      refine ⟨trivial, c_plan (k := 0) (e := e + 1) v.s (v.r q1) v.e h.s (h.r q1) h.e h.f hj ej (by omega) (fun τ o1 f1 _ _ => ?_)⟩
      refine ⟨trivial, c_answered (by omega) ⟨Or.inl rfl, ?_⟩⟩
      exact hQ _ (frC_tr (frC_off o1 (by decide)) frC_tp) (CC_tp (CC_of o1 (by decide) f1 h) _ _)
    | some p =>
      rw [hp] at hQ
      have hz := plc_some hp
      rw [if_neg (show ¬ oI (-2) (some p) < 0 from nI_pos (by omega))]
      refine b_eq (a := 1) rfl z0 (by omega) (by omega) (fun q => by omega) (fun _ => ?_)
      refine ⟨trivial, c_refused (by omega) ⟨Or.inl rfl, ?_⟩⟩
      exact hQ _ frC_tp (CC_tp h _ _)
  · rw [q0] at hQ
    refine b_ne (a := 0) rfl z0 (by omega) (by omega) (fun q => absurd rfl q) (fun _ => ?_)
    refine ⟨trivial, c_refused (by omega) ⟨Or.inl rfl, ?_⟩⟩
    exact hQ _ frC_tp (CC_tp h _ _)
theorem c_refusesPaper0 (hS : σ.1 11 0 25 0 = nI 0) {x1 : Int32} (hm : 400 ≤ m) (hQ : Q (some (.inl (nI 1))) σ) : wp N m (e + 2, 0) TX11_refusesPaper 0 [H11, iA x1] [] σ Q := by
  obtain ⟨n, rfl⟩ := il_ex (K := 30) (m := m) (by omega)
  refine ⟨trivial, c_isHearingM hS (by omega) (by omega) (fun j hj => by omega) (fun q => ?_)⟩
  refine b_ne (a := 0) rfl z0 (by omega) (by omega) (fun q => absurd rfl q) (fun _ => ?_)
  exact ⟨trivial, Or.inl rfl, hQ⟩
/-- refusesPaper at any time -/
theorem c_refusesP (v : VV A) (h : MM σ A) {x1 : Int32} (hm : 400 ≤ m) (h1 : inR x1 A.1.nh = none → Q (some (.inl (nI 1))) σ) (h5 : ∀ j p, j < A.1.nh → x1 = nI j → inR x1 A.1.nh = some j → plc A.2.2.1 j = some p → Q (some (.inl (nI 5))) σ) (h0 : ∀ j, j < A.1.nh → x1 = nI j → inR x1 A.1.nh = some j → plc A.2.2.1 j = none → Q (some (.inl (nI 0))) σ) :
    wp N m (e + 2, 0) TX11_refusesPaper 0 [H11, iA x1] [] σ Q := by
  by_cases q : A.1.nh = 0
  · refine c_refusesPaper0 (by rw [h.s.1, q]) hm (h1 ?_)
    rw [q]; exact inR_0 _
  · exact c_refusesPaper v.s v.e h.s (h.e (by omega)) hm h1 h5 h0
set_option maxRecDepth 100000 in
theorem M_cost (v : VV A) (h : MM σ A) {x : Int32} (hm : 2700000 ≤ m) (hQ : ∀ τ, frM σ τ → MM τ (st_cost A x).2 → Q (some (.inl (st_cost A x).1)) τ) :
    wp N m (e + 6, 0) TX11_cost 0 [H11, iA x, none] [] σ Q := by
  have hnh := v.s.1
  have hnj := v.e.1
  obtain ⟨n, rfl⟩ := il_ex (K := 60) (m := m) (by omega)
  unfold st_cost at hQ
  have h' := MM_th h (Int32.ofInt 0)
  have fr0 : frM σ (uI σ 11 0 1 0 (Int32.ofInt 0)) := frM_uI
  refine ⟨trivial, c_refusesP (e := e + 3) v h' (by omega) (fun q0 => ?_) (fun j p hj ej qj hp => ?_) (fun j hj ej qj hp => ?_)⟩
  · rw [q0] at hQ
    refine b_le (a := 1) rfl z0 (by omega) (by omega) (fun q => by omega) (fun _ => ?_)
    refine ⟨trivial, c_refusedM (by omega) ⟨trivial, Or.inl rfl, ?_⟩⟩
    rw [← oi_1]
    exact hQ _ (frM_tr fr0 frM_tp) (MM_tp h' _ _)
  · rw [qj] at hQ
    simp only at hQ
    rw [hp] at hQ
    refine b_le (a := 5) rfl z0 (by omega) (by omega) (fun q => by omega) (fun _ => ?_)
    refine ⟨trivial, c_refusedM (by omega) ⟨trivial, Or.inl rfl, ?_⟩⟩
    rw [← i5]
    exact hQ _ (frM_tr fr0 frM_tp) (MM_tp h' _ _)
  · rw [qj] at hQ
    simp only at hQ
    rw [hp] at hQ
    have q1 : 0 < A.1.nh := by omega
    refine b_le (a := 0) rfl z0 (by omega) (by omega) (fun _ => ?_) (fun q => by omega)
    refine ⟨trivial, c_ways (jv := 27) (e := e + 1) rfl (by decide) v.s (v.r q1) v.e h'.s (h'.r q1) (h'.e q1) hj ej (by omega) (fun τ o1 _ => ?_)⟩
    refine ⟨trivial, c_good (by omega) ⟨Or.inl rfl, ?_⟩⟩
    exact hQ _ (frM_tr fr0 (frM_tr (frM_off o1 (by decide)) frM_tp)) (MM_tp (MM_of o1 (by decide) h') _ _)
noncomputable def st_errors (A : AS) (x : Int32) : Int32 × AS := match inR x A.1.nh with
  | none => reA A 1
  | some h => goA A (nI (lev (hwF A.1 A.2.1 A.2.2.1) (fun z => nI (A.1.wd h z)) (hdC A.1 A.2.1 A.2.2.1 A.2.2.1.ns) (A.1.cn h)))
theorem V_errors (v : VV A) (x : Int32) : VV (st_errors A x).2 := by
  unfold st_errors
  cases inR x A.1.nh with
  | none => exact V_re v _
  | some w => exact V_go v _
set_option maxRecDepth 100000 in
theorem C_errors (v : VV A) (h : CC σ A) {x : Int32} (hm : 2000000 ≤ m) (hQ : ∀ τ, frC σ τ → CC τ (st_errors A x).2 → Q (some (.inl (st_errors A x).1)) τ) :
    wp N m (e + 6, 0) TX10_errors 0 [H10, iA x] [] σ Q := by
  have hnh := v.s.1
  have hns := vNE_ns v.s v.e
  obtain ⟨n, rfl⟩ := il_ex (K := 60) (m := m) (by omega)
  unfold st_errors at hQ
  refine ⟨trivial, c_isHearing h.s.1 (by omega) (by omega) (fun j hj ej qj => ?_) (fun q0 => ?_)⟩
  · rw [qj] at hQ
    simp only at hQ
    have q1 : 0 < A.1.nh := by omega
    have cj := v.s.2.1 j hj
    have hd := hdC_le A.1 A.2.1 A.2.2.1 A.2.2.1.ns
    refine b_ne (a := 1) rfl z0 (by omega) (by omega) (fun _ => ?_) (fun q => by omega)
    refine ⟨trivial, c_listHeard (e := e + 2) v.s (v.r q1) v.e h.s (h.r q1) h.e (by omega) (fun τ o1 c1 => ?_)⟩
    have h1 := CC_o2 o1 (by decide) (by decide) h
    refine ⟨trivial, c_countOf ej (by omega) (by omega) ?_⟩
    refine ⟨trivial, c_changes (e := e + 4) (L1 := 60) (L2 := 60) rfl rfl (by decide) (by decide) (lf := 0) (rg := j * 12) (ln := hdC A.1 A.2.1 A.2.2.1 A.2.2.1.ns) (rn := A.1.cn j) (by omega) (by omega) (by omega) (by omega) (by omega) (by omega) oi_0 c1.1 (by rw [ej, i12, pk_mul]) (h1.s.2.2.1 j hj) (by omega) (fun τ2 o2 => ?_)⟩
    refine ⟨trivial, c_answered (by omega) ⟨Or.inl rfl, ?_⟩⟩
    rw [lev_congr (a' := hwF A.1 A.2.1 A.2.2.1) (b' := fun z => nI (A.1.wd j z)) _ _ (fun z hz => by rw [Nat.zero_add]; exact hdR_eq c1.2.1 (hwF_ok _ _ _) hz) (fun z hz => (h1.s.2.2.2.1 j hj z hz).1)]
    exact hQ _ (frC_tr (frC_off o1 (by decide)) (frC_tr (frC_off o2 (by decide)) frC_tp)) (CC_tp (CC_o2 o2 (by decide) (by decide) h1) _ _)
  · rw [q0] at hQ
    refine b_ne (a := 0) rfl z0 (by omega) (by omega) (fun q => absurd rfl q) (fun _ => ?_)
    refine ⟨trivial, c_refused (by omega) ⟨Or.inl rfl, ?_⟩⟩
    exact hQ _ frC_tp (CC_tp h _ _)
set_option maxRecDepth 100000 in
theorem M_errors (v : VV A) (h : MM σ A) {x : Int32} (hm : 2000000 ≤ m) (hQ : ∀ τ, frM σ τ → MM τ (st_errors A x).2 → Q (some (.inl (st_errors A x).1)) τ) :
    wp N m (e + 6, 0) TX11_errors 0 [H11, iA x, none, none] [] σ Q := by
  have hnh := v.s.1
  have hns := vNE_ns v.s v.e
  obtain ⟨n, rfl⟩ := il_ex (K := 60) (m := m) (by omega)
  unfold st_errors at hQ
  have h' := MM_th h (Int32.ofInt 0)
  have fr0 : frM σ (uI σ 11 0 1 0 (Int32.ofInt 0)) := frM_uI
  refine ⟨trivial, c_isHearingM h'.s.1 (by omega) (by omega) (fun j hj ej qj => ?_) (fun q0 => ?_)⟩
  · rw [qj] at hQ
    simp only at hQ
    have q1 : 0 < A.1.nh := by omega
    have cj := v.s.2.1 j hj
    have hd := hdC_le A.1 A.2.1 A.2.2.1 A.2.2.1.ns
    refine b_ne (a := 1) rfl z0 (by omega) (by omega) (fun _ => ?_) (fun q => by omega)
    refine ⟨trivial, c_heardBy (e := e + 2) (jv := 27) (ji := 32) rfl rfl (by decide) (by decide) (by decide) (by decide) v.s (v.r q1) v.e h'.s (h'.r q1) (h'.e q1) (by omega) (fun τ1 o1 r1 => ?_)⟩
    have h1 := MM_of o1 (by decide) h'
    refine ⟨trivial, c_laysHearing (ji := 33) rfl (by decide) v.s h1.s hj ej (by omega) (fun τ2 o2 r2 => ?_)⟩
    refine ⟨trivial, c_apart (by omega) (by omega) rfl rfl (by omega) (fun τ3 o3 => ?_)⟩
    refine ⟨trivial, c_good (by omega) ⟨Or.inl rfl, ?_⟩⟩
    rw [lev_congr (a' := hwF A.1 A.2.1 A.2.2.1) (b' := fun z => nI (A.1.wd j z)) _ _ (fun z hz => by rw [off_1 o2 (by decide)]; exact hdR_eq r1 (hwF_ok _ _ _) hz) (fun z hz => r2 z hz)]
    exact hQ _ (frM_tr fr0 (frM_tr (frM_off o1 (by decide)) (frM_tr (frM_off o2 (by decide)) (frM_tr (frM_off o3 (by decide)) frM_tp)))) (MM_tp (MM_of o3 (by decide) (MM_of o2 (by decide) h1)) _ _)
  · rw [q0] at hQ
    refine b_ne (a := 0) rfl z0 (by omega) (by omega) (fun q => absurd rfl q) (fun _ => ?_)
    refine ⟨trivial, c_refusedM (by omega) ⟨Or.inl rfl, ?_⟩⟩
    exact hQ _ (frM_tr fr0 frM_tp) (MM_tp h' _ _)
end CA4
