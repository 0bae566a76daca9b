/-! calls: about (reference), hearing, word -/
section CA2
variable {N e m : Nat} {σ : ST} {Q : POST} {A : AS}
set_option maxRecDepth 100000 in
theorem aw_loop {S : SPc} {R : RUc} {E : NEc} (hS : vSP S) (hE : vNE S E) (cR : mRU (σ.1 11 0 27) S R) (cE : mNE (σ.1 11 0 27) E) {x1 : Int32} (hQ : Q (some (.inl (nI (sm (fun p => R.wt (E.od p)) E.nj)))) (uI (uI σ 11 0 2 0 0) 11 0 3 0 (-1))) :
    ∀ (r p m : Nat) (x2 x3 : Int32), p + r = E.nj → 40 * r + 60 ≤ m → x2 = nI (sm (fun p => R.wt (E.od p)) p) → x3 = nI p →
      wp N m (e + 1, 0) TX11_about 60 [H11, iA x1, iA x2, iA x3] [] σ Q := by
  have hnh := hS.1
  have hnj := hE.1
  have v10 : σ.1 11 0 27 (Int8.ofInt 10).toInt32.toNatClampNeg = nI E.nj := by rw [il_cl i10 (by omega)]; exact cE.1
  intro r
  induction r with
  | zero =>
    intro p m x2 x3 hr hm e2 e3
    obtain ⟨n, rfl⟩ := il_ex (K := 12) (m := m) (by omega)
    obtain rfl : p = E.nj := by omega
    refine ⟨il_in i10 (by omega) (by omega), ?_⟩
    refine b_ge e3 v10 (by omega) (by omega) (fun _ => ?_) (fun q => by omega)
    refine ⟨trivial, c_good (by omega) ⟨Or.inl rfl, ?_⟩⟩
    rw [e2]; exact hQ
  | succ r ih =>
    intro p m x2 x3 hr hm e2 e3
    obtain ⟨n, rfl⟩ := il_ex (K := 30) (m := m) (by omega)
    have g11 : (Int8.ofInt 11).toInt32 + x3 = nI (11 + p) := by rw [e3, i11, nI_add]
    have hod := hE.2.1 p (by omega)
    have ev : σ.1 11 0 27 ((Int8.ofInt 11).toInt32 + x3).toNatClampNeg = nI (E.od p) := by rw [il_cl g11 (by omega)]; exact (cE.2.2.1 p (by omega)).1
    have g5 : Int32.ofInt 5 + σ.1 11 0 27 ((Int8.ofInt 11).toInt32 + x3).toNatClampNeg = nI (5 + E.od p) := by rw [ev, i5, nI_add]
    refine ⟨il_in i10 (by omega) (by omega), ?_⟩
    refine b_ge e3 v10 (by omega) (by omega) (fun q => by omega) (fun _ => ?_)
    refine ⟨il_in g11 (by omega) (by omega), il_in g5 (by omega) (by omega), ?_⟩
    refine ⟨trivial, ih (p + 1) _ _ _ (by omega) (by omega) ?_ (il_inc e3)⟩
    rw [e2, show σ.1 11 0 27 (Int32.ofInt 5 + σ.1 11 0 27 ((Int8.ofInt 11).toInt32 + x3).toNatClampNeg).toNatClampNeg = nI (R.wt (E.od p)) by rw [il_cl g5 (by omega)]; exact cR.2.2.2.2.2 _ hod, nI_add]
    rfl
set_option maxRecDepth 100000 in
theorem M_about (v : VV A) (h : MM σ A) {x : Int32} (hm : 10000 ≤ m) (hQ : ∀ τ, frM σ τ → MM τ (st_about A x).2 → Q (some (.inl (st_about A x).1)) τ) :
    wp N m (e + 6, 0) TX11_about 0 [H11, iA x, none, none] [] σ Q := by
  have hnh := v.s.1
  have hnj := v.e.1
  have hns := vNE_ns v.s v.e
  obtain ⟨n, rfl⟩ := il_ex (K := 40) (m := m) (by omega)
  unfold st_about at hQ
  have h' := MM_th h (Int32.ofInt 0)
  have fr0 : frM σ (uI σ 11 0 1 0 (Int32.ofInt 0)) := frM_uI
  refine b_ne h'.s.1 z0 (by omega) (by omega) (fun q0 => ?_) (fun q0 => ?_)
  · have q1 : 0 < A.1.nh := by omega
    rw [if_neg q0] at hQ
    have cR := h'.r q1
    have cE := h'.e q1
    refine ⟨fun q => ?_, fun n0 => ⟨fun q => ?_, fun n1 => ⟨fun q => ?_, fun n2 => ⟨fun q => ?_, fun n3 => ⟨fun q => ?_, fun n4 => ⟨fun q => ?_, fun n5 => ⟨fun q => ?_, fun n6 => ⟨fun q => ?_, fun n7 => ?_⟩⟩⟩⟩⟩⟩⟩⟩
    · rw [if_pos q] at hQ
      refine ⟨trivial, c_good (by omega) ⟨Or.inl rfl, ?_⟩⟩
      rw [show (uI σ 11 0 1 0 (Int32.ofInt 0)).1 11 0 (24 + 1) 0 = nI A.1.nh from h'.s.1]
      exact hQ _ (frM_tr fr0 frM_tp) (MM_tp h' _ _)
    · rw [if_neg n0, if_pos q] at hQ
      refine ⟨trivial, c_good (by omega) ⟨Or.inl rfl, ?_⟩⟩
      rw [show (uI σ 11 0 1 0 (Int32.ofInt 0)).1 11 0 (25 + 1) 0 = nI A.1.nw from h'.s.2.1]
      exact hQ _ (frM_tr fr0 frM_tp) (MM_tp h' _ _)
    · rw [if_neg n0, if_neg n1, if_pos q] at hQ
      refine ⟨il_in i10 (by omega) (by omega), trivial, c_good (by omega) ⟨Or.inl rfl, ?_⟩⟩
      rw [show (uI σ 11 0 1 0 (Int32.ofInt 0)).1 11 0 (26 + 1) (Int8.ofInt 10).toInt32.toNatClampNeg = nI A.2.2.1.nj by rw [il_cl i10 (by omega)]; exact cE.1]
      exact hQ _ (frM_tr fr0 frM_tp) (MM_tp h' _ _)
    · rw [if_neg n0, if_neg n1, if_neg n2, if_pos q] at hQ
      refine ⟨il_in i21 (by omega) (by omega), trivial, c_good (by omega) ⟨Or.inl rfl, ?_⟩⟩
      rw [show (uI σ 11 0 1 0 (Int32.ofInt 0)).1 11 0 (26 + 1) (Int8.ofInt 21).toInt32.toNatClampNeg = nI A.2.2.1.ns by rw [il_cl i21 (by omega)]; exact cE.2.1]
      exact hQ _ (frM_tr fr0 frM_tp) (MM_tp h' _ _)
    · rw [if_neg n0, if_neg n1, if_neg n2, if_neg n3, if_pos q] at hQ
      refine ⟨trivial, c_heardBy (e := e + 2) (jv := 27) (ji := 32) rfl rfl (by decide) (by decide) (by decide) (by decide) v.s (v.r q1) v.e h'.s cR cE (by omega) (fun τ o1 c1 => ?_)⟩
      refine ⟨trivial, c_good (by omega) ⟨Or.inl rfl, ?_⟩⟩
      exact hQ _ (frM_tr fr0 (frM_tr (frM_off o1 (by decide)) frM_tp)) (MM_tp (MM_of o1 (by decide) h') _ _)
    · rw [if_neg n0, if_neg n1, if_neg n2, if_neg n3, if_neg n4, if_pos q] at hQ
      refine ⟨trivial, c_costsOf (jv := 27) rfl v.s v.e cE (by omega) ?_⟩
      refine ⟨trivial, c_good (by omega) ⟨Or.inl rfl, ?_⟩⟩
      exact hQ _ (frM_tr fr0 frM_tp) (MM_tp h' _ _)
    · rw [if_neg n0, if_neg n1, if_neg n2, if_neg n3, if_neg n4, if_neg n5, if_pos q] at hQ
      refine ⟨trivial, c_good (by omega) ⟨Or.inl rfl, ?_⟩⟩
      rw [show (uI σ 11 0 1 0 (Int32.ofInt 0)).1 11 0 (29 + 1) 0 = nI A.2.2.2.1 from h'.p.1]
      exact hQ _ (frM_tr fr0 frM_tp) (MM_tp h' _ _)
    · rw [if_neg n0, if_neg n1, if_neg n2, if_neg n3, if_neg n4, if_neg n5, if_neg n6, if_pos q] at hQ
      refine adv 2 9000 (by omega) (fun n2 hn2 => ?_)
      refine aw_loop (e := e + 5) v.s v.e cR cE ?_ A.2.2.1.nj 0 n2 _ _ (by omega) (by omega) oi_0 oi_0
      exact hQ _ (frM_tr fr0 frM_tp) (MM_tp h' _ _)
    · rw [if_neg n0, if_neg n1, if_neg n2, if_neg n3, if_neg n4, if_neg n5, if_neg n6, if_neg n7] at hQ
      refine ⟨trivial, c_refusedM (by omega) ⟨Or.inl rfl, ?_⟩⟩
      exact hQ _ (frM_tr fr0 frM_tp) (MM_tp h' _ _)
  · rw [if_pos q0] at hQ
    refine ⟨trivial, c_refusedM (by omega) ⟨Or.inl rfl, ?_⟩⟩
    exact hQ _ (frM_tr fr0 frM_tp) (MM_tp h' _ _)
noncomputable def st_hearing (A : AS) (x y : Int32) : Int32 × AS := match inR x A.1.nh with
  | none => reA A 1
  | some h => if y = 0 then goA A (nI (A.2.1.wt h)) else if y = 1 then goA A (nI (A.1.cn h)) else if y = 2 then goA A (oI (-2) (plc A.2.2.1 h)) else if y = 3 then goA A (match plc A.2.2.1 h with | none => -2 | some p => nI (A.2.2.1.ct p)) else if y = 4 then goA A (match plc A.2.2.1 h with | none => -2 | some _ => nI (rgC A.1 A.2.1 A.2.2.1 h A.2.2.1.ns)) else reA A 1
theorem V_hearing (v : VV A) (x y : Int32) : VV (st_hearing A x y).2 := by
  unfold st_hearing
  cases inR x A.1.nh with
  | none => exact V_re v _
  | some h =>
    simp only
    repeat' split
    all_goals first | exact V_re v _ | exact V_go v _
set_option maxRecDepth 100000 in
theorem C_hearing (v : VV A) (h : CC σ A) {x y : Int32} (hm : 10000 ≤ m) (hQ : ∀ τ, frC σ τ → CC τ (st_hearing A x y).2 → Q (some (.inl (st_hearing A x y).1)) τ) :
    wp N m (e + 6, 0) TX10_hearing 0 [H10, iA x, iA y] [] σ Q := by
  have hnh := v.s.1
  have hnj := v.e.1
  obtain ⟨n, rfl⟩ := il_ex (K := 40) (m := m) (by omega)
  unfold st_hearing at hQ
  refine ⟨trivial, c_isHearing h.s.1 (by omega) (by omega) (fun j hj ej qj => ?_) (fun q0 => ?_)⟩
  · rw [qj] at hQ
    simp only at hQ
    have q0 : 0 < A.1.nh := by omega
    refine b_ne (a := 1) rfl z0 (by omega) (by omega) (fun _ => ?_) (fun q => by omega)
    refine ⟨fun q => ?_, fun n0 => ⟨fun q => ?_, fun n1 => ⟨fun q => ?_, fun n2 => ⟨fun q => ?_, fun n3 => ⟨fun q => ?_, fun n4 => ?_⟩⟩⟩⟩⟩
    · rw [if_pos q] at hQ
      refine ⟨trivial, c_weightOf ej (by omega) (by omega) ?_⟩
      refine ⟨trivial, c_answered (by omega) ⟨Or.inl rfl, ?_⟩⟩
      rw [(h.r q0).2.2.2.2.2 j hj]
      exact hQ _ frC_tp (CC_tp h _ _)
    · rw [if_neg n0, if_pos q] at hQ
      refine ⟨trivial, c_countOf ej (by omega) (by omega) ?_⟩
      refine ⟨trivial, c_answered (by omega) ⟨Or.inl rfl, ?_⟩⟩
      rw [h.s.2.2.1 j hj]
      exact hQ _ frC_tp (CC_tp h _ _)
    · rw [if_neg n0, if_neg n1, if_pos q] at hQ
      refine ⟨trivial, c_placeOf ej (by omega) (by omega) ?_⟩
      refine ⟨trivial, c_answered (by omega) ⟨Or.inl rfl, ?_⟩⟩
      rw [h.e.2.2.2.1 j (by omega)]
      exact hQ _ frC_tp (CC_tp h _ _)
    · rw [if_neg n0, if_neg n1, if_neg n2, if_pos q] at hQ
      refine ⟨trivial, c_holds (e := e + 4) ej (by omega) (by omega) ?_⟩
      rw [h.e.2.2.2.1 j (by omega)]
      cases hp : plc A.2.2.1 j with
      | none =>
        rw [hp] at hQ
        rw [if_pos (show oI (-2) none < 0 from ne2)]
        refine b_eq (a := 0) rfl z0 (by omega) (by omega) (fun _ => ?_) (fun q => absurd rfl q)
        refine ⟨trivial, c_answered (by omega) ⟨Or.inl rfl, ?_⟩⟩
        rw [im2]
        exact hQ _ frC_tp (CC_tp h _ _)
      | some p =>
        rw [hp] at hQ
        have hz := plc_some hp
        rw [if_neg (show ¬ oI (-2) (some p) < 0 from nI_pos (by omega))]
        refine b_eq (a := 1) rfl z0 (by omega) (by omega) (fun q => by omega) (fun _ => ?_)
        refine ⟨trivial, c_costOf ej (by omega) (by omega) ?_⟩
        refine ⟨trivial, trivial, c_answered (by omega) ⟨Or.inl rfl, ?_⟩⟩
        have := h.e.2.2.2.2.1 p hz.1
        rw [hz.2] at this
        rw [this]
        exact hQ _ frC_tp (CC_tp h _ _)
    · rw [if_neg n0, if_neg n1, if_neg n2, if_neg n3, if_pos q] at hQ
      refine ⟨trivial, c_holds (e := e + 4) ej (by omega) (by omega) ?_⟩
      rw [h.e.2.2.2.1 j (by omega)]
      cases hp : plc A.2.2.1 j with
      | none =>
        rw [hp] at hQ
        rw [if_pos (show oI (-2) none < 0 from ne2)]
        refine b_eq (a := 0) rfl z0 (by omega) (by omega) (fun _ => ?_) (fun q => absurd rfl q)
        refine ⟨trivial, c_answered (by omega) ⟨Or.inl rfl, ?_⟩⟩
        rw [im2]
        exact hQ _ frC_tp (CC_tp h _ _)
      | some p =>
        rw [hp] at hQ
        have hz := plc_some hp
        rw [if_neg (show ¬ oI (-2) (some p) < 0 from nI_pos (by omega))]
        refine b_eq (a := 1) rfl z0 (by omega) (by omega) (fun q => by omega) (fun _ => ?_)
        refine ⟨trivial, c_winnersOf (e := e + 2) v.s (v.r q0) v.e h.s (h.r q0) h.e hj ej (by omega) (fun τ o1 => ?_)⟩
        refine ⟨trivial, trivial, c_answered (by omega) ⟨Or.inl rfl, ?_⟩⟩
        exact hQ _ (frC_tr (frC_off o1 (by decide)) frC_tp) (CC_tp (CC_o2 o1 (by decide) (by decide) h) _ _)
    · rw [if_neg n0, if_neg n1, if_neg n2, if_neg n3, if_neg n4] at hQ
      refine ⟨trivial, c_refused (by omega) ⟨Or.inl rfl, ?_⟩⟩
      exact hQ _ frC_tp (CC_tp h _ _)
  · rw [q0] at hQ
    refine b_ne (a := 0) rfl z0 (by omega) (by omega) (fun q => absurd rfl q) (fun _ => ?_)
    refine ⟨trivial, c_refused (by omega) ⟨Or.inl rfl, ?_⟩⟩
    exact hQ _ frC_tp (CC_tp h _ _)
set_option maxRecDepth 100000 in
theorem M_hearing (v : VV A) (h : MM σ A) {x y : Int32} (hm : 10000 ≤ m) (hQ : ∀ τ, frM σ τ → MM τ (st_hearing A x y).2 → Q (some (.inl (st_hearing A x y).1)) τ) :
    wp N m (e + 6, 0) TX11_hearing 0 [H11, iA x, iA y, none] [] σ Q := by
  have hnh := v.s.1
  have hnj := v.e.1
  obtain ⟨n, rfl⟩ := il_ex (K := 50) (m := m) (by omega)
  unfold st_hearing at hQ
  have h' := MM_th h (Int32.ofInt 0)
  have fr0 : frM σ (uI σ 11 0 1 0 (Int32.ofInt 0)) := frM_uI
  refine ⟨trivial, c_isHearingM h'.s.1 (by omega) (by omega) (fun j hj ej qj => ?_) (fun q0 => ?_)⟩
  · rw [qj] at hQ
    simp only at hQ
    have q0 : 0 < A.1.nh := by omega
    have cR := h'.r q0
    have cE := h'.e q0
    refine b_ne (a := 1) rfl z0 (by omega) (by omega) (fun _ => ?_) (fun q => by omega)
    refine ⟨trivial, c_placeOfM (jv := 27) rfl v.s v.e cE hj ej (by omega) ?_⟩
    have eqm : ∀ {P R : Prop}, (plc A.2.2.1 j = none → P) → (∀ p, plc A.2.2.1 j = some p → R) → ((¬ oI (-1) (plc A.2.2.1 j) = Int32.ofInt (-1)) → R) ∧ (¬ (¬ oI (-1) (plc A.2.2.1 j) = Int32.ofInt (-1)) → P) := by
      intro P R a b
      cases hp : plc A.2.2.1 j with
      | none => exact ⟨fun q => absurd (show (-1 : Int32) = Int32.ofInt (-1) by rw [im1]) q, fun _ => a hp⟩
      | some p => exact ⟨fun _ => b p hp, fun q => absurd (b_n1 (z := p) (by have := plc_some hp; omega)) q⟩
    refine ⟨fun q => ?_, fun n0 => ⟨fun q => ?_, fun n1 => ⟨fun q => ?_, fun n2 => ⟨fun q => ?_, fun n3 => ⟨fun q => ?_, fun n4 => ?_⟩⟩⟩⟩⟩
    · rw [if_pos q] at hQ
      have g5 : Int32.ofInt 5 + x = nI (5 + j) := by rw [ej, i5, nI_add]
      refine ⟨il_in g5 (by omega) (by omega), trivial, c_good (by omega) ⟨Or.inl rfl, ?_⟩⟩
      rw [il_cl g5 (by omega), show (uI σ 11 0 1 0 (Int32.ofInt 0)).1 11 0 (26 + 1) (5 + j) = nI (A.2.1.wt j) from cR.2.2.2.2.2 j hj]
      exact hQ _ (frM_tr fr0 frM_tp) (MM_tp h' _ _)
    · rw [if_neg n0, if_pos q] at hQ
      refine ⟨il_in ej (by omega) (by omega), trivial, c_good (by omega) ⟨Or.inl rfl, ?_⟩⟩
      rw [il_cl ej (by omega), show (uI σ 11 0 1 0 (Int32.ofInt 0)).1 11 0 (20 + 1) j = nI (A.1.cn j) from h'.s.2.2.1 j hj]
      exact hQ _ (frM_tr fr0 frM_tp) (MM_tp h' _ _)
    · rw [if_neg n0, if_neg n1, if_pos q] at hQ
      refine eqm (fun hp => ?_) (fun p hp => ?_)
      · refine ⟨trivial, trivial, c_good (by omega) ⟨Or.inl rfl, ?_⟩⟩
        rw [hp] at hQ
        rw [im2]
        exact hQ _ (frM_tr fr0 frM_tp) (MM_tp h' _ _)
      · refine ⟨trivial, c_good (by omega) ⟨Or.inl rfl, ?_⟩⟩
        rw [hp] at hQ ⊢
        exact hQ _ (frM_tr fr0 frM_tp) (MM_tp h' _ _)
    · rw [if_neg n0, if_neg n1, if_neg n2, if_pos q] at hQ
      refine eqm (fun hp => ?_) (fun p hp => ?_)
      · refine ⟨trivial, trivial, c_good (by omega) ⟨Or.inl rfl, ?_⟩⟩
        rw [hp] at hQ
        rw [im2]
        exact hQ _ (frM_tr fr0 frM_tp) (MM_tp h' _ _)
      · rw [hp] at hQ
        have hz := plc_some hp
        have g16 : (Int8.ofInt 16).toInt32 + oI (-1) (plc A.2.2.1 j) = nI (16 + p) := by rw [hp, i16]; exact nI_add _ _
        refine ⟨il_in g16 (by omega) (by omega), trivial, c_good (by omega) ⟨Or.inl rfl, ?_⟩⟩
        rw [il_cl g16 (by omega), show (uI σ 11 0 1 0 (Int32.ofInt 0)).1 11 0 (26 + 1) (16 + p) = nI (A.2.2.1.ct p) from (cE.2.2.1 p hz.1).2]
        exact hQ _ (frM_tr fr0 frM_tp) (MM_tp h' _ _)
    · rw [if_neg n0, if_neg n1, if_neg n2, if_neg n3, if_pos q] at hQ
      refine eqm (fun hp => ?_) (fun p hp => ?_)
      · refine ⟨trivial, trivial, c_good (by omega) ⟨Or.inl rfl, ?_⟩⟩
        rw [hp] at hQ
        rw [im2]
        exact hQ _ (frM_tr fr0 frM_tp) (MM_tp h' _ _)
      · rw [hp] at hQ
        refine ⟨trivial, c_rightOf (e := e + 2) (jv := 27) rfl (by decide) v.s (v.r q0) v.e h'.s cR cE hj ej (by omega) (fun τ o1 => ?_)⟩
        refine ⟨trivial, c_good (by omega) ⟨Or.inl rfl, ?_⟩⟩
        exact hQ _ (frM_tr fr0 (frM_tr (frM_off o1 (by decide)) frM_tp)) (MM_tp (MM_of o1 (by decide) h') _ _)
    · rw [if_neg n0, if_neg n1, if_neg n2, if_neg n3, if_neg n4] at hQ
      refine ⟨trivial, c_refusedM (by omega) ⟨Or.inl rfl, ?_⟩⟩
      exact hQ _ (frM_tr fr0 frM_tp) (MM_tp h' _ _)
  · rw [q0] at hQ
    refine b_ne (a := 0) rfl z0 (by omega) (by omega) (fun q => absurd rfl q) (fun _ => ?_)
    refine ⟨trivial, c_refusedM (by omega) ⟨Or.inl rfl, ?_⟩⟩
    exact hQ _ (frM_tr fr0 frM_tp) (MM_tp h' _ _)
end CA2
