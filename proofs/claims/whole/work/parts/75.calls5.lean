/-! calls: slot, choice, doubt -/
def etF (S : SPc) (E : NEc) (s : Nat) (mx : Bool) : Nat := (eTO S E s mx 5).getD 0
theorem etF_of {S : SPc} {E : NEc} {s t : Nat} {mx : Bool} (h : eTO S E s mx 5 = some t) : t = etF S E s mx := by unfold etF; rw [h]; rfl
section CA5
variable {N e m : Nat} {σ : ST} {Q : POST} {A : AS}
noncomputable def st_slot (A : AS) (x y : Int32) : Int32 × AS := match inR x A.2.2.1.ns with
  | none => reA A 1
  | some s => if y = 0 then goA A (nI (sm (thU A.2.2.1 s) 5)) else if y = 1 then goA A (nI (vtE (vcO A.1 A.2.1 A.2.2.1 s)).1) else if y = 2 then goA A (nI (tmF A.1 A.2.1 A.2.2.1 s (fun _ _ => true))) else if y = 3 then goA A (nI (toF (vcO A.1 A.2.1 A.2.2.1 s) 5)) else if y = 4 then goA A (wcI (wnF A.1 A.2.1 A.2.2.1 s)) else if y = 5 then goA A (phI A.1 A.2.1 A.2.2.1 s) else if y = 6 then goA A (nI (etF A.1 A.2.2.1 s false)) else if y = 7 then goA A (nI (etF A.1 A.2.2.1 s true)) else reA A 1
theorem V_slot (v : VV A) (x y : Int32) : VV (st_slot A x y).2 := by
  unfold st_slot
  cases inR x A.2.2.1.ns with
  | none => exact V_re v _
  | some s =>
    simp only
    repeat' split
    all_goals first | exact V_re v _ | exact V_go v _
theorem hp_all {S : SPc} {R : RUc} {E : NEc} (hS : vSP S) (hR : vRU S R) (hE : vNE S E) {s : Nat} (hs : s < E.ns) : 0 < sm (tmB R E s (fun _ _ => true)) 5 := by
  obtain ⟨h, i, he⟩ := hE.2.2.2.2.2.1 s hs
  exact tmB_pos hS hR hE hs he rfl
set_option maxRecDepth 100000 in
theorem C_slot (v : VV A) (h : CC σ A) {x y : Int32} (hm : 20000 ≤ m) (hQ : ∀ τ, frC σ τ → CC τ (st_slot A x y).2 → Q (some (.inl (st_slot A x y).1)) τ) :
    wp N m (e + 6, 0) TX10_slot 0 [H10, iA x, iA y] [] σ Q := by
  have hns := vNE_ns v.s v.e
  obtain ⟨n, rfl⟩ := il_ex (K := 60) (m := m) (by omega)
  unfold st_slot at hQ
  refine ⟨trivial, c_isSlot h.e.1 (by omega) (by omega) (fun s hs es qs => ?_) (fun q0 => ?_)⟩
  · rw [qs] at hQ
    simp only at hQ
    have q1 := nh_of_slot v hs
    refine b_ne (a := 1) rfl z0 (by omega) (by omega) (fun _ => ?_) (fun q => by omega)
    refine ⟨trivial, c_tally (e := e + 3) v.s (v.r q1) v.e h.s (h.r q1) h.e hs es (by omega) (fun τ o1 v1 => ?_)⟩
    have h1 := CC_o2 o1 (by decide) (by decide) h
    have fr1 : frC σ τ := frC_off o1 (by decide)
    refine ⟨fun q => ?_, fun n0 => ⟨fun q => ?_, fun n1 => ⟨fun q => ?_, fun n2 => ⟨fun q => ?_, fun n3 => ⟨fun q => ?_, fun n4 => ⟨fun q => ?_, fun n5 => ⟨fun q => ?_, fun n6 => ⟨fun q => ?_, fun n7 => ?_⟩⟩⟩⟩⟩⟩⟩⟩
    · rw [if_pos q] at hQ
      refine ⟨trivial, c_wordsThere (e := e + 4) v.s v.e h1.e hs es (by omega) ?_⟩
      refine ⟨trivial, c_answered (by omega) ⟨Or.inl rfl, ?_⟩⟩
      exact hQ _ (frC_tr fr1 frC_tp) (CC_tp h1 _ _)
    · rw [if_neg n0, if_pos q] at hQ
      refine ⟨trivial, c_answered (by omega) ⟨Or.inl rfl, ?_⟩⟩
      rw [show τ.1 1 0 (0 + 1) 0 = _ from v1.1]
      exact hQ _ (frC_tr fr1 frC_tp) (CC_tp h1 _ _)
    · rw [if_neg n0, if_neg n1, if_pos q] at hQ
      refine ⟨trivial, c_meanTime (e := e + 4) v.s (v.r q1) v.e h1.s (h1.r q1) h1.e hs es (Or.inl ⟨im1, fun _ _ => rfl⟩) (hp_all v.s (v.r q1) v.e hs) (by omega) ?_⟩
      refine ⟨trivial, c_answered (by omega) ⟨Or.inl rfl, ?_⟩⟩
      exact hQ _ (frC_tr fr1 frC_tp) (CC_tp h1 _ _)
    · rw [if_neg n0, if_neg n1, if_neg n2, if_pos q] at hQ
      refine ⟨trivial, c_answered (by omega) ⟨Or.inl rfl, ?_⟩⟩
      rw [show τ.1 1 0 (1 + 1) 0 = _ from v1.2.1]
      exact hQ _ (frC_tr fr1 frC_tp) (CC_tp h1 _ _)
    · rw [if_neg n0, if_neg n1, if_neg n2, if_neg n3, if_pos q] at hQ
      refine ⟨trivial, c_wordOfChoice v1 (vc60 v.s (v.r q1) v.e hs) oi_0 (vt_pos v.e v.s hs) (by omega) ?_⟩
      refine ⟨trivial, c_answered (by omega) ⟨Or.inl rfl, ?_⟩⟩
      exact hQ _ (frC_tr fr1 frC_tp) (CC_tp h1 _ _)
    · rw [if_neg n0, if_neg n1, if_neg n2, if_neg n3, if_neg n4, if_pos q] at hQ
      refine ⟨trivial, c_placeInHeard (e := e + 1) v.s (v.r q1) v.e h1.s (h1.r q1) h1.e hs es (by omega) (fun τ2 o2 => ?_)⟩
      refine ⟨trivial, c_answered (by omega) ⟨Or.inl rfl, ?_⟩⟩
      exact hQ _ (frC_tr fr1 (frC_tr (frC_off o2 (by decide)) frC_tp)) (CC_tp (CC_o2 o2 (by decide) (by decide) h1) _ _)
    · rw [if_neg n0, if_neg n1, if_neg n2, if_neg n3, if_neg n4, if_neg n5, if_pos q] at hQ
      refine ⟨trivial, c_leastTime (e := e + 4) v.s v.e h1.s h1.e hs es (by omega) (fun t ht => ?_)⟩
      refine ⟨trivial, c_answered (by omega) ⟨Or.inl rfl, ?_⟩⟩
      rw [etF_of ht]
      exact hQ _ (frC_tr fr1 frC_tp) (CC_tp h1 _ _)
    · rw [if_neg n0, if_neg n1, if_neg n2, if_neg n3, if_neg n4, if_neg n5, if_neg n6, if_pos q] at hQ
      refine ⟨trivial, c_greatestTime (e := e + 4) v.s v.e h1.s h1.e hs es (by omega) (fun t ht => ?_)⟩
      refine ⟨trivial, c_answered (by omega) ⟨Or.inl rfl, ?_⟩⟩
      rw [etF_of ht]
      exact hQ _ (frC_tr fr1 frC_tp) (CC_tp h1 _ _)
    · rw [if_neg n0, if_neg n1, if_neg n2, if_neg n3, if_neg n4, if_neg n5, if_neg n6, if_neg n7] at hQ
      refine ⟨trivial, c_refused (by omega) ⟨Or.inl rfl, ?_⟩⟩
      exact hQ _ (frC_tr fr1 frC_tp) (CC_tp h1 _ _)
  · rw [q0] at hQ
    refine b_ne (a := 0) rfl z0 (by omega) (by omega) (fun q => absurd rfl q) (fun _ => ?_)
    refine ⟨trivial, c_refused (by omega) ⟨Or.inl rfl, ?_⟩⟩
    exact hQ _ frC_tp (CC_tp h _ _)
set_option maxRecDepth 100000 in
theorem M_slot (v : VV A) (h : MM σ A) {x y : Int32} (hm : 20000 ≤ m) (hQ : ∀ τ, frM σ τ → MM τ (st_slot A x y).2 → Q (some (.inl (st_slot A x y).1)) τ) :
    wp N m (e + 6, 0) TX11_slot 0 [H11, iA x, iA y] [] σ Q := by
  have hns := vNE_ns v.s v.e
  obtain ⟨n, rfl⟩ := il_ex (K := 60) (m := m) (by omega)
  unfold st_slot at hQ
  have h' := MM_th h (Int32.ofInt 0)
  have fr0 : frM σ (uI σ 11 0 1 0 (Int32.ofInt 0)) := frM_uI
  refine ⟨trivial, c_isSlotA (e := e + 4) v h' (by omega) (fun s hs q1 es qs => ?_) (fun q0 => ?_)⟩
  · rw [qs] at hQ
    simp only at hQ
    refine b_ne (a := 1) rfl z0 (by omega) (by omega) (fun _ => ?_) (fun q => by omega)
    refine ⟨trivial, c_votes (e := e + 4) (jv := 27) rfl (by decide) v.s (v.r q1) v.e h'.s (h'.r q1) (h'.e q1) hs es (by omega) (fun τ o1 v1 => ?_)⟩
    have h1 := MM_of o1 (by decide) h'
    have fr1 : frM σ τ := frM_tr fr0 (frM_off o1 (by decide))
    refine ⟨fun q => ?_, fun n0 => ⟨fun q => ?_, fun n1 => ⟨fun q => ?_, fun n2 => ⟨fun q => ?_, fun n3 => ⟨fun q => ?_, fun n4 => ⟨fun q => ?_, fun n5 => ⟨fun q => ?_, fun n6 => ⟨fun q => ?_, fun n7 => ?_⟩⟩⟩⟩⟩⟩⟩⟩
    · rw [if_pos q] at hQ
      refine ⟨trivial, c_wordsThereM (e := e + 4) v.s v.e h1.s (h1.e q1) hs es (by omega) ?_⟩
      refine ⟨trivial, c_good (by omega) ⟨Or.inl rfl, ?_⟩⟩
      exact hQ _ (frM_tr fr1 frM_tp) (MM_tp h1 _ _)
    · rw [if_neg n0, if_pos q] at hQ
      refine ⟨trivial, c_good (by omega) ⟨Or.inl rfl, ?_⟩⟩
      rw [show τ.1 11 0 (38 + 1) 0 = _ from v1.1]
      exact hQ _ (frM_tr fr1 frM_tp) (MM_tp h1 _ _)
    · rw [if_neg n0, if_neg n1, if_pos q] at hQ
      refine ⟨trivial, c_timeOfM (e := e + 4) (jv := 27) rfl v.s (v.r q1) v.e h1.s (h1.r q1) (h1.e q1) hs es (by omega) ?_⟩
      refine ⟨trivial, c_good (by omega) ⟨Or.inl rfl, ?_⟩⟩
      exact hQ _ (frM_tr fr1 frM_tp) (MM_tp h1 _ _)
    · rw [if_neg n0, if_neg n1, if_neg n2, if_pos q] at hQ
      refine ⟨trivial, c_good (by omega) ⟨Or.inl rfl, ?_⟩⟩
      rw [show τ.1 11 0 (39 + 1) 0 = _ from v1.2.1]
      exact hQ _ (frM_tr fr1 frM_tp) (MM_tp h1 _ _)
    · rw [if_neg n0, if_neg n1, if_neg n2, if_neg n3, if_pos q] at hQ
      refine ⟨il_in oi_0 (by omega) (by omega), trivial, c_good (by omega) ⟨Or.inl rfl, ?_⟩⟩
      rw [il_cl oi_0 (by omega), show τ.1 11 0 (36 + 1) 0 = wcI (wnF A.1 A.2.1 A.2.2.1 s) from (v1.2.2 0 (vt_pos v.e v.s hs)).1]
      exact hQ _ (frM_tr fr1 frM_tp) (MM_tp h1 _ _)
    · rw [if_neg n0, if_neg n1, if_neg n2, if_neg n3, if_neg n4, if_pos q] at hQ
      refine ⟨trivial, c_placeHeard (e := e + 2) v.s (v.r q1) v.e h1.s (h1.r q1) (h1.e q1) hs es (by omega) (fun τ2 o2 => ?_)⟩
      refine ⟨trivial, c_good (by omega) ⟨Or.inl rfl, ?_⟩⟩
      exact hQ _ (frM_tr fr1 (frM_tr (frM_off o2 (by decide)) frM_tp)) (MM_tp (MM_of o2 (by decide) h1) _ _)
    · rw [if_neg n0, if_neg n1, if_neg n2, if_neg n3, if_neg n4, if_neg n5, if_pos q] at hQ
      refine ⟨trivial, c_endTime (e := e + 4) (mx := false) v.s v.e h1.s (h1.e q1) hs es oi_0 (by omega) (fun t ht => ?_)⟩
      refine ⟨trivial, c_good (by omega) ⟨Or.inl rfl, ?_⟩⟩
      rw [etF_of ht]
      exact hQ _ (frM_tr fr1 frM_tp) (MM_tp h1 _ _)
    · rw [if_neg n0, if_neg n1, if_neg n2, if_neg n3, if_neg n4, if_neg n5, if_neg n6, if_pos q] at hQ
      refine ⟨trivial, c_endTime (e := e + 4) (mx := true) v.s v.e h1.s (h1.e q1) hs es oi_1 (by omega) (fun t ht => ?_)⟩
      refine ⟨trivial, c_good (by omega) ⟨Or.inl rfl, ?_⟩⟩
      rw [etF_of ht]
      exact hQ _ (frM_tr fr1 frM_tp) (MM_tp h1 _ _)
    · rw [if_neg n0, if_neg n1, if_neg n2, if_neg n3, if_neg n4, if_neg n5, if_neg n6, if_neg n7] at hQ
      refine ⟨trivial, c_refusedM (by omega) ⟨Or.inl rfl, ?_⟩⟩
      exact hQ _ (frM_tr fr1 frM_tp) (MM_tp h1 _ _)
  · rw [q0] at hQ
    refine b_ne (a := 0) rfl z0 (by omega) (by omega) (fun q => absurd rfl q) (fun _ => ?_)
    refine ⟨trivial, c_refusedM (by omega) ⟨Or.inl rfl, ?_⟩⟩
    exact hQ _ (frM_tr fr0 frM_tp) (MM_tp h' _ _)
noncomputable def st_choice (A : AS) (x y z : Int32) : Int32 × AS := match inR x A.2.2.1.ns with
  | none => reA A 1
  | some s => match inR y (vtE (vcO A.1 A.2.1 A.2.2.1 s)).1 with
    | none => reA A 1
    | some i => if z = 0 then goA A (wcI ((vtE (vcO A.1 A.2.1 A.2.2.1 s)).2 i)) else if z = 1 then goA A (nI (ptO (vcO A.1 A.2.1 A.2.2.1 s) i)) else if z = 2 then goA A (nI (ptO (vcO A.1 A.2.1 A.2.2.1 s) i / Nat.gcd (ptO (vcO A.1 A.2.1 A.2.2.1 s) i) (dB A.1 A.2.1 A.2.2.1 s))) else if z = 3 then goA A (nI (dB A.1 A.2.1 A.2.2.1 s / Nat.gcd (ptO (vcO A.1 A.2.1 A.2.2.1 s) i) (dB A.1 A.2.1 A.2.2.1 s))) else reA A 1
theorem V_choice (v : VV A) (x y z : Int32) : VV (st_choice A x y z).2 := by
  unfold st_choice
  cases inR x A.2.2.1.ns with
  | none => exact V_re v _
  | some s =>
    simp only
    cases inR y (vtE (vcO A.1 A.2.1 A.2.2.1 s)).1 with
    | none => exact V_re v _
    | some i =>
      simp only
      repeat' split
      all_goals first | exact V_re v _ | exact V_go v _
theorem gcd_dv {a b : Nat} (hb : 0 < b) (ha : a < 2147483648) (hb2 : b < 2147483648) : ¬ nI (Nat.gcd a b) = 0 ∧ nI a / nI (Nat.gcd a b) = nI (a / Nat.gcd a b) ∧ nI b / nI (Nat.gcd a b) = nI (b / Nat.gcd a b) := by
  have g0 : 0 < Nat.gcd a b := Nat.gcd_pos_of_pos_right a hb
  have g1 := Nat.gcd_le_right a hb
  exact ⟨nI_ne0 g0 (by omega), pk_div (by omega) g0 (by omega), pk_div (by omega) g0 (by omega)⟩
set_option maxRecDepth 100000 in
theorem C_choice (v : VV A) (h : CC σ A) {x y z : Int32} (hm : 20000 ≤ m) (hQ : ∀ τ, frC σ τ → CC τ (st_choice A x y z).2 → Q (some (.inl (st_choice A x y z).1)) τ) :
    wp N m (e + 6, 0) TX10_choice 0 [H10, iA x, iA y, iA z, none] [] σ Q := by
  have hns := vNE_ns v.s v.e
  obtain ⟨n, rfl⟩ := il_ex (K := 60) (m := m) (by omega)
  unfold st_choice at hQ
  refine ⟨trivial, c_isSlot h.e.1 (by omega) (by omega) (fun s hs es qs => ?_) (fun q0 => ?_)⟩
  · rw [qs] at hQ
    simp only at hQ
    have q1 := nh_of_slot v hs
    have h5 := (vtE_ok (vcO A.1 A.2.1 A.2.2.1 s)).1
    have db := dB_le v.s (v.r q1) v.e hs
    have dp := dB_pos v.s (v.r q1) v.e hs
    refine b_ne (a := 1) rfl z0 (by omega) (by omega) (fun _ => ?_) (fun q => by omega)
    refine ⟨trivial, c_tally (e := e + 3) v.s (v.r q1) v.e h.s (h.r q1) h.e hs es (by omega) (fun τ o1 v1 => ?_)⟩
    have h1 := CC_o2 o1 (by decide) (by decide) h
    have fr1 : frC σ τ := frC_off o1 (by decide)
    have tot : τ.1 1 0 (1 + 1) 0 = nI (dB A.1 A.2.1 A.2.2.1 s) := v1.2.1
    have ref : ∀ m', 30 ≤ m' → (∀ τ, frC σ τ → CC τ (reA A 1).2 → Q (some (.inl (reA A 1).1)) τ) → wp N m' (e + 6, 0) TX10_choice 21 [H10, iA x, iA y, iA z, none] [] τ Q := by
      intro m' hm' hq
      obtain ⟨n2, rfl⟩ := il_ex (K := 5) (m := m') (by omega)
      refine ⟨trivial, c_refused (by omega) ⟨Or.inl rfl, ?_⟩⟩
      exact hq _ (frC_tr fr1 frC_tp) (CC_tp h1 _ _)
    rcases inR_c y (n := (vtE (vcO A.1 A.2.1 A.2.2.1 s)).1) (by omega) with ⟨i, hi, ei, qi⟩ | ⟨qi, w⟩
    · rw [qi] at hQ
      simp only at hQ
      have pb := ptO_to (vcO A.1 A.2.1 A.2.2.1 s) i
      have pb : ptO (vcO A.1 A.2.1 A.2.2.1 s) i ≤ dB A.1 A.2.1 A.2.2.1 s := pb
      have gd := gcd_dv (a := ptO (vcO A.1 A.2.1 A.2.2.1 s) i) dp (by omega) (by omega)
      refine b_lt ei z0 (by omega) (by omega) (fun q => by omega) (fun _ => ?_)
      refine b_lt ei v1.1 (by omega) (by omega) (fun _ => ?_) (fun q => by omega)
      refine ⟨trivial, c_pointsOfChoice v1 ei (by omega) (by omega) ?_⟩
      refine ⟨fun q => ?_, fun n0 => ⟨fun q => ?_, fun n1 => ⟨fun q => ?_, fun n2 => ⟨fun q => ?_, fun n3 => ?_⟩⟩⟩⟩
      · rw [if_pos q] at hQ
        refine ⟨trivial, c_wordOfChoice v1 (vc60 v.s (v.r q1) v.e hs) ei hi (by omega) ?_⟩
        refine ⟨trivial, c_answered (by omega) ⟨Or.inl rfl, ?_⟩⟩
        exact hQ _ (frC_tr fr1 frC_tp) (CC_tp h1 _ _)
      · rw [if_neg n0, if_pos q] at hQ
        refine ⟨trivial, c_answered (by omega) ⟨Or.inl rfl, ?_⟩⟩
        exact hQ _ (frC_tr fr1 frC_tp) (CC_tp h1 _ _)
      · rw [if_neg n0, if_neg n1, if_pos q] at hQ
        refine ⟨trivial, c_lessened (by omega) (by omega) (by omega) dp rfl rfl tot (by omega) ?_⟩
        refine ⟨trivial, c_answered (by omega) ⟨Or.inl rfl, ?_⟩⟩
        exact hQ _ (frC_tr fr1 frC_tp) (CC_tp h1 _ _)
      · rw [if_neg n0, if_neg n1, if_neg n2, if_pos q] at hQ
        refine ⟨trivial, c_lessened (by omega) (by omega) (by omega) dp tot rfl tot (by omega) ?_⟩
        refine ⟨trivial, c_answered (by omega) ⟨Or.inl rfl, ?_⟩⟩
        exact hQ _ (frC_tr fr1 frC_tp) (CC_tp h1 _ _)
      · rw [if_neg n0, if_neg n1, if_neg n2, if_neg n3] at hQ
        refine ⟨trivial, c_refused (by omega) ⟨Or.inl rfl, ?_⟩⟩
        exact hQ _ (frC_tr fr1 frC_tp) (CC_tp h1 _ _)
    · rw [qi] at hQ
      refine ⟨fun _ => ref _ (by omega) hQ, fun nz => ?_⟩
      refine ⟨fun q => ?_, fun _ => ref _ (by omega) hQ⟩
      have q : y < nI (vtE (vcO A.1 A.2.1 A.2.2.1 s)).1 := by rw [← v1.1]; exact q
      rcases w with w | w
      · exact absurd w nz
      · exact absurd q (Int32.not_lt.mpr w)
  · rw [q0] at hQ
    refine b_ne (a := 0) rfl z0 (by omega) (by omega) (fun q => absurd rfl q) (fun _ => ?_)
    refine ⟨trivial, c_refused (by omega) ⟨Or.inl rfl, ?_⟩⟩
    exact hQ _ frC_tp (CC_tp h _ _)
set_option maxRecDepth 100000 in
theorem M_choice (v : VV A) (h : MM σ A) {x y z : Int32} (hm : 20000 ≤ m) (hQ : ∀ τ, frM σ τ → MM τ (st_choice A x y z).2 → Q (some (.inl (st_choice A x y z).1)) τ) :
    wp N m (e + 6, 0) TX11_choice 0 [H11, iA x, iA y, iA z, none] [] σ Q := by
  have hns := vNE_ns v.s v.e
  obtain ⟨n, rfl⟩ := il_ex (K := 60) (m := m) (by omega)
  unfold st_choice at hQ
  have h' := MM_th h (Int32.ofInt 0)
  have fr0 : frM σ (uI σ 11 0 1 0 (Int32.ofInt 0)) := frM_uI
  refine ⟨trivial, c_isSlotA (e := e + 4) v h' (by omega) (fun s hs q1 es qs => ?_) (fun q0 => ?_)⟩
  · rw [qs] at hQ
    simp only at hQ
    have h5 := (vtE_ok (vcO A.1 A.2.1 A.2.2.1 s)).1
    have db := dB_le v.s (v.r q1) v.e hs
    have dp := dB_pos v.s (v.r q1) v.e hs
    refine b_ne (a := 1) rfl z0 (by omega) (by omega) (fun _ => ?_) (fun q => by omega)
    refine ⟨trivial, c_votes (e := e + 4) (jv := 27) rfl (by decide) v.s (v.r q1) v.e h'.s (h'.r q1) (h'.e q1) hs es (by omega) (fun τ o1 v1 => ?_)⟩
    have h1 := MM_of o1 (by decide) h'
    have fr1 : frM σ τ := frM_tr fr0 (frM_off o1 (by decide))
    have tot : τ.1 11 0 (39 + 1) 0 = nI (dB A.1 A.2.1 A.2.2.1 s) := v1.2.1
    refine ⟨trivial, c_inP (n1 := (vtE (vcO A.1 A.2.1 A.2.2.1 s)).1) (by omega) oi_0 (show _ = _ by rw [← v1.1]) (by omega) (fun i hi ei qi => ?_) (fun qi => ?_)⟩
    · rw [qi] at hQ
      simp only at hQ
      have pb := ptO_to (vcO A.1 A.2.1 A.2.2.1 s) i
      have pb : ptO (vcO A.1 A.2.1 A.2.2.1 s) i ≤ dB A.1 A.2.1 A.2.2.1 s := pb
      have gd := gcd_dv (a := ptO (vcO A.1 A.2.1 A.2.2.1 s) i) dp (by omega) (by omega)
      have cl := il_cl ei (show i < 2147483648 by omega)
      have ji := il_in ei (show i < 6 by omega) (by omega)
      have pv : τ.1 11 0 (37 + 1) y.toNatClampNeg = nI (ptO (vcO A.1 A.2.1 A.2.2.1 s) i) := by
        rw [cl]; unfold ptO; rw [if_pos hi]; exact (v1.2.2 i hi).2
      have wv : τ.1 11 0 (36 + 1) y.toNatClampNeg = wcI ((vtE (vcO A.1 A.2.1 A.2.2.1 s)).2 i) := by rw [cl]; exact (v1.2.2 i hi).1
      refine b_ne (a := 1) rfl z0 (by omega) (by omega) (fun _ => ?_) (fun q => by omega)
      refine ⟨ji, ?_⟩
      refine ⟨trivial, c_common (by omega) (by omega) pv tot (by omega) ?_⟩
      refine ⟨fun q => ?_, fun n0 => ⟨fun q => ?_, fun n1 => ⟨fun q => ?_, fun n2 => ⟨fun q => ?_, fun n3 => ?_⟩⟩⟩⟩
      · rw [if_pos q] at hQ
        refine ⟨ji, trivial, c_good (by omega) ⟨Or.inl rfl, ?_⟩⟩
        rw [wv]
        exact hQ _ (frM_tr fr1 frM_tp) (MM_tp h1 _ _)
      · rw [if_neg n0, if_pos q] at hQ
        refine ⟨ji, trivial, c_good (by omega) ⟨Or.inl rfl, ?_⟩⟩
        rw [pv]
        exact hQ _ (frM_tr fr1 frM_tp) (MM_tp h1 _ _)
      · rw [if_neg n0, if_neg n1, if_pos q] at hQ
        refine ⟨ji, gd.1, trivial, c_good (by omega) ⟨Or.inl rfl, ?_⟩⟩
        rw [pv, gd.2.1]
        exact hQ _ (frM_tr fr1 frM_tp) (MM_tp h1 _ _)
      · rw [if_neg n0, if_neg n1, if_neg n2, if_pos q] at hQ
        refine ⟨gd.1, trivial, c_good (by omega) ⟨Or.inl rfl, ?_⟩⟩
        rw [tot, gd.2.2]
        exact hQ _ (frM_tr fr1 frM_tp) (MM_tp h1 _ _)
      · rw [if_neg n0, if_neg n1, if_neg n2, if_neg n3] at hQ
        refine ⟨trivial, c_refusedM (by omega) ⟨Or.inl rfl, ?_⟩⟩
        exact hQ _ (frM_tr fr1 frM_tp) (MM_tp h1 _ _)
    · rw [qi] at hQ
      refine b_ne (a := 0) rfl z0 (by omega) (by omega) (fun q => absurd rfl q) (fun _ => ?_)
      refine ⟨trivial, c_refusedM (by omega) ⟨Or.inl rfl, ?_⟩⟩
      exact hQ _ (frM_tr fr1 frM_tp) (MM_tp h1 _ _)
  · rw [q0] at hQ
    refine b_ne (a := 0) rfl z0 (by omega) (by omega) (fun q => absurd rfl q) (fun _ => ?_)
    refine ⟨trivial, c_refusedM (by omega) ⟨Or.inl rfl, ?_⟩⟩
    exact hQ _ (frM_tr fr0 frM_tp) (MM_tp h' _ _)
noncomputable def st_doubt (A : AS) (x y : Int32) : Int32 × AS := match inR x A.2.2.1.ns with
  | none => reA A 1
  | some s => if y = 0 then goA A (nI (dA A.1 A.2.1 A.2.2.1 s / Nat.gcd (dA A.1 A.2.1 A.2.2.1 s) (dB A.1 A.2.1 A.2.2.1 s))) else if y = 1 then goA A (nI (dB A.1 A.2.1 A.2.2.1 s / Nat.gcd (dA A.1 A.2.1 A.2.2.1 s) (dB A.1 A.2.1 A.2.2.1 s))) else reA A 1
theorem V_doubt (v : VV A) (x y : Int32) : VV (st_doubt A x y).2 := by
  unfold st_doubt
  cases inR x A.2.2.1.ns with
  | none => exact V_re v _
  | some s =>
    simp only
    repeat' split
    all_goals first | exact V_re v _ | exact V_go v _
set_option maxRecDepth 100000 in
theorem C_doubt (v : VV A) (h : CC σ A) {x y : Int32} (hm : 20000 ≤ m) (hQ : ∀ τ, frC σ τ → CC τ (st_doubt A x y).2 → Q (some (.inl (st_doubt A x y).1)) τ) :
    wp N m (e + 6, 0) TX10_doubt 0 [H10, iA x, iA y, none] [] σ Q := by
  have hns := vNE_ns v.s v.e
  obtain ⟨n, rfl⟩ := il_ex (K := 60) (m := m) (by omega)
  unfold st_doubt at hQ
  refine ⟨trivial, c_isSlot h.e.1 (by omega) (by omega) (fun s hs es qs => ?_) (fun q0 => ?_)⟩
  · rw [qs] at hQ
    simp only at hQ
    have q1 := nh_of_slot v hs
    have da := dA_le v.s (v.r q1) v.e hs
    have db := dB_le v.s (v.r q1) v.e hs
    have dp := dB_pos v.s (v.r q1) v.e hs
    have gd := gcd_dv (a := dA A.1 A.2.1 A.2.2.1 s) dp (by omega) (by omega)
    refine b_ne (a := 1) rfl z0 (by omega) (by omega) (fun _ => ?_) (fun q => by omega)
    refine ⟨trivial, c_tally (e := e + 3) v.s (v.r q1) v.e h.s (h.r q1) h.e hs es (by omega) (fun τ o1 v1 => ?_)⟩
    have h1 := CC_o2 o1 (by decide) (by decide) h
    have fr1 : frC σ τ := frC_off o1 (by decide)
    have tot : τ.1 1 0 (1 + 1) 0 = nI (dB A.1 A.2.1 A.2.2.1 s) := v1.2.1
    refine ⟨trivial, c_doubtPoints (e := e + 4) v1 (by omega) ?_⟩
    refine ⟨fun q => ?_, fun n0 => ⟨fun q => ?_, fun n1 => ?_⟩⟩
    · rw [if_pos q] at hQ
      refine ⟨trivial, c_lessened (q0 := dA A.1 A.2.1 A.2.2.1 s) (a := dA A.1 A.2.1 A.2.2.1 s) (by omega) (by omega) (by omega) dp rfl rfl tot (by omega) ?_⟩
      refine ⟨trivial, c_answered (by omega) ⟨Or.inl rfl, ?_⟩⟩
      exact hQ _ (frC_tr fr1 frC_tp) (CC_tp h1 _ _)
    · rw [if_neg n0, if_pos q] at hQ
      refine ⟨trivial, c_lessened (a := dA A.1 A.2.1 A.2.2.1 s) (by omega) (by omega) (by omega) dp tot rfl tot (by omega) ?_⟩
      refine ⟨trivial, c_answered (by omega) ⟨Or.inl rfl, ?_⟩⟩
      exact hQ _ (frC_tr fr1 frC_tp) (CC_tp h1 _ _)
    · rw [if_neg n0, if_neg n1] at hQ
      refine ⟨trivial, c_refused (by omega) ⟨Or.inl rfl, ?_⟩⟩
      exact hQ _ (frC_tr fr1 frC_tp) (CC_tp h1 _ _)
  · rw [q0] at hQ
    refine b_ne (a := 0) rfl z0 (by omega) (by omega) (fun q => absurd rfl q) (fun _ => ?_)
    refine ⟨trivial, c_refused (by omega) ⟨Or.inl rfl, ?_⟩⟩
    exact hQ _ frC_tp (CC_tp h _ _)
set_option maxRecDepth 100000 in
theorem M_doubt (v : VV A) (h : MM σ A) {x y : Int32} (hm : 20000 ≤ m) (hQ : ∀ τ, frM σ τ → MM τ (st_doubt A x y).2 → Q (some (.inl (st_doubt A x y).1)) τ) :
    wp N m (e + 6, 0) TX11_doubt 0 [H11, iA x, iA y, none, none] [] σ Q := by
  have hns := vNE_ns v.s v.e
  obtain ⟨n, rfl⟩ := il_ex (K := 60) (m := m) (by omega)
  unfold st_doubt at hQ
  have h' := MM_th h (Int32.ofInt 0)
  have fr0 : frM σ (uI σ 11 0 1 0 (Int32.ofInt 0)) := frM_uI
  have ref : ∀ m', 30 ≤ m' → (∀ τ, frM σ τ → MM τ (reA A 1).2 → Q (some (.inl (reA A 1).1)) τ) → wp N m' (e + 6, 0) TX11_doubt 12 [H11, iA x, iA y, none, none] [] (uI σ 11 0 1 0 (Int32.ofInt 0)) Q := by
    intro m' hm' hq
    obtain ⟨n2, rfl⟩ := il_ex (K := 5) (m := m') (by omega)
    refine ⟨trivial, c_refusedM (by omega) ⟨Or.inl rfl, ?_⟩⟩
    exact hq _ (frM_tr fr0 frM_tp) (MM_tp h' _ _)
  refine ⟨trivial, c_isSlotA (e := e + 4) v h' (by omega) (fun s hs q1 es qs => ?_) (fun q0 => ?_)⟩
  · rw [qs] at hQ
    simp only at hQ
    have da := dA_le v.s (v.r q1) v.e hs
    have db := dB_le v.s (v.r q1) v.e hs
    have dp := dB_pos v.s (v.r q1) v.e hs
    have gd := gcd_dv (a := dA A.1 A.2.1 A.2.2.1 s) dp (by omega) (by omega)
    refine b_eq (a := 1) rfl z0 (by omega) (by omega) (fun q => by omega) (fun _ => ?_)
    refine ⟨trivial, c_inB (a := 0) (b := 1) (by omega) (by omega) oi_0 oi_1 (by omega) (fun j j0 j1 ej _ => ?_) (fun hno => ?_)⟩
    · refine b_ne (a := 1) rfl z0 (by omega) (by omega) (fun _ => ?_) (fun q => by omega)
      refine ⟨trivial, c_doubtOf (e := e + 3) (jv := 27) rfl (by decide) v.s (v.r q1) v.e h'.s (h'.r q1) (h'.e q1) hs es (by omega) (fun τ o1 v1 => ?_)⟩
      have h1 := MM_of o1 (by decide) h'
      have fr1 : frM σ τ := frM_tr fr0 (frM_off o1 (by decide))
      have tot : τ.1 11 0 (39 + 1) 0 = nI (dB A.1 A.2.1 A.2.2.1 s) := v1.2.1
      refine ⟨trivial, c_common (a := dA A.1 A.2.1 A.2.2.1 s) (by omega) (by omega) rfl tot (by omega) ?_⟩
      refine b_ne ej z0 (by omega) (by omega) (fun q => ?_) (fun q => ?_)
      · obtain rfl : j = 1 := by omega
        rw [if_neg (by rw [ej]; decide), if_pos (by rw [ej]; decide)] at hQ
        refine ⟨gd.1, trivial, c_good (by omega) ⟨Or.inl rfl, ?_⟩⟩
        rw [tot, gd.2.2]
        exact hQ _ (frM_tr fr1 frM_tp) (MM_tp h1 _ _)
      · subst q
        rw [if_pos (by rw [ej]; decide)] at hQ
        refine ⟨trivial, gd.1, trivial, c_good (by omega) ⟨Or.inl rfl, ?_⟩⟩
        rw [show nI (dbF (vcO A.1 A.2.1 A.2.2.1 s)) / _ = _ from gd.2.1]
        exact hQ _ (frM_tr fr1 frM_tp) (MM_tp h1 _ _)
    · have n0 : ¬ y = 0 := fun z => by
        rw [z] at hno
        revert hno; decide
      have n1 : ¬ y = 1 := fun z => by
        rw [z] at hno
        revert hno; decide
      rw [if_neg n0, if_neg n1] at hQ
      exact b_ne (a := 0) rfl z0 (by omega) (by omega) (fun q => absurd rfl q) (fun _ => ref _ (by omega) hQ)
  · rw [q0] at hQ
    exact b_eq (a := 0) rfl z0 (by omega) (by omega) (fun _ => ref _ (by omega) hQ) (fun q => absurd rfl q)
end CA5
