/-! acts: join, joinAll, drop, undo -/
section AC3
variable {N e m : Nat} {σ : ST} {Q : POST} {A : AS}
def st_join (A : AS) (x : Int32) : Int32 × AS := match inR x A.1.nh with
  | none => reA A 1
  | some h => match plc A.2.2.1 h with
    | some _ => reA A 5
    | none => (nI (ctS A.1 A.2.1 A.2.2.1 h), actA A A.2.1 (jnE A.1 A.2.1 A.2.2.1 h))
theorem V_join (v : VV A) (x : Int32) : VV (st_join A x).2 := by
  have hnh := v.s.1
  unfold st_join
  cases hx : inR x A.1.nh with
  | none => exact V_re v _
  | some h =>
    have hh := inR_s (by omega) hx
    simp only
    cases hp : plc A.2.2.1 h with
    | some p => exact V_re v _
    | none => exact V_act v (by omega) (v.r (by omega)) (vNE_jn v.s (v.r (by omega)) v.e hh.1 hp)
set_option maxRecDepth 100000 in
theorem C_join (v : VV A) (h : CC σ A) {x : Int32} (hm : 2500000 ≤ m) (hQ : ∀ τ, frC σ τ → CC τ (st_join A x).2 → Q (some (.inl (st_join A x).1)) τ) :
    wp N m (e + 8, 0) TX10_join 0 [H10, iA x] [] σ Q := by
  have hnh := v.s.1
  have hnj := v.e.1
  obtain ⟨n, rfl⟩ := il_ex (K := 60) (m := m) (by omega)
  unfold st_join at hQ
  refine ⟨trivial, c_isHearing h.s.1 (by omega) (by omega) (fun j hj ej qj => ?_) (fun q0 => ?_)⟩
  · rw [qj] at hQ
    simp only at hQ
    have q1 : 0 < A.1.nh := by omega
    refine b_ne (a := 1) rfl z0 (by omega) (by omega) (fun _ => ?_) (fun q => by omega)
    refine ⟨trivial, c_holds (e := e + 6) ej (by omega) (by omega) ?_⟩
    rw [h.e.2.2.2.1 j (by omega)]
    cases hp : plc A.2.2.1 j with
    | none =>
      rw [hp] at hQ
      rw [if_pos (show oI (-2) none < 0 from ne2)]
      refine b_eq (a := 0) rfl z0 (by omega) (by omega) (fun _ => ?_) (fun q => absurd rfl q)
      refine ⟨trivial, C_beginAct (e := e + 3) v h q1 (by omega) (fun τ fr1 h1 kn => ?_)⟩
      refine ⟨trivial, c_weave (k := 0) (e := e + 2) v.s (v.r q1) v.e h1.s (h1.r q1) h1.e h1.f hj hp ej (by omega) (fun τ2 o2 f2 e2 => ?_)⟩
      refine ⟨Or.inl rfl, ?_⟩
      exact hQ τ2 (frC_tr fr1 (frC_off o2 (by decide))) (CC_set h1 kn o2 (by decide) f2 (cRU_off o2 (by decide) (h1.r q1)) e2)
    | some p =>
      rw [hp] at hQ
      have hz := plc_some hp
      rw [if_neg (show ¬ oI (-2) (some p) < 0 from nI_pos (by omega))]
      refine b_eq (a := 1) rfl z0 (by omega) (by omega) (fun q => by omega) (fun _ => ?_)
      refine ⟨trivial, c_refused (by omega) ⟨Or.inl rfl, ?_⟩⟩
      exact hQ _ frC_tp (CC_tp h _ _)
  · rw [q0] at hQ
    refine b_ne (a := 0) rfl z0 (by omega) (by omega) (fun q => absurd rfl q) (fun _ => ?_)
    refine ⟨trivial, c_refused (by omega) ⟨Or.inl rfl, ?_⟩⟩
    exact hQ _ frC_tp (CC_tp h _ _)
set_option maxRecDepth 100000 in
theorem M_join (v : VV A) (h : MM σ A) {x : Int32} (hm : 2700000 ≤ m) (hQ : ∀ τ, frM σ τ → MM τ (st_join A x).2 → Q (some (.inl (st_join A x).1)) τ) :
    wp N m (e + 8, 0) TX11_join 0 [H11, iA x] [] σ Q := by
  have hnh := v.s.1
  have hnj := v.e.1
  obtain ⟨n, rfl⟩ := il_ex (K := 60) (m := m) (by omega)
  unfold st_join at hQ
  have h' := MM_th h (Int32.ofInt 0)
  have fr0 : frM σ (uI σ 11 0 1 0 (Int32.ofInt 0)) := frM_uI
  refine ⟨trivial, c_isHearingM h'.s.1 (by omega) (by omega) (fun j hj ej qj => ?_) (fun q0 => ?_)⟩
  · rw [qj] at hQ
    simp only at hQ
    have q1 : 0 < A.1.nh := by omega
    refine b_ne (a := 1) rfl z0 (by omega) (by omega) (fun _ => ?_) (fun q => by omega)
    refine ⟨trivial, c_placeOfM (jv := 27) rfl v.s v.e (h'.e q1) hj ej (by omega) ?_⟩
    cases hp : plc A.2.2.1 j with
    | none =>
      rw [hp] at hQ
      refine ⟨fun _ => ?_, fun q => absurd (show (-1 : Int32) = Int32.ofInt (-1) by rw [im1]) q⟩
      refine ⟨trivial, c_remembers v.s v.e (h'.r q1) (h'.e q1) v.p h'.p (by omega) (fun τ o1 a1 => ?_)⟩
      have h1 := MM_rem h' o1 a1
      refine ⟨trivial, c_joins (jv := 27) (e := e + 2) rfl (by decide) (by decide) v.s (v.r q1) v.e h1.s (h1.r q1) (h1.e q1) hj hp ej (by omega) (fun τ2 o2 r2 e2 => ?_)⟩
      refine ⟨trivial, c_good (by omega) ⟨Or.inl rfl, ?_⟩⟩
      exact hQ _ (frM_tr fr0 (frM_tr (frM_off o1 (by decide)) (frM_tr (frM_off o2 (by decide)) frM_tp))) (MM_act h1 o2 (by decide) r2 e2)
    | some p =>
      rw [hp] at hQ
      have hz := plc_some hp
      refine ⟨fun q => absurd q (b_n1 (z := p) (by omega)), fun _ => ?_⟩
      refine ⟨trivial, c_refusedM (by omega) ⟨Or.inl rfl, ?_⟩⟩
      exact hQ _ (frM_tr fr0 frM_tp) (MM_tp h' _ _)
  · rw [q0] at hQ
    refine b_ne (a := 0) rfl z0 (by omega) (by omega) (fun q => absurd rfl q) (fun _ => ?_)
    refine ⟨trivial, c_refusedM (by omega) ⟨Or.inl rfl, ?_⟩⟩
    exact hQ _ (frM_tr fr0 frM_tp) (MM_tp h' _ _)
def st_joinAll (A : AS) (x : Int32) : Int32 × AS := if A.1.nh = 0 then reA A 1 else match inB x 0 2 with
  | none => reA A 1
  | some k => (nI (jaT A.1 A.2.1 k (A.1.nh - A.2.2.1.nj) A.2.2.1).1, actA A A.2.1 (jaT A.1 A.2.1 k (A.1.nh - A.2.2.1.nj) A.2.2.1).2)
theorem V_joinAll (v : VV A) (x : Int32) : VV (st_joinAll A x).2 := by
  unfold st_joinAll
  by_cases q : A.1.nh = 0
  · rw [if_pos q]; exact V_re v _
  · rw [if_neg q]
    cases hx : inB x 0 2 with
    | none => exact V_re v _
    | some k => exact V_act v (by omega) (v.r (by omega)) (jaT_v v.s (v.r (by omega)) _ _ v.e)
set_option maxRecDepth 100000 in
theorem C_joinAll (v : VV A) (h : CC σ A) {x : Int32} (hm : 2500000 ≤ m) (hQ : ∀ τ, frC σ τ → CC τ (st_joinAll A x).2 → Q (some (.inl (st_joinAll A x).1)) τ) :
    wp N m (e + 8, 0) TX10_joinAll 0 [H10, iA x, none, none, none] [] σ Q := by
  have hnh := v.s.1
  have hnj := v.e.1
  obtain ⟨n, rfl⟩ := il_ex (K := 60) (m := m) (by omega)
  unfold st_joinAll at hQ
  have ref : ∀ m', 30 ≤ m' → (∀ τ, frC σ τ → CC τ (reA A 1).2 → Q (some (.inl (reA A 1).1)) τ) → wp N m' (e + 8, 0) TX10_joinAll 8 [H10, iA x, none, none, none] [] σ Q := by
    intro m' hm' hq
    obtain ⟨n2, rfl⟩ := il_ex (K := 5) (m := m') (by omega)
    refine ⟨trivial, c_refused (by omega) ⟨Or.inl rfl, ?_⟩⟩
    exact hq _ frC_tp (CC_tp h _ _)
  refine ⟨trivial, c_isTold h.s.1 (by omega) (by omega) (fun q0 => ?_) (fun q0 => ?_)⟩
  · rw [if_neg (by omega)] at hQ
    refine b_eq (a := 1) rfl z0 (by omega) (by omega) (fun q => by omega) (fun _ => ?_)
    refine ⟨trivial, c_withinB (a := 0) (b := 2) (by omega) (by omega) oi_0 i2 (by omega) (fun k k1 k2 ek qk => ?_) (fun qk => ?_)⟩
    · rw [qk] at hQ
      simp only at hQ
      refine b_ne (a := 1) rfl z0 (by omega) (by omega) (fun _ => ?_) (fun q => by omega)
      refine ⟨trivial, C_beginAct (e := e + 3) v h q0 (by omega) (fun τ fr1 h1 kn => ?_)⟩
      refine adv 12 2400000 (by omega) (fun n2 hn2 => ?_)
      have hl : τ.1 8 0 1 0 - τ.1 3 0 2 0 = nI (A.1.nh - A.2.2.1.nj) := by rw [h1.s.1, h1.e.2.1]; exact pk_sub hnj
      refine ja_loop (e := e + 2) (l := A.1.nh - A.2.2.1.nj) v.s (v.r q0) h1.s (h1.r q0) (by omega) k2 ek hl (A.1.nh - A.2.2.1.nj) 0 n2 A.2.2.1 0 τ _ _ v.e (by omega) (by omega) (by omega) (off_rf _ _) h1.f h1.e oi_0 oi_0 (fun τ' o2 f2 e2 => ?_)
      rw [Nat.zero_add]
      exact hQ τ' (frC_tr fr1 (frC_off o2 (by decide))) (CC_set h1 kn o2 (by decide) f2 (cRU_off o2 (by decide) (h1.r q0)) e2)
    · rw [qk] at hQ
      exact b_ne (a := 0) rfl z0 (by omega) (by omega) (fun q => absurd rfl q) (fun _ => ref _ (by omega) hQ)
  · rw [if_pos q0] at hQ
    exact b_eq (a := 0) rfl z0 (by omega) (by omega) (fun _ => ref _ (by omega) hQ) (fun q => absurd rfl q)
set_option maxRecDepth 100000 in
theorem M_joinAll (v : VV A) (h : MM σ A) {x : Int32} (hm : 2900000 ≤ m) (hQ : ∀ τ, frM σ τ → MM τ (st_joinAll A x).2 → Q (some (.inl (st_joinAll A x).1)) τ) :
    wp N m (e + 8, 0) TX11_joinAll 0 [H11, iA x, none, none] [] σ Q := by
  have hnh := v.s.1
  have hnj := v.e.1
  obtain ⟨n, rfl⟩ := il_ex (K := 60) (m := m) (by omega)
  unfold st_joinAll at hQ
  have h' := MM_th h (Int32.ofInt 0)
  have fr0 : frM σ (uI σ 11 0 1 0 (Int32.ofInt 0)) := frM_uI
  have ref : ∀ m', 30 ≤ m' → (∀ τ, frM σ τ → MM τ (reA A 1).2 → Q (some (.inl (reA A 1).1)) τ) → wp N m' (e + 8, 0) TX11_joinAll 11 [H11, iA x, none, none] [] (uI σ 11 0 1 0 (Int32.ofInt 0)) Q := by
    intro m' hm' hq
    obtain ⟨n2, rfl⟩ := il_ex (K := 5) (m := m') (by omega)
    refine ⟨trivial, c_refusedM (by omega) ⟨Or.inl rfl, ?_⟩⟩
    exact hq _ (frM_tr fr0 frM_tp) (MM_tp h' _ _)
  refine b_eq h'.s.1 z0 (by omega) (by omega) (fun q0 => ?_) (fun q0 => ?_)
  · rw [if_pos q0] at hQ
    exact ref _ (by omega) hQ
  · have q1 : 0 < A.1.nh := by omega
    rw [if_neg q0] at hQ
    refine ⟨trivial, c_inB (a := 0) (b := 2) (by omega) (by omega) oi_0 i2 (by omega) (fun k k1 k2 ek qk => ?_) (fun qk => ?_)⟩
    · rw [qk] at hQ
      simp only at hQ
      refine b_ne (a := 1) rfl z0 (by omega) (by omega) (fun _ => ?_) (fun q => by omega)
      refine ⟨trivial, c_remembers v.s v.e (h'.r q1) (h'.e q1) v.p h'.p (by omega) (fun τ o1 a1 => ?_)⟩
      have h1 := MM_rem h' o1 a1
      refine ⟨trivial, c_nextOne (e := e + 2) v.s (v.r q1) v.e h1.s (h1.r q1) (h1.e q1) k2 ek (by omega) (fun τ2 o2 => ?_)⟩
      have h2 := MM_of o2 (by decide) h1
      refine adv 1 2810000 (by omega) (fun n3 hn3 => ?_)
      refine jm_loop (e := e + 2) v.s (v.r q1) h2.s k2 ek (A.1.nh - A.2.2.1.nj) n3 A.2.2.1 0 τ2 _ _ v.e (by omega) (by omega) (off_rf _ _) (h2.r q1) (h2.e q1) oi_0 rfl (fun τ' o3 r3 e3 => ?_)
      rw [Nat.zero_add]
      exact hQ _ (frM_tr fr0 (frM_tr (frM_off o1 (by decide)) (frM_tr (frM_off o2 (by decide)) (frM_tr (frM_off o3 (by decide)) frM_tp)))) (MM_act h2 o3 (by decide) r3 e3)
    · rw [qk] at hQ
      exact b_ne (a := 0) rfl z0 (by omega) (by omega) (fun q => absurd rfl q) (fun _ => ref _ (by omega) hQ)
def st_drop (A : AS) (x : Int32) : Int32 × AS := match inR x A.1.nh with
  | none => reA A 1
  | some h => match plc A.2.2.1 h with
    | none => reA A 5
    | some _ => (nI (wwN A.1 A.2.1 A.2.2.1 h A.2.2.1.nj).ns, actA A A.2.1 (wwN A.1 A.2.1 A.2.2.1 h A.2.2.1.nj))
theorem V_drop (v : VV A) (x : Int32) : VV (st_drop A x).2 := by
  have hnh := v.s.1
  unfold st_drop
  cases hx : inR x A.1.nh with
  | none => exact V_re v _
  | some h =>
    have hh := inR_s (by omega) hx
    simp only
    cases hp : plc A.2.2.1 h with
    | none => exact V_re v _
    | some p => exact V_act v (by omega) (v.r (by omega)) (wwN_v v.s (v.r (by omega)) v.e _ (Nat.le_refl _))
set_option maxRecDepth 100000 in
theorem C_drop (v : VV A) (h : CC σ A) {x : Int32} (hm : 2500000 ≤ m) (hQ : ∀ τ, frC σ τ → CC τ (st_drop A x).2 → Q (some (.inl (st_drop A x).1)) τ) :
    wp N m (e + 8, 0) TX10_drop 0 [H10, iA x] [] σ Q := by
  have hnh := v.s.1
  have hnj := v.e.1
  obtain ⟨n, rfl⟩ := il_ex (K := 60) (m := m) (by omega)
  unfold st_drop at hQ
  refine ⟨trivial, c_isHearing h.s.1 (by omega) (by omega) (fun j hj ej qj => ?_) (fun q0 => ?_)⟩
  · rw [qj] at hQ
    simp only at hQ
    have q1 : 0 < A.1.nh := by omega
    refine b_ne (a := 1) rfl z0 (by omega) (by omega) (fun _ => ?_) (fun q => by omega)
    refine ⟨trivial, c_holds (e := e + 6) ej (by omega) (by omega) ?_⟩
    rw [h.e.2.2.2.1 j (by omega)]
    cases hp : plc A.2.2.1 j with
    | none =>
      rw [hp] at hQ
      rw [if_pos (show oI (-2) none < 0 from ne2)]
      refine b_ne (a := 0) rfl z0 (by omega) (by omega) (fun q => absurd rfl q) (fun _ => ?_)
      refine ⟨trivial, c_refused (by omega) ⟨Or.inl rfl, ?_⟩⟩
      exact hQ _ frC_tp (CC_tp h _ _)
    | some p =>
      rw [hp] at hQ
      have hz := plc_some hp
      have vw := wwN_v (S := A.1) (R := A.2.1) (E := A.2.2.1) (x := j) v.s (v.r q1) v.e A.2.2.1.nj (Nat.le_refl _)
      rw [if_neg (show ¬ oI (-2) (some p) < 0 from nI_pos (by omega))]
      refine b_ne (a := 1) rfl z0 (by omega) (by omega) (fun _ => ?_) (fun q => by omega)
      refine ⟨trivial, C_beginAct (e := e + 3) v h q1 (by omega) (fun τ fr1 h1 kn => ?_)⟩
      refine ⟨trivial, c_weaveWithout (k := 0) (k2 := 1) (e := e + 1) (by omega) v.s (v.r q1) v.e h1.s (h1.r q1) h1.e h1.f hj ej (by omega) (fun τ2 o2 f2 e2 => ?_)⟩
      have h2 : CC τ2 (actA A A.2.1 A.2.2.1) := CC_of (A := actA A A.2.1 A.2.2.1) o2 (by decide) f2 h1
      have kn2 : τ2.1 4 0 2 0 = 0 := by rw [off_1 o2 (by decide)]; exact kn
      refine ⟨trivial, c_netCopy (k := 0) (k2 := 1) (e := e + 6) (by omega) v.s vw e2 (by omega) (fun τ3 o3 e3 => ?_)⟩
      refine ⟨Or.inl rfl, ?_⟩
      rw [show τ3.1 3 0 (0 + 1) 0 = _ from e3.1]
      exact hQ τ3 (frC_tr fr1 (frC_tr (frC_off o2 (by decide)) (frC_off o3 (by decide)))) (CC_set h2 kn2 o3 (by decide) (cFA_eq (o3 2 0 3 (by decide)).1 h2.f) (cRU_off o3 (by decide) (h2.r q1)) e3)
  · rw [q0] at hQ
    refine b_ne (a := 0) rfl z0 (by omega) (by omega) (fun q => absurd rfl q) (fun _ => ?_)
    refine ⟨trivial, c_refused (by omega) ⟨Or.inl rfl, ?_⟩⟩
    exact hQ _ frC_tp (CC_tp h _ _)
set_option maxRecDepth 100000 in
theorem M_drop (v : VV A) (h : MM σ A) {x : Int32} (hm : 2900000 ≤ m) (hQ : ∀ τ, frM σ τ → MM τ (st_drop A x).2 → Q (some (.inl (st_drop A x).1)) τ) :
    wp N m (e + 8, 0) TX11_drop 0 [H11, iA x] [] σ Q := by
  have hnh := v.s.1
  have hnj := v.e.1
  obtain ⟨n, rfl⟩ := il_ex (K := 60) (m := m) (by omega)
  unfold st_drop at hQ
  have h' := MM_th h (Int32.ofInt 0)
  have fr0 : frM σ (uI σ 11 0 1 0 (Int32.ofInt 0)) := frM_uI
  refine ⟨trivial, c_isHearingM h'.s.1 (by omega) (by omega) (fun j hj ej qj => ?_) (fun q0 => ?_)⟩
  · rw [qj] at hQ
    simp only at hQ
    have q1 : 0 < A.1.nh := by omega
    refine b_ne (a := 1) rfl z0 (by omega) (by omega) (fun _ => ?_) (fun q => by omega)
    refine ⟨trivial, c_placeOfM (jv := 27) rfl v.s v.e (h'.e q1) hj ej (by omega) ?_⟩
    cases hp : plc A.2.2.1 j with
    | none =>
      rw [hp] at hQ
      refine ⟨fun q => absurd (show (-1 : Int32) = Int32.ofInt (-1) by rw [im1]) q, fun _ => ?_⟩
      refine ⟨trivial, c_refusedM (by omega) ⟨Or.inl rfl, ?_⟩⟩
      exact hQ _ (frM_tr fr0 frM_tp) (MM_tp h' _ _)
    | some p =>
      rw [hp] at hQ
      have hz := plc_some hp
      have vw := wwN_v (S := A.1) (R := A.2.1) (E := A.2.2.1) (x := j) v.s (v.r q1) v.e A.2.2.1.nj (Nat.le_refl _)
      have hns2 := vNE_ns v.s vw
      refine ⟨fun _ => ?_, fun q => absurd (b_n1 (z := p) (by omega)) q⟩
      refine ⟨trivial, c_dropsOnPaper (e := e + 1) v.s (v.r q1) v.e h'.s (h'.r q1) (h'.e q1) hj ej (by omega) (fun τ1 o1 r1 n1 => ?_)⟩
      have h1 := MM_of o1 (by decide) h'
      refine ⟨trivial, c_acted (e := e + 6) v.s v.e (h1.r q1) (h1.e q1) vw r1 n1 v.p h1.p (by omega) (fun τ2 o2 r2 n2 a2 => ?_)⟩
      refine ⟨il_in i21 (by omega) (by omega), trivial, c_good (by omega) ⟨Or.inl rfl, ?_⟩⟩
      rw [show τ2.1 11 0 (26 + 1) (Int8.ofInt 21).toInt32.toNatClampNeg = nI (wwN A.1 A.2.1 A.2.2.1 j A.2.2.1.nj).ns by rw [il_cl i21 (by omega)]; exact n2.2.1]
      refine hQ _ (frM_tr fr0 (frM_tr (frM_off o1 (by decide)) (frM_tr (frM_off o2 (by decide)) frM_tp))) (MM_tp (A := ⟨A.1, A.2.1, wwN A.1 A.2.1 A.2.2.1 j A.2.2.1.nj, min (A.2.2.2.1 + 1) 10, pcI A.2.1 A.2.2.1 A.2.2.2.2.1, A.2.2.2.2.2.1, A.2.2.2.2.2.2.1, A.2.2.2.2.2.2.2.1, A.2.2.2.2.2.2.2.2.1, A.2.2.2.2.2.2.2.2.2.1, A.2.2.2.2.2.2.2.2.2.2⟩) ?_ 0 (-1))
      have k : ∀ j, (j ≠ 29 ∧ j ≠ 30 ∧ j ≠ 27) → τ2.1 11 0 j = τ1.1 11 0 j ∧ τ2.2 11 0 j = τ1.2 11 0 j := fun j hj => o2 11 0 j (fun z => by simp at z; omega)
      refine ⟨?_, fun _ => r2, fun _ => n2, a2, ?_, ?_, ?_⟩
      · have := h1.s
        unfold mSP at *
        rw [(k 25 (by omega)).1, (k 26 (by omega)).1, (k 21 (by omega)).1, (k 22 (by omega)).1, (k 23 (by omega)).1, (k 17 (by omega)).2]
        exact this
      · rw [(k 5 (by omega)).1, (k 4 (by omega)).1]; exact h1.t
      · have := h1.w
        unfold mWR at *
        rw [(k 48 (by omega)).1, (k 47 (by omega)).1]
        exact this
      · rw [(k 2 (by omega)).1, (k 8 (by omega)).1, (k 3 (by omega)).1]; exact h1.m
  · rw [q0] at hQ
    refine b_ne (a := 0) rfl z0 (by omega) (by omega) (fun q => absurd rfl q) (fun _ => ?_)
    refine ⟨trivial, c_refusedM (by omega) ⟨Or.inl rfl, ?_⟩⟩
    exact hQ _ (frM_tr fr0 frM_tp) (MM_tp h' _ _)
def st_undo (A : AS) : Int32 × AS := if A.1.nh = 0 then reA A 1 else if A.2.2.2.1 = 0 then reA A 5 else (nI (A.2.2.2.1 - 1), ⟨A.1, (A.2.2.2.2.1 0).1, (A.2.2.2.2.1 0).2, A.2.2.2.1 - 1, fun i => A.2.2.2.2.1 (i + 1), A.2.2.2.2.2.1, A.2.2.2.2.2.2.1, A.2.2.2.2.2.2.2.1, 0, A.2.2.2.2.2.2.2.2.2.1, -1⟩)
theorem V_undo (v : VV A) : VV (st_undo A).2 := by
  unfold st_undo
  by_cases q : A.1.nh = 0
  · rw [if_pos q]; exact V_re v _
  · rw [if_neg q]
    by_cases q2 : A.2.2.2.1 = 0
    · rw [if_pos q2]; exact V_re v _
    · rw [if_neg q2]
      have p0 := v.p.2 0 (by omega)
      have pc := v.p.1
      exact ⟨v.s, fun _ => p0.1, p0.2, fun z => absurd z q, ⟨by show A.2.2.2.1 - 1 ≤ 10; omega, fun i hi => v.p.2 (i + 1) (by have hi : i < A.2.2.2.1 - 1 := hi; omega)⟩, v.t, v.w⟩
set_option maxRecDepth 100000 in
theorem C_undo (v : VV A) (h : CC σ A) (hm : 40000 ≤ m) (hQ : ∀ τ, frC σ τ → CC τ (st_undo A).2 → Q (some (.inl (st_undo A).1)) τ) :
    wp N m (e + 8, 0) TX10_undo 0 [H10] [] σ Q := by
  have hnh := v.s.1
  have pc := v.p.1
  obtain ⟨n, rfl⟩ := il_ex (K := 60) (m := m) (by omega)
  unfold st_undo at hQ
  refine ⟨trivial, c_isTold h.s.1 (by omega) (by omega) (fun q0 => ?_) (fun q0 => ?_)⟩
  · rw [if_neg (by omega)] at hQ
    have hc : σ.1 0 0 1 0 = nI A.2.2.2.1 := by obtain ⟨_, _, z, _⟩ := h.p; exact z
    refine b_ne (a := 1) rfl z0 (by omega) (by omega) (fun _ => ?_) (fun q => by omega)
    refine b_gt hc z0 (by omega) (by omega) (fun q => ?_) (fun q => ?_)
    · rw [if_neg (by omega)] at hQ
      have pp := h.p
      have vp := v.p
      rw [show A.2.2.2.1 = (A.2.2.2.1 - 1) + 1 by omega] at pp vp
      refine ⟨trivial, c_takeBack (e := e + 4) v.s (c := A.2.2.2.1 - 1) (by omega) vp pp (by omega) (fun τ o1 r1 e1 a1 => ?_)⟩
      refine ⟨trivial, ?_⟩
      refine ⟨Or.inl rfl, ?_⟩
      have k : ∀ c' k' j', ¬ (c' = 0 ∨ (c' = 7 ∧ k' = 0) ∨ (c' = 3 ∧ k' = 0)) → τ.1 c' k' j' = σ.1 c' k' j' := fun c' k' j' q => (o1 c' k' j' (fun z => q (by simp at z; omega))).1
      have k2 : ∀ c' k' j', ¬ (c' = 4 ∧ k' = 0 ∧ j' = 2) → (uI τ 4 0 2 0 (Int32.ofInt 0)).1 c' k' j' = τ.1 c' k' j' := fun c' k' j' q => (uI_off τ 4 0 2 0 (Int32.ofInt 0) c' k' j' q).1
      have k3 : ∀ c' k' j', ¬ (c' = 0 ∨ (c' = 7 ∧ k' = 0) ∨ (c' = 3 ∧ k' = 0)) → ¬ (c' = 4 ∧ k' = 0 ∧ j' = 2) → (uI τ 4 0 2 0 (Int32.ofInt 0)).1 c' k' j' = σ.1 c' k' j' := fun c' k' j' a b => (k2 c' k' j' b).trans (k c' k' j' a)
      have cnt : (uI τ 4 0 2 0 (Int32.ofInt 0)).1 0 0 (0 + 1) 0 = nI (A.2.2.2.1 - 1) := by
        show (uI τ 4 0 2 0 (Int32.ofInt 0)).1 0 0 1 0 = _
        rw [uI_nr _ _ _ _ _ _ (by decide)]
        obtain ⟨_, _, z, _⟩ := a1; exact z
      have h2 : CC (uI τ 4 0 2 0 (Int32.ofInt 0)) ⟨A.1, (A.2.2.2.2.1 0).1, (A.2.2.2.2.1 0).2, A.2.2.2.1 - 1, fun i => A.2.2.2.2.1 (i + 1), A.2.2.2.2.2.1, A.2.2.2.2.2.2.1, A.2.2.2.2.2.2.2.1, A.2.2.2.2.2.2.2.2.1, A.2.2.2.2.2.2.2.2.2.1, A.2.2.2.2.2.2.2.2.2.2⟩ := by
        refine ⟨cSP_eq (fun j => k3 8 0 j (by omega) (by omega)) h.s, fun _ => cRU_eq (fun j => k2 7 0 j (by omega)) r1, cNE_eq (fun j => k2 3 0 j (by omega)) e1, cAC_eq (fun j => k2 0 0 j (by omega)) a1, cFA_eq (k3 2 0 3 (by omega) (by omega)) h.f, cNE_eq (fun j => k3 3 2 j (by omega) (by omega)) h.o, Or.inl ?_, ?_, cWR_eq (k3 10 0 2 (by omega) (by omega)) (k3 10 0 17 (by omega) (by omega)) h.w, ?_⟩
        · rw [uI_at]; rfl
        · rw [k3 10 0 16 (by omega) (by omega), k3 10 0 1 (by omega) (by omega)]; exact h.t
        · rw [k3 10 0 18 (by omega) (by omega), k3 10 0 19 (by omega) (by omega), k3 10 0 20 (by omega) (by omega)]; exact h.m
      refine ⟨trivial, c_answered (by omega) ⟨Or.inl rfl, ?_⟩⟩
      rw [cnt]
      exact hQ _ (frC_tr (frC_off o1 (by decide)) (frC_tr (frC_uI (by omega)) frC_tp)) (CC_tp h2 0 (-1))
    · rw [if_pos (by omega)] at hQ
      refine ⟨trivial, c_refused (by omega) ⟨Or.inl rfl, ?_⟩⟩
      exact hQ _ frC_tp (CC_tp h _ _)
  · rw [if_pos q0] at hQ
    refine b_ne (a := 0) rfl z0 (by omega) (by omega) (fun q => absurd rfl q) (fun _ => ?_)
    refine ⟨trivial, c_refused (by omega) ⟨Or.inl rfl, ?_⟩⟩
    exact hQ _ frC_tp (CC_tp h _ _)
set_option maxRecDepth 100000 in
theorem M_undo (v : VV A) (h : MM σ A) (hm : 10000 ≤ m) (hQ : ∀ τ, frM σ τ → MM τ (st_undo A).2 → Q (some (.inl (st_undo A).1)) τ) :
    wp N m (e + 8, 0) TX11_undo 0 [H11, none] [] σ Q := by
  have hnh := v.s.1
  have pc := v.p.1
  obtain ⟨n, rfl⟩ := il_ex (K := 60) (m := m) (by omega)
  unfold st_undo at hQ
  have h' := MM_th h (Int32.ofInt 0)
  have fr0 : frM σ (uI σ 11 0 1 0 (Int32.ofInt 0)) := frM_uI
  refine b_ne h'.s.1 z0 (by omega) (by omega) (fun q0 => ?_) (fun q0 => ?_)
  · rw [if_neg q0] at hQ
    refine b_ne h'.p.1 z0 (by omega) (by omega) (fun q => ?_) (fun q => ?_)
    · rw [if_neg q] at hQ
      have vp0 := v.p.2 0 (by omega)
      have o1 : off [(11, 0, 30)] (uI σ 11 0 1 0 (Int32.ofInt 0)) (uI (uI σ 11 0 1 0 (Int32.ofInt 0)) 11 0 30 0 ((uI σ 11 0 1 0 (Int32.ofInt 0)).1 11 0 30 0 - Int32.ofInt 1)) := off_uI (off_rf _ _) (by decide)
      have g30 : (uI (uI σ 11 0 1 0 (Int32.ofInt 0)) 11 0 30 0 ((uI σ 11 0 1 0 (Int32.ofInt 0)).1 11 0 30 0 - Int32.ofInt 1)).1 11 0 30 0 = nI (A.2.2.2.1 - 1) := by
        rw [uI_at]; exact il_sub1 (by rw [h'.p.1, show A.2.2.2.1 - 1 + 1 = A.2.2.2.1 by omega])
      refine adv 8 8000 (by omega) (fun n2 hn2 => ?_)
      refine ud_loop (e := e + 7) (σ := uI (uI σ 11 0 1 0 (Int32.ofInt 0)) 11 0 30 0 ((uI σ 11 0 1 0 (Int32.ofInt 0)).1 11 0 30 0 - Int32.ofInt 1)) (a := A.2.2.2.1 - 1) (by omega) g30 ?_ 322 0 n2 _ _ (by omega) (by omega) (off_rf _ _) (fun z hz => absurd hz (Nat.not_lt_zero _)) oi_0
      intro τ o2 r2
      have fr1 : frM σ τ := frM_tr fr0 (frM_tr (frM_off o1 (by decide)) (frM_off o2 (by decide)))
      have k : ∀ j, (j ≠ 30 ∧ j ≠ 27) → τ.1 11 0 j = (uI σ 11 0 1 0 (Int32.ofInt 0)).1 11 0 j ∧ τ.2 11 0 j = (uI σ 11 0 1 0 (Int32.ofInt 0)).2 11 0 j := fun j hj => ⟨((o2 11 0 j (fun z => by simp at z; omega)).1).trans (o1 11 0 j (fun z => by simp at z; omega)).1, ((o2 11 0 j (fun z => by simp at z; omega)).2).trans (o1 11 0 j (fun z => by simp at z; omega)).2⟩
      have pa := h'.p.2 0 (by omega)
      have r2' : ∀ z, z < 322 → τ.1 11 0 27 z = (uI σ 11 0 1 0 (Int32.ofInt 0)).1 11 0 29 (322 * (A.2.2.2.1 - 1 - 0) + z) := fun z hz => by
        rw [r2 z hz, off_1 o1 (by decide)]; rfl
      refine hQ _ (frM_tr fr1 frM_tp) (MM_tp (A := ⟨A.1, (A.2.2.2.2.1 0).1, (A.2.2.2.2.1 0).2, A.2.2.2.1 - 1, fun i => A.2.2.2.2.1 (i + 1), A.2.2.2.2.2.1, A.2.2.2.2.2.2.1, A.2.2.2.2.2.2.2.1, A.2.2.2.2.2.2.2.2.1, A.2.2.2.2.2.2.2.2.2.1, A.2.2.2.2.2.2.2.2.2.2⟩) ⟨?_, fun _ => mRU_e2 v.s r2' pa.1, fun _ => mNE_eq v.s vp0.2 r2' pa.2, ⟨?_, fun i hi => ?_⟩, ?_, ?_, ?_⟩ 0 (-1))
      · have := h'.s
        unfold mSP at *
        rw [(k 25 (by omega)).1, (k 26 (by omega)).1, (k 21 (by omega)).1, (k 22 (by omega)).1, (k 23 (by omega)).1, (k 17 (by omega)).2]
        exact this
      · rw [off_1 o2 (by decide)]; exact g30
      · have hi : i < A.2.2.2.1 - 1 := hi
        have := h'.p.2 (i + 1) (by omega)
        rw [show A.2.2.2.1 - 1 - (i + 1) = A.2.2.2.1 - 1 - 1 - i by omega] at this
        show mRU (fun z => τ.1 11 0 29 (322 * (A.2.2.2.1 - 1 - 1 - i) + z)) _ _ ∧ mNE (fun z => τ.1 11 0 29 (322 * (A.2.2.2.1 - 1 - 1 - i) + z)) _
        rw [(k 29 (by omega)).1]
        exact this
      · rw [(k 5 (by omega)).1, (k 4 (by omega)).1]; exact h'.t
      · have := h'.w
        unfold mWR at *
        rw [(k 48 (by omega)).1, (k 47 (by omega)).1]
        exact this
      · rw [(k 2 (by omega)).1, (k 8 (by omega)).1, (k 3 (by omega)).1]; exact h'.m
    · rw [if_pos q] at hQ
      refine ⟨trivial, c_refusedM (by omega) ⟨Or.inl rfl, ?_⟩⟩
      exact hQ _ (frM_tr fr0 frM_tp) (MM_tp h' _ _)
  · rw [if_pos q0] at hQ
    refine ⟨trivial, c_refusedM (by omega) ⟨Or.inl rfl, ?_⟩⟩
    exact hQ _ (frM_tr fr0 frM_tp) (MM_tp h' _ _)
end AC3
