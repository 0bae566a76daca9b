/-! without; what acts begin with -/
section CA8
variable {N e m : Nat} {σ : ST} {Q : POST} {A : AS}
noncomputable def st_without (A : AS) (x : Int32) : Int32 × AS := match inR x A.1.nh with
  | none => reA A 1
  | some h => match plc A.2.2.1 h with
    | none => reA A 5
    | some _ => goA A (nI (lev (hwF A.1 A.2.1 A.2.2.1) (hwF A.1 A.2.1 (wwN A.1 A.2.1 A.2.2.1 h A.2.2.1.nj)) (hdC A.1 A.2.1 A.2.2.1 A.2.2.1.ns) (hdC A.1 A.2.1 (wwN A.1 A.2.1 A.2.2.1 h A.2.2.1.nj) (wwN A.1 A.2.1 A.2.2.1 h A.2.2.1.nj).ns)))
theorem V_without (v : VV A) (x : Int32) : VV (st_without A x).2 := by
  unfold st_without
  cases inR x A.1.nh with
  | none => exact V_re v _
  | some w =>
    simp only
    cases plc A.2.2.1 w with
    | none => exact V_re v _
    | some u => exact V_go v _
set_option maxRecDepth 100000 in
theorem C_without (v : VV A) (h : CC σ A) {x : Int32} (hm : 2500000 ≤ m) (hQ : ∀ τ, frC σ τ → CC τ (st_without A x).2 → Q (some (.inl (st_without A x).1)) τ) :
    wp N m (e + 8, 0) TX10_without 0 [H10, iA x, none] [] σ Q := by
  have hnh := v.s.1
  have hnj := v.e.1
  have hns := vNE_ns v.s v.e
  obtain ⟨n, rfl⟩ := il_ex (K := 90) (m := m) (by omega)
  unfold st_without at hQ
  refine ⟨trivial, c_isHearing h.s.1 (by omega) (by omega) (fun j hj ej qj => ?_) (fun q0 => ?_)⟩
  · rw [qj] at hQ
    simp only at hQ
    have q1 : 0 < A.1.nh := by omega
    refine b_ne (a := 1) rfl z0 (by omega) (by omega) (fun _ => ?_) (fun q => by omega)
    refine ⟨trivial, c_holds (e := e + 6) ej (by omega) (by omega) ?_⟩
    rw [h.e.2.2.2.1 j (by omega)]
    cases hp : plc A.2.2.1 j with
    | none =>
      rw [hp] at hQ
      rw [if_pos (show oI (-2) none < 0 from ne2)]
      refine b_ne (a := 0) rfl z0 (by omega) (by omega) (fun q => absurd rfl q) (fun _ => ?_)
      refine ⟨trivial, c_refused (by omega) ⟨Or.inl rfl, ?_⟩⟩
      exact hQ _ frC_tp (CC_tp h _ _)
    | some p =>
      rw [hp] at hQ
      simp only at hQ
      have hz := plc_some hp
      have hd := hdC_le A.1 A.2.1 A.2.2.1 A.2.2.1.ns
      have vw := wwN_v (S := A.1) (R := A.2.1) (E := A.2.2.1) (x := j) v.s (v.r q1) v.e A.2.2.1.nj (Nat.le_refl _)
      have hns2 := vNE_ns v.s vw
      have hd2 := hdC_le A.1 A.2.1 (wwN A.1 A.2.1 A.2.2.1 j A.2.2.1.nj) (wwN A.1 A.2.1 A.2.2.1 j A.2.2.1.nj).ns
      rw [if_neg (show ¬ oI (-2) (some p) < 0 from nI_pos (by omega))]
      refine b_ne (a := 1) rfl z0 (by omega) (by omega) (fun _ => ?_) (fun q => by omega)
      refine ⟨trivial, c_listHeard (e := e + 4) v.s (v.r q1) v.e h.s (h.r q1) h.e (by omega) (fun τ o1 c1 => ?_)⟩
      have h1 := CC_o2 o1 (by decide) (by decide) h
      refine ⟨by decide, by decide, by decide, by decide, by decide, ?_⟩
      have o2 : off [(10, 0, 4)] τ (cpI τ 1 0 4 10 0 4 0 0 60) := off_uR (off_rf _ _) (by decide)
      have r2 : ∀ z, z < 60 → (cpI τ 1 0 4 10 0 4 0 0 60).1 10 0 4 z = τ.1 1 0 4 z := fun z hz => by unfold cpI; rw [uR_at, cpy0 hz]
      have h2 := CC_o2 o2 (by decide) (by decide) h1
      have x2 : τ.1 1 0 (2 + 1) 0 = nI (hdC A.1 A.2.1 A.2.2.1 A.2.2.1.ns) := c1.1
      have fr2 : frC σ (cpI τ 1 0 4 10 0 4 0 0 60) := frC_tr (frC_off o1 (by decide)) (frC_off o2 (by decide))
      generalize hτ2 : cpI τ 1 0 4 10 0 4 0 0 60 = τ2 at *
      show wp N _ (e + 8, 0) TX10_without 35 [H10, iA x, iA (τ.1 1 0 (2 + 1) 0)] [] (cpI τ 1 0 4 10 0 4 0 0 60) Q
      rw [hτ2]
      refine ⟨trivial, c_weaveWithout (k := 0) (k2 := 1) (by omega) v.s (v.r q1) v.e h2.s (h2.r q1) h2.e h2.f hj ej (by omega) (fun τ3 o3 f3 w3 => ?_)⟩
      have h3 := CC_of o3 (by decide) f3 h2
      refine ⟨trivial, c_listHeard (k := 1) (e := e + 4) v.s (v.r q1) vw h3.s (h3.r q1) w3 (by omega) (fun τ4 o4 c4 => ?_)⟩
      have h4 := CC_o2 o4 (by decide) (by decide) h3
      refine ⟨trivial, c_changes (e := e + 6) (L1 := 60) (L2 := 60) rfl rfl (by decide) (by decide) (lf := 0) (rg := 0) (ln := hdC A.1 A.2.1 A.2.2.1 A.2.2.1.ns) (rn := hdC A.1 A.2.1 (wwN A.1 A.2.1 A.2.2.1 j A.2.2.1.nj) (wwN A.1 A.2.1 A.2.2.1 j A.2.2.1.nj).ns) (by omega) (by omega) (by omega) (by omega) (by omega) (by omega) oi_0 x2 oi_0 c4.1 (by omega) (fun τ5 o5 => ?_)⟩
      refine ⟨trivial, c_answered (by omega) ⟨Or.inl rfl, ?_⟩⟩
      rw [lev_congr (a' := hwF A.1 A.2.1 A.2.2.1) (b' := hwF A.1 A.2.1 (wwN A.1 A.2.1 A.2.2.1 j A.2.2.1.nj)) _ _ (fun z hz => by
        rw [Nat.zero_add, off_1 o4 (by decide), off_1 o3 (by decide), r2 z (by omega)]
        exact hdR_eq c1.2.1 (hwF_ok _ _ _) hz) (fun z hz => by rw [Nat.zero_add]; exact hdR_eq c4.2.1 (hwF_ok _ _ _) hz)]
      exact hQ _ (frC_tr fr2 (frC_tr (frC_off o3 (by decide)) (frC_tr (frC_off o4 (by decide)) (frC_tr (frC_off o5 (by decide)) frC_tp)))) (CC_tp (CC_o2 o5 (by decide) (by decide) h4) _ _)
  · rw [q0] at hQ
    refine b_ne (a := 0) rfl z0 (by omega) (by omega) (fun q => absurd rfl q) (fun _ => ?_)
    refine ⟨trivial, c_refused (by omega) ⟨Or.inl rfl, ?_⟩⟩
    exact hQ _ frC_tp (CC_tp h _ _)
set_option maxRecDepth 100000 in
theorem wo2_loop {M : Nat} {l : Nat} (hl : l ≤ 60) {x1 x2 x3 : Int32} (e2 : x2 = nI l)
    (K : ∀ (m : Nat) (τ : ST) (x4 : Int32), M ≤ m → off [(11, 0, 33)] σ τ → (∀ z, z < l → τ.1 11 0 33 z = σ.1 11 0 43 z) → wp N m (e, 0) TX11_without 53 [H11, iA x1, iA x2, iA x3, iA x4] [] τ Q) :
    ∀ (r k m : Nat) (τ : ST) (x4 : Int32), k + r = l → 20 * r + 20 + M ≤ m → off [(11, 0, 33)] σ τ → (∀ z, z < k → τ.1 11 0 33 z = σ.1 11 0 43 z) → x4 = nI k →
      wp N m (e, 0) TX11_without 40 [H11, iA x1, iA x2, iA x3, iA x4] [] τ Q := by
  intro r
  induction r with
  | zero =>
    intro k m τ x4 hr hm ho hz e4
    obtain ⟨n, rfl⟩ := il_ex (K := 3) (m := m) (by omega)
    obtain rfl : k = l := by omega
    refine b_ge e4 e2 (by omega) (by omega) (fun _ => ?_) (fun q => by omega)
    exact K _ τ _ (by omega) ho hz
  | succ r ih =>
    intro k m τ x4 hr hm ho hz e4
    obtain ⟨n, rfl⟩ := il_ex (K := 15) (m := m) (by omega)
    refine b_ge e4 e2 (by omega) (by omega) (fun q => by omega) (fun _ => ?_)
    refine ⟨il_in e4 (by omega) (by omega), il_in e4 (by omega) (by omega), ?_⟩
    rw [il_cl e4 (by omega)]
    refine ⟨trivial, ih (k + 1) _ _ _ (by omega) (by omega) (off_uI ho (by decide)) (fun z hz' => ?_) (il_inc e4)⟩
    rw [uI_if]
    by_cases q : z = k
    · rw [if_pos q, q]
      show τ.1 11 0 43 k = _
      rw [off_1 ho (by decide)]
    · rw [if_neg q]; exact hz z (by omega)
set_option maxRecDepth 100000 in
theorem M_without (v : VV A) (h : MM σ A) {x : Int32} (hm : 2900000 ≤ m) (hQ : ∀ τ, frM σ τ → MM τ (st_without A x).2 → Q (some (.inl (st_without A x).1)) τ) :
    wp N m (e + 8, 0) TX11_without 0 [H11, iA x, none, none, none] [] σ Q := by
  have hnh := v.s.1
  have hnj := v.e.1
  have hns := vNE_ns v.s v.e
  obtain ⟨n, rfl⟩ := il_ex (K := 60) (m := m) (by omega)
  unfold st_without at hQ
  have h' := MM_th h (Int32.ofInt 0)
  have fr0 : frM σ (uI σ 11 0 1 0 (Int32.ofInt 0)) := frM_uI
  refine ⟨trivial, c_isHearingM h'.s.1 (by omega) (by omega) (fun j hj ej qj => ?_) (fun q0 => ?_)⟩
  · rw [qj] at hQ
    simp only at hQ
    have q1 : 0 < A.1.nh := by omega
    refine b_ne (a := 1) rfl z0 (by omega) (by omega) (fun _ => ?_) (fun q => by omega)
    refine ⟨trivial, c_placeOfM (jv := 27) rfl v.s v.e (h'.e q1) hj ej (by omega) ?_⟩
    cases hp : plc A.2.2.1 j with
    | none =>
      rw [hp] at hQ
      refine ⟨fun q => absurd (show (-1 : Int32) = Int32.ofInt (-1) by rw [im1]) q, fun _ => ?_⟩
      refine ⟨trivial, c_refusedM (by omega) ⟨Or.inl rfl, ?_⟩⟩
      exact hQ _ (frM_tr fr0 frM_tp) (MM_tp h' _ _)
    | some p =>
      rw [hp] at hQ
      simp only at hQ
      have hz := plc_some hp
      have hd := hdC_le A.1 A.2.1 A.2.2.1 A.2.2.1.ns
      have vw := wwN_v (S := A.1) (R := A.2.1) (E := A.2.2.1) (x := j) v.s (v.r q1) v.e A.2.2.1.nj (Nat.le_refl _)
      have hns2 := vNE_ns v.s vw
      have hd2 := hdC_le A.1 A.2.1 (wwN A.1 A.2.1 A.2.2.1 j A.2.2.1.nj) (wwN A.1 A.2.1 A.2.2.1 j A.2.2.1.nj).ns
      refine ⟨fun _ => ?_, fun q => absurd (b_n1 (z := p) (by omega)) q⟩
      refine ⟨trivial, c_dropsOnPaper (e := e + 1) v.s (v.r q1) v.e h'.s (h'.r q1) (h'.e q1) hj ej (by omega) (fun τ1 o1 r1 n1 => ?_)⟩
      have h1 := MM_of o1 (by decide) h'
      refine ⟨trivial, c_heardBy (e := e + 4) (jv := 28) (ji := 43) rfl rfl (by decide) (by decide) (by decide) (by decide) v.s (v.r q1) vw h1.s r1 n1 (by omega) (fun τ2 o2 d2 => ?_)⟩
      have h2 := MM_of o2 (by decide) h1
      refine ⟨trivial, c_heardBy (e := e + 4) (jv := 27) (ji := 32) rfl rfl (by decide) (by decide) (by decide) (by decide) v.s (v.r q1) v.e h2.s (h2.r q1) (h2.e q1) (by omega) (fun τ3 o3 d3 => ?_)⟩
      have h3 := MM_of o3 (by decide) h2
      refine adv 3 2800000 (by omega) (fun n4 hn4 => ?_)
      refine wo2_loop (e := e + 8) (M := 1300000) (l := hdC A.1 A.2.1 (wwN A.1 A.2.1 A.2.2.1 j A.2.2.1.nj) (wwN A.1 A.2.1 A.2.2.1 j A.2.2.1.nj).ns) (by omega) rfl ?_ (hdC A.1 A.2.1 (wwN A.1 A.2.1 A.2.2.1 j A.2.2.1.nj) (wwN A.1 A.2.1 A.2.2.1 j A.2.2.1.nj).ns) 0 n4 τ3 _ (by omega) (by omega) (off_rf _ _) (fun z hz => absurd hz (Nat.not_lt_zero _)) oi_0
      intro m5 τ4 x4 hm5 o4 r4
      have h4 := MM_of o4 (by decide) h3
      obtain ⟨n5, rfl⟩ := il_ex (K := 10) (m := m5) (by omega)
      refine ⟨trivial, c_apart (by omega) (by omega) rfl rfl (by omega) (fun τ5 o5 => ?_)⟩
      refine ⟨trivial, c_good (by omega) ⟨Or.inl rfl, ?_⟩⟩
      rw [lev_congr (a' := hwF A.1 A.2.1 A.2.2.1) (b' := hwF A.1 A.2.1 (wwN A.1 A.2.1 A.2.2.1 j A.2.2.1.nj)) _ _ (fun z hz => by
        rw [off_1 o4 (by decide)]
        exact hdR_eq d3 (hwF_ok _ _ _) hz) (fun z hz => by
        rw [r4 z hz, off_1 o3 (by decide)]
        exact hdR_eq d2 (hwF_ok _ _ _) hz)]
      exact hQ _ (frM_tr fr0 (frM_tr (frM_off o1 (by decide)) (frM_tr (frM_off o2 (by decide)) (frM_tr (frM_off o3 (by decide)) (frM_tr (frM_off o4 (by decide)) (frM_tr (frM_off o5 (by decide)) frM_tp)))))) (MM_tp (MM_of o5 (by decide) h4) _ _)
  · rw [q0] at hQ
    refine b_ne (a := 0) rfl z0 (by omega) (by omega) (fun q => absurd rfl q) (fun _ => ?_)
    refine ⟨trivial, c_refusedM (by omega) ⟨Or.inl rfl, ?_⟩⟩
    exact hQ _ (frM_tr fr0 frM_tp) (MM_tp h' _ _)
end CA8
