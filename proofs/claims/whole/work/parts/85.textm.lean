/-! text, octet, thrown of the reference -/
section TXM
variable {N e m : Nat} {σ : ST} {Q : POST} {A : AS}
theorem MM_tx {τ : ST} {f : Nat} (h : MM σ A) (o : off tOfM σ τ) (k5 : τ.1 11 0 5 0 = nI 0) (k8 : τ.1 11 0 8 0 = nI f) :
    MM τ ⟨A.1, A.2.1, A.2.2.1, A.2.2.2.1, A.2.2.2.2.1, 0, A.2.2.2.2.2.2.1, A.2.2.2.2.2.2.2.1, A.2.2.2.2.2.2.2.2.1, nI f, A.2.2.2.2.2.2.2.2.2.2⟩ := by
  refine MM.mk ?_ (fun q => ?_) (fun q => ?_) ?_ ⟨k5, fun i hi => absurd hi (Nat.not_lt_zero _)⟩ ?_ ⟨?_, k8, ?_⟩
  · have := h.s
    unfold mSP at *
    rw [(o 11 0 25 (by decide)).1, (o 11 0 26 (by decide)).1, (o 11 0 21 (by decide)).1, (o 11 0 22 (by decide)).1, (o 11 0 23 (by decide)).1, (o 11 0 17 (by decide)).2]
    exact this
  · rw [(o 11 0 27 (by decide)).1]; exact h.r q
  · rw [(o 11 0 27 (by decide)).1]; exact h.e q
  · have := h.p
    unfold mAC at *
    rw [(o 11 0 30 (by decide)).1, (o 11 0 29 (by decide)).1]
    exact this
  · have := h.w
    unfold mWR at *
    rw [(o 11 0 48 (by decide)).1, (o 11 0 47 (by decide)).1]
    exact this
  · rw [(o 11 0 2 (by decide)).1]; exact h.m.1
  · rw [(o 11 0 3 (by decide)).1]; exact h.m.2.2
set_option maxRecDepth 100000 in
theorem M_text (v : VV A) (h : MM σ A) {x : Int32} (hm : 700000 ≤ m) (hQ : ∀ τ, frM σ τ → MM τ (st_text A x).2 → Q (some (.inl (st_text A x).1)) τ) :
    wp N m (e + 6, 0) TX11_text 0 [H11, iA x] [] σ Q := by
  have ht := v.t.1
  obtain ⟨n, rfl⟩ := il_ex (K := 40) (m := m) (by omega)
  have h' := MM_th h (Int32.ofInt 0)
  have fr0 : frM σ (uI σ 11 0 1 0 (Int32.ofInt 0)) := frM_uI
  have t5 : (uI σ 11 0 1 0 (Int32.ofInt 0)).1 11 0 5 0 = nI A.2.2.2.2.2.1 := h'.t.1
  refine ⟨trivial, c_inM (by omega) (fun g1 g2 => ?_) (fun g => ?_)⟩
  · refine b_ne (a := 1) rfl z0 (by omega) (by omega) (fun _ => ?_) (fun q => by omega)
    rcases inB_c x (a := 0) (b := A.2.2.2.2.2.1) (by omega) (by omega) with ⟨j, _, hj, ej, qj⟩ | ⟨qj, w⟩
    · unfold st_text at hQ
      rw [qj] at hQ
      simp only at hQ
      refine tx_13 (e := e + 1) (σ := uI σ 11 0 1 0 (Int32.ofInt 0)) (n := j) (tb := A.2.2.2.2.2.2.1) (M := 100000) (by omega) ej (fun i hi => ⟨h'.t.2 i (by omega), v.t.2 i (by omega)⟩) (by omega) (fun f s τ hp f1 f4 o1 k5 k8 => ?_) (fun m' D τ hm' hp vD hD o1 k5 hx h24 k8 => ?_)
      · rw [hp] at hQ
        simp only at hQ
        exact hQ _ (frM_tr fr0 (frM_tr (frM_off o1 (by decide)) frM_tp)) (MM_tp (MM_tx h' o1 k5 k8) (Int32.ofInt 4) (nI s))
      · rw [hp] at hQ
        simp only at hQ
        obtain ⟨n2, rfl⟩ := il_ex (K := 20) (m := m') (by omega)
        refine ⟨trivial, c_holdsM (e := e + 4) vD hx h24 (by omega) (fun τ2 o2 s2 r2 e2 z2 => ?_)⟩
        refine ⟨trivial, c_good (by omega) ⟨Or.inl rfl, ?_⟩⟩
        have h2 := MM_tx h' o1 k5 k8
        have h3 : MM τ2 ⟨rdS D, rdR D, emE, 0, A.2.2.2.2.1, 0, A.2.2.2.2.2.2.1, A.2.2.2.2.2.2.2.1, A.2.2.2.2.2.2.2.2.1, nI 0, A.2.2.2.2.2.2.2.2.2.2⟩ := by
          refine MM.mk s2 (fun _ => r2) (fun _ => e2) ⟨z2, fun i hi => absurd hi (Nat.not_lt_zero _)⟩ ⟨?_, fun i hi => absurd hi (Nat.not_lt_zero _)⟩ ?_ ?_
          · rw [(o2 11 0 5 (by decide)).1]; exact k5
          · have := h2.w
            unfold mWR at *
            rw [(o2 11 0 48 (by decide)).1, (o2 11 0 47 (by decide)).1]
            exact this
          · rw [(o2 11 0 2 (by decide)).1, (o2 11 0 8 (by decide)).1, (o2 11 0 3 (by decide)).1]; exact h2.m
        have e25 : τ2.1 11 0 (24 + 1) 0 = nI D.1 := s2.1
        rw [e25]
        exact hQ _ (frM_tr fr0 (frM_tr (frM_off o1 (by decide)) (frM_tr (frM_off o2 (by decide)) frM_tp))) (MM_tp h3 0 (-1))
    · exfalso
      rcases w with w | w
      · exact g1 (by rw [oi_0]; exact w)
      · refine g2 ?_
        have : (uI σ 11 0 1 0 (Int32.ofInt 0)).1 11 0 (4 + 1) 0 = nI A.2.2.2.2.2.1 := t5
        rw [this]; exact w
  · refine b_ne (a := 0) rfl z0 (by omega) (by omega) (fun q => absurd rfl q) (fun _ => ?_)
    have qn : inB x 0 A.2.2.2.2.2.1 = none := by
      unfold inB
      rw [if_neg]
      intro z
      rcases g with g | g
      · exact z.1 (by rw [← oi_0]; exact g)
      · have : (uI σ 11 0 1 0 (Int32.ofInt 0)).1 11 0 (4 + 1) 0 = nI A.2.2.2.2.2.1 := t5
        rw [this] at g
        exact z.2 g
    unfold st_text at hQ
    rw [qn] at hQ
    refine ⟨trivial, c_refusedM (by omega) ⟨Or.inl rfl, ?_⟩⟩
    exact hQ _ (frM_tr fr0 frM_tp) (MM_tp h' _ _)
theorem M_octet (v : VV A) (h : MM σ A) {x : Int32} (hm : 200 ≤ m) (h1 : ∀ j τ, inR x A.2.2.2.2.2.2.2.1.length = some j → frM σ τ → MM τ A → τ.1 11 0 1 0 = nI 0 → Q (some (.inl (nI (A.2.2.2.2.2.2.2.1.getD j 0)))) τ)
    (h0 : ∀ τ, inR x A.2.2.2.2.2.2.2.1.length = none → frM σ τ → MM τ A → τ.1 11 0 1 0 = nI 1 → Q (some (.inl (nI 0))) τ) : wp N m (e + 1, 0) TX11_octet 0 [H11, iA x] [] σ Q := by
  have hw := v.w
  obtain ⟨n, rfl⟩ := il_ex (K := 60) (m := m) (by omega)
  have h' := MM_th h (Int32.ofInt 0)
  have fr0 : frM σ (uI σ 11 0 1 0 (Int32.ofInt 0)) := frM_uI
  have e48 : (uI σ 11 0 1 0 (Int32.ofInt 0)).1 11 0 (47 + 1) 0 = nI A.2.2.2.2.2.2.2.1.length := h'.w.1
  refine ⟨trivial, c_inM (by omega) (fun g1 g2 => ?_) (fun g => ?_)⟩
  · rw [e48] at g2
    rcases inR_c x (n := A.2.2.2.2.2.2.2.1.length) (by omega) with ⟨j, hj, ej, qj⟩ | ⟨qj, w⟩
    · refine b_eq (a := 1) rfl z0 (by omega) (by omega) (fun q => by omega) (fun _ => ?_)
      refine ⟨il_in ej (by omega) (by omega), Or.inl rfl, ?_⟩
      have e47 : (uI σ 11 0 1 0 (Int32.ofInt 0)).1 11 0 (46 + 1) x.toNatClampNeg = nI (A.2.2.2.2.2.2.2.1.getD j 0) := by
        rw [il_cl ej (by omega)]; exact h'.w.2 j hj
      rw [e47]
      exact h1 j _ qj fr0 h' (by rw [uI_at]; exact oi_0)
    · exfalso
      rcases w with w | w
      · exact g1 (by rw [oi_0, nI_0]; exact w)
      · exact g2 ((lt_pred (by omega)).mpr w)
  · rw [e48] at g
    refine b_eq (a := 0) rfl z0 (by omega) (by omega) (fun _ => ?_) (fun q => absurd rfl q)
    have qn : inR x A.2.2.2.2.2.2.2.1.length = none := by
      rcases inR_c x (n := A.2.2.2.2.2.2.2.1.length) (by omega) with ⟨j, hj, ej, qj⟩ | ⟨qj, w⟩
      · exfalso
        rcases g with g | g
        · rw [ej, oi_0, nI_0] at g; exact nI_pos (by omega) g
        · rw [lt_pred (by omega), ej] at g; exact nI_ge (a := j) (b := A.2.2.2.2.2.2.2.1.length) hj (by omega) g
      · exact qj
    refine ⟨Or.inl rfl, ?_⟩
    rw [oi_0]
    have fr1 : frM σ (uI (uI σ 11 0 1 0 (Int32.ofInt 0)) 11 0 1 0 (Int32.ofInt 1)) := frM_tr fr0 frM_uI
    exact h0 _ qn fr1 (MM_th h' _) (by rw [uI_at]; exact oi_1)
theorem M_thrown (hm : 20 ≤ m) (hQ : Q (some (.inl (σ.1 11 0 1 0))) σ) : wp N m (e, 0) TX11_thrown 0 [H11] [] σ Q := by
  obtain ⟨n, rfl⟩ := il_ex hm
  exact ⟨Or.inl rfl, hQ⟩
end TXM
