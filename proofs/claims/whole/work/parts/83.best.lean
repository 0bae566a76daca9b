/-! best, write -/
theorem lt_m1 {x : Int32} (h : x < 0) (n : ¬ x = -1) : x < Int32.ofInt (-1) := by
  rw [im1, Int32.lt_iff_toInt_lt, show (-1 : Int32).toInt = -1 by decide]
  rw [Int32.lt_iff_toInt_lt, show (0 : Int32).toInt = 0 by decide] at h
  have : x.toInt ≠ -1 := fun z => n (Int32.toInt_inj.mp (by rw [z]; decide))
  omega
theorem nlt_m1 {j : Nat} (h : j < 2147483648) : ¬ nI j < Int32.ofInt (-1) := fun z => by
  rw [im1, Int32.lt_iff_toInt_lt, nI_toInt h, show (-1 : Int32).toInt = -1 by decide] at z
  omega
section BE
variable {N e m : Nat} {σ : ST} {Q : POST} {A : AS}
noncomputable def st_best (A : AS) (x : Int32) : Int32 × AS := if A.1.nh = 0 then reA A 1 else if x = -1 then goA A (nI (bsC A.1 A.2.1)) else match inR x A.1.nh with
  | none => reA A 1
  | some i => goA A (nI (bsW A.1 A.2.1 i))
theorem V_best (v : VV A) (x : Int32) : VV (st_best A x).2 := by
  unfold st_best
  by_cases q : A.1.nh = 0
  · rw [if_pos q]; exact V_re v _
  · rw [if_neg q]
    by_cases q2 : x = -1
    · rw [if_pos q2]; exact V_go v _
    · rw [if_neg q2]
      cases inR x A.1.nh with
      | none => exact V_re v _
      | some i => exact V_go v _
theorem c_find5 (v : VV A) (h0 : 0 < A.1.nh) (h : CC σ A) (hm : 2300000 ≤ m) (hQ : ∀ τ, frC σ τ → CC τ A → cKN τ A.1 A.2.1 → Q none τ) : wp N m (e + 12, 0) TX4_find 0 [some (.inr (.inr (4, 0, 0)))] [] σ Q := by
  have hnh := v.s.1
  rw [show e + 12 = (e + (5 - A.1.nh)) + A.1.nh + 7 by omega]
  have hk : σ.1 4 0 2 0 = 0 ∨ (σ.1 4 0 2 0 = 1 ∧ cKN σ A.1 A.2.1) := by
    rcases h.k with z | z
    · exact Or.inl z
    · exact Or.inr ⟨z.1, z.2.2⟩
  refine c_find v.s (v.r h0) h0 h.s (h.r h0) h.f h.o hk hm (fun τ o1 f1 k1 n1 => ?_)
  have k : ∀ c' k' j', ¬ (c' = 4 ∨ c' = 6 ∨ c' = 2 ∨ c' = 9 ∨ (c' = 3 ∧ 2 < k')) → τ.1 c' k' j' = σ.1 c' k' j' ∧ τ.2 c' k' j' = σ.2 c' k' j' := fun c' k' j' q => o1 c' k' j' (fun z => q (by simp at z; omega)) (by omega)
  refine hQ τ (fun c' k' j' q => k c' k' j' (by omega)) ⟨cSP_eq (fun j => (k 8 0 j (by omega)).1) h.s, fun _ => cRU_eq (fun j => (k 7 0 j (by omega)).1) (h.r h0), cNE_eq (fun j => (k 3 0 j (by omega)).1) h.e, cAC_eq (fun j => (k 0 0 j (by omega)).1) h.p, f1, cNE_eq (fun j => (k 3 2 j (by omega)).1) h.o, Or.inr ⟨k1, h0, n1⟩, ?_, cWR_eq (k 10 0 2 (by omega)).1 (k 10 0 17 (by omega)).1 h.w, ?_⟩ n1
  · rw [(k 10 0 16 (by omega)).1, (k 10 0 1 (by omega)).1]; exact h.t
  · rw [(k 10 0 18 (by omega)).1, (k 10 0 19 (by omega)).1, (k 10 0 20 (by omega)).1]; exact h.m
theorem c_hearingAt {x : Int32} {i : Nat} (ex : x = nI i) (hi : i < 5) (hm : 20 ≤ m) (hQ : Q (some (.inl (σ.1 4 0 5 i))) σ) : wp N m (e, 0) TX4_hearingAt 0 [some (.inr (.inr (4, 0, 0))), iA x] [] σ Q := by
  obtain ⟨n, rfl⟩ := il_ex hm
  refine b_lt ex z0 (by omega) (by omega) (fun q => by omega) (fun _ => ?_)
  refine b_ge ex i5 (by omega) (by omega) (fun q => by omega) (fun _ => ?_)
  refine ⟨il_in ex (by omega) (by omega), trivial, Or.inl rfl, ?_⟩
  rw [← il_cl ex (by omega)] at hQ
  exact hQ
set_option maxRecDepth 100000 in
theorem C_best (v : VV A) (h : CC σ A) {x : Int32} (hm : 2400000 ≤ m) (hQ : ∀ τ, frC σ τ → CC τ (st_best A x).2 → Q (some (.inl (st_best A x).1)) τ) :
    wp N m (e + 13, 0) TX10_best 0 [H10, iA x] [] σ Q := by
  have hnh := v.s.1
  obtain ⟨n, rfl⟩ := il_ex (K := 60) (m := m) (by omega)
  unfold st_best at hQ
  have ref : ∀ m', 30 ≤ m' → (∀ τ, frC σ τ → CC τ (reA A 1).2 → Q (some (.inl (reA A 1).1)) τ) → wp N m' (e + 13, 0) TX10_best 11 [H10, iA x] [] σ Q := by
    intro m' hm' hq
    obtain ⟨n2, rfl⟩ := il_ex (K := 5) (m := m') (by omega)
    refine ⟨trivial, c_refused (by omega) ⟨Or.inl rfl, ?_⟩⟩
    exact hq _ frC_tp (CC_tp h _ _)
  refine ⟨trivial, c_isTold h.s.1 (by omega) (by omega) (fun q0 => ?_) (fun q0 => ?_)⟩
  · rw [if_neg (by omega)] at hQ
    refine b_eq (a := 1) rfl z0 (by omega) (by omega) (fun q => by omega) (fun _ => ?_)
    by_cases qx : x = -1
    · rw [if_pos qx] at hQ
      refine ⟨fun q => absurd (show x < Int32.ofInt (-1) from q) (by rw [qx]; decide), fun _ => ?_⟩
      refine ⟨fun _ => ?_, fun q => absurd (show x < σ.1 8 0 1 0 by rw [h.s.1, qx]; exact Int32.lt_of_lt_of_le (by decide) (nI_pos' (by omega))) q⟩
      refine ⟨trivial, c_find5 (e := e) v q0 h (by omega) (fun τ fr1 h1 kn => ?_)⟩
      refine ⟨fun q => absurd qx (by rw [← im1]; exact q), fun _ => ⟨trivial, ?_⟩⟩
      refine ⟨trivial, c_answered (by omega) ⟨Or.inl rfl, ?_⟩⟩
      rw [show τ.1 4 0 (0 + 1) 0 = nI (bsC A.1 A.2.1) from kn.1]
      exact hQ _ (frC_tr fr1 frC_tp) (CC_tp h1 _ _)
    · rw [if_neg qx] at hQ
      rcases inR_c x (n := A.1.nh) (by omega) with ⟨j, hj, ej, qj⟩ | ⟨qj, w⟩
      · rw [qj] at hQ
        simp only at hQ
        refine ⟨fun q => absurd q (by rw [ej]; exact nlt_m1 (by omega)), fun _ => ?_⟩
        refine b_lt ej h.s.1 (by omega) (by omega) (fun _ => ?_) (fun q => by omega)
        refine ⟨trivial, c_find5 (e := e) v q0 h (by omega) (fun τ fr1 h1 kn => ?_)⟩
        refine ⟨fun _ => ?_, fun q => absurd (by rw [ej]; exact b_n1 (by omega)) q⟩
        refine ⟨trivial, c_hearingAt ej (by omega) (by omega) ?_⟩
        refine ⟨trivial, c_answered (by omega) ⟨Or.inl rfl, ?_⟩⟩
        rw [kn.2 j hj]
        exact hQ _ (frC_tr fr1 frC_tp) (CC_tp h1 _ _)
      · rw [qj] at hQ
        refine ⟨fun _ => ref _ (by omega) hQ, fun q => ?_⟩
        rcases w with w | w
        · exact absurd (lt_m1 w qx) q
        · exact ⟨fun z => absurd (show x < nI A.1.nh by rw [← h.s.1]; exact z) (Int32.not_lt.mpr w), fun _ => ref _ (by omega) hQ⟩
  · rw [if_pos q0] at hQ
    exact b_eq (a := 0) rfl z0 (by omega) (by omega) (fun _ => ref _ (by omega) hQ) (fun q => absurd rfl q)
set_option maxRecDepth 100000 in
theorem M_best (v : VV A) (h : MM σ A) {x : Int32} (hm : 2900000 ≤ m) (hQ : ∀ τ, frM σ τ → MM τ (st_best A x).2 → Q (some (.inl (st_best A x).1)) τ) :
    wp N m (e + 13, 0) TX11_best 0 [H11, iA x] [] σ Q := by
  have hnh := v.s.1
  obtain ⟨n, rfl⟩ := il_ex (K := 60) (m := m) (by omega)
  unfold st_best at hQ
  have h' := MM_th h (Int32.ofInt 0)
  have fr0 : frM σ (uI σ 11 0 1 0 (Int32.ofInt 0)) := frM_uI
  have ref : ∀ m', 30 ≤ m' → (∀ τ, frM σ τ → MM τ (reA A 1).2 → Q (some (.inl (reA A 1).1)) τ) → wp N m' (e + 13, 0) TX11_best 14 [H11, iA x] [] (uI σ 11 0 1 0 (Int32.ofInt 0)) Q := by
    intro m' hm' hq
    obtain ⟨n2, rfl⟩ := il_ex (K := 5) (m := m') (by omega)
    refine ⟨trivial, c_refusedM (by omega) ⟨Or.inl rfl, ?_⟩⟩
    exact hq _ (frM_tr fr0 frM_tp) (MM_tp h' _ _)
  refine b_eq h'.s.1 z0 (by omega) (by omega) (fun q0 => ?_) (fun q0 => ?_)
  · rw [if_pos q0] at hQ
    exact ref _ (by omega) hQ
  · have q1 : 0 < A.1.nh := by omega
    rw [if_neg q0] at hQ
    have go : ∀ m', 2870000 ≤ m' → (∀ τ, frM σ τ → MM τ A → τ.1 11 0 46 0 = nI (bsC A.1 A.2.1) → (∀ i, i < A.1.nh → τ.1 11 0 45 i = nI (bsW A.1 A.2.1 i)) → ∀ m2, 60 ≤ m2 → wp N m2 (e + 13, 0) TX11_best 24 [H11, iA x] [] τ Q) → wp N m' (e + 13, 0) TX11_best 18 [H11, iA x] [] (uI σ 11 0 1 0 (Int32.ofInt 0)) Q := by
      intro m' hm' K
      obtain ⟨n2, rfl⟩ := il_ex (K := 20) (m := m') (by omega)
      have o1 : off [(11, 0, 46)] (uI σ 11 0 1 0 (Int32.ofInt 0)) (uI (uI σ 11 0 1 0 (Int32.ofInt 0)) 11 0 46 0 (Int32.ofInt (-1))) := off_uI (off_rf _ _) (by decide)
      have h1 := MM_of o1 (by decide) h'
      refine ⟨trivial, c_tries (e := e + (6 - A.1.nh)) v.s (v.r q1) q1 A.1.nh (fun _ => 0) 0 none _ _ _ _ _ (by omega) ⟨fun p hp => absurd hp (Nat.not_lt_zero _), fun p q hp => absurd hp (Nat.not_lt_zero _)⟩ (by omega) (Or.inl ⟨rfl, by rw [uI_at, im1]⟩) h1.s (h1.r q1) (fun p hp => absurd hp (Nat.not_lt_zero _)) oi_0 (by omega) (fun τ o2 b2 _ => ?_)⟩
      have h2 := MM_of o2 (by decide) h1
      have bb : fsr A.1 A.2.1 A.1.nh (fun _ => 0) 0 none = some (bsC A.1 A.2.1, bsW A.1 A.2.1) := bsO_ok v.s (v.r q1)
      rw [bb] at b2
      rcases b2 with z | ⟨c, o, ze, _, z1, z2⟩
      · cases z.1
      · cases ze
        exact K τ (frM_tr fr0 (frM_tr (frM_off o1 (by decide)) (frM_off o2 (by decide)))) h2 z1 z2 _ (by omega)
    by_cases qx : x = -1
    · rw [if_pos qx] at hQ
      refine ⟨trivial, c_inM (by omega) (fun _ _ => ?_) (fun z => ?_)⟩
      · refine b_ne (a := 1) rfl z0 (by omega) (by omega) (fun _ => ?_) (fun q => by omega)
        refine go _ (by omega) (fun τ fr1 h1 c1 c2 m2 hm2 => ?_)
        obtain ⟨n2, rfl⟩ := il_ex (K := 20) (m := m2) (by omega)
        refine ⟨fun q => absurd qx (by rw [← im1]; exact q), fun _ => ⟨trivial, ?_⟩⟩
        refine ⟨trivial, c_good (by omega) ⟨Or.inl rfl, ?_⟩⟩
        rw [show τ.1 11 0 (45 + 1) 0 = nI (bsC A.1 A.2.1) from c1]
        exact hQ _ (frM_tr fr1 frM_tp) (MM_tp h1 _ _)
      · rcases z with z | z
        · exact absurd z (by rw [qx]; decide)
        · refine absurd z ?_
          rw [show (uI σ 11 0 1 0 (Int32.ofInt 0)).1 11 0 (24 + 1) 0 = nI A.1.nh from h'.s.1, lt_pred (by omega), qx]
          exact fun w => absurd (Int32.le_trans (nI_pos' (by omega)) w) (by decide)
    · rw [if_neg qx] at hQ
      rcases inR_c x (n := A.1.nh) (by omega) with ⟨j, hj, ej, qj⟩ | ⟨qj, w⟩
      · rw [qj] at hQ
        simp only at hQ
        refine ⟨trivial, c_inM (by omega) (fun _ _ => ?_) (fun z => ?_)⟩
        · refine b_ne (a := 1) rfl z0 (by omega) (by omega) (fun _ => ?_) (fun q => by omega)
          refine go _ (by omega) (fun τ fr1 h1 c1 c2 m2 hm2 => ?_)
          obtain ⟨n2, rfl⟩ := il_ex (K := 20) (m := m2) (by omega)
          refine ⟨fun _ => ?_, fun q => absurd (by rw [ej]; exact b_n1 (by omega)) q⟩
          refine ⟨il_in ej (by omega) (by omega), trivial, c_good (by omega) ⟨Or.inl rfl, ?_⟩⟩
          rw [show τ.1 11 0 (44 + 1) x.toNatClampNeg = nI (bsW A.1 A.2.1 j) by rw [il_cl ej (by omega)]; exact c2 j hj]
          exact hQ _ (frM_tr fr1 frM_tp) (MM_tp h1 _ _)
        · rcases z with z | z
          · exact absurd z (by rw [ej]; exact nlt_m1 (by omega))
          · refine absurd z ?_
            rw [show (uI σ 11 0 1 0 (Int32.ofInt 0)).1 11 0 (24 + 1) 0 = nI A.1.nh from h'.s.1, lt_pred (by omega), ej]
            exact nI_ge hj (by omega)
      · rw [qj] at hQ
        refine ⟨trivial, c_inM (by omega) (fun z1 z2 => ?_) (fun z => ?_)⟩
        · rw [show (uI σ 11 0 1 0 (Int32.ofInt 0)).1 11 0 (24 + 1) 0 = nI A.1.nh from h'.s.1, lt_pred (by omega)] at z2
          rcases w with w | w
          · exact absurd (lt_m1 w qx) z1
          · exact absurd w z2
        · exact b_ne (a := 0) rfl z0 (by omega) (by omega) (fun q => absurd rfl q) (fun _ => ref _ (by omega) hQ)
noncomputable def st_write (A : AS) : Int32 × AS := if A.1.nh = 0 then reA A 1 else (nI (ikL A.1 A.2.1 A.2.2.1 A.2.2.1.ns).length, ⟨A.1, A.2.1, A.2.2.1, A.2.2.2.1, A.2.2.2.2.1, A.2.2.2.2.2.1, A.2.2.2.2.2.2.1, ikL A.1 A.2.1 A.2.2.1 A.2.2.1.ns, 0, A.2.2.2.2.2.2.2.2.2.1, -1⟩)
theorem ikL_480 (v : VV A) (h0 : 0 < A.1.nh) : (ikL A.1 A.2.1 A.2.2.1 A.2.2.1.ns).length ≤ 480 := by
  have := (ikL_len v.s (v.r h0) v.e A.2.2.1.ns (Nat.le_refl _)).1
  have := hdC_le A.1 A.2.1 A.2.2.1 A.2.2.1.ns
  have := vNE_ns v.s v.e
  omega
theorem V_write (v : VV A) : VV (st_write A).2 := by
  unfold st_write
  by_cases q : A.1.nh = 0
  · rw [if_pos q]; exact V_re v _
  · rw [if_neg q]
    exact ⟨v.s, v.r, v.e, v.z, v.p, v.t, ikL_480 v (by omega)⟩
theorem CC_wr {τ : ST} (h : CC σ A) (o : off xOff σ τ) {l : List Nat} (hw : cWR τ l) : CC τ ⟨A.1, A.2.1, A.2.2.1, A.2.2.2.1, A.2.2.2.2.1, A.2.2.2.2.2.1, A.2.2.2.2.2.2.1, l, A.2.2.2.2.2.2.2.2.1, A.2.2.2.2.2.2.2.2.2.1, A.2.2.2.2.2.2.2.2.2.2⟩ := by
  have k : ∀ c' k' j', ¬ (c' = 10 ∧ (j' = 2 ∨ j' = 17)) → τ.1 c' k' j' = σ.1 c' k' j' := fun c' k' j' q => (o c' k' j' (fun z => q (by simp at z; omega))).1
  refine ⟨cSP_eq (fun j => k 8 0 j (by omega)) h.s, fun q => cRU_eq (fun j => k 7 0 j (by omega)) (h.r q), cNE_eq (fun j => k 3 0 j (by omega)) h.e, cAC_eq (fun j => k 0 0 j (by omega)) h.p, cFA_eq (k 2 0 3 (by omega)) h.f, cNE_eq (fun j => k 3 2 j (by omega)) h.o, ?_, ?_, hw, ?_⟩
  · rw [k 4 0 2 (by omega)]
    rcases h.k with z | z
    · exact Or.inl z
    · exact Or.inr ⟨z.1, z.2.1, cKN_eq (fun j => k 4 0 j (by omega)) z.2.2⟩
  · rw [k 10 0 16 (by omega), k 10 0 1 (by omega)]; exact h.t
  · rw [k 10 0 18 (by omega), k 10 0 19 (by omega), k 10 0 20 (by omega)]; exact h.m
theorem MM_wr {τ : ST} (h : MM σ A) (o : off zOfM σ τ) {l : List Nat} (hw : mWR τ l) : MM τ ⟨A.1, A.2.1, A.2.2.1, A.2.2.2.1, A.2.2.2.2.1, A.2.2.2.2.2.1, A.2.2.2.2.2.2.1, l, A.2.2.2.2.2.2.2.2.1, A.2.2.2.2.2.2.2.2.2.1, A.2.2.2.2.2.2.2.2.2.2⟩ := by
  have k : ∀ j, (j ≠ 37 ∧ j ≠ 38 ∧ j ≠ 39 ∧ j ≠ 40 ∧ j ≠ 47 ∧ j ≠ 48) → τ.1 11 0 j = σ.1 11 0 j ∧ τ.2 11 0 j = σ.2 11 0 j := fun j hj => o 11 0 j (fun z => by simp at z; omega)
  refine ⟨?_, fun q => by rw [(k 27 (by omega)).1]; exact h.r q, fun q => by rw [(k 27 (by omega)).1]; exact h.e q, ?_, ?_, hw, ?_⟩
  · have := h.s
    unfold mSP at *
    rw [(k 25 (by omega)).1, (k 26 (by omega)).1, (k 21 (by omega)).1, (k 22 (by omega)).1, (k 23 (by omega)).1, (k 17 (by omega)).2]
    exact this
  · have := h.p
    unfold mAC at *
    rw [(k 30 (by omega)).1, (k 29 (by omega)).1]
    exact this
  · rw [(k 5 (by omega)).1, (k 4 (by omega)).1]; exact h.t
  · rw [(k 2 (by omega)).1, (k 8 (by omega)).1, (k 3 (by omega)).1]; exact h.m
set_option maxRecDepth 100000 in
theorem C_write (v : VV A) (h : CC σ A) (hm : 140000 ≤ m) (hQ : ∀ τ, frC σ τ → CC τ (st_write A).2 → Q (some (.inl (st_write A).1)) τ) :
    wp N m (e + 6, 0) TX10_write 0 [H10, none] [] σ Q := by
  have hnh := v.s.1
  have hns := vNE_ns v.s v.e
  have hd := hdC_le A.1 A.2.1 A.2.2.1 A.2.2.1.ns
  obtain ⟨n, rfl⟩ := il_ex (K := 60) (m := m) (by omega)
  unfold st_write at hQ
  refine ⟨trivial, c_isTold h.s.1 (by omega) (by omega) (fun q0 => ?_) (fun q0 => ?_)⟩
  · rw [if_neg (by omega)] at hQ
    refine b_ne (a := 1) rfl z0 (by omega) (by omega) (fun _ => ?_) (fun q => by omega)
    refine ⟨trivial, c_listHeard (e := e + 2) v.s (v.r q0) v.e h.s (h.r q0) h.e (by omega) (fun τ o1 c1 => ?_)⟩
    have h1 := CC_o2 o1 (by decide) (by decide) h
    refine ⟨trivial, c_listDoubts (e := e + 2) v.s (v.r q0) v.e h1.s (h1.r q0) h1.e (by omega) (fun τ2 o2 d2 => ?_)⟩
    have h2 := CC_o2 o2 (by decide) (by decide) h1
    have c2 : cHD τ2 A.1 A.2.1 A.2.2.1 := ⟨by rw [off_1 o2 (by decide)]; exact c1.1, by rw [(o2 1 0 4 (by decide)).1]; exact c1.2.1, by rw [(o2 1 0 5 (by decide)).1]; exact c1.2.2⟩
    refine adv 5 100000 (by omega) (fun n2 hn2 => ?_)
    refine wl_loop (e := e + 4) (σ := τ2) v.s (v.r q0) v.e h2.s c2 d2 ?_ (hdC A.1 A.2.1 A.2.2.1 A.2.2.1.ns) 0 n2 _ _ (by omega) (by omega) (off_uI (off_rf _ _) (by decide)) (fun s hs hz => ?_) oi_0
    · intro τ3 o3 w3
      exact hQ _ (frC_tr (frC_off o1 (by decide)) (frC_tr (frC_off o2 (by decide)) (frC_tr (frC_off o3 (by decide)) frC_tp))) (CC_tp (CC_wr h2 o3 w3) 0 (-1))
    · have : ikL A.1 A.2.1 A.2.2.1 s = [] := by
        have := ikL_eq (S := A.1) (R := A.2.1) (E := A.2.2.1) (s := 0) s (Nat.zero_le _) (by rw [hz]; rfl)
        rw [← this]; rfl
      rw [this]
      exact ⟨by rw [uI_at]; rfl, fun i hi => absurd hi (Nat.not_lt_zero _)⟩
  · rw [if_pos q0] at hQ
    refine b_ne (a := 0) rfl z0 (by omega) (by omega) (fun q => absurd rfl q) (fun _ => ?_)
    refine ⟨trivial, c_refused (by omega) ⟨Or.inl rfl, ?_⟩⟩
    exact hQ _ frC_tp (CC_tp h _ _)
set_option maxRecDepth 100000 in
theorem M_write (v : VV A) (h : MM σ A) (hm : 60000 ≤ m) (hQ : ∀ τ, frM σ τ → MM τ (st_write A).2 → Q (some (.inl (st_write A).1)) τ) :
    wp N m (e + 6, 0) TX11_write 0 [H11, none, none, none, none] [] σ Q := by
  have hnh := v.s.1
  have hns := vNE_ns v.s v.e
  obtain ⟨n, rfl⟩ := il_ex (K := 60) (m := m) (by omega)
  unfold st_write at hQ
  have h' := MM_th h (Int32.ofInt 0)
  have fr0 : frM σ (uI σ 11 0 1 0 (Int32.ofInt 0)) := frM_uI
  refine b_ne h'.s.1 z0 (by omega) (by omega) (fun q0 => ?_) (fun q0 => ?_)
  · rw [if_neg q0] at hQ
    have q1 : 0 < A.1.nh := by omega
    refine adv 5 40000 (by omega) (fun n2 hn2 => ?_)
    refine wm1_loop (e := e + 3) (σ := uI σ 11 0 1 0 (Int32.ofInt 0)) v.s (v.r q1) v.e h'.s (h'.r q1) (h'.e q1) ?_ A.2.2.1.ns 0 n2 _ _ _ _ _ (by omega) (by omega) (off_uI (off_rf _ _) (by decide)) ⟨by rw [uI_at]; rfl, fun i hi => absurd hi (Nat.not_lt_zero _)⟩ oi_0
    intro τ3 o3 w3
    exact hQ _ (frM_tr fr0 (frM_tr (frM_off o3 (by decide)) frM_tp)) (MM_tp (MM_wr h' o3 w3) 0 (-1))
  · rw [if_pos q0] at hQ
    refine ⟨trivial, c_refusedM (by omega) ⟨Or.inl rfl, ?_⟩⟩
    exact hQ _ (frM_tr fr0 frM_tp) (MM_tp h' _ _)
end BE
