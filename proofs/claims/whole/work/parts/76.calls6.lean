/-! calls: doubtful, heard, way, without -/
theorem dk_ex {P : Nat → Prop} {s : Nat} : ∀ t, t ≤ s → (∀ j, t ≤ j → j < s → P j) → ∃ t', t' ≤ s ∧ (t' = 0 ∨ ¬ P (t' - 1)) ∧ ∀ j, t' ≤ j → j < s → P j
  | 0, _, h => ⟨0, Nat.zero_le _, Or.inl rfl, h⟩
  | t + 1, ht, h => by
    by_cases q : P t
    · refine dk_ex t (by omega) (fun j h1 h2 => ?_)
      by_cases e : j = t
      · rw [e]; exact q
      · exact h j (by omega) h2
    · exact ⟨t + 1, ht, Or.inr q, h⟩
theorem drk_ex {A B : Nat → Nat} : ∀ n, (∀ k, k < n → 0 < B k) → ∃ rk, drk A B n rk
  | 0, _ => ⟨fun i => i, fun i hi => absurd hi (Nat.not_lt_zero _), fun g => rfl, fun i j _ hj => absurd hj (Nat.not_lt_zero _)⟩
  | n + 1, hB => by
    obtain ⟨rk0, h0⟩ := drk_ex n (fun k hk => hB k (by omega))
    have h : drk A B n (fun i => if i = n then n else rk0 i) := drk_congr h0 (fun i hi => if_neg (by omega))
    obtain ⟨t, t1, t2, t3⟩ := dk_ex (P := fun j => A ((fun i => if i = n then n else rk0 i) j) * B n < A n * B ((fun i => if i = n then n else rk0 i) j)) n (Nat.le_refl _) (fun j h1 h2 => by omega)
    exact ⟨_, drk_ins (fun k hk => hB k (by omega)) h (if_pos rfl) t1 t2 t3⟩
theorem dSl_ex {S : SPc} {R : RUc} {E : NEc} (hS : vSP S) (hR : vRU S R) (hE : vNE S E) {i : Nat} (hi : i < E.ns) : ∃ s, dSl S R E i s := by
  obtain ⟨rk, h⟩ := drk_ex (A := dA S R E) (B := dB S R E) E.ns (fun k hk => dB_pos hS hR hE hk)
  exact ⟨rk i, h.1 i hi, drk_ah h hi (fun k hk => dB_pos hS hR hE hk)⟩
noncomputable def dtS (S : SPc) (R : RUc) (E : NEc) (i : Nat) : Nat := @dite _ (∃ s, dSl S R E i s) (Classical.propDecidable _) (fun h => Classical.choose h) (fun _ => 0)
theorem dtS_of {S : SPc} {R : RUc} {E : NEc} (hS : vSP S) (hR : vRU S R) (hE : vNE S E) {i s : Nat} (h : dSl S R E i s) : s = dtS S R E i := by
  unfold dtS
  have hex : ∃ s, dSl S R E i s := ⟨s, h⟩
  rw [dif_pos hex]
  exact dSl_one hS hR hE h (Classical.choose_spec hex)
noncomputable def hdS (S : SPc) (R : RUc) (E : NEc) (i : Nat) : Nat := @dite _ (∃ s, s < E.ns ∧ wnF S R E s ≠ 60 ∧ hdC S R E s = i) (Classical.propDecidable _) (fun h => Classical.choose h) (fun _ => 0)
theorem hdS_of {S : SPc} {R : RUc} {E : NEc} {i s : Nat} (h1 : s < E.ns) (h2 : wnF S R E s ≠ 60) (h3 : hdC S R E s = i) : s = hdS S R E i := by
  unfold hdS
  have hex : ∃ s, s < E.ns ∧ wnF S R E s ≠ 60 ∧ hdC S R E s = i := ⟨s, h1, h2, h3⟩
  rw [dif_pos hex]
  have := Classical.choose_spec hex
  exact hdC_inj h2 this.2.1 (by rw [h3, this.2.2])
section CA6
variable {N e m : Nat} {σ : ST} {Q : POST} {A : AS}
noncomputable def st_doubtful (A : AS) (x : Int32) : Int32 × AS := match inR x A.2.2.1.ns with
  | none => reA A 1
  | some i => goA A (nI (dtS A.1 A.2.1 A.2.2.1 i))
theorem V_doubtful (v : VV A) (x : Int32) : VV (st_doubtful A x).2 := by
  unfold st_doubtful
  cases inR x A.2.2.1.ns with
  | none => exact V_re v _
  | some s => exact V_go v _
set_option maxRecDepth 100000 in
theorem C_doubtful (v : VV A) (h : CC σ A) {x : Int32} (hm : 200000 ≤ m) (hQ : ∀ τ, frC σ τ → CC τ (st_doubtful A x).2 → Q (some (.inl (st_doubtful A x).1)) τ) :
    wp N m (e + 6, 0) TX10_doubtful 0 [H10, iA x] [] σ Q := by
  have hns := vNE_ns v.s v.e
  obtain ⟨n, rfl⟩ := il_ex (K := 60) (m := m) (by omega)
  unfold st_doubtful at hQ
  refine ⟨trivial, c_isSlot h.e.1 (by omega) (by omega) (fun i hi ei qi => ?_) (fun q0 => ?_)⟩
  · rw [qi] at hQ
    have q1 := nh_of_slot v hi
    refine b_ne (a := 1) rfl z0 (by omega) (by omega) (fun _ => ?_) (fun q => by omega)
    refine ⟨trivial, c_listDoubts (e := e + 2) v.s (v.r q1) v.e h.s (h.r q1) h.e (by omega) (fun τ o1 d1 => ?_)⟩
    refine ⟨trivial, c_mostDoubtful v.s (v.r q1) v.e d1 hi ei (by omega) (fun s hs => ?_)⟩
    refine ⟨trivial, c_answered (by omega) ⟨Or.inl rfl, ?_⟩⟩
    rw [dtS_of v.s (v.r q1) v.e hs]
    exact hQ _ (frC_tr (frC_off o1 (by decide)) frC_tp) (CC_tp (CC_o2 o1 (by decide) (by decide) h) _ _)
  · rw [q0] at hQ
    refine b_ne (a := 0) rfl z0 (by omega) (by omega) (fun q => absurd rfl q) (fun _ => ?_)
    refine ⟨trivial, c_refused (by omega) ⟨Or.inl rfl, ?_⟩⟩
    exact hQ _ frC_tp (CC_tp h _ _)
set_option maxRecDepth 100000 in
theorem M_doubtful (v : VV A) (h : MM σ A) {x : Int32} (hm : 200000 ≤ m) (hQ : ∀ τ, frM σ τ → MM τ (st_doubtful A x).2 → Q (some (.inl (st_doubtful A x).1)) τ) :
    wp N m (e + 6, 0) TX11_doubtful 0 [H11, iA x, none] [] σ Q := by
  have hns := vNE_ns v.s v.e
  have hnh := v.s.1
  obtain ⟨n, rfl⟩ := il_ex (K := 60) (m := m) (by omega)
  unfold st_doubtful at hQ
  have h' := MM_th h (Int32.ofInt 0)
  have fr0 : frM σ (uI σ 11 0 1 0 (Int32.ofInt 0)) := frM_uI
  have ref : ∀ m', 30 ≤ m' → (∀ τ, frM σ τ → MM τ (reA A 1).2 → Q (some (.inl (reA A 1).1)) τ) → wp N m' (e + 6, 0) TX11_doubtful 16 [H11, iA x, none] [] (uI σ 11 0 1 0 (Int32.ofInt 0)) Q := by
    intro m' hm' hq
    obtain ⟨n2, rfl⟩ := il_ex (K := 5) (m := m') (by omega)
    refine ⟨trivial, c_refusedM (by omega) ⟨Or.inl rfl, ?_⟩⟩
    exact hq _ (frM_tr fr0 frM_tp) (MM_tp h' _ _)
  refine b_eq h'.s.1 z0 (by omega) (by omega) (fun q0 => ?_) (fun q0 => ?_)
  · rw [(v.z q0).1, show inR x emE.ns = none from inR_0 x] at hQ
    exact ref _ (by omega) hQ
  · have q1 : 0 < A.1.nh := by omega
    have v21 : (uI σ 11 0 1 0 (Int32.ofInt 0)).1 11 0 27 (Int8.ofInt 21).toInt32.toNatClampNeg = nI A.2.2.1.ns := by rw [il_cl i21 (by omega)]; exact (h'.e q1).2.1
    refine ⟨il_in i21 (by omega) (by omega), ?_⟩
    refine ⟨trivial, c_inP (n1 := A.2.2.1.ns) (by omega) oi_0 (show _ = _ by rw [← v21]) (by omega) (fun i hi ei qi => ?_) (fun qi => ?_)⟩
    · rw [qi] at hQ
      refine b_ne (a := 1) rfl z0 (by omega) (by omega) (fun _ => ?_) (fun q => by omega)
      obtain ⟨t, ht⟩ := dSl_ex v.s (v.r q1) v.e hi
      refine adv 2 190000 (by omega) (fun n2 hn2 => ?_)
      refine dq_loop (e := e + 3) (M := 100000) v.s (v.r q1) v.e h'.s (h'.r q1) (h'.e q1) (by omega) ?_ A.2.2.1.ns 0 n2 _ _ (by omega) (by omega) (off_rf _ _) (fun s hs => absurd hs (Nat.not_lt_zero _)) oi_0
      intro m3 τ x2 hm3 o1 d1
      have h1 := MM_of o1 (by decide) h'
      refine adv 2 90000 (by omega) (fun n4 hn4 => ?_)
      refine dr_loop (e := e + 5) v.s (v.r q1) v.e (h1.e q1) d1 ht (by omega) ei ?_ t 0 n4 _ (by omega) (by have := ht.1; omega) oi_0
      rw [dtS_of v.s (v.r q1) v.e ht]
      exact hQ _ (frM_tr fr0 (frM_tr (frM_off o1 (by decide)) frM_tp)) (MM_tp h1 _ _)
    · rw [qi] at hQ
      exact b_ne (a := 0) rfl z0 (by omega) (by omega) (fun q => absurd rfl q) (fun _ => ref _ (by omega) hQ)
noncomputable def st_heard (A : AS) (x y : Int32) : Int32 × AS := match inR x (hdC A.1 A.2.1 A.2.2.1 A.2.2.1.ns) with
  | none => reA A 1
  | some i => if y = 0 then goA A (nI (wnF A.1 A.2.1 A.2.2.1 (hdS A.1 A.2.1 A.2.2.1 i))) else if y = 1 then goA A (nI (tmF A.1 A.2.1 A.2.2.1 (hdS A.1 A.2.1 A.2.2.1 i) (fwW A.1 A.2.1 A.2.2.1 (hdS A.1 A.2.1 A.2.2.1 i)))) else if y = 2 then goA A (nI (hdS A.1 A.2.1 A.2.2.1 i)) else reA A 1
theorem V_heard (v : VV A) (x y : Int32) : VV (st_heard A x y).2 := by
  unfold st_heard
  cases inR x (hdC A.1 A.2.1 A.2.2.1 A.2.2.1.ns) with
  | none => exact V_re v _
  | some s =>
    simp only
    repeat' split
    all_goals first | exact V_re v _ | exact V_go v _
set_option maxRecDepth 100000 in
/-- listHeard of any net -/
theorem c_listHeardA (v : VV A) (h : CC σ A) (hm : 7000 ≤ m) (hQ : ∀ τ, off hOff σ τ → cHD τ A.1 A.2.1 A.2.2.1 → Q none τ) :
    wp N m (e + 3, 0) TX1_listHeard 0 [some (.inr (.inr (1, 0, 0))), some (.inr (.inr (3, 0, 0))), none, none] [] σ Q := by
  by_cases q : 0 < A.1.nh
  · exact c_listHeard v.s (v.r q) v.e h.s (h.r q) h.e hm hQ
  · have q0 : A.1.nh = 0 := by omega
    have eE := (v.z q0).1
    have ens : A.2.2.1.ns = 0 := by rw [eE]; rfl
    obtain ⟨n, rfl⟩ := il_ex (K := 20) (m := m) (by omega)
    have ho : off hOff σ (uI σ 1 0 3 0 (Int32.ofInt 0)) := off_uI (off_rf _ _) (by decide)
    refine b_ge oi_0 (show (uI σ 1 0 3 0 (Int32.ofInt 0)).1 3 0 1 0 = nI 0 by rw [uI_nr _ _ _ _ _ _ (by decide), h.e.1, ens]) (by omega) (by omega) (fun _ => ?_) (fun q => by omega)
    refine hQ _ ho ⟨?_, fun s hs => by omega, fun s hs => by omega⟩
    rw [uI_at, ens]; exact oi_0
set_option maxRecDepth 100000 in
theorem C_heard (v : VV A) (h : CC σ A) {x y : Int32} (hm : 20000 ≤ m) (hQ : ∀ τ, frC σ τ → CC τ (st_heard A x y).2 → Q (some (.inl (st_heard A x y).1)) τ) :
    wp N m (e + 6, 0) TX10_heard 0 [H10, iA x, iA y, none, none] [] σ Q := by
  have hns := vNE_ns v.s v.e
  have hd := hdC_le A.1 A.2.1 A.2.2.1 A.2.2.1.ns
  obtain ⟨n, rfl⟩ := il_ex (K := 60) (m := m) (by omega)
  unfold st_heard at hQ
  refine ⟨trivial, c_listHeardA (e := e + 2) v h (by omega) (fun τ o1 c1 => ?_)⟩
  have h1 := CC_o2 o1 (by decide) (by decide) h
  have fr1 : frC σ τ := frC_off o1 (by decide)
  rcases inR_c x (n := hdC A.1 A.2.1 A.2.2.1 A.2.2.1.ns) (by omega) with ⟨i, hi, ei, qi⟩ | ⟨qi, w⟩
  · rw [qi] at hQ
    simp only at hQ
    obtain ⟨s, hs, ws, es⟩ := hdC_ex hi
    have q1 := nh_of_slot v hs
    have esd := hdS_of hs ws es
    rw [← esd] at hQ
    have hw := (wnF_le (s := s) v.s (v.r q1) v.e hs).2 ws
    have hnw := v.s.2.2.2.1
    refine ⟨trivial, c_heardSlot c1 v.s v.e hs ws (by rw [es]; exact ei) (by omega) ?_⟩
    refine ⟨fun _ => ?_, fun z => absurd (b_n1 (z := s) (by omega)) z⟩
    refine ⟨trivial, c_heardWord c1 v.s v.e hs ws (by rw [es]; exact ei) (by omega) ?_⟩
    refine ⟨fun q => ?_, fun n0 => ⟨fun q => ?_, fun n1 => ⟨fun q => ?_, fun n2 => ?_⟩⟩⟩
    · rw [if_pos q] at hQ
      refine ⟨trivial, c_answered (by omega) ⟨Or.inl rfl, ?_⟩⟩
      exact hQ _ (frC_tr fr1 frC_tp) (CC_tp h1 _ _)
    · rw [if_neg n0, if_pos q] at hQ
      refine ⟨trivial, c_meanTime (e := e + 4) (fl := fwW A.1 A.2.1 A.2.2.1 s) v.s (v.r q1) v.e h1.s (h1.r q1) h1.e hs rfl (Or.inr ⟨wnF A.1 A.2.1 A.2.2.1 s, rfl, by omega, fun _ _ => rfl⟩) (fwW_pos v.s (v.r q1) v.e hs ws) (by omega) ?_⟩
      refine ⟨trivial, c_answered (by omega) ⟨Or.inl rfl, ?_⟩⟩
      exact hQ _ (frC_tr fr1 frC_tp) (CC_tp h1 _ _)
    · rw [if_neg n0, if_neg n1, if_pos q] at hQ
      refine ⟨trivial, c_answered (by omega) ⟨Or.inl rfl, ?_⟩⟩
      exact hQ _ (frC_tr fr1 frC_tp) (CC_tp h1 _ _)
    · rw [if_neg n0, if_neg n1, if_neg n2] at hQ
      refine ⟨trivial, c_refused (by omega) ⟨Or.inl rfl, ?_⟩⟩
      exact hQ _ (frC_tr fr1 frC_tp) (CC_tp h1 _ _)
  · rw [qi] at hQ
    have nn : x < 0 ∨ ∃ i, x = nI i ∧ i < 2147483648 ∧ hdC A.1 A.2.1 A.2.2.1 A.2.2.1.ns ≤ i := by
      rcases w with w | w
      · exact Or.inl w
      · by_cases z : x < 0
        · exact Or.inl z
        · obtain ⟨j, hj, ej⟩ := nI_of z
          refine Or.inr ⟨j, ej, by omega, ?_⟩
          rw [ej] at w
          exact (nI_leI (by omega) (by omega)).mp w
    refine ⟨trivial, c_heardSlotN c1 v.s v.e nn (by omega) ?_⟩
    refine ⟨fun z => absurd (show (-1 : Int32) = Int32.ofInt (-1) by rw [im1]) z, fun _ => ?_⟩
    refine ⟨trivial, c_refused (by omega) ⟨Or.inl rfl, ?_⟩⟩
    exact hQ _ (frC_tr fr1 frC_tp) (CC_tp h1 _ _)
set_option maxRecDepth 100000 in
theorem M_heard (v : VV A) (h : MM σ A) {x y : Int32} (hm : 20000 ≤ m) (hQ : ∀ τ, frM σ τ → MM τ (st_heard A x y).2 → Q (some (.inl (st_heard A x y).1)) τ) :
    wp N m (e + 6, 0) TX11_heard 0 [H11, iA x, iA y, none] [] σ Q := by
  have hns := vNE_ns v.s v.e
  have hnh := v.s.1
  have hd := hdC_le A.1 A.2.1 A.2.2.1 A.2.2.1.ns
  obtain ⟨n, rfl⟩ := il_ex (K := 60) (m := m) (by omega)
  unfold st_heard at hQ
  have h' := MM_th h (Int32.ofInt 0)
  have fr0 : frM σ (uI σ 11 0 1 0 (Int32.ofInt 0)) := frM_uI
  have ref : ∀ (τ : ST) (y3 : Int32) (m' : Nat), 30 ≤ m' → frM σ τ → MM τ A → y3 = -1 → (∀ τ, frM σ τ → MM τ (reA A 1).2 → Q (some (.inl (reA A 1).1)) τ) → wp N m' (e + 6, 0) TX11_heard 11 [H11, iA x, iA y, none] [.inl y3] τ Q := by
    intro τ y3 m' hm' fr hh ey hq
    obtain ⟨n2, rfl⟩ := il_ex (K := 10) (m := m') (by omega)
    refine ⟨fun z => absurd (show y3 = Int32.ofInt (-1) by rw [ey, im1]) z, fun _ => ?_⟩
    refine ⟨trivial, c_refusedM (by omega) ⟨Or.inl rfl, ?_⟩⟩
    exact hq _ (frM_tr fr frM_tp) (MM_tp hh _ _)
  refine b_ne h'.s.1 z0 (by omega) (by omega) (fun q0 => ?_) (fun q0 => ?_)
  · have q1 : 0 < A.1.nh := by omega
    by_cases nx : x < 0
    · have e0 : inR x (hdC A.1 A.2.1 A.2.2.1 A.2.2.1.ns) = none := if_neg (fun z => z.1 nx)
      rw [e0] at hQ
      refine ⟨trivial, c_slotOfN (h'.e q1) (by omega) nx (by omega) ?_⟩
      exact ref _ _ _ (by omega) fr0 h' rfl hQ
    · obtain ⟨i, hi, ei⟩ := nI_of nx
      refine ⟨trivial, c_slotOfM (e := e + 2) v.s (v.r q1) v.e h'.s (h'.r q1) (h'.e q1) (by omega) ei (by omega) (fun τ s o1 hs ws es => ?_) (fun τ o1 hle => ?_)⟩
      · have lt : i < hdC A.1 A.2.1 A.2.2.1 A.2.2.1.ns := by rw [← es]; exact hdC_lt hs ws
        rw [show inR x (hdC A.1 A.2.1 A.2.2.1 A.2.2.1.ns) = some i by rw [ei]; exact inR_n (by omega) lt] at hQ
        simp only at hQ
        rw [← hdS_of hs ws es] at hQ
        have h1 := MM_of o1 (by decide) h'
        have fr1 : frM σ τ := frM_tr fr0 (frM_off o1 (by decide))
        refine ⟨fun _ => ?_, fun z => absurd (b_n1 (z := s) (by omega)) z⟩
        refine ⟨fun q => ?_, fun n0 => ⟨fun q => ?_, fun n1 => ⟨fun q => ?_, fun n2 => ?_⟩⟩⟩
        · rw [if_pos q] at hQ
          refine ⟨trivial, c_winner (e := e + 3) (jv := 27) rfl (by decide) v.s (v.r q1) v.e h1.s (h1.r q1) (h1.e q1) hs rfl (by omega) (fun τ2 o2 v2 => ?_)⟩
          refine ⟨trivial, c_good (by omega) ⟨Or.inl rfl, ?_⟩⟩
          rw [show wcI (wnF A.1 A.2.1 A.2.2.1 s) = nI (wnF A.1 A.2.1 A.2.2.1 s) by unfold wcI; rw [if_neg ws]]
          exact hQ _ (frM_tr fr1 (frM_tr (frM_off o2 (by decide)) frM_tp)) (MM_tp (MM_of o2 (by decide) h1) _ _)
        · rw [if_neg n0, if_pos q] at hQ
          refine ⟨trivial, c_heardAt (e := e + 2) v.s (v.r q1) v.e h1.s (h1.r q1) (h1.e q1) hs ws rfl (by omega) (fun τ2 o2 => ?_)⟩
          refine ⟨trivial, c_good (by omega) ⟨Or.inl rfl, ?_⟩⟩
          exact hQ _ (frM_tr fr1 (frM_tr (frM_off o2 (by decide)) frM_tp)) (MM_tp (MM_of o2 (by decide) h1) _ _)
        · rw [if_neg n0, if_neg n1, if_pos q] at hQ
          refine ⟨trivial, c_good (by omega) ⟨Or.inl rfl, ?_⟩⟩
          exact hQ _ (frM_tr fr1 frM_tp) (MM_tp h1 _ _)
        · rw [if_neg n0, if_neg n1, if_neg n2] at hQ
          refine ⟨trivial, c_refusedM (by omega) ⟨Or.inl rfl, ?_⟩⟩
          exact hQ _ (frM_tr fr1 frM_tp) (MM_tp h1 _ _)
      · have e0 : inR x (hdC A.1 A.2.1 A.2.2.1 A.2.2.1.ns) = none := if_neg (fun z => by
          have := z.2
          rw [ei] at this
          exact absurd this (nI_nlt hle (by omega)))
        rw [e0] at hQ
        exact ref τ _ _ (by omega) (frM_tr fr0 (frM_off o1 (by decide))) (MM_of o1 (by decide) h') rfl hQ
  · have e0 : hdC A.1 A.2.1 A.2.2.1 A.2.2.1.ns = 0 := by rw [(v.z q0).1]; rfl
    rw [e0, inR_0] at hQ
    exact ⟨trivial, ref _ _ _ (by omega) fr0 h' im1 hQ⟩
end CA6
