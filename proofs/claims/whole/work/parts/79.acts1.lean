/-! acts: what they have in common; costs, window, share, weight -/
def actA (A : AS) (R : RUc) (E : NEc) : AS := ⟨A.1, R, E, min (A.2.2.2.1 + 1) 10, pcI A.2.1 A.2.2.1 A.2.2.2.2.1, A.2.2.2.2.2.1, A.2.2.2.2.2.2.1, A.2.2.2.2.2.2.2.1, 0, A.2.2.2.2.2.2.2.2.2.1, -1⟩
section AC1
variable {N e m : Nat} {σ : ST} {Q : POST} {A : AS}
theorem V_act (v : VV A) (h0 : 0 < A.1.nh) {R : RUc} {E : NEc} (hR : vRU A.1 R) (hE : vNE A.1 E) : VV (actA A R E) := by
  refine ⟨v.s, fun _ => hR, hE, fun q => absurd q (by show ¬ A.1.nh = 0; omega), ⟨by show min (A.2.2.2.1 + 1) 10 ≤ 10; omega, fun i hi => ?_⟩, v.t, v.w⟩
  have hi : i < min (A.2.2.2.1 + 1) 10 := hi
  show vRU A.1 (pcI A.2.1 A.2.2.1 A.2.2.2.2.1 i).1 ∧ vNE A.1 (pcI A.2.1 A.2.2.1 A.2.2.2.2.1 i).2
  by_cases q : i = 0
  · rw [show pcI A.2.1 A.2.2.1 A.2.2.2.2.1 i = (A.2.1, A.2.2.1) from if_pos q]
    exact ⟨v.r h0, v.e⟩
  · rw [show pcI A.2.1 A.2.2.1 A.2.2.2.2.1 i = A.2.2.2.2.1 (i - 1) from if_neg q]
    exact v.p.2 (i - 1) (by omega)
/-- rows of rules and net too -/
theorem CC_set {L : List RF} {τ : ST} (h : CC σ A) (hk : σ.1 4 0 2 0 = 0) (ho : off L σ τ) (hL : ∀ r ∈ L, scC r ∨ (r.1 = 7 ∧ r.2.1 = 0) ∨ (r.1 = 3 ∧ r.2.1 = 0)) (hf : cFA τ A.1) {R : RUc} {E : NEc} (hR : cRU τ 0 A.1 R) (hE : cNE τ 0 E) : CC τ ⟨A.1, R, E, A.2.2.2.1, A.2.2.2.2.1, A.2.2.2.2.2.1, A.2.2.2.2.2.2.1, A.2.2.2.2.2.2.2.1, A.2.2.2.2.2.2.2.2.1, A.2.2.2.2.2.2.2.2.2.1, A.2.2.2.2.2.2.2.2.2.2⟩ := by
  have k : ∀ c' k' j', ¬ (scC (c', k', j') ∨ (c' = 7 ∧ k' = 0) ∨ (c' = 3 ∧ k' = 0)) → τ.1 c' k' j' = σ.1 c' k' j' := fun c' k' j' q => (ho c' k' j' (fun z => q (hL _ z))).1
  refine ⟨cSP_eq (fun j => k 8 0 j (by unfold scC; simp only; omega)) h.s, fun _ => hR, hE, cAC_eq (fun j => k 0 0 j (by unfold scC; simp only; omega)) h.p, hf, cNE_eq (fun j => k 3 2 j (by unfold scC; simp only; omega)) h.o, Or.inl ?_, ?_, cWR_eq (k 10 0 2 (by unfold scC; simp only; omega)) (k 10 0 17 (by unfold scC; simp only; omega)) h.w, ?_⟩
  · rw [k 4 0 2 (by unfold scC; simp only; omega)]; exact hk
  · rw [k 10 0 16 (by unfold scC; simp only; omega), k 10 0 1 (by unfold scC; simp only; omega)]; exact h.t
  · rw [k 10 0 18 (by unfold scC; simp only; omega), k 10 0 19 (by unfold scC; simp only; omega), k 10 0 20 (by unfold scC; simp only; omega)]; exact h.m
theorem MM_set {L : List RF} {τ : ST} (h : MM σ A) (ho : off L σ τ) (hL : ∀ r ∈ L, scM r ∨ r = (11, 0, 27)) {R : RUc} {E : NEc} (hR : mRU (τ.1 11 0 27) A.1 R) (hE : mNE (τ.1 11 0 27) E) : MM τ ⟨A.1, R, E, A.2.2.2.1, A.2.2.2.2.1, A.2.2.2.2.2.1, A.2.2.2.2.2.2.1, A.2.2.2.2.2.2.2.1, A.2.2.2.2.2.2.2.2.1, A.2.2.2.2.2.2.2.2.2.1, A.2.2.2.2.2.2.2.2.2.2⟩ := by
  have k : ∀ j, (j = 2 ∨ j = 3 ∨ j = 4 ∨ j = 5 ∨ j = 8 ∨ j = 17 ∨ j = 21 ∨ j = 22 ∨ j = 23 ∨ j = 25 ∨ j = 26 ∨ j = 29 ∨ j = 30 ∨ j = 47 ∨ j = 48) → τ.1 11 0 j = σ.1 11 0 j ∧ τ.2 11 0 j = σ.2 11 0 j := fun j hj => ho 11 0 j (fun z => by
    rcases hL _ z with this | this
    · unfold scM at this; simp only at this; omega
    · have := (Prod.mk.inj (Prod.mk.inj this).2).2; omega)
  refine ⟨?_, fun _ => hR, fun _ => hE, ?_, ?_, ?_, ?_⟩
  · have := h.s
    unfold mSP at *
    rw [(k 25 (by omega)).1, (k 26 (by omega)).1, (k 21 (by omega)).1, (k 22 (by omega)).1, (k 23 (by omega)).1, (k 17 (by omega)).2]
    exact this
  · have := h.p
    unfold mAC at *
    rw [(k 30 (by omega)).1, (k 29 (by omega)).1]
    exact this
  · rw [(k 5 (by omega)).1, (k 4 (by omega)).1]; exact h.t
  · have := h.w
    unfold mWR at *
    rw [(k 48 (by omega)).1, (k 47 (by omega)).1]
    exact this
  · rw [(k 2 (by omega)).1, (k 8 (by omega)).1, (k 3 (by omega)).1]; exact h.m
theorem MM_rem {τ : ST} (h : MM σ A) (ho : off [(11, 0, 29), (11, 0, 30)] σ τ) {c : Nat} {P : PAc} (hp : mAC τ A.1 c P) : MM τ ⟨A.1, A.2.1, A.2.2.1, c, P, A.2.2.2.2.2.1, A.2.2.2.2.2.2.1, A.2.2.2.2.2.2.2.1, A.2.2.2.2.2.2.2.2.1, A.2.2.2.2.2.2.2.2.2.1, A.2.2.2.2.2.2.2.2.2.2⟩ := by
  have k : ∀ j, (j ≠ 29 ∧ j ≠ 30) → τ.1 11 0 j = σ.1 11 0 j ∧ τ.2 11 0 j = σ.2 11 0 j := fun j hj => ho 11 0 j (fun z => by simp at z; omega)
  refine ⟨?_, fun q => by rw [(k 27 (by omega)).1]; exact h.r q, fun q => by rw [(k 27 (by omega)).1]; exact h.e q, hp, ?_, ?_, ?_⟩
  · have := h.s
    unfold mSP at *
    rw [(k 25 (by omega)).1, (k 26 (by omega)).1, (k 21 (by omega)).1, (k 22 (by omega)).1, (k 23 (by omega)).1, (k 17 (by omega)).2]
    exact this
  · rw [(k 5 (by omega)).1, (k 4 (by omega)).1]; exact h.t
  · have := h.w
    unfold mWR at *
    rw [(k 48 (by omega)).1, (k 47 (by omega)).1]
    exact this
  · rw [(k 2 (by omega)).1, (k 8 (by omega)).1, (k 3 (by omega)).1]; exact h.m
set_option maxRecDepth 100000 in
/-- HeardVotes.beginAct -/
theorem C_beginAct (v : VV A) (h : CC σ A) (h0 : 0 < A.1.nh) (hm : 31000 ≤ m) (hQ : ∀ τ, frC σ τ → CC τ (actA A A.2.1 A.2.2.1) → τ.1 4 0 2 0 = 0 → Q none τ) :
    wp N m (e + 4, 0) TX10_beginAct 0 [H10] [] σ Q := by
  obtain ⟨n, rfl⟩ := il_ex (K := 30) (m := m) (by omega)
  refine ⟨trivial, c_answered (by omega) ?_⟩
  have h1 := CC_tp h 0 (-1)
  have fr1 : frC σ (uI (uI σ 10 0 18 0 0) 10 0 20 0 (-1)) := frC_tp
  generalize hσ1 : uI (uI σ 10 0 18 0 0) 10 0 20 0 (-1) = σ1 at *
  refine ⟨trivial, c_keep (e := e) v.s v.e (h1.r h0) h1.e v.p h1.p (by omega) (fun τ o1 a1 => ?_)⟩
  have k : ∀ c' k' j', ¬ (c' = 0) → τ.1 c' k' j' = σ1.1 c' k' j' := fun c' k' j' q => (o1 c' k' j' (fun z => q (by simp at z; omega))).1
  have fr2 : frC σ1 τ := fun c' k' j' q => o1 c' k' j' (fun z => by simp at z; omega)
  have k2 : ∀ c' k' j', ¬ (c' = 4 ∧ k' = 0 ∧ j' = 2) → (uI τ 4 0 2 0 (Int32.ofInt 0)).1 c' k' j' = τ.1 c' k' j' := fun c' k' j' q => (uI_off τ 4 0 2 0 (Int32.ofInt 0) c' k' j' q).1
  have k3 : ∀ c' k' j', ¬ (c' = 0) → ¬ (c' = 4 ∧ k' = 0 ∧ j' = 2) → (uI τ 4 0 2 0 (Int32.ofInt 0)).1 c' k' j' = σ1.1 c' k' j' := fun c' k' j' a b => (k2 c' k' j' b).trans (k c' k' j' a)
  refine ⟨trivial, ?_⟩
  refine ⟨Or.inl rfl, ?_⟩
  refine hQ _ (frC_tr fr1 (frC_tr fr2 (frC_uI (by omega)))) ⟨cSP_eq (fun j => k3 8 0 j (by omega) (by omega)) h1.s, fun _ => cRU_eq (fun j => k3 7 0 j (by omega) (by omega)) (h1.r h0), cNE_eq (fun j => k3 3 0 j (by omega) (by omega)) h1.e, cAC_eq (fun j => k2 0 0 j (by omega)) a1, cFA_eq (k3 2 0 3 (by omega) (by omega)) h1.f, cNE_eq (fun j => k3 3 2 j (by omega) (by omega)) h1.o, Or.inl ?_, ?_, cWR_eq (k3 10 0 2 (by omega) (by omega)) (k3 10 0 17 (by omega) (by omega)) h1.w, ?_⟩ ?_
  · rw [uI_at]; rfl
  · rw [k3 10 0 16 (by omega) (by omega), k3 10 0 1 (by omega) (by omega)]; exact h1.t
  · rw [k3 10 0 18 (by omega) (by omega), k3 10 0 19 (by omega) (by omega), k3 10 0 20 (by omega) (by omega)]; exact h1.m
  · rw [uI_at]; rfl
theorem i9 : (Int8.ofInt 9).toInt32 = nI 9 := by decide
theorem i200 : (Int16.ofInt 200).toInt32 = nI 200 := by decide
/-- refused acts answer false -/
def raA (A : AS) (n : Int) : Int32 × AS := (nI 0, A.tp (Int32.ofInt n) (-1))
theorem V_ra (v : VV A) (n : Int) : VV (raA A n).2 := VV_tp v _ _
def st_costs (A : AS) (x y z : Int32) : Int32 × AS := if A.1.nh = 0 then raA A 1 else match inB x 1 9 with
  | none => raA A 2
  | some a => match inB y 1 9 with
    | none => raA A 2
    | some b => match inB z 0 9 with
      | none => raA A 2
      | some c => (nI 1, actA A (a, b, c, A.2.1.wn, A.2.1.sh, A.2.1.wt) A.2.2.1)
theorem inB_s {x : Int32} {a b j : Nat} (ha : a < 2147483648) (hb : b < 2147483647) (h : inB x a b = some j) : a ≤ j ∧ j ≤ b ∧ x = nI j := by
  rcases inB_c x ha hb with ⟨i, h1, h2, h3, h4⟩ | ⟨h1, _⟩
  · rw [h4] at h; cases h; exact ⟨h1, h2, h3⟩
  · rw [h1] at h; cases h
theorem V_costs (v : VV A) (x y z : Int32) : VV (st_costs A x y z).2 := by
  unfold st_costs
  by_cases q : A.1.nh = 0
  · rw [if_pos q]; exact V_ra v _
  · rw [if_neg q]
    cases ha : inB x 1 9 with
    | none => exact V_ra v _
    | some a =>
      simp only
      cases hb : inB y 1 9 with
      | none => exact V_ra v _
      | some b =>
        simp only
        cases hc : inB z 0 9 with
        | none => exact V_ra v _
        | some c =>
          have r := v.r (by omega)
          have a' := inB_s (by omega) (by omega) ha
          have b' := inB_s (by omega) (by omega) hb
          have c' := inB_s (by omega) (by omega) hc
          exact V_act v (by omega) ⟨⟨a'.1, a'.2.1⟩, ⟨b'.1, b'.2.1⟩, c'.2.1, r.2.2.2.1, r.2.2.2.2.1, r.2.2.2.2.2⟩ v.e
set_option maxRecDepth 100000 in
theorem C_costs (v : VV A) (h : CC σ A) {x y z : Int32} (hm : 40000 ≤ m) (hQ : ∀ τ, frC σ τ → CC τ (st_costs A x y z).2 → Q (some (.inl (st_costs A x y z).1)) τ) :
    wp N m (e + 6, 0) TX10_costs 0 [H10, iA x, iA y, iA z] [] σ Q := by
  have hnh := v.s.1
  obtain ⟨n, rfl⟩ := il_ex (K := 60) (m := m) (by omega)
  unfold st_costs at hQ
  refine ⟨trivial, c_isTold h.s.1 (by omega) (by omega) (fun q0 => ?_) (fun q0 => ?_)⟩
  · rw [if_neg (by omega)] at hQ
    have ref : ∀ m', 60 ≤ m' → (∀ τ, frC σ τ → CC τ (raA A 2).2 → Q (some (.inl (raA A 2).1)) τ) → wp N m' (e + 6, 0) TX10_costs 22 [H10, iA x, iA y, iA z] [] σ Q := by
      intro m' hm' hq
      obtain ⟨n2, rfl⟩ := il_ex (K := 5) (m := m') (by omega)
      refine ⟨trivial, c_refusedAct (e := e + 4) (by omega) ⟨Or.inr (Or.inl rfl), ?_⟩⟩
      exact hq _ frC_tp (CC_tp h _ _)
    refine b_ne (a := 1) rfl z0 (by omega) (by omega) (fun _ => ?_) (fun q => by omega)
    refine ⟨trivial, c_withinB (a := 1) (b := 9) (by omega) (by omega) oi_1 i9 (by omega) (fun a a1 a2 ea qa => ?_) (fun qa => ?_)⟩
    · rw [qa] at hQ
      simp only at hQ
      refine b_eq (a := 1) rfl z0 (by omega) (by omega) (fun q => by omega) (fun _ => ?_)
      refine ⟨trivial, c_withinB (a := 1) (b := 9) (by omega) (by omega) oi_1 i9 (by omega) (fun b b1 b2 eb qb => ?_) (fun qb => ?_)⟩
      · rw [qb] at hQ
        simp only at hQ
        refine b_eq (a := 1) rfl z0 (by omega) (by omega) (fun q => by omega) (fun _ => ?_)
        refine ⟨trivial, c_withinB (a := 0) (b := 9) (by omega) (by omega) oi_0 i9 (by omega) (fun c c1 c2 ec qc => ?_) (fun qc => ?_)⟩
        · rw [qc] at hQ
          refine b_ne (a := 1) rfl z0 (by omega) (by omega) (fun _ => ?_) (fun q => by omega)
          refine ⟨trivial, C_beginAct (e := e + 1) v h q0 (by omega) (fun τ fr1 h1 kn => ?_)⟩
          refine ⟨Or.inr (Or.inr rfl), ?_⟩
          have o1 : off [(7, 0, 1), (7, 0, 2), (7, 0, 3)] τ (uI (uI (uI τ 7 0 1 0 x) 7 0 2 0 y) 7 0 3 0 z) := off_uI (off_uI (off_uI (off_rf _ _) (by decide)) (by decide)) (by decide)
          obtain ⟨r1, r2, r3, r4, r5, r6⟩ := h1.r q0
          refine hQ _ (frC_tr fr1 (frC_off o1 (by decide))) (CC_set h1 kn o1 (by decide) (cFA_eq (o1 2 0 3 (by decide)).1 h1.f) ⟨?_, ?_, ?_, ?_, ?_, fun g hg => ?_⟩ (cNE_off o1 (by decide) h1.e))
          · rw [uI_nr _ _ _ _ _ _ (by decide), uI_nr _ _ _ _ _ _ (by decide), uI_at]; exact ea
          · rw [uI_nr _ _ _ _ _ _ (by decide), uI_at]; exact eb
          · rw [uI_at]; exact ec
          · rw [off_1 o1 (by decide)]; exact r4
          · rw [off_1 o1 (by decide)]; exact r5
          · rw [off_1 o1 (by decide)]; exact r6 g hg
        · rw [qc] at hQ
          exact b_ne (a := 0) rfl z0 (by omega) (by omega) (fun q => absurd rfl q) (fun _ => ref _ (by omega) hQ)
      · rw [qb] at hQ
        exact b_eq (a := 0) rfl z0 (by omega) (by omega) (fun _ => ref _ (by omega) hQ) (fun q => absurd rfl q)
    · rw [qa] at hQ
      exact b_eq (a := 0) rfl z0 (by omega) (by omega) (fun _ => ref _ (by omega) hQ) (fun q => absurd rfl q)
  · rw [if_pos q0] at hQ
    refine b_ne (a := 0) rfl z0 (by omega) (by omega) (fun q => absurd rfl q) (fun _ => ?_)
    refine ⟨trivial, c_refusedAct (e := e + 4) (by omega) ⟨Or.inr (Or.inl rfl), ?_⟩⟩
    exact hQ _ frC_tp (CC_tp h _ _)
theorem dn_1 : (if Int32.ofInt 1 = 0 then nI 1 else nI 0) = nI 0 := by decide
theorem dn_2 : (if Int32.ofInt 2 = 0 then nI 1 else nI 0) = nI 0 := by decide
theorem dn_0 : (if Int32.ofInt 0 = 0 then nI 1 else nI 0) = nI 1 := by decide
/-- an act of the reference ends well -/
theorem MM_act {τ υ : ST} {L : List RF} (h1 : MM τ ⟨A.1, A.2.1, A.2.2.1, min (A.2.2.2.1 + 1) 10, pcI A.2.1 A.2.2.1 A.2.2.2.2.1, A.2.2.2.2.2.1, A.2.2.2.2.2.2.1, A.2.2.2.2.2.2.2.1, A.2.2.2.2.2.2.2.2.1, A.2.2.2.2.2.2.2.2.2.1, A.2.2.2.2.2.2.2.2.2.2⟩) (ho : off L τ υ) (hL : ∀ r ∈ L, scM r ∨ r = (11, 0, 27)) {R : RUc} {E : NEc} (hR : mRU (υ.1 11 0 27) A.1 R) (hE : mNE (υ.1 11 0 27) E) : MM (uI (uI υ 11 0 2 0 0) 11 0 3 0 (-1)) (actA A R E) := MM_tp (MM_set h1 ho hL hR hE) 0 (-1)
set_option maxRecDepth 100000 in
theorem M_costs (v : VV A) (h : MM σ A) {x y z : Int32} (hm : 80000 ≤ m) (hQ : ∀ τ, frM σ τ → MM τ (st_costs A x y z).2 → Q (some (.inl (st_costs A x y z).1)) τ) :
    wp N m (e + 6, 0) TX11_costs 0 [H11, iA x, iA y, iA z] [] σ Q := by
  have hnh := v.s.1
  obtain ⟨n, rfl⟩ := il_ex (K := 60) (m := m) (by omega)
  unfold st_costs at hQ
  have h' := MM_th h (Int32.ofInt 0)
  have fr0 : frM σ (uI σ 11 0 1 0 (Int32.ofInt 0)) := frM_uI
  refine b_ne h'.s.1 z0 (by omega) (by omega) (fun q0 => ?_) (fun q0 => ?_)
  · have q1 : 0 < A.1.nh := by omega
    rw [if_neg q0] at hQ
    have ref : ∀ m', 60 ≤ m' → (∀ τ, frM σ τ → MM τ (raA A 2).2 → Q (some (.inl (raA A 2).1)) τ) → wp N m' (e + 6, 0) TX11_costs 25 [H11, iA x, iA y, iA z] [] (uI σ 11 0 1 0 (Int32.ofInt 0)) Q := by
      intro m' hm' hq
      obtain ⟨n2, rfl⟩ := il_ex (K := 5) (m := m') (by omega)
      refine ⟨trivial, c_done (by omega) ?_⟩
      rw [dn_2]
      refine ⟨Or.inr (Or.inl rfl), ?_⟩
      exact hq _ (frM_tr fr0 frM_tp) (MM_tp h' _ _)
    refine ⟨trivial, c_inB (a := 1) (b := 9) (by omega) (by omega) oi_1 i9 (by omega) (fun a a1 a2 ea qa => ?_) (fun qa => ?_)⟩
    · rw [qa] at hQ
      simp only at hQ
      refine b_eq (a := 1) rfl z0 (by omega) (by omega) (fun q => by omega) (fun _ => ?_)
      refine ⟨trivial, c_inB (a := 1) (b := 9) (by omega) (by omega) oi_1 i9 (by omega) (fun b b1 b2 eb qb => ?_) (fun qb => ?_)⟩
      · rw [qb] at hQ
        simp only at hQ
        refine b_eq (a := 1) rfl z0 (by omega) (by omega) (fun q => by omega) (fun _ => ?_)
        refine ⟨trivial, c_inB (a := 0) (b := 9) (by omega) (by omega) oi_0 i9 (by omega) (fun c c1 c2 ec qc => ?_) (fun qc => ?_)⟩
        · rw [qc] at hQ
          refine b_ne (a := 1) rfl z0 (by omega) (by omega) (fun _ => ?_) (fun q => by omega)
          refine ⟨trivial, c_remembers v.s v.e (h'.r q1) (h'.e q1) v.p h'.p (by omega) (fun τ o1 a1 => ?_)⟩
          have h1 := MM_rem h' o1 a1
          refine ⟨il_in oi_0 (by omega) (by omega), il_in oi_1 (by omega) (by omega), il_in i2 (by omega) (by omega), ?_⟩
          rw [il_cl oi_0 (by omega), il_cl oi_1 (by omega), il_cl i2 (by omega)]
          refine ⟨trivial, c_done (by omega) ?_⟩
          rw [dn_0]
          refine ⟨Or.inr (Or.inr rfl), ?_⟩
          have o2 : off [(11, 0, 27)] τ (uI (uI (uI τ 11 0 27 0 x) 11 0 27 1 y) 11 0 27 2 z) := off_uI (off_uI (off_uI (off_rf _ _) (by decide)) (by decide)) (by decide)
          have r27 : ∀ u, (uI (uI (uI τ 11 0 27 0 x) 11 0 27 1 y) 11 0 27 2 z).1 11 0 27 u = if u = 2 then z else if u = 1 then y else if u = 0 then x else τ.1 11 0 27 u := fun u => by rw [uI_if, uI_if, uI_if]
          obtain ⟨r1, r2, r3, r4, r5, r6⟩ := h1.r q1
          have hns := vNE_ns v.s v.e
          refine hQ _ (frM_tr fr0 (frM_tr (frM_off o1 (by decide)) (frM_tr (frM_off o2 (by decide)) frM_tp))) (MM_act h1 o2 (by decide) ⟨?_, ?_, ?_, ?_, ?_, fun g hg => ?_⟩ ?_)
          · rw [r27]; exact ea
          · rw [r27]; exact eb
          · rw [r27]; exact ec
          · rw [r27]; exact r4
          · rw [r27]; exact r5
          · rw [r27, if_neg (by omega), if_neg (by omega), if_neg (by omega)]; exact r6 g hg
          · obtain ⟨n1, n2, n3, n4⟩ := h1.e q1
            refine ⟨by rw [r27]; exact n1, by rw [r27]; exact n2, fun p hp => ?_, fun s hs g hg => ?_⟩
            · rw [r27, r27, if_neg (by omega), if_neg (by omega), if_neg (by omega), if_neg (by omega), if_neg (by omega), if_neg (by omega)]; exact n3 p hp
            · rw [r27, if_neg (by omega), if_neg (by omega), if_neg (by omega)]; exact n4 s hs g hg
        · rw [qc] at hQ
          exact b_ne (a := 0) rfl z0 (by omega) (by omega) (fun q => absurd rfl q) (fun _ => ref _ (by omega) hQ)
      · rw [qb] at hQ
        exact b_eq (a := 0) rfl z0 (by omega) (by omega) (fun _ => ref _ (by omega) hQ) (fun q => absurd rfl q)
    · rw [qa] at hQ
      exact b_eq (a := 0) rfl z0 (by omega) (by omega) (fun _ => ref _ (by omega) hQ) (fun q => absurd rfl q)
  · rw [if_pos q0] at hQ
    refine ⟨trivial, c_done (by omega) ?_⟩
    rw [dn_1]
    refine ⟨Or.inr (Or.inl rfl), ?_⟩
    exact hQ _ (frM_tr fr0 frM_tp) (MM_tp h' _ _)
end AC1
