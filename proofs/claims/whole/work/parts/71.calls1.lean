/-! calls: fault, where, size, trouble, feed, about, hearing -/
section CA1
variable {N e m : Nat} {σ : ST} {Q : POST} {A : AS}
theorem C_fault (c : CC σ A) (hm : 20 ≤ m) (hQ : Q (some (.inl A.2.2.2.2.2.2.2.2.2.1)) σ) : wp N m (e, 0) TX10_fault 0 [H10] [] σ Q := by
  obtain ⟨n, rfl⟩ := il_ex hm
  refine ⟨Or.inl rfl, ?_⟩
  rw [← c.m.2.1] at hQ
  exact hQ
theorem M_fault (c : MM σ A) (hm : 20 ≤ m) (hQ : ∀ τ, frM σ τ → MM τ A → Q (some (.inl A.2.2.2.2.2.2.2.2.2.1)) τ) : wp N m (e, 0) TX11_fault 0 [H11] [] σ Q := by
  obtain ⟨n, rfl⟩ := il_ex hm
  refine ⟨Or.inl rfl, ?_⟩
  have := hQ (uI σ 11 0 1 0 (Int32.ofInt 0)) frM_uI (MM_th c _)
  rw [← (MM_th c (Int32.ofInt 0)).m.2.1] at this
  exact this
theorem C_where (c : CC σ A) (hm : 20 ≤ m) (hQ : Q (some (.inl A.2.2.2.2.2.2.2.2.2.2)) σ) : wp N m (e, 0) TX10_where 0 [H10] [] σ Q := by
  obtain ⟨n, rfl⟩ := il_ex hm
  refine ⟨Or.inl rfl, ?_⟩
  rw [← c.m.2.2] at hQ
  exact hQ
theorem M_where (c : MM σ A) (hm : 20 ≤ m) (hQ : ∀ τ, frM σ τ → MM τ A → Q (some (.inl A.2.2.2.2.2.2.2.2.2.2)) τ) : wp N m (e, 0) TX11_where 0 [H11] [] σ Q := by
  obtain ⟨n, rfl⟩ := il_ex hm
  refine ⟨Or.inl rfl, ?_⟩
  have := hQ (uI σ 11 0 1 0 (Int32.ofInt 0)) frM_uI (MM_th c _)
  rw [← (MM_th c (Int32.ofInt 0)).m.2.2] at this
  exact this
theorem C_size (c : CC σ A) (hm : 20 ≤ m) (hQ : Q (some (.inl (nI A.2.2.2.2.2.1))) σ) : wp N m (e, 0) TX10_size 0 [H10] [] σ Q := by
  obtain ⟨n, rfl⟩ := il_ex hm
  refine ⟨Or.inl rfl, ?_⟩
  rw [← c.t.1] at hQ
  exact hQ
theorem M_size (c : MM σ A) (hm : 20 ≤ m) (hQ : ∀ τ, frM σ τ → MM τ A → Q (some (.inl (nI A.2.2.2.2.2.1))) τ) : wp N m (e, 0) TX11_size 0 [H11] [] σ Q := by
  obtain ⟨n, rfl⟩ := il_ex hm
  refine ⟨Or.inl rfl, ?_⟩
  have := hQ (uI σ 11 0 1 0 (Int32.ofInt 0)) frM_uI (MM_th c _)
  rw [← (MM_th c (Int32.ofInt 0)).t.1] at this
  exact this
theorem C_trouble (c : CC σ A) (hm : 20 ≤ m) (hQ : Q (some (.inl A.2.2.2.2.2.2.2.2.1)) σ) : wp N m (e, 0) TX10_trouble 0 [H10] [] σ Q := by
  obtain ⟨n, rfl⟩ := il_ex hm
  refine ⟨Or.inl rfl, ?_⟩
  rw [← c.m.1] at hQ
  exact hQ
theorem M_trouble (c : MM σ A) (hm : 20 ≤ m) (hQ : ∀ τ, frM σ τ → MM τ A → Q (some (.inl A.2.2.2.2.2.2.2.2.1)) τ) : wp N m (e, 0) TX11_trouble 0 [H11] [] σ Q := by
  obtain ⟨n, rfl⟩ := il_ex hm
  refine ⟨Or.inl rfl, ?_⟩
  have := hQ (uI σ 11 0 1 0 (Int32.ofInt 0)) frM_uI (MM_th c _)
  rw [← (MM_th c (Int32.ofInt 0)).m.1] at this
  exact this
def st_feed (A : AS) (a b c d f : Int32) : Int32 × AS := if 600 < A.2.2.2.2.2.1 + 20 then (-1, A) else (nI (A.2.2.2.2.2.1 + 20), ⟨A.1, A.2.1, A.2.2.1, A.2.2.2.1, A.2.2.2.2.1, A.2.2.2.2.2.1 + 20, fun i => if i < A.2.2.2.2.2.1 then A.2.2.2.2.2.2.1 i else fdB a b c d f (i - A.2.2.2.2.2.1), A.2.2.2.2.2.2.2.1, A.2.2.2.2.2.2.2.2.1, A.2.2.2.2.2.2.2.2.2.1, A.2.2.2.2.2.2.2.2.2.2⟩)
theorem byN_lt (x : Int32) (j : Nat) : byN x j < 256 := Nat.mod_lt _ (by omega)
theorem V_feed (v : VV A) (a b c d f : Int32) : VV (st_feed A a b c d f).2 := by
  unfold st_feed
  by_cases q : 600 < A.2.2.2.2.2.1 + 20
  · rw [if_pos q]; exact v
  · rw [if_neg q]
    refine ⟨v.s, v.r, v.e, v.z, v.p, ⟨by show A.2.2.2.2.2.1 + 20 ≤ 600; omega, fun i hi => ?_⟩, v.w⟩
    show (if i < A.2.2.2.2.2.1 then A.2.2.2.2.2.2.1 i else fdB a b c d f (i - A.2.2.2.2.2.1)) < 256
    by_cases z : i < A.2.2.2.2.2.1
    · rw [if_pos z]; exact v.t.2 i z
    · rw [if_neg z]; exact byN_lt _ _
theorem C_feed (v : VV A) (h : CC σ A) {a b c d f : Int32} (hm : 400 ≤ m) (hQ : ∀ τ, frC σ τ → CC τ (st_feed A a b c d f).2 → Q (some (.inl (st_feed A a b c d f).1)) τ) :
    wp N m (e + 1, 0) TX10_feed 0 [H10, iA a, iA b, iA c, iA d, iA f] [] σ Q := by
  refine c_feed v.t.1 h.t.1 hm (fun q => ?_) (fun τ q o1 s1 r1 => ?_)
  · unfold st_feed at hQ
    rw [if_pos q] at hQ
    exact hQ σ (frC_rf _) h
  · unfold st_feed at hQ
    rw [if_neg (by omega)] at hQ
    have k : ∀ c' k' j', (c' ≠ 10 ∨ (j' ≠ 1 ∧ j' ≠ 16)) → τ.1 c' k' j' = σ.1 c' k' j' := fun c' k' j' q => (o1 c' k' j' (fun z => by simp at z; omega)).1
    refine hQ τ (frC_off o1 (by decide)) ⟨cSP_eq (fun j => k 8 0 j (by omega)) h.s, fun q => cRU_eq (fun j => k 7 0 j (by omega)) (h.r q), cNE_eq (fun j => k 3 0 j (by omega)) h.e, cAC_eq (fun j => k 0 0 j (by omega)) h.p, cFA_eq (k 2 0 3 (by omega)) h.f, cNE_eq (fun j => k 3 2 j (by omega)) h.o, ?_, ⟨s1, fun i hi => ?_⟩, cWR_eq (k 10 0 2 (by omega)) (k 10 0 17 (by omega)) h.w, ?_⟩
    · rw [k 4 0 2 (by omega)]
      rcases h.k with z | z
      · exact Or.inl z
      · exact Or.inr ⟨z.1, z.2.1, cKN_eq (fun j => k 4 0 j (by omega)) z.2.2⟩
    · have hi : i < A.2.2.2.2.2.1 + 20 := hi
      show _ = nI (if i < A.2.2.2.2.2.1 then A.2.2.2.2.2.2.1 i else fdB a b c d f (i - A.2.2.2.2.2.1))
      rw [r1]
      by_cases z : i < A.2.2.2.2.2.1
      · rw [if_neg (by omega), if_pos z]; exact h.t.2 i z
      · rw [if_pos (by omega), if_neg z]
    · rw [k 10 0 18 (by omega), k 10 0 19 (by omega), k 10 0 20 (by omega)]; exact h.m
theorem M_feed (v : VV A) (h : MM σ A) {a b c d f : Int32} (hm : 1500 ≤ m) (hQ : ∀ τ, frM σ τ → MM τ (st_feed A a b c d f).2 → Q (some (.inl (st_feed A a b c d f).1)) τ) :
    wp N m (e, 0) TX11_feed 0 [H11, iA a, iA b, iA c, iA d, iA f, none, none] [] σ Q := by
  refine c_feedM v.t.1 h.t.1 hm (fun τ o1 _ q => ?_) (fun τ q o1 _ s1 r1 => ?_)
  · unfold st_feed at hQ
    rw [if_pos q] at hQ
    exact hQ τ (frM_off o1 (by decide)) (MM_of o1 (by decide) h)
  · unfold st_feed at hQ
    rw [if_neg (by omega)] at hQ
    have k : ∀ j', (j' ≠ 1 ∧ j' ≠ 4 ∧ j' ≠ 5) → τ.1 11 0 j' = σ.1 11 0 j' ∧ τ.2 11 0 j' = σ.2 11 0 j' := fun j' q => o1 11 0 j' (fun z => by simp at z; omega)
    refine hQ τ (frM_off o1 (by decide)) ⟨?_, fun q => ?_, fun q => ?_, ?_, ⟨s1, fun i hi => ?_⟩, ?_, ?_⟩
    · have := h.s
      unfold mSP at *
      rw [(k 25 (by omega)).1, (k 26 (by omega)).1, (k 21 (by omega)).1, (k 22 (by omega)).1, (k 23 (by omega)).1, (k 17 (by omega)).2]
      exact this
    · rw [(k 27 (by omega)).1]; exact h.r q
    · rw [(k 27 (by omega)).1]; exact h.e q
    · have := h.p
      unfold mAC at *
      rw [(k 30 (by omega)).1, (k 29 (by omega)).1]
      exact this
    · have hi : i < A.2.2.2.2.2.1 + 20 := hi
      show _ = nI (if i < A.2.2.2.2.2.1 then A.2.2.2.2.2.2.1 i else fdB a b c d f (i - A.2.2.2.2.2.1))
      rw [r1]
      by_cases z : i < A.2.2.2.2.2.1
      · rw [if_neg (by omega), if_pos z]; exact h.t.2 i z
      · rw [if_pos (by omega), if_neg z]
    · have := h.w
      unfold mWR at *
      rw [(k 48 (by omega)).1, (k 47 (by omega)).1]
      exact this
    · rw [(k 2 (by omega)).1, (k 8 (by omega)).1, (k 3 (by omega)).1]; exact h.m
noncomputable def st_about (A : AS) (x : Int32) : Int32 × AS := if A.1.nh = 0 then reA A 1 else if x = 0 then goA A (nI A.1.nh) else if x = 1 then goA A (nI A.1.nw) else if x = 2 then goA A (nI A.2.2.1.nj) else if x = 3 then goA A (nI A.2.2.1.ns) else if x = 4 then goA A (nI (hdC A.1 A.2.1 A.2.2.1 A.2.2.1.ns)) else if x = 5 then goA A (nI (sm A.2.2.1.ct A.2.2.1.nj)) else if x = 6 then goA A (nI A.2.2.2.1) else if x = 7 then goA A (nI (sm (fun p => A.2.1.wt (A.2.2.1.od p)) A.2.2.1.nj)) else reA A 1
theorem V_re (v : VV A) (n : Int) : VV (reA A n).2 := VV_tp v _ _
theorem V_go (v : VV A) (x : Int32) : VV (goA A x).2 := VV_tp v _ _
theorem V_about (v : VV A) (x : Int32) : VV (st_about A x).2 := by
  unfold st_about
  repeat' split
  all_goals first | exact V_re v _ | exact V_go v _
set_option maxRecDepth 100000 in
theorem C_about (v : VV A) (h : CC σ A) {x : Int32} (hm : 10000 ≤ m) (hQ : ∀ τ, frC σ τ → CC τ (st_about A x).2 → Q (some (.inl (st_about A x).1)) τ) :
    wp N m (e + 6, 0) TX10_about 0 [H10, iA x] [] σ Q := by
  have hnh := v.s.1
  obtain ⟨n, rfl⟩ := il_ex (K := 30) (m := m) (by omega)
  unfold st_about at hQ
  refine ⟨trivial, c_isTold h.s.1 (by omega) (by omega) (fun q0 => ?_) (fun q0 => ?_)⟩
  · rw [if_neg (by omega)] at hQ
    refine b_ne (a := 1) rfl z0 (by omega) (by omega) (fun _ => ?_) (fun q => by omega)
    have ans : ∀ (τ : ST) (y : Int32) (m' : Nat), 20 ≤ m' → frC σ τ → CC τ A → (∀ τ, frC σ τ → CC τ (goA A y).2 → Q (some (.inl (goA A y).1)) τ) → wp N m' (e + 5, 0) TX10_answered 0 [H10, iA y] [] τ (fun w σ' => ∃ z, w = some (.inl z) ∧ Q (some (.inl z)) σ') := fun τ y m' hm' fr cc hq => c_answered hm' ⟨y, rfl, hq _ (frC_tr fr frC_tp) (CC_tp cc _ _)⟩
    refine ⟨fun q => ?_, fun n0 => ⟨fun q => ?_, fun n1 => ⟨fun q => ?_, fun n2 => ⟨fun q => ?_, fun n3 => ⟨fun q => ?_, fun n4 => ⟨fun q => ?_, fun n5 => ⟨fun q => ?_, fun n6 => ⟨fun q => ?_, fun n7 => ?_⟩⟩⟩⟩⟩⟩⟩⟩
    · rw [if_pos q] at hQ
      refine ⟨trivial, c_answered (by omega) ⟨Or.inl rfl, ?_⟩⟩
      rw [show σ.1 8 0 (0 + 1) 0 = nI A.1.nh from h.s.1]
      exact hQ _ frC_tp (CC_tp h _ _)
    · rw [if_neg n0, if_pos q] at hQ
      refine ⟨trivial, c_answered (by omega) ⟨Or.inl rfl, ?_⟩⟩
      rw [show σ.1 8 0 (1 + 1) 0 = nI A.1.nw from h.s.2.1]
      exact hQ _ frC_tp (CC_tp h _ _)
    · rw [if_neg n0, if_neg n1, if_pos q] at hQ
      refine ⟨trivial, c_answered (by omega) ⟨Or.inl rfl, ?_⟩⟩
      rw [show σ.1 3 0 (1 + 1) 0 = nI A.2.2.1.nj from h.e.2.1]
      exact hQ _ frC_tp (CC_tp h _ _)
    · rw [if_neg n0, if_neg n1, if_neg n2, if_pos q] at hQ
      refine ⟨trivial, c_answered (by omega) ⟨Or.inl rfl, ?_⟩⟩
      rw [show σ.1 3 0 (0 + 1) 0 = nI A.2.2.1.ns from h.e.1]
      exact hQ _ frC_tp (CC_tp h _ _)
    · rw [if_neg n0, if_neg n1, if_neg n2, if_neg n3, if_pos q] at hQ
      refine ⟨trivial, c_listHeard (e := e + 2) v.s (v.r q0) v.e h.s (h.r q0) h.e (by omega) (fun τ o1 c1 => ?_)⟩
      refine ⟨trivial, c_answered (by omega) ⟨Or.inl rfl, ?_⟩⟩
      rw [show τ.1 1 0 (2 + 1) 0 = _ from c1.1]
      exact hQ _ (frC_tr (frC_off o1 (by decide)) frC_tp) (CC_tp (CC_o2 o1 (by decide) (by decide) h) _ _)
    · rw [if_neg n0, if_neg n1, if_neg n2, if_neg n3, if_neg n4, if_pos q] at hQ
      refine ⟨trivial, c_costsOfJoined (e := e + 3) v.s v.e h.e (by omega) ?_⟩
      refine ⟨trivial, c_answered (by omega) ⟨Or.inl rfl, ?_⟩⟩
      exact hQ _ frC_tp (CC_tp h _ _)
    · rw [if_neg n0, if_neg n1, if_neg n2, if_neg n3, if_neg n4, if_neg n5, if_pos q] at hQ
      obtain ⟨_, _, c1, _⟩ := h.p
      refine ⟨trivial, c_answered (by omega) ⟨Or.inl rfl, ?_⟩⟩
      rw [show σ.1 0 0 (0 + 1) 0 = nI A.2.2.2.1 from c1]
      exact hQ _ frC_tp (CC_tp h _ _)
    · rw [if_neg n0, if_neg n1, if_neg n2, if_neg n3, if_neg n4, if_neg n5, if_neg n6, if_pos q] at hQ
      refine ⟨trivial, c_weightsOfJoined (e := e + 3) v.s v.e h.e (h.r q0) (by omega) ?_⟩
      refine ⟨trivial, c_answered (by omega) ⟨Or.inl rfl, ?_⟩⟩
      exact hQ _ frC_tp (CC_tp h _ _)
    · rw [if_neg n0, if_neg n1, if_neg n2, if_neg n3, if_neg n4, if_neg n5, if_neg n6, if_neg n7] at hQ
      refine ⟨trivial, c_refused (by omega) ⟨Or.inl rfl, ?_⟩⟩
      exact hQ _ frC_tp (CC_tp h _ _)
  · rw [if_pos q0] at hQ
    refine b_ne (a := 0) rfl z0 (by omega) (by omega) (fun q => absurd rfl q) (fun _ => ?_)
    refine ⟨trivial, c_refused (by omega) ⟨Or.inl rfl, ?_⟩⟩
    exact hQ _ frC_tp (CC_tp h _ _)
end CA1
