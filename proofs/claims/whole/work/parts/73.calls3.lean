/-! calls: word, letter, far, between, at -/
section CA3
variable {N e m : Nat} {σ : ST} {Q : POST} {A : AS}
def st_word (A : AS) (x y z : Int32) : Int32 × AS := match inR x A.1.nh with
  | none => reA A 1
  | some h => match inR y (A.1.cn h) with
    | none => reA A 1
    | some i => if z = 0 then goA A (nI (A.1.wd h i)) else if z = 1 then goA A (nI (A.1.tm h i)) else if z = 2 then goA A (oI (-2) (slO A.2.2.1 h i)) else reA A 1
theorem V_word (v : VV A) (x y z : Int32) : VV (st_word A x y z).2 := by
  unfold st_word
  cases inR x A.1.nh with
  | none => exact V_re v _
  | some h =>
    simp only
    cases inR y (A.1.cn h) with
    | none => exact V_re v _
    | some i =>
      simp only
      repeat' split
      all_goals first | exact V_re v _ | exact V_go v _
set_option maxRecDepth 100000 in
theorem C_word (v : VV A) (h : CC σ A) {x y z : Int32} (hm : 10000 ≤ m) (hQ : ∀ τ, frC σ τ → CC τ (st_word A x y z).2 → Q (some (.inl (st_word A x y z).1)) τ) :
    wp N m (e + 6, 0) TX10_word 0 [H10, iA x, iA y, iA z] [] σ Q := by
  have hnh := v.s.1
  obtain ⟨n, rfl⟩ := il_ex (K := 40) (m := m) (by omega)
  unfold st_word at hQ
  have ref : ∀ m', 30 ≤ m' → (∀ τ, frC σ τ → CC τ (reA A 1).2 → Q (some (.inl (reA A 1).1)) τ) → wp N m' (e + 6, 0) TX10_word 12 [H10, iA x, iA y, iA z] [] σ Q := by
    intro m' hm' hq
    obtain ⟨n2, rfl⟩ := il_ex (K := 5) (m := m') (by omega)
    refine ⟨trivial, c_refused (by omega) ⟨Or.inl rfl, ?_⟩⟩
    exact hq _ frC_tp (CC_tp h _ _)
  refine ⟨trivial, c_isHearing h.s.1 (by omega) (by omega) (fun j hj ej qj => ?_) (fun q0 => ?_)⟩
  · rw [qj] at hQ
    simp only at hQ
    have hcn := v.s.2.1 j hj
    refine b_eq (a := 1) rfl z0 (by omega) (by omega) (fun q => by omega) (fun _ => ?_)
    rcases inR_c y (n := A.1.cn j) (by omega) with ⟨i, hi, ei, qi⟩ | ⟨qi, w⟩
    · rw [qi] at hQ
      simp only at hQ
      refine b_lt ei z0 (by omega) (by omega) (fun q => by omega) (fun _ => ?_)
      refine ⟨trivial, c_countOf ej (by omega) (by omega) ?_⟩
      refine b_lt ei (h.s.2.2.1 j hj) (by omega) (by omega) (fun _ => ?_) (fun q => by omega)
      have ws := h.s.2.2.2.1 j hj i hi
      refine ⟨fun q => ?_, fun n0 => ⟨fun q => ?_, fun n1 => ⟨fun q => ?_, fun n2 => ?_⟩⟩⟩
      · rw [if_pos q] at hQ
        refine ⟨trivial, c_wordOf ej ei (by omega) (by omega) (by omega) ?_⟩
        refine ⟨trivial, c_answered (by omega) ⟨Or.inl rfl, ?_⟩⟩
        rw [ws.1]
        exact hQ _ frC_tp (CC_tp h _ _)
      · rw [if_neg n0, if_pos q] at hQ
        refine ⟨trivial, c_timeOf ej ei (by omega) (by omega) (by omega) ?_⟩
        refine ⟨trivial, c_answered (by omega) ⟨Or.inl rfl, ?_⟩⟩
        rw [ws.2]
        exact hQ _ frC_tp (CC_tp h _ _)
      · rw [if_neg n0, if_neg n1, if_pos q] at hQ
        refine ⟨trivial, c_slotOf (e := e + 4) v.s v.e h.e hj hi ej ei (by omega) ?_⟩
        refine ⟨trivial, c_answered (by omega) ⟨Or.inl rfl, ?_⟩⟩
        exact hQ _ frC_tp (CC_tp h _ _)
      · rw [if_neg n0, if_neg n1, if_neg n2] at hQ
        refine ⟨trivial, c_refused (by omega) ⟨Or.inl rfl, ?_⟩⟩
        exact hQ _ frC_tp (CC_tp h _ _)
    · rw [qi] at hQ
      refine ⟨fun _ => ref _ (by omega) hQ, fun nz => ?_⟩
      refine ⟨trivial, c_countOf ej (by omega) (by omega) ?_⟩
      rw [h.s.2.2.1 j hj]
      refine ⟨fun q => ?_, fun _ => ref _ (by omega) hQ⟩
      rcases w with w | w
      · exact absurd w nz
      · exact absurd q (Int32.not_lt.mpr w)
  · rw [q0] at hQ
    refine b_eq (a := 0) rfl z0 (by omega) (by omega) (fun _ => ref _ (by omega) hQ) (fun q => absurd rfl q)
set_option maxRecDepth 100000 in
theorem M_word (v : VV A) (h : MM σ A) {x y z : Int32} (hm : 10000 ≤ m) (hQ : ∀ τ, frM σ τ → MM τ (st_word A x y z).2 → Q (some (.inl (st_word A x y z).1)) τ) :
    wp N m (e + 6, 0) TX11_word 0 [H11, iA x, iA y, iA z] [] σ Q := by
  have hnh := v.s.1
  obtain ⟨n, rfl⟩ := il_ex (K := 50) (m := m) (by omega)
  unfold st_word at hQ
  have h' := MM_th h (Int32.ofInt 0)
  have fr0 : frM σ (uI σ 11 0 1 0 (Int32.ofInt 0)) := frM_uI
  have ref : ∀ m', 30 ≤ m' → (∀ τ, frM σ τ → MM τ (reA A 1).2 → Q (some (.inl (reA A 1).1)) τ) → wp N m' (e + 6, 0) TX11_word 17 [H11, iA x, iA y, iA z] [] (uI σ 11 0 1 0 (Int32.ofInt 0)) Q := by
    intro m' hm' hq
    obtain ⟨n2, rfl⟩ := il_ex (K := 5) (m := m') (by omega)
    refine ⟨trivial, c_refusedM (by omega) ⟨Or.inl rfl, ?_⟩⟩
    exact hq _ (frM_tr fr0 frM_tp) (MM_tp h' _ _)
  refine ⟨trivial, c_isHearingM h'.s.1 (by omega) (by omega) (fun j hj ej qj => ?_) (fun q0 => ?_)⟩
  · rw [qj] at hQ
    simp only at hQ
    have q1 : 0 < A.1.nh := by omega
    have hcn := v.s.2.1 j hj
    have cj : (uI σ 11 0 1 0 (Int32.ofInt 0)).1 11 0 21 x.toNatClampNeg = nI (A.1.cn j) := by rw [il_cl ej (by omega)]; exact h'.s.2.2.1 j hj
    refine b_eq (a := 1) rfl z0 (by omega) (by omega) (fun q => by omega) (fun _ => ?_)
    refine ⟨il_in ej (by omega) (by omega), ?_⟩
    refine ⟨trivial, c_inP (n1 := A.1.cn j) (by omega) oi_0 (by rw [← cj]) (by omega) (fun i hi ei qi => ?_) (fun qi => ?_)⟩
    · rw [qi] at hQ
      simp only at hQ
      refine b_ne (a := 1) rfl z0 (by omega) (by omega) (fun _ => ?_) (fun q => by omega)
      have ws := h'.s.2.2.2.1 j hj i hi
      have g12 : (Int8.ofInt 12).toInt32 * x + y = nI (12 * j + i) := by rw [ej, ei, i12, pk_mul, nI_add]
      refine ⟨fun q => ?_, fun n0 => ⟨fun q => ?_, fun n1 => ⟨fun q => ?_, fun n2 => ?_⟩⟩⟩
      · rw [if_pos q] at hQ
        refine ⟨il_in g12 (by omega) (by omega), trivial, c_good (by omega) ⟨Or.inl rfl, ?_⟩⟩
        rw [il_cl g12 (by omega), show (uI σ 11 0 1 0 (Int32.ofInt 0)).1 11 0 (21 + 1) (12 * j + i) = _ from ws.1]
        exact hQ _ (frM_tr fr0 frM_tp) (MM_tp h' _ _)
      · rw [if_neg n0, if_pos q] at hQ
        refine ⟨il_in g12 (by omega) (by omega), trivial, c_good (by omega) ⟨Or.inl rfl, ?_⟩⟩
        rw [il_cl g12 (by omega), show (uI σ 11 0 1 0 (Int32.ofInt 0)).1 11 0 (22 + 1) (12 * j + i) = _ from ws.2]
        exact hQ _ (frM_tr fr0 frM_tp) (MM_tp h' _ _)
      · rw [if_neg n0, if_neg n1, if_pos q] at hQ
        refine ⟨trivial, c_slotWith (e := e + 4) v.s v.e (h'.e q1) hj hi ej ei (by omega) ?_⟩
        refine ⟨trivial, c_good (by omega) ⟨Or.inl rfl, ?_⟩⟩
        exact hQ _ (frM_tr fr0 frM_tp) (MM_tp h' _ _)
      · rw [if_neg n0, if_neg n1, if_neg n2] at hQ
        refine ⟨trivial, c_refusedM (by omega) ⟨Or.inl rfl, ?_⟩⟩
        exact hQ _ (frM_tr fr0 frM_tp) (MM_tp h' _ _)
    · rw [qi] at hQ
      exact b_ne (a := 0) rfl z0 (by omega) (by omega) (fun q => absurd rfl q) (fun _ => ref _ (by omega) hQ)
  · rw [q0] at hQ
    exact b_eq (a := 0) rfl z0 (by omega) (by omega) (fun _ => ref _ (by omega) hQ) (fun q => absurd rfl q)
/-- a letter, or nothing -/
def leI (S : SPc) (w : Nat) (y : Int32) : Int32 := match inR y (S.ln w) with
  | some k => nI (S.lt w k)
  | none => -2
def st_letter (A : AS) (x y : Int32) : Int32 × AS := match inR x A.1.nw with
  | none => reA A 1
  | some w => if y < 0 then reA A 1 else goA A (leI A.1 w y)
theorem V_letter (v : VV A) (x y : Int32) : VV (st_letter A x y).2 := by
  unfold st_letter
  cases inR x A.1.nw with
  | none => exact V_re v _
  | some w =>
    simp only
    split
    · exact V_re v _
    · exact V_go v _
theorem inR_0 (x : Int32) : inR x 0 = none := by
  rcases inR_c x (n := 0) (by omega) with ⟨j, hj, _⟩ | ⟨q, _⟩
  · omega
  · exact q
theorem c_letterOfN {k : Nat} {x y : Int32} {w : Nat} (ex : x = nI w) (hw : w < 60) (hy : ¬ y < 0) (hy6 : nI 6 ≤ y) (hm : 40 ≤ m) (hQ : Q (some (.inl (-2))) σ) : wp N m (e, 0) TX8_letterOf 0 [some (.inr (.inr (8, k, 0))), some (.inl x), some (.inl y)] [] σ Q := by
  obtain ⟨n, rfl⟩ := il_ex hm
  refine b_lt ex z0 (by omega) (by omega) (fun q => by omega) (fun _ => ?_)
  refine b_ge ex i60 (by omega) (by omega) (fun q => by omega) (fun _ => ?_)
  refine ⟨fun q => absurd q hy, fun _ => ?_⟩
  refine ⟨fun _ => ⟨Or.inl rfl, by rw [im2]; exact hQ⟩, fun q => absurd (show (Int8.ofInt 6).toInt32 ≤ y by rw [i6]; exact hy6) q⟩
set_option maxRecDepth 100000 in
theorem C_letter (v : VV A) (h : CC σ A) {x y : Int32} (hm : 1000 ≤ m) (hQ : ∀ τ, frC σ τ → CC τ (st_letter A x y).2 → Q (some (.inl (st_letter A x y).1)) τ) :
    wp N m (e + 6, 0) TX10_letter 0 [H10, iA x, iA y] [] σ Q := by
  have hnw := v.s.2.2.2.1
  obtain ⟨n, rfl⟩ := il_ex (K := 40) (m := m) (by omega)
  unfold st_letter at hQ
  have ref : ∀ m', 30 ≤ m' → (∀ τ, frC σ τ → CC τ (reA A 1).2 → Q (some (.inl (reA A 1).1)) τ) → wp N m' (e + 6, 0) TX10_letter 6 [H10, iA x, iA y] [] σ Q := by
    intro m' hm' hq
    obtain ⟨n2, rfl⟩ := il_ex (K := 5) (m := m') (by omega)
    refine ⟨trivial, c_refused (by omega) ⟨Or.inl rfl, ?_⟩⟩
    exact hq _ frC_tp (CC_tp h _ _)
  refine ⟨trivial, c_isWord h.s.2.1 (by omega) (by omega) (fun w hw ew qw => ?_) (fun q0 => ?_)⟩
  · rw [qw] at hQ
    simp only at hQ
    have lw := v.s.2.2.2.2 w hw
    refine b_eq (a := 1) rfl z0 (by omega) (by omega) (fun q => by omega) (fun _ => ?_)
    by_cases ny : y < 0
    · rw [if_pos ny] at hQ
      exact ⟨fun q => absurd ny (Int32.not_lt.mpr q), fun _ => ref _ (by omega) hQ⟩
    · rw [if_neg ny] at hQ
      refine ⟨fun _ => ?_, fun q => absurd (Int32.not_lt.mp ny) q⟩
      rcases inR_c y (n := 6) (by omega) with ⟨k, hk, ek, qk⟩ | ⟨_, w6 | w6⟩
      · refine ⟨trivial, c_letterOf ew ek (by omega) hk (by omega) ?_⟩
        refine ⟨trivial, c_answered (by omega) ⟨Or.inl rfl, ?_⟩⟩
        rw [(h.s.2.2.2.2 w hw).2 k hk]
        have el : leI A.1 w y = if k < A.1.ln w then nI (A.1.lt w k) else -2 := by
          unfold leI
          rw [ek]
          by_cases z : k < A.1.ln w
          · rw [inR_n (by omega) z, if_pos z]
          · rw [if_neg z]
            rcases inR_c (nI k) (n := A.1.ln w) (by omega) with ⟨j, hj, ej, _⟩ | ⟨qn, _⟩
            · have := (nI_eq (show k < 2 ^ 31 by omega) (show j < 2 ^ 31 by omega)).mp ej
              omega
            · rw [qn]
        rw [← el]
        exact hQ _ frC_tp (CC_tp h _ _)
      · exact absurd w6 ny
      · refine ⟨trivial, c_letterOfN ew (by omega) ny w6 (by omega) ?_⟩
        refine ⟨trivial, c_answered (by omega) ⟨Or.inl rfl, ?_⟩⟩
        have el : leI A.1 w y = -2 := by
          unfold leI
          rcases inR_c y (n := A.1.ln w) (by omega) with ⟨j, hj, ej, _⟩ | ⟨qn, _⟩
          · rw [ej] at w6
            exact absurd w6 (nI_ge (by omega) (by omega))
          · rw [qn]
        rw [← el]
        exact hQ _ frC_tp (CC_tp h _ _)
  · rw [q0] at hQ
    exact b_eq (a := 0) rfl z0 (by omega) (by omega) (fun _ => ref _ (by omega) hQ) (fun q => absurd rfl q)
set_option maxRecDepth 100000 in
theorem M_letter (v : VV A) (h : MM σ A) {x y : Int32} (hm : 3000 ≤ m) (hQ : ∀ τ, frM σ τ → MM τ (st_letter A x y).2 → Q (some (.inl (st_letter A x y).1)) τ) :
    wp N m (e + 6, 0) TX11_letter 0 [H11, iA x, iA y] [] σ Q := by
  have hnw := v.s.2.2.2.1
  have hnh := v.s.1
  obtain ⟨n, rfl⟩ := il_ex (K := 50) (m := m) (by omega)
  unfold st_letter at hQ
  have h' := MM_th h (Int32.ofInt 0)
  have fr0 : frM σ (uI σ 11 0 1 0 (Int32.ofInt 0)) := frM_uI
  have ref : ∀ m', 30 ≤ m' → (∀ τ, frM σ τ → MM τ (reA A 1).2 → Q (some (.inl (reA A 1).1)) τ) → wp N m' (e + 6, 0) TX11_letter 16 [H11, iA x, iA y] [] (uI σ 11 0 1 0 (Int32.ofInt 0)) Q := by
    intro m' hm' hq
    obtain ⟨n2, rfl⟩ := il_ex (K := 5) (m := m') (by omega)
    refine ⟨trivial, c_refusedM (by omega) ⟨Or.inl rfl, ?_⟩⟩
    exact hq _ (frM_tr fr0 frM_tp) (MM_tp h' _ _)
  refine b_eq h'.s.1 z0 (by omega) (by omega) (fun q0 => ?_) (fun q0 => ?_)
  · rw [(v.z q0).2.2, inR_0] at hQ
    exact ref _ (by omega) hQ
  · refine ⟨trivial, c_inP (n1 := A.1.nw) (by omega) oi_0 (show _ = _ by rw [← h'.s.2.1]) (by omega) (fun w hw ew qw => ?_) (fun qw => ?_)⟩
    · rw [qw] at hQ
      simp only at hQ
      have lw := v.s.2.2.2.2 w hw
      refine b_eq (a := 1) rfl z0 (by omega) (by omega) (fun q => by omega) (fun _ => ?_)
      by_cases ny : y < 0
      · rw [if_pos ny] at hQ
        exact ⟨fun q => absurd ny (Int32.not_lt.mpr q), fun _ => ref _ (by omega) hQ⟩
      · rw [if_neg ny] at hQ
        have g := h'.s.2.2.2.2 w hw
        have gw : (uI σ 11 0 1 0 (Int32.ofInt 0)).2 11 0 17 x.toNatClampNeg = lN (enc (A.1.lt w) (A.1.ln w)) := by rw [il_cl ew (by omega)]; exact g
        refine ⟨fun _ => ?_, fun q => absurd (Int32.not_lt.mp ny) q⟩
        refine ⟨il_in ew (by omega) (by omega), ?_⟩
        refine ⟨trivial, c_lettersIn (f := A.1.lt w) (n := A.1.ln w) (by omega) lw.2.2 gw (by omega) ?_⟩
        rcases inR_c y (n := A.1.ln w) (by omega) with ⟨k, hk, ek, qk⟩ | ⟨qn, wn | wn⟩
        · refine b_ge ek rfl (by omega) (by omega) (fun q => by omega) (fun _ => ?_)
          refine ⟨il_in ew (by omega) (by omega), ?_⟩
          refine ⟨trivial, c_letterIn (f := A.1.lt w) (n := A.1.ln w) (by omega) lw.2.2 gw ek hk (by omega) ?_⟩
          refine ⟨trivial, trivial, c_good (by omega) ⟨Or.inl rfl, ?_⟩⟩
          have el : leI A.1 w y = nI (A.1.lt w k) := by unfold leI; rw [qk]
          rw [← el]
          exact hQ _ (frM_tr fr0 frM_tp) (MM_tp h' _ _)
        · exact absurd wn ny
        · refine ⟨fun _ => ?_, fun q => absurd wn q⟩
          refine ⟨trivial, c_good (by omega) ⟨Or.inl rfl, ?_⟩⟩
          have el : leI A.1 w y = -2 := by unfold leI; rw [qn]
          rw [im2, ← el]
          exact hQ _ (frM_tr fr0 frM_tp) (MM_tp h' _ _)
    · rw [qw] at hQ
      exact b_eq (a := 0) rfl z0 (by omega) (by omega) (fun _ => ref _ (by omega) hQ) (fun q => absurd rfl q)
def st_far (A : AS) (x y : Int32) : Int32 × AS := match inR x A.1.nw with
  | none => reA A 1
  | some w => match inR y A.1.nw with
    | none => reA A 1
    | some u => goA A (nI (farS A.1 w u))
theorem V_far (v : VV A) (x y : Int32) : VV (st_far A x y).2 := by
  unfold st_far
  cases inR x A.1.nw with
  | none => exact V_re v _
  | some w =>
    simp only
    cases inR y A.1.nw with
    | none => exact V_re v _
    | some u => exact V_go v _
set_option maxRecDepth 100000 in
theorem C_far (v : VV A) (h : CC σ A) {x y : Int32} (hm : 2000000 ≤ m) (hQ : ∀ τ, frC σ τ → CC τ (st_far A x y).2 → Q (some (.inl (st_far A x y).1)) τ) :
    wp N m (e + 6, 0) TX10_far 0 [H10, iA x, iA y] [] σ Q := by
  have hnw := v.s.2.2.2.1
  obtain ⟨n, rfl⟩ := il_ex (K := 40) (m := m) (by omega)
  unfold st_far at hQ
  have ref : ∀ m', 30 ≤ m' → (∀ τ, frC σ τ → CC τ (reA A 1).2 → Q (some (.inl (reA A 1).1)) τ) → wp N m' (e + 6, 0) TX10_far 8 [H10, iA x, iA y] [] σ Q := by
    intro m' hm' hq
    obtain ⟨n2, rfl⟩ := il_ex (K := 5) (m := m') (by omega)
    refine ⟨trivial, c_refused (by omega) ⟨Or.inl rfl, ?_⟩⟩
    exact hq _ frC_tp (CC_tp h _ _)
  refine ⟨trivial, c_isWord h.s.2.1 (by omega) (by omega) (fun w hw ew qw => ?_) (fun q0 => ?_)⟩
  · rw [qw] at hQ
    simp only at hQ
    refine b_eq (a := 1) rfl z0 (by omega) (by omega) (fun q => by omega) (fun _ => ?_)
    refine ⟨trivial, c_isWord h.s.2.1 (by omega) (by omega) (fun u hu eu qu => ?_) (fun q0 => ?_)⟩
    · rw [qu] at hQ
      refine b_ne (a := 1) rfl z0 (by omega) (by omega) (fun _ => ?_) (fun q => by omega)
      refine ⟨trivial, c_farsApart (e := e + 3) v.s h.s h.f hw hu ew eu (by omega) (fun τ o1 f1 => ?_)⟩
      refine ⟨trivial, c_answered (by omega) ⟨Or.inl rfl, ?_⟩⟩
      exact hQ _ (frC_tr (frC_off o1 (by decide)) frC_tp) (CC_tp (CC_of o1 (by decide) f1 h) _ _)
    · rw [q0] at hQ
      exact b_ne (a := 0) rfl z0 (by omega) (by omega) (fun q => absurd rfl q) (fun _ => ref _ (by omega) hQ)
  · rw [q0] at hQ
    exact b_eq (a := 0) rfl z0 (by omega) (by omega) (fun _ => ref _ (by omega) hQ) (fun q => absurd rfl q)
set_option maxRecDepth 100000 in
theorem M_far (v : VV A) (h : MM σ A) {x y : Int32} (hm : 2000000 ≤ m) (hQ : ∀ τ, frM σ τ → MM τ (st_far A x y).2 → Q (some (.inl (st_far A x y).1)) τ) :
    wp N m (e + 6, 0) TX11_far 0 [H11, iA x, iA y] [] σ Q := by
  have hnw := v.s.2.2.2.1
  have hnh := v.s.1
  obtain ⟨n, rfl⟩ := il_ex (K := 50) (m := m) (by omega)
  unfold st_far at hQ
  have h' := MM_th h (Int32.ofInt 0)
  have fr0 : frM σ (uI σ 11 0 1 0 (Int32.ofInt 0)) := frM_uI
  have ref : ∀ m', 30 ≤ m' → (∀ τ, frM σ τ → MM τ (reA A 1).2 → Q (some (.inl (reA A 1).1)) τ) → wp N m' (e + 6, 0) TX11_far 22 [H11, iA x, iA y] [] (uI σ 11 0 1 0 (Int32.ofInt 0)) Q := by
    intro m' hm' hq
    obtain ⟨n2, rfl⟩ := il_ex (K := 5) (m := m') (by omega)
    refine ⟨trivial, c_refusedM (by omega) ⟨Or.inl rfl, ?_⟩⟩
    exact hq _ (frM_tr fr0 frM_tp) (MM_tp h' _ _)
  refine b_eq h'.s.1 z0 (by omega) (by omega) (fun q0 => ?_) (fun q0 => ?_)
  · rw [(v.z q0).2.2, inR_0] at hQ
    exact ref _ (by omega) hQ
  · refine ⟨trivial, c_inP (n1 := A.1.nw) (by omega) oi_0 (show _ = _ by rw [← h'.s.2.1]) (by omega) (fun w hw ew qw => ?_) (fun qw => ?_)⟩
    · rw [qw] at hQ
      simp only at hQ
      refine b_eq (a := 1) rfl z0 (by omega) (by omega) (fun q => by omega) (fun _ => ?_)
      refine ⟨trivial, c_inP (n1 := A.1.nw) (by omega) oi_0 (show _ = _ by rw [← h'.s.2.1]) (by omega) (fun u hu eu qu => ?_) (fun qu => ?_)⟩
      · rw [qu] at hQ
        refine b_ne (a := 1) rfl z0 (by omega) (by omega) (fun _ => ?_) (fun q => by omega)
        refine ⟨trivial, c_farOf (e := e + 3) v.s h'.s hw hu ew eu (by omega) (fun τ o1 => ?_)⟩
        refine ⟨trivial, c_good (by omega) ⟨Or.inl rfl, ?_⟩⟩
        exact hQ _ (frM_tr fr0 (frM_tr (frM_off o1 (by decide)) frM_tp)) (MM_tp (MM_of o1 (by decide) h') _ _)
      · rw [qu] at hQ
        exact b_ne (a := 0) rfl z0 (by omega) (by omega) (fun q => absurd rfl q) (fun _ => ref _ (by omega) hQ)
    · rw [qw] at hQ
      exact b_eq (a := 0) rfl z0 (by omega) (by omega) (fun _ => ref _ (by omega) hQ) (fun q => absurd rfl q)
end CA3
