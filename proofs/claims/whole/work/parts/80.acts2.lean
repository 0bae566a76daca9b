/-! acts: window, share, weight, join, joinAll, drop -/
section AC2
variable {N e m : Nat} {σ : ST} {Q : POST} {A : AS}
def st_window (A : AS) (x : Int32) : Int32 × AS := if A.1.nh = 0 then raA A 1 else match inB x 0 999 with
  | none => raA A 2
  | some a => (nI 1, actA A (A.2.1.fr, A.2.1.gp, A.2.1.nr, a, A.2.1.sh, A.2.1.wt) A.2.2.1)
def st_share (A : AS) (x : Int32) : Int32 × AS := if A.1.nh = 0 then raA A 1 else match inB x 0 200 with
  | none => raA A 2
  | some a => (nI 1, actA A (A.2.1.fr, A.2.1.gp, A.2.1.nr, A.2.1.wn, a, A.2.1.wt) A.2.2.1)
theorem V_window (v : VV A) (x : Int32) : VV (st_window A x).2 := by
  unfold st_window
  by_cases q : A.1.nh = 0
  · rw [if_pos q]; exact V_ra v _
  · rw [if_neg q]
    cases ha : inB x 0 999 with
    | none => exact V_ra v _
    | some a =>
      have r := v.r (by omega)
      have a' := inB_s (by omega) (by omega) ha
      exact V_act v (by omega) ⟨r.1, r.2.1, r.2.2.1, a'.2.1, r.2.2.2.2.1, r.2.2.2.2.2⟩ v.e
theorem V_share (v : VV A) (x : Int32) : VV (st_share A x).2 := by
  unfold st_share
  by_cases q : A.1.nh = 0
  · rw [if_pos q]; exact V_ra v _
  · rw [if_neg q]
    cases ha : inB x 0 200 with
    | none => exact V_ra v _
    | some a =>
      have r := v.r (by omega)
      have a' := inB_s (by omega) (by omega) ha
      exact V_act v (by omega) ⟨r.1, r.2.1, r.2.2.1, r.2.2.2.1, a'.2.1, r.2.2.2.2.2⟩ v.e
set_option maxRecDepth 100000 in
theorem C_window (v : VV A) (h : CC σ A) {x : Int32} (hm : 40000 ≤ m) (hQ : ∀ τ, frC σ τ → CC τ (st_window A x).2 → Q (some (.inl (st_window A x).1)) τ) :
    wp N m (e + 6, 0) TX10_window 0 [H10, iA x] [] σ Q := by
  have hnh := v.s.1
  obtain ⟨n, rfl⟩ := il_ex (K := 60) (m := m) (by omega)
  unfold st_window at hQ
  refine ⟨trivial, c_isTold h.s.1 (by omega) (by omega) (fun q0 => ?_) (fun q0 => ?_)⟩
  · rw [if_neg (by omega)] at hQ
    refine b_ne (a := 1) rfl z0 (by omega) (by omega) (fun _ => ?_) (fun q => by omega)
    refine ⟨trivial, c_withinB (a := 0) (b := 999) (by omega) (by omega) oi_0 i999 (by omega) (fun a a1 a2 ea qa => ?_) (fun qa => ?_)⟩
    · rw [qa] at hQ
      refine b_ne (a := 1) rfl z0 (by omega) (by omega) (fun _ => ?_) (fun q => by omega)
      refine ⟨trivial, C_beginAct (e := e + 1) v h q0 (by omega) (fun τ fr1 h1 kn => ?_)⟩
      refine ⟨Or.inr (Or.inr rfl), ?_⟩
      have o1 : off [(7, 0, 4)] τ (uI τ 7 0 4 0 x) := off_uI (off_rf _ _) (by decide)
      obtain ⟨r1, r2, r3, r4, r5, r6⟩ := h1.r q0
      refine hQ _ (frC_tr fr1 (frC_off o1 (by decide))) (CC_set h1 kn o1 (by decide) (cFA_eq (o1 2 0 3 (by decide)).1 h1.f) ⟨by rw [off_1 o1 (by decide)]; exact r1, by rw [off_1 o1 (by decide)]; exact r2, by rw [off_1 o1 (by decide)]; exact r3, by rw [uI_at]; exact ea, by rw [off_1 o1 (by decide)]; exact r5, fun g hg => by rw [off_1 o1 (by decide)]; exact r6 g hg⟩ (cNE_off o1 (by decide) h1.e))
    · rw [qa] at hQ
      refine b_ne (a := 0) rfl z0 (by omega) (by omega) (fun q => absurd rfl q) (fun _ => ?_)
      refine ⟨trivial, c_refusedAct (e := e + 4) (by omega) ⟨Or.inr (Or.inl rfl), ?_⟩⟩
      exact hQ _ frC_tp (CC_tp h _ _)
  · rw [if_pos q0] at hQ
    refine b_ne (a := 0) rfl z0 (by omega) (by omega) (fun q => absurd rfl q) (fun _ => ?_)
    refine ⟨trivial, c_refusedAct (e := e + 4) (by omega) ⟨Or.inr (Or.inl rfl), ?_⟩⟩
    exact hQ _ frC_tp (CC_tp h _ _)
set_option maxRecDepth 100000 in
theorem C_share (v : VV A) (h : CC σ A) {x : Int32} (hm : 40000 ≤ m) (hQ : ∀ τ, frC σ τ → CC τ (st_share A x).2 → Q (some (.inl (st_share A x).1)) τ) :
    wp N m (e + 6, 0) TX10_share 0 [H10, iA x] [] σ Q := by
  have hnh := v.s.1
  obtain ⟨n, rfl⟩ := il_ex (K := 60) (m := m) (by omega)
  unfold st_share at hQ
  refine ⟨trivial, c_isTold h.s.1 (by omega) (by omega) (fun q0 => ?_) (fun q0 => ?_)⟩
  · rw [if_neg (by omega)] at hQ
    refine b_ne (a := 1) rfl z0 (by omega) (by omega) (fun _ => ?_) (fun q => by omega)
    refine ⟨trivial, c_withinB (a := 0) (b := 200) (by omega) (by omega) oi_0 i200 (by omega) (fun a a1 a2 ea qa => ?_) (fun qa => ?_)⟩
    · rw [qa] at hQ
      refine b_ne (a := 1) rfl z0 (by omega) (by omega) (fun _ => ?_) (fun q => by omega)
      refine ⟨trivial, C_beginAct (e := e + 1) v h q0 (by omega) (fun τ fr1 h1 kn => ?_)⟩
      refine ⟨Or.inr (Or.inr rfl), ?_⟩
      have o1 : off [(7, 0, 5)] τ (uI τ 7 0 5 0 x) := off_uI (off_rf _ _) (by decide)
      obtain ⟨r1, r2, r3, r4, r5, r6⟩ := h1.r q0
      refine hQ _ (frC_tr fr1 (frC_off o1 (by decide))) (CC_set h1 kn o1 (by decide) (cFA_eq (o1 2 0 3 (by decide)).1 h1.f) ⟨by rw [off_1 o1 (by decide)]; exact r1, by rw [off_1 o1 (by decide)]; exact r2, by rw [off_1 o1 (by decide)]; exact r3, by rw [off_1 o1 (by decide)]; exact r4, by rw [uI_at]; exact ea, fun g hg => by rw [off_1 o1 (by decide)]; exact r6 g hg⟩ (cNE_off o1 (by decide) h1.e))
    · rw [qa] at hQ
      refine b_ne (a := 0) rfl z0 (by omega) (by omega) (fun q => absurd rfl q) (fun _ => ?_)
      refine ⟨trivial, c_refusedAct (e := e + 4) (by omega) ⟨Or.inr (Or.inl rfl), ?_⟩⟩
      exact hQ _ frC_tp (CC_tp h _ _)
  · rw [if_pos q0] at hQ
    refine b_ne (a := 0) rfl z0 (by omega) (by omega) (fun q => absurd rfl q) (fun _ => ?_)
    refine ⟨trivial, c_refusedAct (e := e + 4) (by omega) ⟨Or.inr (Or.inl rfl), ?_⟩⟩
    exact hQ _ frC_tp (CC_tp h _ _)
set_option maxRecDepth 100000 in
/-- the reference's puts -/
theorem M_puts (v : VV A) (h : MM σ A) {w b : Nat} (hw : w = 3 ∨ w = 4) (hb : b < 2147483647) {x1 x2 x3 : Int32} (e1 : x1 = nI w) (e3 : x3 = nI b) (hm : 75000 ≤ m)
    (h0 : A.1.nh = 0 → ∀ τ, frM σ τ → MM τ (raA A 1).2 → Q (some (.inl (raA A 1).1)) τ) (h2 : A.1.nh ≠ 0 → inB x2 0 b = none → ∀ τ, frM σ τ → MM τ (raA A 2).2 → Q (some (.inl (raA A 2).1)) τ)
    (h1 : ∀ a τ, A.1.nh ≠ 0 → inB x2 0 b = some a → frM σ τ → MM τ (actA A (A.2.1.fr, A.2.1.gp, A.2.1.nr, (if w = 3 then a else A.2.1.wn), (if w = 3 then A.2.1.sh else a), A.2.1.wt) A.2.2.1) → Q (some (.inl (nI 1))) τ) :
    wp N m (e + 2, 0) TX11_puts 0 [H11, iA x1, iA x2, iA x3] [] σ Q := by
  have hnh := v.s.1
  obtain ⟨n, rfl⟩ := il_ex (K := 60) (m := m) (by omega)
  have h' := MM_th h (Int32.ofInt 0)
  have fr0 : frM σ (uI σ 11 0 1 0 (Int32.ofInt 0)) := frM_uI
  refine b_ne h'.s.1 z0 (by omega) (by omega) (fun q0 => ?_) (fun q0 => ?_)
  · have q1 : 0 < A.1.nh := by omega
    refine ⟨trivial, c_inB (a := 0) (b := b) (by omega) hb oi_0 e3 (by omega) (fun a a1 a2 ea qa => ?_) (fun qa => ?_)⟩
    · refine b_ne (a := 1) rfl z0 (by omega) (by omega) (fun _ => ?_) (fun q => by omega)
      refine ⟨trivial, c_remembers v.s v.e (h'.r q1) (h'.e q1) v.p h'.p (by omega) (fun τ o1 a1 => ?_)⟩
      have hh1 := MM_rem h' o1 a1
      refine ⟨il_in e1 (by omega) (by omega), ?_⟩
      rw [il_cl e1 (by omega)]
      refine ⟨trivial, c_done (by omega) ?_⟩
      rw [dn_0]
      refine ⟨Or.inr (Or.inr rfl), ?_⟩
      have o2 : off [(11, 0, 27)] τ (uI τ 11 0 27 w x2) := off_uI (off_rf _ _) (by decide)
      have r27 : ∀ u, (uI τ 11 0 27 w x2).1 11 0 27 u = if u = w then x2 else τ.1 11 0 27 u := fun u => by rw [uI_if]
      obtain ⟨r1, r2, r3, r4, r5, r6⟩ := hh1.r q1
      obtain ⟨n1, n2, n3, n4⟩ := hh1.e q1
      refine h1 a _ q0 qa (frM_tr fr0 (frM_tr (frM_off o1 (by decide)) (frM_tr (frM_off o2 (by decide)) frM_tp))) (MM_act hh1 o2 (by decide) ⟨?_, ?_, ?_, ?_, ?_, fun g hg => ?_⟩ ⟨?_, ?_, fun p hp => ?_, fun s hs g hg => ?_⟩)
      · rw [r27, if_neg (by omega)]; exact r1
      · rw [r27, if_neg (by omega)]; exact r2
      · rw [r27, if_neg (by omega)]; exact r3
      · rw [r27]
        show _ = nI (if w = 3 then a else A.2.1.wn)
        by_cases z : w = 3
        · rw [if_pos z.symm, if_pos z]; exact ea
        · rw [if_neg (fun y => z y.symm), if_neg z]; exact r4
      · rw [r27]
        show _ = nI (if w = 3 then A.2.1.sh else a)
        by_cases z : w = 3
        · rw [if_neg (by omega), if_pos z]; exact r5
        · rw [if_pos (by omega), if_neg z]; exact ea
      · rw [r27, if_neg (by omega)]; exact r6 g hg
      · rw [r27, if_neg (by omega)]; exact n1
      · rw [r27, if_neg (by omega)]; exact n2
      · rw [r27, r27, if_neg (by omega), if_neg (by omega)]; exact n3 p hp
      · rw [r27, if_neg (by omega)]; exact n4 s hs g hg
    · refine b_ne (a := 0) rfl z0 (by omega) (by omega) (fun q => absurd rfl q) (fun _ => ?_)
      refine ⟨trivial, c_done (by omega) ?_⟩
      rw [dn_2]
      refine ⟨Or.inr (Or.inl rfl), ?_⟩
      exact h2 q0 qa _ (frM_tr fr0 frM_tp) (MM_tp h' _ _)
  · refine ⟨trivial, c_done (by omega) ?_⟩
    rw [dn_1]
    refine ⟨Or.inr (Or.inl rfl), ?_⟩
    exact h0 q0 _ (frM_tr fr0 frM_tp) (MM_tp h' _ _)
set_option maxRecDepth 100000 in
theorem M_window (v : VV A) (h : MM σ A) {x : Int32} (hm : 80000 ≤ m) (hQ : ∀ τ, frM σ τ → MM τ (st_window A x).2 → Q (some (.inl (st_window A x).1)) τ) :
    wp N m (e + 6, 0) TX11_window 0 [H11, iA x] [] σ Q := by
  obtain ⟨n, rfl⟩ := il_ex (K := 10) (m := m) (by omega)
  unfold st_window at hQ
  refine ⟨trivial, M_puts (e := e + 3) v h (w := 3) (b := 999) (Or.inl rfl) (by omega) i3 i999 (by omega) (fun q τ fr hh => ?_) (fun q qa τ fr hh => ?_) (fun a τ q qa fr hh => ?_)⟩
  · rw [if_pos q] at hQ
    exact ⟨Or.inr (Or.inl rfl), hQ τ fr hh⟩
  · rw [if_neg q, qa] at hQ
    exact ⟨Or.inr (Or.inl rfl), hQ τ fr hh⟩
  · rw [if_neg q, qa] at hQ
    exact ⟨Or.inr (Or.inr rfl), hQ τ fr hh⟩
set_option maxRecDepth 100000 in
theorem M_share (v : VV A) (h : MM σ A) {x : Int32} (hm : 80000 ≤ m) (hQ : ∀ τ, frM σ τ → MM τ (st_share A x).2 → Q (some (.inl (st_share A x).1)) τ) :
    wp N m (e + 6, 0) TX11_share 0 [H11, iA x] [] σ Q := by
  obtain ⟨n, rfl⟩ := il_ex (K := 10) (m := m) (by omega)
  unfold st_share at hQ
  refine ⟨trivial, M_puts (e := e + 3) v h (w := 4) (b := 200) (Or.inr rfl) (by omega) i4 i200 (by omega) (fun q τ fr hh => ?_) (fun q qa τ fr hh => ?_) (fun a τ q qa fr hh => ?_)⟩
  · rw [if_pos q] at hQ
    exact ⟨Or.inr (Or.inl rfl), hQ τ fr hh⟩
  · rw [if_neg q, qa] at hQ
    exact ⟨Or.inr (Or.inl rfl), hQ τ fr hh⟩
  · rw [if_neg q, qa] at hQ
    exact ⟨Or.inr (Or.inr rfl), hQ τ fr hh⟩
def st_weight (A : AS) (x y : Int32) : Int32 × AS := match inR x A.1.nh with
  | none => reA A 1
  | some h => match inB y 1 99 with
    | none => reA A 2
    | some w => (nI (A.2.1.wt h), actA A (A.2.1.fr, A.2.1.gp, A.2.1.nr, A.2.1.wn, A.2.1.sh, up1 A.2.1.wt h w) A.2.2.1)
theorem V_weight (v : VV A) (x y : Int32) : VV (st_weight A x y).2 := by
  have hnh := v.s.1
  unfold st_weight
  cases hx : inR x A.1.nh with
  | none => exact V_re v _
  | some h =>
    simp only
    cases hy : inB y 1 99 with
    | none => exact V_re v _
    | some w =>
      have hh := inR_s (by omega) hx
      have r := v.r (by omega)
      have a' := inB_s (by omega) (by omega) hy
      refine V_act v (by omega) ⟨r.1, r.2.1, r.2.2.1, r.2.2.2.1, r.2.2.2.2.1, fun g hg => ?_⟩ v.e
      show 1 ≤ up1 A.2.1.wt h w g ∧ up1 A.2.1.wt h w g ≤ 99
      by_cases z : g = h
      · rw [z, up1_k]; exact ⟨a'.1, a'.2.1⟩
      · rw [up1_n z]; exact r.2.2.2.2.2 g hg
theorem c_setWeight7 {x1 x2 : Int32} {h : Nat} (e1 : x1 = nI h) (hh : h < 5) (hm : 20 ≤ m) (hQ : Q none (uI σ 7 0 6 h x2)) : wp N m (e, 0) TX7_setWeight 0 [some (.inr (.inr (7, 0, 0))), iA x1, iA x2] [] σ Q := by
  obtain ⟨n, rfl⟩ := il_ex hm
  refine b_lt e1 z0 (by omega) (by omega) (fun q => by omega) (fun _ => ?_)
  refine b_ge e1 i5 (by omega) (by omega) (fun q => by omega) (fun _ => ?_)
  refine ⟨il_in e1 (by omega) (by omega), ?_⟩
  rw [il_cl e1 (by omega)]
  exact hQ
set_option maxRecDepth 100000 in
theorem C_weight (v : VV A) (h : CC σ A) {x y : Int32} (hm : 40000 ≤ m) (hQ : ∀ τ, frC σ τ → CC τ (st_weight A x y).2 → Q (some (.inl (st_weight A x y).1)) τ) :
    wp N m (e + 6, 0) TX10_weight 0 [H10, iA x, iA y, none] [] σ Q := by
  have hnh := v.s.1
  obtain ⟨n, rfl⟩ := il_ex (K := 60) (m := m) (by omega)
  unfold st_weight at hQ
  refine ⟨trivial, c_isHearing h.s.1 (by omega) (by omega) (fun j hj ej qj => ?_) (fun q0 => ?_)⟩
  · rw [qj] at hQ
    simp only at hQ
    have q1 : 0 < A.1.nh := by omega
    refine b_ne (a := 1) rfl z0 (by omega) (by omega) (fun _ => ?_) (fun q => by omega)
    refine ⟨trivial, c_withinB (a := 1) (b := 99) (by omega) (by omega) oi_1 i99 (by omega) (fun a a1 a2 ea qa => ?_) (fun qa => ?_)⟩
    · rw [qa] at hQ
      refine b_ne (a := 1) rfl z0 (by omega) (by omega) (fun _ => ?_) (fun q => by omega)
      refine ⟨trivial, C_beginAct (e := e + 1) v h q1 (by omega) (fun τ fr1 h1 kn => ?_)⟩
      refine ⟨trivial, c_weightOf ej (by omega) (by omega) ?_⟩
      refine ⟨trivial, c_setWeight7 ej (by omega) (by omega) ?_⟩
      refine ⟨Or.inl rfl, ?_⟩
      have o1 : off [(7, 0, 6)] τ (uI τ 7 0 6 j y) := off_uI (off_rf _ _) (by decide)
      obtain ⟨r1, r2, r3, r4, r5, r6⟩ := h1.r q1
      rw [r6 j hj]
      refine hQ _ (frC_tr fr1 (frC_off o1 (by decide))) (CC_set h1 kn o1 (by decide) (cFA_eq (o1 2 0 3 (by decide)).1 h1.f) ⟨by rw [off_1 o1 (by decide)]; exact r1, by rw [off_1 o1 (by decide)]; exact r2, by rw [off_1 o1 (by decide)]; exact r3, by rw [off_1 o1 (by decide)]; exact r4, by rw [off_1 o1 (by decide)]; exact r5, fun g hg => ?_⟩ (cNE_off o1 (by decide) h1.e))
      show _ = nI (up1 A.2.1.wt j a g)
      rw [uI_if]
      by_cases z : g = j
      · rw [if_pos z, z, up1_k]; exact ea
      · rw [if_neg z, up1_n z]; exact r6 g hg
    · rw [qa] at hQ
      refine b_ne (a := 0) rfl z0 (by omega) (by omega) (fun q => absurd rfl q) (fun _ => ?_)
      refine ⟨trivial, c_refused (by omega) ⟨Or.inl rfl, ?_⟩⟩
      exact hQ _ frC_tp (CC_tp h _ _)
  · rw [q0] at hQ
    refine b_ne (a := 0) rfl z0 (by omega) (by omega) (fun q => absurd rfl q) (fun _ => ?_)
    refine ⟨trivial, c_refused (by omega) ⟨Or.inl rfl, ?_⟩⟩
    exact hQ _ frC_tp (CC_tp h _ _)
set_option maxRecDepth 100000 in
theorem M_weight (v : VV A) (h : MM σ A) {x y : Int32} (hm : 80000 ≤ m) (hQ : ∀ τ, frM σ τ → MM τ (st_weight A x y).2 → Q (some (.inl (st_weight A x y).1)) τ) :
    wp N m (e + 6, 0) TX11_weight 0 [H11, iA x, iA y, none] [] σ Q := by
  have hnh := v.s.1
  obtain ⟨n, rfl⟩ := il_ex (K := 60) (m := m) (by omega)
  unfold st_weight at hQ
  have h' := MM_th h (Int32.ofInt 0)
  have fr0 : frM σ (uI σ 11 0 1 0 (Int32.ofInt 0)) := frM_uI
  refine ⟨trivial, c_isHearingM h'.s.1 (by omega) (by omega) (fun j hj ej qj => ?_) (fun q0 => ?_)⟩
  · rw [qj] at hQ
    simp only at hQ
    have q1 : 0 < A.1.nh := by omega
    refine b_ne (a := 1) rfl z0 (by omega) (by omega) (fun _ => ?_) (fun q => by omega)
    refine ⟨trivial, c_inB (a := 1) (b := 99) (by omega) (by omega) oi_1 i99 (by omega) (fun a a1 a2 ea qa => ?_) (fun qa => ?_)⟩
    · rw [qa] at hQ
      refine b_ne (a := 1) rfl z0 (by omega) (by omega) (fun _ => ?_) (fun q => by omega)
      refine ⟨trivial, c_remembers v.s v.e (h'.r q1) (h'.e q1) v.p h'.p (by omega) (fun τ o1 a1 => ?_)⟩
      have hh1 := MM_rem h' o1 a1
      have g5 : Int32.ofInt 5 + x = nI (5 + j) := by rw [ej, i5, nI_add]
      refine ⟨il_in g5 (by omega) (by omega), il_in g5 (by omega) (by omega), ?_⟩
      rw [il_cl g5 (by omega)]
      refine ⟨trivial, c_good (by omega) ⟨Or.inl rfl, ?_⟩⟩
      have o2 : off [(11, 0, 27)] τ (uI τ 11 0 27 (5 + j) y) := off_uI (off_rf _ _) (by decide)
      have r27 : ∀ u, (uI τ 11 0 27 (5 + j) y).1 11 0 27 u = if u = 5 + j then y else τ.1 11 0 27 u := fun u => by rw [uI_if]
      obtain ⟨r1, r2, r3, r4, r5, r6⟩ := hh1.r q1
      obtain ⟨n1, n2, n3, n4⟩ := hh1.e q1
      rw [show τ.1 11 0 (26 + 1) (5 + j) = nI (A.2.1.wt j) from r6 j hj]
      refine hQ _ (frM_tr fr0 (frM_tr (frM_off o1 (by decide)) (frM_tr (frM_off o2 (by decide)) frM_tp))) (MM_act hh1 o2 (by decide) ⟨?_, ?_, ?_, ?_, ?_, fun g hg => ?_⟩ ⟨?_, ?_, fun p hp => ?_, fun s hs g hg => ?_⟩)
      · rw [r27, if_neg (by omega)]; exact r1
      · rw [r27, if_neg (by omega)]; exact r2
      · rw [r27, if_neg (by omega)]; exact r3
      · rw [r27, if_neg (by omega)]; exact r4
      · rw [r27, if_neg (by omega)]; exact r5
      · rw [r27]
        show _ = nI (up1 A.2.1.wt j a g)
        by_cases z : g = j
        · rw [if_pos (by omega), z, up1_k]; exact ea
        · rw [if_neg (by omega), up1_n z]; exact r6 g hg
      · rw [r27, if_neg (by omega)]; exact n1
      · rw [r27, if_neg (by omega)]; exact n2
      · rw [r27, r27, if_neg (by omega), if_neg (by omega)]; exact n3 p hp
      · rw [r27, if_neg (by omega)]; exact n4 s hs g hg
    · rw [qa] at hQ
      refine b_ne (a := 0) rfl z0 (by omega) (by omega) (fun q => absurd rfl q) (fun _ => ?_)
      refine ⟨trivial, c_refusedM (by omega) ⟨Or.inl rfl, ?_⟩⟩
      exact hQ _ (frM_tr fr0 frM_tp) (MM_tp h' _ _)
  · rw [q0] at hQ
    refine b_ne (a := 0) rfl z0 (by omega) (by omega) (fun q => absurd rfl q) (fun _ => ?_)
    refine ⟨trivial, c_refusedM (by omega) ⟨Or.inl rfl, ?_⟩⟩
    exact hQ _ (frM_tr fr0 frM_tp) (MM_tp h' _ _)
end AC2
