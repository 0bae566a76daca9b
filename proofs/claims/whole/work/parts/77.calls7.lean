/-! calls: way, without -/
section CA7
variable {N e m : Nat} {σ : ST} {Q : POST} {A : AS}
def wyI (S : SPc) (R : RUc) (E : NEc) (h : Nat) (y : Int32) : Int32 := match inR y (wayT S R E h) with
  | some k => nI (stK S R E h k)
  | none => -2
def st_way (A : AS) (x y : Int32) : Int32 × AS := match inR x A.1.nh with
  | none => reA A 1
  | some h => if y < 0 then reA A 1 else match plc A.2.2.1 h with
    | some _ => reA A 5
    | none => goA A (wyI A.1 A.2.1 A.2.2.1 h y)
theorem V_way (v : VV A) (x y : Int32) : VV (st_way A x y).2 := by
  unfold st_way
  cases inR x A.1.nh with
  | none => exact V_re v _
  | some w =>
    simp only
    split
    · exact V_re v _
    · cases plc A.2.2.1 w with
      | none => exact V_go v _
      | some u => exact V_re v _
theorem wayT_60 {S : SPc} {R : RUc} {E : NEc} (hS : vSP S) (hR : vRU S R) (hE : vNE S E) {h : Nat} (hh : h < S.nh) (hn : plc E h = none) : wayT S R E h ≤ 60 := vNE_ns hS (vNE_jn hS hR hE hh hn)
theorem c_stepOfN {y : Int32} {T : Nat} (hy : ¬ y < 0) (h9 : σ.1 9 0 8 0 = nI T) (hT : nI T ≤ y) (hm : 40 ≤ m) (hQ : Q (some (.inl (-2))) σ) : wp N m (e, 0) TX9_stepOf 0 [some (.inr (.inr (9, 0, 0))), iA y] [] σ Q := by
  obtain ⟨n, rfl⟩ := il_ex hm
  refine ⟨fun q => absurd q hy, fun _ => ?_⟩
  refine ⟨fun _ => ⟨Or.inl rfl, by rw [im2]; exact hQ⟩, fun q => absurd (show σ.1 9 0 8 0 ≤ y by rw [h9]; exact hT) q⟩
set_option maxRecDepth 100000 in
theorem C_way (v : VV A) (h : CC σ A) {x y : Int32} (hm : 2500000 ≤ m) (hQ : ∀ τ, frC σ τ → CC τ (st_way A x y).2 → Q (some (.inl (st_way A x y).1)) τ) :
    wp N m (e + 6, 0) TX10_way 0 [H10, iA x, iA y] [] σ Q := by
  have hnh := v.s.1
  have hnj := v.e.1
  obtain ⟨n, rfl⟩ := il_ex (K := 60) (m := m) (by omega)
  unfold st_way at hQ
  have ref : ∀ m', 30 ≤ m' → (∀ τ, frC σ τ → CC τ (reA A 1).2 → Q (some (.inl (reA A 1).1)) τ) → wp N m' (e + 6, 0) TX10_way 6 [H10, iA x, iA y] [] σ Q := by
    intro m' hm' hq
    obtain ⟨n2, rfl⟩ := il_ex (K := 5) (m := m') (by omega)
    refine ⟨trivial, c_refused (by omega) ⟨Or.inl rfl, ?_⟩⟩
    exact hq _ frC_tp (CC_tp h _ _)
  refine ⟨trivial, c_isHearing h.s.1 (by omega) (by omega) (fun j hj ej qj => ?_) (fun q0 => ?_)⟩
  · rw [qj] at hQ
    simp only at hQ
    have q1 : 0 < A.1.nh := by omega
    refine b_eq (a := 1) rfl z0 (by omega) (by omega) (fun q => by omega) (fun _ => ?_)
    by_cases ny : y < 0
    · rw [if_pos ny] at hQ
      exact ⟨fun q => absurd ny (Int32.not_lt.mpr q), fun _ => ref _ (by omega) hQ⟩
    · rw [if_neg ny] at hQ
      refine ⟨fun _ => ?_, fun q => absurd (Int32.not_lt.mp ny) q⟩
      refine ⟨trivial, c_holds (e := e + 4) ej (by omega) (by omega) ?_⟩
      rw [h.e.2.2.2.1 j (by omega)]
      cases hp : plc A.2.2.1 j with
      | none =>
        rw [hp] at hQ
        simp only at hQ
        have t60 := wayT_60 v.s (v.r q1) v.e hj hp
        rw [if_pos (show oI (-2) none < 0 from ne2)]
        refine b_eq (a := 0) rfl z0 (by omega) (by omega) (fun _ => ?_) (fun q => absurd rfl q)
        refine ⟨trivial, c_plan (k := 0) (e := e + 1) v.s (v.r q1) v.e h.s (h.r q1) h.e h.f hj ej (by omega) (fun τ o1 f1 t9 t8 => ?_)⟩
        have h1 := CC_of o1 (by decide) f1 h
        have fr1 : frC σ τ := frC_off o1 (by decide)
        unfold wyI at hQ
        rcases inR_c y (n := wayT A.1 A.2.1 A.2.2.1 j) (by omega) with ⟨k, hk, ek, qk⟩ | ⟨qk, w | w⟩
        · rw [qk] at hQ
          refine ⟨trivial, c_stepOf ek t9 hk (by omega) (by omega) ?_⟩
          refine ⟨trivial, c_answered (by omega) ⟨Or.inl rfl, ?_⟩⟩
          rw [t8 k hk]
          exact hQ _ (frC_tr fr1 frC_tp) (CC_tp h1 _ _)
        · exact absurd w ny
        · rw [qk] at hQ
          refine ⟨trivial, c_stepOfN ny t9 w (by omega) ?_⟩
          refine ⟨trivial, c_answered (by omega) ⟨Or.inl rfl, ?_⟩⟩
          exact hQ _ (frC_tr fr1 frC_tp) (CC_tp h1 _ _)
      | some p =>
        rw [hp] at hQ
        have hz := plc_some hp
        rw [if_neg (show ¬ oI (-2) (some p) < 0 from nI_pos (by omega))]
        refine b_eq (a := 1) rfl z0 (by omega) (by omega) (fun q => by omega) (fun _ => ?_)
        refine ⟨trivial, c_refused (by omega) ⟨Or.inl rfl, ?_⟩⟩
        exact hQ _ frC_tp (CC_tp h _ _)
  · rw [q0] at hQ
    exact b_eq (a := 0) rfl z0 (by omega) (by omega) (fun _ => ref _ (by omega) hQ) (fun q => absurd rfl q)
set_option maxRecDepth 100000 in
theorem wy_loop {S : SPc} {R : RUc} {E : NEc} {h Y : Nat} (hns : E.ns ≤ 60) (hcn : S.cn h ≤ 12) (hT60 : wayT S R E h ≤ 60) (ht : ∀ i' s', i' ≤ S.cn h → s' ≤ E.ns → tbm S R E h (σ.1 11 0 34) (σ.1 11 0 35) i' s') (hY : Y < 2147483648) {x1 x2 x3 x4 : Int32} (e2 : x2 = nI Y)
    (hQ : Q (some (.inl (if Y < wayT S R E h then nI (stK S R E h Y) else -2))) (uI (uI σ 11 0 2 0 0) 11 0 3 0 (-1))) :
    ∀ (r k m : Nat) (x5 x6 x7 x8 : Int32), k + r = wayT S R E h → k ≤ Y → 60 * r + 100 ≤ m → x5 = nI (wkI S R E h k) → x6 = nI (wkS S R E h k) → x7 = nI k → (x8 = if k = wayT S R E h then -1 else nI (stK S R E h k)) →
      wp N m (e + 1, 0) TX11_way 36 [H11, iA x1, iA x2, iA x3, iA x4, iA x5, iA x6, iA x7, iA x8] [] σ Q := by
  intro r
  induction r with
  | zero =>
    intro k m x5 x6 x7 x8 hr hkY hm e5 e6 e7 e8
    obtain ⟨n, rfl⟩ := il_ex (K := 10) (m := m) (by omega)
    have hk : k = wayT S R E h := by omega
    rw [if_pos hk] at e8
    refine ⟨fun _ => ?_, fun q => absurd (show x8 = Int32.ofInt (-1) by rw [e8, im1]) q⟩
    refine ⟨trivial, c_good (by omega) ⟨Or.inl rfl, ?_⟩⟩
    rw [if_neg (by omega)] at hQ
    rw [im2]; exact hQ
  | succ r ih =>
    intro k m x5 x6 x7 x8 hr hkY hm e5 e6 e7 e8
    obtain ⟨n, rfl⟩ := il_ex (K := 50) (m := m) (by omega)
    have hk : k < wayT S R E h := by omega
    rw [if_neg (by omega)] at e8
    have hok := wk_ok (S := S) (R := R) (E := E) (h := h) (k := k) hk
    have hle1 := wk_le (S := S) (R := R) (E := E) (h := h) (k := k + 1) (by omega)
    have hle2 : wkI S R E h (k + 1) ≤ S.cn h ∧ wkS S R E h (k + 1) ≤ E.ns := hle1
    have hp2 : stK S R E h k ≤ 2 := by omega
    have hI := wkI_s (S := S) (R := R) (E := E) (h := h) k
    have hSs := wkS_s (S := S) (R := R) (E := E) (h := h) k
    refine ⟨fun q => absurd (show nI (stK S R E h k) = (-1 : Int32) by rw [← e8, ← im1]; exact q) (nI_m1 (by omega)), fun _ => ?_⟩
    refine b_ne e7 e2 (by omega) (by omega) (fun qy => ?_) (fun qy => ?_)
    · have tail : ∀ (y5 w : Int32) (n3 : Nat), 60 * r + 115 ≤ n3 → y5 = nI (wkI S R E h (k + 1)) → x6 + w = nI (wkS S R E h (k + 1)) → wp N n3 (e + 1, 0) TX11_way 62 [H11, iA x1, iA x2, iA x3, iA x4, iA y5, iA x6, iA x7, iA x8] [.inl w, .inl x6] σ Q := by
        intro y5 w n3 hn3 g5 g6
        obtain ⟨n4, rfl⟩ := il_ex (K := 15) (m := n3) (by omega)
        have gi : (Int8.ofInt 61).toInt32 * y5 + (x6 + w) = nI (61 * wkI S R E h (k + 1) + wkS S R E h (k + 1)) := by rw [g5, g6, i61, pk_mul, nI_add]
        refine ⟨il_in gi (by omega) (by omega), trivial, ih (k + 1) _ _ _ _ _ (by omega) (by omega) (by omega) g5 g6 (il_inc e7) ?_⟩
        rw [il_cl gi (by omega)]
        have := (ht (wkI S R E h (k + 1)) (wkS S R E h (k + 1)) hle1.1 hle1.2).2
        rw [show σ.1 11 0 (34 + 1) (61 * wkI S R E h (k + 1) + wkS S R E h (k + 1)) = σ.1 11 0 35 (61 * wkI S R E h (k + 1) + wkS S R E h (k + 1)) from rfl, this]
        by_cases q : k + 1 = wayT S R E h
        · have he := wk_end (S := S) (R := R) (E := E) (h := h)
          rw [← q] at he
          rw [if_pos q, if_pos ⟨by show (wkp _ _).1 = _; rw [he], by show (wkp _ _).2 = _; rw [he]⟩]
        · rw [if_neg q, if_neg (wk_ne (by omega))]
          rfl
      have mid : ∀ (w : Int32) (n3 : Nat), 60 * r + 125 ≤ n3 → x5 + w = nI (wkI S R E h (k + 1)) → wp N n3 (e + 1, 0) TX11_way 53 [H11, iA x1, iA x2, iA x3, iA x4, iA x5, iA x6, iA x7, iA x8] [.inl w, .inl x5] σ Q := by
        intro w n3 hn3 g5
        obtain ⟨n4, rfl⟩ := il_ex (K := 10) (m := n3) (by omega)
        refine b_ne e8 i2 (by omega) (by omega) (fun z => ?_) (fun z => ?_)
        · refine adv 1 (60 * r + 115) (by omega) (fun n5 hn5 => ?_)
          exact tail _ _ n5 hn5 g5 (by rw [il_inc e6, hSs, if_neg z])
        · exact ⟨trivial, tail _ _ _ (by omega) g5 (by rw [e6, oi_0, nI_add, hSs, if_pos z]; rfl)⟩
      refine b_ne e8 oi_1 (by omega) (by omega) (fun z => ?_) (fun z => ?_)
      · refine adv 1 (60 * r + 125) (by omega) (fun n5 hn5 => ?_)
        exact mid _ n5 hn5 (by rw [il_inc e5, hI, if_neg z])
      · exact ⟨trivial, mid _ _ (by omega) (by rw [e5, oi_0, nI_add, hI, if_pos z]; rfl)⟩
    · subst qy
      refine ⟨trivial, c_good (by omega) ⟨Or.inl rfl, ?_⟩⟩
      rw [if_pos hk] at hQ
      rw [e8]; exact hQ
set_option maxRecDepth 100000 in
theorem M_way (v : VV A) (h : MM σ A) {x y : Int32} (hm : 2700000 ≤ m) (hQ : ∀ τ, frM σ τ → MM τ (st_way A x y).2 → Q (some (.inl (st_way A x y).1)) τ) :
    wp N m (e + 6, 0) TX11_way 0 [H11, iA x, iA y, none, none, none, none, none, none] [] σ Q := by
  have hnh := v.s.1
  have hnj := v.e.1
  have hns := vNE_ns v.s v.e
  obtain ⟨n, rfl⟩ := il_ex (K := 60) (m := m) (by omega)
  unfold st_way at hQ
  have h' := MM_th h (Int32.ofInt 0)
  have fr0 : frM σ (uI σ 11 0 1 0 (Int32.ofInt 0)) := frM_uI
  by_cases ny : y < 0
  · refine ⟨fun q => absurd ny (Int32.not_lt.mpr q), fun _ => ?_⟩
    have e1 : (∀ τ, frM σ τ → MM τ (reA A 1).2 → Q (some (.inl (reA A 1).1)) τ) := by
      cases z : inR x A.1.nh with
      | none => rw [z] at hQ; exact hQ
      | some j => rw [z] at hQ; simp only at hQ; rw [if_pos ny] at hQ; exact hQ
    refine ⟨trivial, c_refusedM (by omega) ⟨Or.inl rfl, ?_⟩⟩
    exact e1 _ (frM_tr fr0 frM_tp) (MM_tp h' _ _)
  · refine ⟨fun _ => ?_, fun q => absurd (Int32.not_lt.mp ny) q⟩
    refine ⟨trivial, c_refusesP (e := e + 3) v h' (by omega) (fun q0 => ?_) (fun j p hj ej qj hp => ?_) (fun j hj ej qj hp => ?_)⟩
    · rw [q0] at hQ
      refine b_le (a := 1) rfl z0 (by omega) (by omega) (fun q => by omega) (fun _ => ?_)
      refine ⟨trivial, c_refusedM (by omega) ⟨Or.inl rfl, ?_⟩⟩
      rw [← oi_1]
      exact hQ _ (frM_tr fr0 frM_tp) (MM_tp h' _ _)
    · rw [qj] at hQ
      simp only at hQ
      rw [if_neg ny, hp] at hQ
      refine b_le (a := 5) rfl z0 (by omega) (by omega) (fun q => by omega) (fun _ => ?_)
      refine ⟨trivial, c_refusedM (by omega) ⟨Or.inl rfl, ?_⟩⟩
      rw [← i5]
      exact hQ _ (frM_tr fr0 frM_tp) (MM_tp h' _ _)
    · rw [qj] at hQ
      simp only at hQ
      rw [if_neg ny, hp] at hQ
      simp only at hQ
      have q1 : 0 < A.1.nh := by omega
      have t60 := wayT_60 v.s (v.r q1) v.e hj hp
      have hcn := (v.s.2.1 j hj).2
      refine b_le (a := 0) rfl z0 (by omega) (by omega) (fun _ => ?_) (fun q => by omega)
      refine ⟨trivial, c_ways (jv := 27) (e := e + 1) rfl (by decide) v.s (v.r q1) v.e h'.s (h'.r q1) (h'.e q1) hj ej (by omega) (fun τ o1 t1 => ?_)⟩
      have h1 := MM_of o1 (by decide) h'
      have fr1 : frM σ τ := frM_tr fr0 (frM_off o1 (by decide))
      obtain ⟨Y, hY, eY⟩ := nI_of ny
      have s0 := (t1 0 0 (Nat.zero_le _) (Nat.zero_le _)).2
      obtain ⟨n3, rfl⟩ := il_ex (K := 30) (m := n) (by omega)
      refine ⟨il_in oi_0 (by omega) (by omega), ?_⟩
      refine adv 1 2600000 (by omega) (fun n2 hn2 => ?_)
      refine wy_loop (e := e + 5) hns hcn t60 t1 (by omega) eY ?_ (wayT A.1 A.2.1 A.2.2.1 j) 0 n2 _ _ _ _ (by omega) (by omega) (by omega) oi_0 oi_0 oi_0 ?_
      · have := hQ _ (frM_tr fr1 frM_tp) (MM_tp h1 _ _)
        have ew : wyI A.1 A.2.1 A.2.2.1 j y = if Y < wayT A.1 A.2.1 A.2.2.1 j then nI (stK A.1 A.2.1 A.2.2.1 j Y) else -2 := by
          unfold wyI
          rw [eY]
          by_cases z : Y < wayT A.1 A.2.1 A.2.2.1 j
          · rw [inR_n (by omega) z, if_pos z]
          · rw [if_neg z]
            rcases inR_c (nI Y) (n := wayT A.1 A.2.1 A.2.2.1 j) (by omega) with ⟨i, hi, ei, _⟩ | ⟨qn, _⟩
            · have := (nI_eq (show Y < 2 ^ 31 by omega) (show i < 2 ^ 31 by omega)).mp ei
              omega
            · rw [qn]
        rw [← ew]
        exact this
      · rw [il_cl oi_0 (by omega)]
        show τ.1 11 0 35 0 = _
        rw [show τ.1 11 0 35 0 = τ.1 11 0 35 (61 * 0 + 0) from rfl, s0]
        by_cases q : 0 = wayT A.1 A.2.1 A.2.2.1 j
        · have he := wk_end (S := A.1) (R := A.2.1) (E := A.2.2.1) (h := j)
          rw [← q] at he
          have he : (0, 0) = (A.1.cn j, A.2.2.1.ns) := he
          rw [if_pos q, if_pos ⟨(Prod.mk.inj he).1, (Prod.mk.inj he).2⟩]
        · have hne := wk_ne (S := A.1) (R := A.2.1) (E := A.2.2.1) (h := j) (k := 0) (by omega)
          rw [if_neg q, if_neg (show ¬ (0 = A.1.cn j ∧ 0 = A.2.2.1.ns) from hne)]
          rfl
end CA7
