/-! the law's loop; written by wip/whole/gen_law.py -/
abbrev LL (x4 : Int32) (o5 o6 : Option AV) : List (Option AV) := [some (.inr (.inr (13, 0, 1))), H10, H11, some (.inr (.inr (12, 0, 1))), iA x4, o5, o6]
theorem la_1 {x : Int32} {i : Nat} (h : x = nI i) : x + Int32.ofInt 1 = nI (i + 1) := by rw [h, show Int32.ofInt 1 = nI 1 by decide, nI_add]
theorem la_2 {x : Int32} {i : Nat} (h : x = nI i) : x + Int32.ofInt 2 = nI (i + 2) := by rw [h, show Int32.ofInt 2 = nI 2 by decide, nI_add]
theorem la_3 {x : Int32} {i : Nat} (h : x = nI i) : x + Int32.ofInt 3 = nI (i + 3) := by rw [h, show Int32.ofInt 3 = nI 3 by decide, nI_add]
theorem la_4 {x : Int32} {i : Nat} (h : x = nI i) : x + Int32.ofInt 4 = nI (i + 4) := by rw [h, show Int32.ofInt 4 = nI 4 by decide, nI_add]
theorem la_5 {x : Int32} {i : Nat} (h : x = nI i) : x + Int32.ofInt 5 = nI (i + 5) := by rw [h, show Int32.ofInt 5 = nI 5 by decide, nI_add]
theorem la_6 {x : Int32} {i : Nat} (h : x = nI i) : x + Int32.ofInt 6 = nI (i + 6) := by rw [h, show Int32.ofInt 6 = nI 6 by decide, nI_add]
theorem CC_e1 {σ τ : ST} {A : AS} (h : τ.1 = σ.1) (c : CC σ A) : CC τ A := by
  obtain ⟨a, b⟩ := τ
  obtain ⟨a', b'⟩ := σ
  have h : a = a' := h
  subst h
  exact c
theorem MM_e1 {σ τ : ST} {A : AS} (h : τ.1 = σ.1) (h2 : τ.2 11 0 17 = σ.2 11 0 17) (c : MM σ A) : MM τ A := by
  obtain ⟨a, b⟩ := τ
  obtain ⟨a', b'⟩ := σ
  have h : a = a' := h
  subst h
  refine MM.mk ?_ c.r c.e c.p c.t c.w c.m
  have := c.s
  unfold mSP at *
  rw [h2]
  exact this
section LAW
variable {N e m g i M : Nat} {σ : ST} {Q : POST} {A : AS} {xs : Nat → Int32} {x4 : Int32} {o5 o6 : Option AV}
set_option maxRecDepth 100000 in
theorem lc_feed (v : VV A) (c : CC σ A) (h : MM σ A) (hx : σ.1 13 0 1 = xs) (e4 : x4 = nI i) (hi : i + 6 ≤ N) (hN : N ≤ 3072) (hM : 3000000 ≤ M) (hm : M + 100 ≤ m)
    (hK : ∀ m' A' τ o5 o6, M ≤ m' → VV A' → CC τ A' → MM τ A' → τ.1 13 0 1 = xs → wp N m' (e + 14, g) TL_law 751 (LL x4 o5 o6) [] τ Q) :
    wp N m (e + 14, g) TL_law 25 (LL x4 o5 o6) [] σ Q := by
  obtain ⟨n, rfl⟩ := il_ex (K := 90) (m := m) (by omega)
  refine ⟨il_in (la_1 e4) (by omega) (by omega), il_in (la_2 e4) (by omega) (by omega), il_in (la_3 e4) (by omega) (by omega), il_in (la_4 e4) (by omega) (by omega), il_in (la_5 e4) (by omega) (by omega), trivial, C_feed (e := e + 12) v c (by omega) (fun τ f1 c1 => ?_)⟩
  have E : τ.1 13 0 1 = σ.1 13 0 1 := (f1 13 0 1 (by omega)).1
  refine ⟨il_in (la_1 e4) (by omega) (by omega), il_in (la_2 e4) (by omega) (by omega), il_in (la_3 e4) (by omega) (by omega), il_in (la_4 e4) (by omega) (by omega), il_in (la_5 e4) (by omega) (by omega), trivial, M_feed (e := e + 13) v (MM_fr f1 h) (by omega) (fun τ2 f2 m2 => ?_)⟩
  rw [E] at m2
  have E2 : τ2.1 13 0 1 = xs := ((f2 13 0 1 (by omega)).1.trans E).trans hx
  exact ⟨fun _ => hK _ _ τ2 _ _ (by omega) (V_feed v _ _ _ _ _) (CC_fr f2 c1) m2 E2, fun q => absurd (congrArg (fun (z : Nat → Int32) => (st_feed A (z (x4 + Int32.ofInt 1).toNatClampNeg) (z (x4 + Int32.ofInt 2).toNatClampNeg) (z (x4 + Int32.ofInt 3).toNatClampNeg) (z (x4 + Int32.ofInt 4).toNatClampNeg) (z (x4 + Int32.ofInt 5).toNatClampNeg)).1) E.symm) q⟩
set_option maxRecDepth 100000 in
theorem lc_text (v : VV A) (c : CC σ A) (h : MM σ A) (hx : σ.1 13 0 1 = xs) (e4 : x4 = nI i) (hi : i + 6 ≤ N) (hN : N ≤ 3072) (hM : 3000000 ≤ M) (hm : M + 100 ≤ m)
    (hK : ∀ m' A' τ o5 o6, M ≤ m' → VV A' → CC τ A' → MM τ A' → τ.1 13 0 1 = xs → wp N m' (e + 14, g) TL_law 751 (LL x4 o5 o6) [] τ Q) :
    wp N m (e + 14, g) TL_law 82 (LL x4 o5 o6) [] σ Q := by
  obtain ⟨n, rfl⟩ := il_ex (K := 90) (m := m) (by omega)
  refine ⟨il_in (la_1 e4) (by omega) (by omega), trivial, C_text (e := e + 7) v c (by omega) (fun τ f1 v1 c1 => ?_)⟩
  have E : τ.1 13 0 1 = σ.1 13 0 1 := (f1 13 0 1 (by omega)).1
  refine ⟨il_in (la_1 e4) (by omega) (by omega), trivial, M_text (e := e + 7) v (MM_fr f1 h) (by omega) (fun τ2 f2 m2 => ?_)⟩
  rw [E] at m2
  have E2 : τ2.1 13 0 1 = xs := ((f2 13 0 1 (by omega)).1.trans E).trans hx
  exact ⟨fun _ => hK _ _ τ2 _ _ (by omega) (v1) (CC_fr f2 c1) m2 E2, fun q => absurd (congrArg (fun (z : Nat → Int32) => (st_text A (z (x4 + Int32.ofInt 1).toNatClampNeg)).1) E.symm) q⟩
set_option maxRecDepth 100000 in
theorem lc_fault (v : VV A) (c : CC σ A) (h : MM σ A) (hx : σ.1 13 0 1 = xs) (e4 : x4 = nI i) (hi : i + 6 ≤ N) (hN : N ≤ 3072) (hM : 3000000 ≤ M) (hm : M + 100 ≤ m)
    (hK : ∀ m' A' τ o5 o6, M ≤ m' → VV A' → CC τ A' → MM τ A' → τ.1 13 0 1 = xs → wp N m' (e + 14, g) TL_law 751 (LL x4 o5 o6) [] τ Q) :
    wp N m (e + 14, g) TL_law 99 (LL x4 o5 o6) [] σ Q := by
  obtain ⟨n, rfl⟩ := il_ex (K := 90) (m := m) (by omega)
  refine ⟨trivial, C_fault (e := e + 13) c (by omega) ?_⟩
  refine ⟨trivial, M_fault (e := e + 13) h (by omega) (fun τ2 f2 m2 => ?_)⟩
  exact ⟨fun _ => hK _ _ τ2 _ _ (by omega) v (CC_fr f2 c) m2 ((f2 13 0 1 (by omega)).1.trans hx), fun q => absurd rfl q⟩
set_option maxRecDepth 100000 in
theorem lc_where (v : VV A) (c : CC σ A) (h : MM σ A) (hx : σ.1 13 0 1 = xs) (e4 : x4 = nI i) (hi : i + 6 ≤ N) (hN : N ≤ 3072) (hM : 3000000 ≤ M) (hm : M + 100 ≤ m)
    (hK : ∀ m' A' τ o5 o6, M ≤ m' → VV A' → CC τ A' → MM τ A' → τ.1 13 0 1 = xs → wp N m' (e + 14, g) TL_law 751 (LL x4 o5 o6) [] τ Q) :
    wp N m (e + 14, g) TL_law 106 (LL x4 o5 o6) [] σ Q := by
  obtain ⟨n, rfl⟩ := il_ex (K := 90) (m := m) (by omega)
  refine ⟨trivial, C_where (e := e + 13) c (by omega) ?_⟩
  refine ⟨trivial, M_where (e := e + 13) h (by omega) (fun τ2 f2 m2 => ?_)⟩
  exact ⟨fun _ => hK _ _ τ2 _ _ (by omega) v (CC_fr f2 c) m2 ((f2 13 0 1 (by omega)).1.trans hx), fun q => absurd rfl q⟩
set_option maxRecDepth 100000 in
theorem lc_about (v : VV A) (c : CC σ A) (h : MM σ A) (hx : σ.1 13 0 1 = xs) (e4 : x4 = nI i) (hi : i + 6 ≤ N) (hN : N ≤ 3072) (hM : 3000000 ≤ M) (hm : M + 100 ≤ m)
    (hK : ∀ m' A' τ o5 o6, M ≤ m' → VV A' → CC τ A' → MM τ A' → τ.1 13 0 1 = xs → wp N m' (e + 14, g) TL_law 751 (LL x4 o5 o6) [] τ Q) :
    wp N m (e + 14, g) TL_law 113 (LL x4 o5 o6) [] σ Q := by
  obtain ⟨n, rfl⟩ := il_ex (K := 90) (m := m) (by omega)
  refine ⟨il_in (la_1 e4) (by omega) (by omega), trivial, C_about (e := e + 7) v c (by omega) (fun τ f1 c1 => ?_)⟩
  have E : τ.1 13 0 1 = σ.1 13 0 1 := (f1 13 0 1 (by omega)).1
  refine ⟨il_in (la_1 e4) (by omega) (by omega), trivial, M_about (e := e + 7) v (MM_fr f1 h) (by omega) (fun τ2 f2 m2 => ?_)⟩
  rw [E] at m2
  have E2 : τ2.1 13 0 1 = xs := ((f2 13 0 1 (by omega)).1.trans E).trans hx
  exact ⟨fun _ => hK _ _ τ2 _ _ (by omega) (V_about v _) (CC_fr f2 c1) m2 E2, fun q => absurd (congrArg (fun (z : Nat → Int32) => (st_about A (z (x4 + Int32.ofInt 1).toNatClampNeg)).1) E.symm) q⟩
set_option maxRecDepth 100000 in
theorem lc_hearing (v : VV A) (c : CC σ A) (h : MM σ A) (hx : σ.1 13 0 1 = xs) (e4 : x4 = nI i) (hi : i + 6 ≤ N) (hN : N ≤ 3072) (hM : 3000000 ≤ M) (hm : M + 100 ≤ m)
    (hK : ∀ m' A' τ o5 o6, M ≤ m' → VV A' → CC τ A' → MM τ A' → τ.1 13 0 1 = xs → wp N m' (e + 14, g) TL_law 751 (LL x4 o5 o6) [] τ Q) :
    wp N m (e + 14, g) TL_law 130 (LL x4 o5 o6) [] σ Q := by
  obtain ⟨n, rfl⟩ := il_ex (K := 90) (m := m) (by omega)
  refine ⟨il_in (la_1 e4) (by omega) (by omega), il_in (la_2 e4) (by omega) (by omega), trivial, C_hearing (e := e + 7) v c (by omega) (fun τ f1 c1 => ?_)⟩
  have E : τ.1 13 0 1 = σ.1 13 0 1 := (f1 13 0 1 (by omega)).1
  refine ⟨il_in (la_1 e4) (by omega) (by omega), il_in (la_2 e4) (by omega) (by omega), trivial, M_hearing (e := e + 7) v (MM_fr f1 h) (by omega) (fun τ2 f2 m2 => ?_)⟩
  rw [E] at m2
  have E2 : τ2.1 13 0 1 = xs := ((f2 13 0 1 (by omega)).1.trans E).trans hx
  exact ⟨fun _ => hK _ _ τ2 _ _ (by omega) (V_hearing v _ _) (CC_fr f2 c1) m2 E2, fun q => absurd (congrArg (fun (z : Nat → Int32) => (st_hearing A (z (x4 + Int32.ofInt 1).toNatClampNeg) (z (x4 + Int32.ofInt 2).toNatClampNeg)).1) E.symm) q⟩
set_option maxRecDepth 100000 in
theorem lc_word (v : VV A) (c : CC σ A) (h : MM σ A) (hx : σ.1 13 0 1 = xs) (e4 : x4 = nI i) (hi : i + 6 ≤ N) (hN : N ≤ 3072) (hM : 3000000 ≤ M) (hm : M + 100 ≤ m)
    (hK : ∀ m' A' τ o5 o6, M ≤ m' → VV A' → CC τ A' → MM τ A' → τ.1 13 0 1 = xs → wp N m' (e + 14, g) TL_law 751 (LL x4 o5 o6) [] τ Q) :
    wp N m (e + 14, g) TL_law 157 (LL x4 o5 o6) [] σ Q := by
  obtain ⟨n, rfl⟩ := il_ex (K := 90) (m := m) (by omega)
  refine ⟨il_in (la_1 e4) (by omega) (by omega), il_in (la_2 e4) (by omega) (by omega), il_in (la_3 e4) (by omega) (by omega), trivial, C_word (e := e + 7) v c (by omega) (fun τ f1 c1 => ?_)⟩
  have E : τ.1 13 0 1 = σ.1 13 0 1 := (f1 13 0 1 (by omega)).1
  refine ⟨il_in (la_1 e4) (by omega) (by omega), il_in (la_2 e4) (by omega) (by omega), il_in (la_3 e4) (by omega) (by omega), trivial, M_word (e := e + 7) v (MM_fr f1 h) (by omega) (fun τ2 f2 m2 => ?_)⟩
  rw [E] at m2
  have E2 : τ2.1 13 0 1 = xs := ((f2 13 0 1 (by omega)).1.trans E).trans hx
  exact ⟨fun _ => hK _ _ τ2 _ _ (by omega) (V_word v _ _ _) (CC_fr f2 c1) m2 E2, fun q => absurd (congrArg (fun (z : Nat → Int32) => (st_word A (z (x4 + Int32.ofInt 1).toNatClampNeg) (z (x4 + Int32.ofInt 2).toNatClampNeg) (z (x4 + Int32.ofInt 3).toNatClampNeg)).1) E.symm) q⟩
set_option maxRecDepth 100000 in
theorem lc_letter (v : VV A) (c : CC σ A) (h : MM σ A) (hx : σ.1 13 0 1 = xs) (e4 : x4 = nI i) (hi : i + 6 ≤ N) (hN : N ≤ 3072) (hM : 3000000 ≤ M) (hm : M + 100 ≤ m)
    (hK : ∀ m' A' τ o5 o6, M ≤ m' → VV A' → CC τ A' → MM τ A' → τ.1 13 0 1 = xs → wp N m' (e + 14, g) TL_law 751 (LL x4 o5 o6) [] τ Q) :
    wp N m (e + 14, g) TL_law 194 (LL x4 o5 o6) [] σ Q := by
  obtain ⟨n, rfl⟩ := il_ex (K := 90) (m := m) (by omega)
  refine ⟨il_in (la_1 e4) (by omega) (by omega), il_in (la_2 e4) (by omega) (by omega), trivial, C_letter (e := e + 7) v c (by omega) (fun τ f1 c1 => ?_)⟩
  have E : τ.1 13 0 1 = σ.1 13 0 1 := (f1 13 0 1 (by omega)).1
  refine ⟨il_in (la_1 e4) (by omega) (by omega), il_in (la_2 e4) (by omega) (by omega), trivial, M_letter (e := e + 7) v (MM_fr f1 h) (by omega) (fun τ2 f2 m2 => ?_)⟩
  rw [E] at m2
  have E2 : τ2.1 13 0 1 = xs := ((f2 13 0 1 (by omega)).1.trans E).trans hx
  exact ⟨fun _ => hK _ _ τ2 _ _ (by omega) (V_letter v _ _) (CC_fr f2 c1) m2 E2, fun q => absurd (congrArg (fun (z : Nat → Int32) => (st_letter A (z (x4 + Int32.ofInt 1).toNatClampNeg) (z (x4 + Int32.ofInt 2).toNatClampNeg)).1) E.symm) q⟩
set_option maxRecDepth 100000 in
theorem lc_far (v : VV A) (c : CC σ A) (h : MM σ A) (hx : σ.1 13 0 1 = xs) (e4 : x4 = nI i) (hi : i + 6 ≤ N) (hN : N ≤ 3072) (hM : 3000000 ≤ M) (hm : M + 100 ≤ m)
    (hK : ∀ m' A' τ o5 o6, M ≤ m' → VV A' → CC τ A' → MM τ A' → τ.1 13 0 1 = xs → wp N m' (e + 14, g) TL_law 751 (LL x4 o5 o6) [] τ Q) :
    wp N m (e + 14, g) TL_law 221 (LL x4 o5 o6) [] σ Q := by
  obtain ⟨n, rfl⟩ := il_ex (K := 90) (m := m) (by omega)
  refine ⟨il_in (la_1 e4) (by omega) (by omega), il_in (la_2 e4) (by omega) (by omega), trivial, C_far (e := e + 7) v c (by omega) (fun τ f1 c1 => ?_)⟩
  have E : τ.1 13 0 1 = σ.1 13 0 1 := (f1 13 0 1 (by omega)).1
  refine ⟨il_in (la_1 e4) (by omega) (by omega), il_in (la_2 e4) (by omega) (by omega), trivial, M_far (e := e + 7) v (MM_fr f1 h) (by omega) (fun τ2 f2 m2 => ?_)⟩
  rw [E] at m2
  have E2 : τ2.1 13 0 1 = xs := ((f2 13 0 1 (by omega)).1.trans E).trans hx
  exact ⟨fun _ => hK _ _ τ2 _ _ (by omega) (V_far v _ _) (CC_fr f2 c1) m2 E2, fun q => absurd (congrArg (fun (z : Nat → Int32) => (st_far A (z (x4 + Int32.ofInt 1).toNatClampNeg) (z (x4 + Int32.ofInt 2).toNatClampNeg)).1) E.symm) q⟩
set_option maxRecDepth 100000 in
theorem lc_between (v : VV A) (c : CC σ A) (h : MM σ A) (hx : σ.1 13 0 1 = xs) (e4 : x4 = nI i) (hi : i + 6 ≤ N) (hN : N ≤ 3072) (hM : 3000000 ≤ M) (hm : M + 100 ≤ m)
    (hK : ∀ m' A' τ o5 o6, M ≤ m' → VV A' → CC τ A' → MM τ A' → τ.1 13 0 1 = xs → wp N m' (e + 14, g) TL_law 751 (LL x4 o5 o6) [] τ Q) :
    wp N m (e + 14, g) TL_law 248 (LL x4 o5 o6) [] σ Q := by
  obtain ⟨n, rfl⟩ := il_ex (K := 90) (m := m) (by omega)
  refine ⟨il_in (la_1 e4) (by omega) (by omega), il_in (la_2 e4) (by omega) (by omega), trivial, C_between (e := e + 7) v c (by omega) (fun τ f1 c1 => ?_)⟩
  have E : τ.1 13 0 1 = σ.1 13 0 1 := (f1 13 0 1 (by omega)).1
  refine ⟨il_in (la_1 e4) (by omega) (by omega), il_in (la_2 e4) (by omega) (by omega), trivial, M_between (e := e + 7) v (MM_fr f1 h) (by omega) (fun τ2 f2 m2 => ?_)⟩
  rw [E] at m2
  have E2 : τ2.1 13 0 1 = xs := ((f2 13 0 1 (by omega)).1.trans E).trans hx
  exact ⟨fun _ => hK _ _ τ2 _ _ (by omega) (V_between v _ _) (CC_fr f2 c1) m2 E2, fun q => absurd (congrArg (fun (z : Nat → Int32) => (st_between A (z (x4 + Int32.ofInt 1).toNatClampNeg) (z (x4 + Int32.ofInt 2).toNatClampNeg)).1) E.symm) q⟩
set_option maxRecDepth 100000 in
theorem lc_costs (v : VV A) (c : CC σ A) (h : MM σ A) (hx : σ.1 13 0 1 = xs) (e4 : x4 = nI i) (hi : i + 6 ≤ N) (hN : N ≤ 3072) (hM : 3000000 ≤ M) (hm : M + 100 ≤ m)
    (hK : ∀ m' A' τ o5 o6, M ≤ m' → VV A' → CC τ A' → MM τ A' → τ.1 13 0 1 = xs → wp N m' (e + 14, g) TL_law 751 (LL x4 o5 o6) [] τ Q) :
    wp N m (e + 14, g) TL_law 275 (LL x4 o5 o6) [] σ Q := by
  obtain ⟨n, rfl⟩ := il_ex (K := 90) (m := m) (by omega)
  refine ⟨il_in (la_1 e4) (by omega) (by omega), il_in (la_2 e4) (by omega) (by omega), il_in (la_3 e4) (by omega) (by omega), trivial, C_costs (e := e + 7) v c (by omega) (fun τ f1 c1 => ?_)⟩
  have E : τ.1 13 0 1 = σ.1 13 0 1 := (f1 13 0 1 (by omega)).1
  refine ⟨il_in (la_1 e4) (by omega) (by omega), il_in (la_2 e4) (by omega) (by omega), il_in (la_3 e4) (by omega) (by omega), trivial, M_costs (e := e + 7) v (MM_fr f1 h) (by omega) (fun τ2 f2 m2 => ?_)⟩
  rw [E] at m2
  have E2 : τ2.1 13 0 1 = xs := ((f2 13 0 1 (by omega)).1.trans E).trans hx
  exact ⟨fun _ => hK _ _ τ2 _ _ (by omega) (V_costs v _ _ _) (CC_fr f2 c1) m2 E2, fun q => absurd (congrArg (fun (z : Nat → Int32) => (st_costs A (z (x4 + Int32.ofInt 1).toNatClampNeg) (z (x4 + Int32.ofInt 2).toNatClampNeg) (z (x4 + Int32.ofInt 3).toNatClampNeg)).1) E.symm) q⟩
set_option maxRecDepth 100000 in
theorem lc_window (v : VV A) (c : CC σ A) (h : MM σ A) (hx : σ.1 13 0 1 = xs) (e4 : x4 = nI i) (hi : i + 6 ≤ N) (hN : N ≤ 3072) (hM : 3000000 ≤ M) (hm : M + 100 ≤ m)
    (hK : ∀ m' A' τ o5 o6, M ≤ m' → VV A' → CC τ A' → MM τ A' → τ.1 13 0 1 = xs → wp N m' (e + 14, g) TL_law 751 (LL x4 o5 o6) [] τ Q) :
    wp N m (e + 14, g) TL_law 312 (LL x4 o5 o6) [] σ Q := by
  obtain ⟨n, rfl⟩ := il_ex (K := 90) (m := m) (by omega)
  refine ⟨il_in (la_1 e4) (by omega) (by omega), trivial, C_window (e := e + 7) v c (by omega) (fun τ f1 c1 => ?_)⟩
  have E : τ.1 13 0 1 = σ.1 13 0 1 := (f1 13 0 1 (by omega)).1
  refine ⟨il_in (la_1 e4) (by omega) (by omega), trivial, M_window (e := e + 7) v (MM_fr f1 h) (by omega) (fun τ2 f2 m2 => ?_)⟩
  rw [E] at m2
  have E2 : τ2.1 13 0 1 = xs := ((f2 13 0 1 (by omega)).1.trans E).trans hx
  exact ⟨fun _ => hK _ _ τ2 _ _ (by omega) (V_window v _) (CC_fr f2 c1) m2 E2, fun q => absurd (congrArg (fun (z : Nat → Int32) => (st_window A (z (x4 + Int32.ofInt 1).toNatClampNeg)).1) E.symm) q⟩
set_option maxRecDepth 100000 in
theorem lc_share (v : VV A) (c : CC σ A) (h : MM σ A) (hx : σ.1 13 0 1 = xs) (e4 : x4 = nI i) (hi : i + 6 ≤ N) (hN : N ≤ 3072) (hM : 3000000 ≤ M) (hm : M + 100 ≤ m)
    (hK : ∀ m' A' τ o5 o6, M ≤ m' → VV A' → CC τ A' → MM τ A' → τ.1 13 0 1 = xs → wp N m' (e + 14, g) TL_law 751 (LL x4 o5 o6) [] τ Q) :
    wp N m (e + 14, g) TL_law 329 (LL x4 o5 o6) [] σ Q := by
  obtain ⟨n, rfl⟩ := il_ex (K := 90) (m := m) (by omega)
  refine ⟨il_in (la_1 e4) (by omega) (by omega), trivial, C_share (e := e + 7) v c (by omega) (fun τ f1 c1 => ?_)⟩
  have E : τ.1 13 0 1 = σ.1 13 0 1 := (f1 13 0 1 (by omega)).1
  refine ⟨il_in (la_1 e4) (by omega) (by omega), trivial, M_share (e := e + 7) v (MM_fr f1 h) (by omega) (fun τ2 f2 m2 => ?_)⟩
  rw [E] at m2
  have E2 : τ2.1 13 0 1 = xs := ((f2 13 0 1 (by omega)).1.trans E).trans hx
  exact ⟨fun _ => hK _ _ τ2 _ _ (by omega) (V_share v _) (CC_fr f2 c1) m2 E2, fun q => absurd (congrArg (fun (z : Nat → Int32) => (st_share A (z (x4 + Int32.ofInt 1).toNatClampNeg)).1) E.symm) q⟩
set_option maxRecDepth 100000 in
theorem lc_weight (v : VV A) (c : CC σ A) (h : MM σ A) (hx : σ.1 13 0 1 = xs) (e4 : x4 = nI i) (hi : i + 6 ≤ N) (hN : N ≤ 3072) (hM : 3000000 ≤ M) (hm : M + 100 ≤ m)
    (hK : ∀ m' A' τ o5 o6, M ≤ m' → VV A' → CC τ A' → MM τ A' → τ.1 13 0 1 = xs → wp N m' (e + 14, g) TL_law 751 (LL x4 o5 o6) [] τ Q) :
    wp N m (e + 14, g) TL_law 346 (LL x4 o5 o6) [] σ Q := by
  obtain ⟨n, rfl⟩ := il_ex (K := 90) (m := m) (by omega)
  refine ⟨il_in (la_1 e4) (by omega) (by omega), il_in (la_2 e4) (by omega) (by omega), trivial, C_weight (e := e + 7) v c (by omega) (fun τ f1 c1 => ?_)⟩
  have E : τ.1 13 0 1 = σ.1 13 0 1 := (f1 13 0 1 (by omega)).1
  refine ⟨il_in (la_1 e4) (by omega) (by omega), il_in (la_2 e4) (by omega) (by omega), trivial, M_weight (e := e + 7) v (MM_fr f1 h) (by omega) (fun τ2 f2 m2 => ?_)⟩
  rw [E] at m2
  have E2 : τ2.1 13 0 1 = xs := ((f2 13 0 1 (by omega)).1.trans E).trans hx
  exact ⟨fun _ => hK _ _ τ2 _ _ (by omega) (V_weight v _ _) (CC_fr f2 c1) m2 E2, fun q => absurd (congrArg (fun (z : Nat → Int32) => (st_weight A (z (x4 + Int32.ofInt 1).toNatClampNeg) (z (x4 + Int32.ofInt 2).toNatClampNeg)).1) E.symm) q⟩
set_option maxRecDepth 100000 in
theorem lc_join (v : VV A) (c : CC σ A) (h : MM σ A) (hx : σ.1 13 0 1 = xs) (e4 : x4 = nI i) (hi : i + 6 ≤ N) (hN : N ≤ 3072) (hM : 3000000 ≤ M) (hm : M + 100 ≤ m)
    (hK : ∀ m' A' τ o5 o6, M ≤ m' → VV A' → CC τ A' → MM τ A' → τ.1 13 0 1 = xs → wp N m' (e + 14, g) TL_law 751 (LL x4 o5 o6) [] τ Q) :
    wp N m (e + 14, g) TL_law 373 (LL x4 o5 o6) [] σ Q := by
  obtain ⟨n, rfl⟩ := il_ex (K := 90) (m := m) (by omega)
  refine ⟨il_in (la_1 e4) (by omega) (by omega), trivial, C_join (e := e + 5) v c (by omega) (fun τ f1 c1 => ?_)⟩
  have E : τ.1 13 0 1 = σ.1 13 0 1 := (f1 13 0 1 (by omega)).1
  refine ⟨il_in (la_1 e4) (by omega) (by omega), trivial, M_join (e := e + 5) v (MM_fr f1 h) (by omega) (fun τ2 f2 m2 => ?_)⟩
  rw [E] at m2
  have E2 : τ2.1 13 0 1 = xs := ((f2 13 0 1 (by omega)).1.trans E).trans hx
  exact ⟨fun _ => hK _ _ τ2 _ _ (by omega) (V_join v _) (CC_fr f2 c1) m2 E2, fun q => absurd (congrArg (fun (z : Nat → Int32) => (st_join A (z (x4 + Int32.ofInt 1).toNatClampNeg)).1) E.symm) q⟩
set_option maxRecDepth 100000 in
theorem lc_joinAll (v : VV A) (c : CC σ A) (h : MM σ A) (hx : σ.1 13 0 1 = xs) (e4 : x4 = nI i) (hi : i + 6 ≤ N) (hN : N ≤ 3072) (hM : 3000000 ≤ M) (hm : M + 100 ≤ m)
    (hK : ∀ m' A' τ o5 o6, M ≤ m' → VV A' → CC τ A' → MM τ A' → τ.1 13 0 1 = xs → wp N m' (e + 14, g) TL_law 751 (LL x4 o5 o6) [] τ Q) :
    wp N m (e + 14, g) TL_law 390 (LL x4 o5 o6) [] σ Q := by
  obtain ⟨n, rfl⟩ := il_ex (K := 90) (m := m) (by omega)
  refine ⟨il_in (la_1 e4) (by omega) (by omega), trivial, C_joinAll (e := e + 5) v c (by omega) (fun τ f1 c1 => ?_)⟩
  have E : τ.1 13 0 1 = σ.1 13 0 1 := (f1 13 0 1 (by omega)).1
  refine ⟨il_in (la_1 e4) (by omega) (by omega), trivial, M_joinAll (e := e + 5) v (MM_fr f1 h) (by omega) (fun τ2 f2 m2 => ?_)⟩
  rw [E] at m2
  have E2 : τ2.1 13 0 1 = xs := ((f2 13 0 1 (by omega)).1.trans E).trans hx
  exact ⟨fun _ => hK _ _ τ2 _ _ (by omega) (V_joinAll v _) (CC_fr f2 c1) m2 E2, fun q => absurd (congrArg (fun (z : Nat → Int32) => (st_joinAll A (z (x4 + Int32.ofInt 1).toNatClampNeg)).1) E.symm) q⟩
set_option maxRecDepth 100000 in
theorem lc_drop (v : VV A) (c : CC σ A) (h : MM σ A) (hx : σ.1 13 0 1 = xs) (e4 : x4 = nI i) (hi : i + 6 ≤ N) (hN : N ≤ 3072) (hM : 3000000 ≤ M) (hm : M + 100 ≤ m)
    (hK : ∀ m' A' τ o5 o6, M ≤ m' → VV A' → CC τ A' → MM τ A' → τ.1 13 0 1 = xs → wp N m' (e + 14, g) TL_law 751 (LL x4 o5 o6) [] τ Q) :
    wp N m (e + 14, g) TL_law 407 (LL x4 o5 o6) [] σ Q := by
  obtain ⟨n, rfl⟩ := il_ex (K := 90) (m := m) (by omega)
  refine ⟨il_in (la_1 e4) (by omega) (by omega), trivial, C_drop (e := e + 5) v c (by omega) (fun τ f1 c1 => ?_)⟩
  have E : τ.1 13 0 1 = σ.1 13 0 1 := (f1 13 0 1 (by omega)).1
  refine ⟨il_in (la_1 e4) (by omega) (by omega), trivial, M_drop (e := e + 5) v (MM_fr f1 h) (by omega) (fun τ2 f2 m2 => ?_)⟩
  rw [E] at m2
  have E2 : τ2.1 13 0 1 = xs := ((f2 13 0 1 (by omega)).1.trans E).trans hx
  exact ⟨fun _ => hK _ _ τ2 _ _ (by omega) (V_drop v _) (CC_fr f2 c1) m2 E2, fun q => absurd (congrArg (fun (z : Nat → Int32) => (st_drop A (z (x4 + Int32.ofInt 1).toNatClampNeg)).1) E.symm) q⟩
set_option maxRecDepth 100000 in
theorem lc_weigh (v : VV A) (c : CC σ A) (h : MM σ A) (hx : σ.1 13 0 1 = xs) (e4 : x4 = nI i) (hi : i + 6 ≤ N) (hN : N ≤ 3072) (hM : 3000000 ≤ M) (hm : M + 100 ≤ m)
    (hK : ∀ m' A' τ o5 o6, M ≤ m' → VV A' → CC τ A' → MM τ A' → τ.1 13 0 1 = xs → wp N m' (e + 14, g) TL_law 751 (LL x4 o5 o6) [] τ Q) :
    wp N m (e + 14, g) TL_law 424 (LL x4 o5 o6) [] σ Q := by
  obtain ⟨n, rfl⟩ := il_ex (K := 90) (m := m) (by omega)
  refine ⟨trivial, C_weigh (e := e + 7) v c (by omega) (fun τ f1 c1 => ?_)⟩
  have E : τ.1 13 0 1 = σ.1 13 0 1 := (f1 13 0 1 (by omega)).1
  refine ⟨trivial, M_weigh (e := e + 7) v (MM_fr f1 h) (by omega) (fun τ2 f2 m2 => ?_)⟩
  have E2 : τ2.1 13 0 1 = xs := ((f2 13 0 1 (by omega)).1.trans E).trans hx
  exact ⟨fun _ => hK _ _ τ2 _ _ (by omega) (V_weigh v) (CC_fr f2 c1) m2 E2, fun q => absurd rfl q⟩
set_option maxRecDepth 100000 in
theorem lc_undo (v : VV A) (c : CC σ A) (h : MM σ A) (hx : σ.1 13 0 1 = xs) (e4 : x4 = nI i) (hi : i + 6 ≤ N) (hN : N ≤ 3072) (hM : 3000000 ≤ M) (hm : M + 100 ≤ m)
    (hK : ∀ m' A' τ o5 o6, M ≤ m' → VV A' → CC τ A' → MM τ A' → τ.1 13 0 1 = xs → wp N m' (e + 14, g) TL_law 751 (LL x4 o5 o6) [] τ Q) :
    wp N m (e + 14, g) TL_law 431 (LL x4 o5 o6) [] σ Q := by
  obtain ⟨n, rfl⟩ := il_ex (K := 90) (m := m) (by omega)
  refine ⟨trivial, C_undo (e := e + 5) v c (by omega) (fun τ f1 c1 => ?_)⟩
  have E : τ.1 13 0 1 = σ.1 13 0 1 := (f1 13 0 1 (by omega)).1
  refine ⟨trivial, M_undo (e := e + 5) v (MM_fr f1 h) (by omega) (fun τ2 f2 m2 => ?_)⟩
  have E2 : τ2.1 13 0 1 = xs := ((f2 13 0 1 (by omega)).1.trans E).trans hx
  exact ⟨fun _ => hK _ _ τ2 _ _ (by omega) (V_undo v) (CC_fr f2 c1) m2 E2, fun q => absurd rfl q⟩
set_option maxRecDepth 100000 in
theorem lc_slot (v : VV A) (c : CC σ A) (h : MM σ A) (hx : σ.1 13 0 1 = xs) (e4 : x4 = nI i) (hi : i + 6 ≤ N) (hN : N ≤ 3072) (hM : 3000000 ≤ M) (hm : M + 100 ≤ m)
    (hK : ∀ m' A' τ o5 o6, M ≤ m' → VV A' → CC τ A' → MM τ A' → τ.1 13 0 1 = xs → wp N m' (e + 14, g) TL_law 751 (LL x4 o5 o6) [] τ Q) :
    wp N m (e + 14, g) TL_law 438 (LL x4 o5 o6) [] σ Q := by
  obtain ⟨n, rfl⟩ := il_ex (K := 90) (m := m) (by omega)
  refine ⟨il_in (la_1 e4) (by omega) (by omega), il_in (la_2 e4) (by omega) (by omega), trivial, C_slot (e := e + 7) v c (by omega) (fun τ f1 c1 => ?_)⟩
  have E : τ.1 13 0 1 = σ.1 13 0 1 := (f1 13 0 1 (by omega)).1
  refine ⟨il_in (la_1 e4) (by omega) (by omega), il_in (la_2 e4) (by omega) (by omega), trivial, M_slot (e := e + 7) v (MM_fr f1 h) (by omega) (fun τ2 f2 m2 => ?_)⟩
  rw [E] at m2
  have E2 : τ2.1 13 0 1 = xs := ((f2 13 0 1 (by omega)).1.trans E).trans hx
  exact ⟨fun _ => hK _ _ τ2 _ _ (by omega) (V_slot v _ _) (CC_fr f2 c1) m2 E2, fun q => absurd (congrArg (fun (z : Nat → Int32) => (st_slot A (z (x4 + Int32.ofInt 1).toNatClampNeg) (z (x4 + Int32.ofInt 2).toNatClampNeg)).1) E.symm) q⟩
set_option maxRecDepth 100000 in
theorem lc_at (v : VV A) (c : CC σ A) (h : MM σ A) (hx : σ.1 13 0 1 = xs) (e4 : x4 = nI i) (hi : i + 6 ≤ N) (hN : N ≤ 3072) (hM : 3000000 ≤ M) (hm : M + 100 ≤ m)
    (hK : ∀ m' A' τ o5 o6, M ≤ m' → VV A' → CC τ A' → MM τ A' → τ.1 13 0 1 = xs → wp N m' (e + 14, g) TL_law 751 (LL x4 o5 o6) [] τ Q) :
    wp N m (e + 14, g) TL_law 465 (LL x4 o5 o6) [] σ Q := by
  obtain ⟨n, rfl⟩ := il_ex (K := 90) (m := m) (by omega)
  refine ⟨il_in (la_1 e4) (by omega) (by omega), il_in (la_2 e4) (by omega) (by omega), trivial, C_at (e := e + 7) v c (by omega) (fun τ f1 c1 => ?_)⟩
  have E : τ.1 13 0 1 = σ.1 13 0 1 := (f1 13 0 1 (by omega)).1
  refine ⟨il_in (la_1 e4) (by omega) (by omega), il_in (la_2 e4) (by omega) (by omega), trivial, M_at (e := e + 7) v (MM_fr f1 h) (by omega) (fun τ2 f2 m2 => ?_)⟩
  rw [E] at m2
  have E2 : τ2.1 13 0 1 = xs := ((f2 13 0 1 (by omega)).1.trans E).trans hx
  exact ⟨fun _ => hK _ _ τ2 _ _ (by omega) (V_at v _ _) (CC_fr f2 c1) m2 E2, fun q => absurd (congrArg (fun (z : Nat → Int32) => (st_at A (z (x4 + Int32.ofInt 1).toNatClampNeg) (z (x4 + Int32.ofInt 2).toNatClampNeg)).1) E.symm) q⟩
set_option maxRecDepth 100000 in
theorem lc_choice (v : VV A) (c : CC σ A) (h : MM σ A) (hx : σ.1 13 0 1 = xs) (e4 : x4 = nI i) (hi : i + 6 ≤ N) (hN : N ≤ 3072) (hM : 3000000 ≤ M) (hm : M + 100 ≤ m)
    (hK : ∀ m' A' τ o5 o6, M ≤ m' → VV A' → CC τ A' → MM τ A' → τ.1 13 0 1 = xs → wp N m' (e + 14, g) TL_law 751 (LL x4 o5 o6) [] τ Q) :
    wp N m (e + 14, g) TL_law 492 (LL x4 o5 o6) [] σ Q := by
  obtain ⟨n, rfl⟩ := il_ex (K := 90) (m := m) (by omega)
  refine ⟨il_in (la_1 e4) (by omega) (by omega), il_in (la_2 e4) (by omega) (by omega), il_in (la_3 e4) (by omega) (by omega), trivial, C_choice (e := e + 7) v c (by omega) (fun τ f1 c1 => ?_)⟩
  have E : τ.1 13 0 1 = σ.1 13 0 1 := (f1 13 0 1 (by omega)).1
  refine ⟨il_in (la_1 e4) (by omega) (by omega), il_in (la_2 e4) (by omega) (by omega), il_in (la_3 e4) (by omega) (by omega), trivial, M_choice (e := e + 7) v (MM_fr f1 h) (by omega) (fun τ2 f2 m2 => ?_)⟩
  rw [E] at m2
  have E2 : τ2.1 13 0 1 = xs := ((f2 13 0 1 (by omega)).1.trans E).trans hx
  exact ⟨fun _ => hK _ _ τ2 _ _ (by omega) (V_choice v _ _ _) (CC_fr f2 c1) m2 E2, fun q => absurd (congrArg (fun (z : Nat → Int32) => (st_choice A (z (x4 + Int32.ofInt 1).toNatClampNeg) (z (x4 + Int32.ofInt 2).toNatClampNeg) (z (x4 + Int32.ofInt 3).toNatClampNeg)).1) E.symm) q⟩
set_option maxRecDepth 100000 in
theorem lc_doubt (v : VV A) (c : CC σ A) (h : MM σ A) (hx : σ.1 13 0 1 = xs) (e4 : x4 = nI i) (hi : i + 6 ≤ N) (hN : N ≤ 3072) (hM : 3000000 ≤ M) (hm : M + 100 ≤ m)
    (hK : ∀ m' A' τ o5 o6, M ≤ m' → VV A' → CC τ A' → MM τ A' → τ.1 13 0 1 = xs → wp N m' (e + 14, g) TL_law 751 (LL x4 o5 o6) [] τ Q) :
    wp N m (e + 14, g) TL_law 529 (LL x4 o5 o6) [] σ Q := by
  obtain ⟨n, rfl⟩ := il_ex (K := 90) (m := m) (by omega)
  refine ⟨il_in (la_1 e4) (by omega) (by omega), il_in (la_2 e4) (by omega) (by omega), trivial, C_doubt (e := e + 7) v c (by omega) (fun τ f1 c1 => ?_)⟩
  have E : τ.1 13 0 1 = σ.1 13 0 1 := (f1 13 0 1 (by omega)).1
  refine ⟨il_in (la_1 e4) (by omega) (by omega), il_in (la_2 e4) (by omega) (by omega), trivial, M_doubt (e := e + 7) v (MM_fr f1 h) (by omega) (fun τ2 f2 m2 => ?_)⟩
  rw [E] at m2
  have E2 : τ2.1 13 0 1 = xs := ((f2 13 0 1 (by omega)).1.trans E).trans hx
  exact ⟨fun _ => hK _ _ τ2 _ _ (by omega) (V_doubt v _ _) (CC_fr f2 c1) m2 E2, fun q => absurd (congrArg (fun (z : Nat → Int32) => (st_doubt A (z (x4 + Int32.ofInt 1).toNatClampNeg) (z (x4 + Int32.ofInt 2).toNatClampNeg)).1) E.symm) q⟩
set_option maxRecDepth 100000 in
theorem lc_doubtful (v : VV A) (c : CC σ A) (h : MM σ A) (hx : σ.1 13 0 1 = xs) (e4 : x4 = nI i) (hi : i + 6 ≤ N) (hN : N ≤ 3072) (hM : 3000000 ≤ M) (hm : M + 100 ≤ m)
    (hK : ∀ m' A' τ o5 o6, M ≤ m' → VV A' → CC τ A' → MM τ A' → τ.1 13 0 1 = xs → wp N m' (e + 14, g) TL_law 751 (LL x4 o5 o6) [] τ Q) :
    wp N m (e + 14, g) TL_law 556 (LL x4 o5 o6) [] σ Q := by
  obtain ⟨n, rfl⟩ := il_ex (K := 90) (m := m) (by omega)
  refine ⟨il_in (la_1 e4) (by omega) (by omega), trivial, C_doubtful (e := e + 7) v c (by omega) (fun τ f1 c1 => ?_)⟩
  have E : τ.1 13 0 1 = σ.1 13 0 1 := (f1 13 0 1 (by omega)).1
  refine ⟨il_in (la_1 e4) (by omega) (by omega), trivial, M_doubtful (e := e + 7) v (MM_fr f1 h) (by omega) (fun τ2 f2 m2 => ?_)⟩
  rw [E] at m2
  have E2 : τ2.1 13 0 1 = xs := ((f2 13 0 1 (by omega)).1.trans E).trans hx
  exact ⟨fun _ => hK _ _ τ2 _ _ (by omega) (V_doubtful v _) (CC_fr f2 c1) m2 E2, fun q => absurd (congrArg (fun (z : Nat → Int32) => (st_doubtful A (z (x4 + Int32.ofInt 1).toNatClampNeg)).1) E.symm) q⟩
set_option maxRecDepth 100000 in
theorem lc_heard (v : VV A) (c : CC σ A) (h : MM σ A) (hx : σ.1 13 0 1 = xs) (e4 : x4 = nI i) (hi : i + 6 ≤ N) (hN : N ≤ 3072) (hM : 3000000 ≤ M) (hm : M + 100 ≤ m)
    (hK : ∀ m' A' τ o5 o6, M ≤ m' → VV A' → CC τ A' → MM τ A' → τ.1 13 0 1 = xs → wp N m' (e + 14, g) TL_law 751 (LL x4 o5 o6) [] τ Q) :
    wp N m (e + 14, g) TL_law 573 (LL x4 o5 o6) [] σ Q := by
  obtain ⟨n, rfl⟩ := il_ex (K := 90) (m := m) (by omega)
  refine ⟨il_in (la_1 e4) (by omega) (by omega), il_in (la_2 e4) (by omega) (by omega), trivial, C_heard (e := e + 7) v c (by omega) (fun τ f1 c1 => ?_)⟩
  have E : τ.1 13 0 1 = σ.1 13 0 1 := (f1 13 0 1 (by omega)).1
  refine ⟨il_in (la_1 e4) (by omega) (by omega), il_in (la_2 e4) (by omega) (by omega), trivial, M_heard (e := e + 7) v (MM_fr f1 h) (by omega) (fun τ2 f2 m2 => ?_)⟩
  rw [E] at m2
  have E2 : τ2.1 13 0 1 = xs := ((f2 13 0 1 (by omega)).1.trans E).trans hx
  exact ⟨fun _ => hK _ _ τ2 _ _ (by omega) (V_heard v _ _) (CC_fr f2 c1) m2 E2, fun q => absurd (congrArg (fun (z : Nat → Int32) => (st_heard A (z (x4 + Int32.ofInt 1).toNatClampNeg) (z (x4 + Int32.ofInt 2).toNatClampNeg)).1) E.symm) q⟩
set_option maxRecDepth 100000 in
theorem lc_errors (v : VV A) (c : CC σ A) (h : MM σ A) (hx : σ.1 13 0 1 = xs) (e4 : x4 = nI i) (hi : i + 6 ≤ N) (hN : N ≤ 3072) (hM : 3000000 ≤ M) (hm : M + 100 ≤ m)
    (hK : ∀ m' A' τ o5 o6, M ≤ m' → VV A' → CC τ A' → MM τ A' → τ.1 13 0 1 = xs → wp N m' (e + 14, g) TL_law 751 (LL x4 o5 o6) [] τ Q) :
    wp N m (e + 14, g) TL_law 600 (LL x4 o5 o6) [] σ Q := by
  obtain ⟨n, rfl⟩ := il_ex (K := 90) (m := m) (by omega)
  refine ⟨il_in (la_1 e4) (by omega) (by omega), trivial, C_errors (e := e + 7) v c (by omega) (fun τ f1 c1 => ?_)⟩
  have E : τ.1 13 0 1 = σ.1 13 0 1 := (f1 13 0 1 (by omega)).1
  refine ⟨il_in (la_1 e4) (by omega) (by omega), trivial, M_errors (e := e + 7) v (MM_fr f1 h) (by omega) (fun τ2 f2 m2 => ?_)⟩
  rw [E] at m2
  have E2 : τ2.1 13 0 1 = xs := ((f2 13 0 1 (by omega)).1.trans E).trans hx
  exact ⟨fun _ => hK _ _ τ2 _ _ (by omega) (V_errors v _) (CC_fr f2 c1) m2 E2, fun q => absurd (congrArg (fun (z : Nat → Int32) => (st_errors A (z (x4 + Int32.ofInt 1).toNatClampNeg)).1) E.symm) q⟩
set_option maxRecDepth 100000 in
theorem lc_cost (v : VV A) (c : CC σ A) (h : MM σ A) (hx : σ.1 13 0 1 = xs) (e4 : x4 = nI i) (hi : i + 6 ≤ N) (hN : N ≤ 3072) (hM : 3000000 ≤ M) (hm : M + 100 ≤ m)
    (hK : ∀ m' A' τ o5 o6, M ≤ m' → VV A' → CC τ A' → MM τ A' → τ.1 13 0 1 = xs → wp N m' (e + 14, g) TL_law 751 (LL x4 o5 o6) [] τ Q) :
    wp N m (e + 14, g) TL_law 617 (LL x4 o5 o6) [] σ Q := by
  obtain ⟨n, rfl⟩ := il_ex (K := 90) (m := m) (by omega)
  refine ⟨il_in (la_1 e4) (by omega) (by omega), trivial, C_cost (e := e + 7) v c (by omega) (fun τ f1 c1 => ?_)⟩
  have E : τ.1 13 0 1 = σ.1 13 0 1 := (f1 13 0 1 (by omega)).1
  refine ⟨il_in (la_1 e4) (by omega) (by omega), trivial, M_cost (e := e + 7) v (MM_fr f1 h) (by omega) (fun τ2 f2 m2 => ?_)⟩
  rw [E] at m2
  have E2 : τ2.1 13 0 1 = xs := ((f2 13 0 1 (by omega)).1.trans E).trans hx
  exact ⟨fun _ => hK _ _ τ2 _ _ (by omega) (V_cost v _) (CC_fr f2 c1) m2 E2, fun q => absurd (congrArg (fun (z : Nat → Int32) => (st_cost A (z (x4 + Int32.ofInt 1).toNatClampNeg)).1) E.symm) q⟩
set_option maxRecDepth 100000 in
theorem lc_way (v : VV A) (c : CC σ A) (h : MM σ A) (hx : σ.1 13 0 1 = xs) (e4 : x4 = nI i) (hi : i + 6 ≤ N) (hN : N ≤ 3072) (hM : 3000000 ≤ M) (hm : M + 100 ≤ m)
    (hK : ∀ m' A' τ o5 o6, M ≤ m' → VV A' → CC τ A' → MM τ A' → τ.1 13 0 1 = xs → wp N m' (e + 14, g) TL_law 751 (LL x4 o5 o6) [] τ Q) :
    wp N m (e + 14, g) TL_law 634 (LL x4 o5 o6) [] σ Q := by
  obtain ⟨n, rfl⟩ := il_ex (K := 90) (m := m) (by omega)
  refine ⟨il_in (la_1 e4) (by omega) (by omega), il_in (la_2 e4) (by omega) (by omega), trivial, C_way (e := e + 7) v c (by omega) (fun τ f1 c1 => ?_)⟩
  have E : τ.1 13 0 1 = σ.1 13 0 1 := (f1 13 0 1 (by omega)).1
  refine ⟨il_in (la_1 e4) (by omega) (by omega), il_in (la_2 e4) (by omega) (by omega), trivial, M_way (e := e + 7) v (MM_fr f1 h) (by omega) (fun τ2 f2 m2 => ?_)⟩
  rw [E] at m2
  have E2 : τ2.1 13 0 1 = xs := ((f2 13 0 1 (by omega)).1.trans E).trans hx
  exact ⟨fun _ => hK _ _ τ2 _ _ (by omega) (V_way v _ _) (CC_fr f2 c1) m2 E2, fun q => absurd (congrArg (fun (z : Nat → Int32) => (st_way A (z (x4 + Int32.ofInt 1).toNatClampNeg) (z (x4 + Int32.ofInt 2).toNatClampNeg)).1) E.symm) q⟩
set_option maxRecDepth 100000 in
theorem lc_without (v : VV A) (c : CC σ A) (h : MM σ A) (hx : σ.1 13 0 1 = xs) (e4 : x4 = nI i) (hi : i + 6 ≤ N) (hN : N ≤ 3072) (hM : 3000000 ≤ M) (hm : M + 100 ≤ m)
    (hK : ∀ m' A' τ o5 o6, M ≤ m' → VV A' → CC τ A' → MM τ A' → τ.1 13 0 1 = xs → wp N m' (e + 14, g) TL_law 751 (LL x4 o5 o6) [] τ Q) :
    wp N m (e + 14, g) TL_law 661 (LL x4 o5 o6) [] σ Q := by
  obtain ⟨n, rfl⟩ := il_ex (K := 90) (m := m) (by omega)
  refine ⟨il_in (la_1 e4) (by omega) (by omega), trivial, C_without (e := e + 5) v c (by omega) (fun τ f1 c1 => ?_)⟩
  have E : τ.1 13 0 1 = σ.1 13 0 1 := (f1 13 0 1 (by omega)).1
  refine ⟨il_in (la_1 e4) (by omega) (by omega), trivial, M_without (e := e + 5) v (MM_fr f1 h) (by omega) (fun τ2 f2 m2 => ?_)⟩
  rw [E] at m2
  have E2 : τ2.1 13 0 1 = xs := ((f2 13 0 1 (by omega)).1.trans E).trans hx
  exact ⟨fun _ => hK _ _ τ2 _ _ (by omega) (V_without v _) (CC_fr f2 c1) m2 E2, fun q => absurd (congrArg (fun (z : Nat → Int32) => (st_without A (z (x4 + Int32.ofInt 1).toNatClampNeg)).1) E.symm) q⟩
set_option maxRecDepth 100000 in
theorem lc_best (v : VV A) (c : CC σ A) (h : MM σ A) (hx : σ.1 13 0 1 = xs) (e4 : x4 = nI i) (hi : i + 6 ≤ N) (hN : N ≤ 3072) (hM : 3000000 ≤ M) (hm : M + 100 ≤ m)
    (hK : ∀ m' A' τ o5 o6, M ≤ m' → VV A' → CC τ A' → MM τ A' → τ.1 13 0 1 = xs → wp N m' (e + 14, g) TL_law 751 (LL x4 o5 o6) [] τ Q) :
    wp N m (e + 14, g) TL_law 678 (LL x4 o5 o6) [] σ Q := by
  obtain ⟨n, rfl⟩ := il_ex (K := 90) (m := m) (by omega)
  refine ⟨il_in (la_1 e4) (by omega) (by omega), trivial, C_best (e := e + 0) v c (by omega) (fun τ f1 c1 => ?_)⟩
  have E : τ.1 13 0 1 = σ.1 13 0 1 := (f1 13 0 1 (by omega)).1
  refine ⟨il_in (la_1 e4) (by omega) (by omega), trivial, M_best (e := e + 0) v (MM_fr f1 h) (by omega) (fun τ2 f2 m2 => ?_)⟩
  rw [E] at m2
  have E2 : τ2.1 13 0 1 = xs := ((f2 13 0 1 (by omega)).1.trans E).trans hx
  exact ⟨fun _ => hK _ _ τ2 _ _ (by omega) (V_best v _) (CC_fr f2 c1) m2 E2, fun q => absurd (congrArg (fun (z : Nat → Int32) => (st_best A (z (x4 + Int32.ofInt 1).toNatClampNeg)).1) E.symm) q⟩
set_option maxRecDepth 100000 in
theorem lc_write (v : VV A) (c : CC σ A) (h : MM σ A) (hx : σ.1 13 0 1 = xs) (e4 : x4 = nI i) (hi : i + 6 ≤ N) (hN : N ≤ 3072) (hM : 3000000 ≤ M) (hm : M + 100 ≤ m)
    (hK : ∀ m' A' τ o5 o6, M ≤ m' → VV A' → CC τ A' → MM τ A' → τ.1 13 0 1 = xs → wp N m' (e + 14, g) TL_law 751 (LL x4 o5 o6) [] τ Q) :
    wp N m (e + 14, g) TL_law 695 (LL x4 o5 o6) [] σ Q := by
  obtain ⟨n, rfl⟩ := il_ex (K := 90) (m := m) (by omega)
  refine ⟨trivial, C_write (e := e + 7) v c (by omega) (fun τ f1 c1 => ?_)⟩
  have E : τ.1 13 0 1 = σ.1 13 0 1 := (f1 13 0 1 (by omega)).1
  refine ⟨trivial, M_write (e := e + 7) v (MM_fr f1 h) (by omega) (fun τ2 f2 m2 => ?_)⟩
  have E2 : τ2.1 13 0 1 = xs := ((f2 13 0 1 (by omega)).1.trans E).trans hx
  exact ⟨fun _ => hK _ _ τ2 _ _ (by omega) (V_write v) (CC_fr f2 c1) m2 E2, fun q => absurd rfl q⟩
set_option maxRecDepth 100000 in
theorem lc_size (v : VV A) (c : CC σ A) (h : MM σ A) (hx : σ.1 13 0 1 = xs) (e4 : x4 = nI i) (hi : i + 6 ≤ N) (hN : N ≤ 3072) (hM : 3000000 ≤ M) (hm : M + 100 ≤ m)
    (hK : ∀ m' A' τ o5 o6, M ≤ m' → VV A' → CC τ A' → MM τ A' → τ.1 13 0 1 = xs → wp N m' (e + 14, g) TL_law 751 (LL x4 o5 o6) [] τ Q) :
    wp N m (e + 14, g) TL_law 737 (LL x4 o5 o6) [] σ Q := by
  obtain ⟨n, rfl⟩ := il_ex (K := 90) (m := m) (by omega)
  refine ⟨trivial, C_size (e := e + 13) c (by omega) ?_⟩
  refine ⟨trivial, M_size (e := e + 13) h (by omega) (fun τ2 f2 m2 => ?_)⟩
  exact ⟨fun _ => hK _ _ τ2 _ _ (by omega) v (CC_fr f2 c) m2 ((f2 13 0 1 (by omega)).1.trans hx), fun q => absurd rfl q⟩
set_option maxRecDepth 100000 in
theorem lc_trouble (v : VV A) (c : CC σ A) (h : MM σ A) (hx : σ.1 13 0 1 = xs) (e4 : x4 = nI i) (hi : i + 6 ≤ N) (hN : N ≤ 3072) (hM : 3000000 ≤ M) (hm : M + 100 ≤ m)
    (hK : ∀ m' A' τ o5 o6, M ≤ m' → VV A' → CC τ A' → MM τ A' → τ.1 13 0 1 = xs → wp N m' (e + 14, g) TL_law 751 (LL x4 o5 o6) [] τ Q) :
    wp N m (e + 14, g) TL_law 744 (LL x4 o5 o6) [] σ Q := by
  obtain ⟨n, rfl⟩ := il_ex (K := 90) (m := m) (by omega)
  refine ⟨trivial, C_trouble (e := e + 13) c (by omega) ?_⟩
  refine ⟨trivial, M_trouble (e := e + 13) h (by omega) (fun τ2 f2 m2 => ?_)⟩
  exact ⟨fun _ => hK _ _ τ2 _ _ (by omega) v (CC_fr f2 c) m2 ((f2 13 0 1 (by omega)).1.trans hx), fun q => absurd rfl q⟩
end LAW
theorem swK_all {K : Nat → Prop} {x : Int32} {dt : Nat} : ∀ {l : List (Int32 × Nat)}, (∀ q ∈ l, K q.2) → K dt → swK K x dt l
  | [], _, h => h
  | (v, t) :: l, hl, h => ⟨fun _ => hl (v, t) List.mem_cons_self, fun _ => swK_all (fun q hq => hl q (List.mem_cons_of_mem _ hq)) h⟩
section LAX
variable {N e m g i M : Nat} {σ : ST} {Q : POST} {A : AS} {xs : Nat → Int32} {x4 : Int32} {o5 o6 : Option AV}
set_option maxRecDepth 100000 in
theorem lc_octet (v : VV A) (c : CC σ A) (h : MM σ A) (hx : σ.1 13 0 1 = xs) (e4 : x4 = nI i) (hi : i + 6 ≤ N) (hN : N ≤ 3072) (hM : 3000000 ≤ M) (hm : M + 100 ≤ m)
    (hK : ∀ m' A' τ o5 o6, M ≤ m' → VV A' → CC τ A' → MM τ A' → τ.1 13 0 1 = xs → wp N m' (e + 14, g) TL_law 751 (LL x4 o5 o6) [] τ Q) :
    wp N m (e + 14, g + 1) TL_law 702 (LL x4 o5 o6) [] σ Q := by
  obtain ⟨n, rfl⟩ := il_ex (K := 90) (m := m) (by omega)
  have hw := v.w
  have w17 : σ.1 10 0 17 0 = nI A.2.2.2.2.2.2.2.1.length := c.w.1
  refine ⟨il_in (la_1 e4) (by omega) (by omega), fun hq => ?_, fun hq => ?_⟩
  · rw [w17] at hq
    obtain ⟨j, hj, ej, qj⟩ : ∃ j, j < A.2.2.2.2.2.2.2.1.length ∧ σ.1 13 0 1 (x4 + Int32.ofInt 1).toNatClampNeg = nI j ∧ inR (σ.1 13 0 1 (x4 + Int32.ofInt 1).toNatClampNeg) A.2.2.2.2.2.2.2.1.length = some j := by
      rcases inR_c (σ.1 13 0 1 (x4 + Int32.ofInt 1).toNatClampNeg) (n := A.2.2.2.2.2.2.2.1.length) (by omega) with z | ⟨_, z⟩
      · exact z
      · exact absurd (z.elim Or.inl (fun y => Or.inr (Or.inl y))) hq
    have c1 : CC (uL σ 12 0 1 0 (σ.1 10 0 2 (σ.1 13 0 1 (x4 + Int32.ofInt 1).toNatClampNeg).toNatClampNeg).toInt64) A := CC_e1 rfl c
    have m1 : MM (uL σ 12 0 1 0 (σ.1 10 0 2 (σ.1 13 0 1 (x4 + Int32.ofInt 1).toNatClampNeg).toNatClampNeg).toInt64) A := MM_e1 rfl (uL_off _ _ _ _ _ _ 11 0 17 (by omega)).2 h
    have l1 : (uL σ 12 0 1 0 (σ.1 10 0 2 (σ.1 13 0 1 (x4 + Int32.ofInt 1).toNatClampNeg).toNatClampNeg).toInt64).2 12 0 1 0 = (nI (A.2.2.2.2.2.2.2.1.getD j 0)).toInt64 := by
      rw [uL_row, il_cl ej (by omega), show σ.1 10 0 2 j = nI (A.2.2.2.2.2.2.2.1.getD j 0) from c.w.2 j hj]
      exact if_pos rfl
    generalize hσ1 : uL σ 12 0 1 0 (σ.1 10 0 2 (σ.1 13 0 1 (x4 + Int32.ofInt 1).toNatClampNeg).toNatClampNeg).toInt64 = σ1 at c1 m1 l1 ⊢
    have E : σ1.1 13 0 1 = σ.1 13 0 1 := by rw [← hσ1]; rfl
    refine ⟨il_in (la_1 e4) (by omega) (by omega), trivial, M_octet (e := e + 12) v m1 (by omega) (fun j' τ q' f2 m2 t2 => ?_) (fun τ q' f2 m2 t2 => ?_)⟩
    · rw [E, qj] at q'
      cases q'
      refine ⟨trivial, M_thrown (e := e + 13) (by omega) ?_⟩
      refine b_eq t2 z0 (by omega) (by omega) (fun _ => ?_) (fun q => absurd rfl q)
      refine b_ne (a := 0) z0 z0 (by omega) (by omega) (fun q => absurd rfl q) (fun _ => ?_)
      refine ⟨il_in oi_0 (by omega) (by omega), fun _ => ?_, fun q => absurd ?_ q⟩
      · exact ⟨trivial, hK _ _ τ _ _ (by omega) v (CC_fr f2 c1) m2 (((f2 13 0 1 (by omega)).1.trans E).trans hx)⟩
      · refine (lg_cmp_eq _ _).mpr ?_
        rw [il_cl oi_0 (by omega), (f2 12 0 1 (by omega)).2]
        exact l1
    · rw [E, qj] at q'
      cases q'
  · rw [w17] at hq
    have qj : inR (σ.1 13 0 1 (x4 + Int32.ofInt 1).toNatClampNeg) A.2.2.2.2.2.2.2.1.length = none := by
      rcases inR_c (σ.1 13 0 1 (x4 + Int32.ofInt 1).toNatClampNeg) (n := A.2.2.2.2.2.2.2.1.length) (by omega) with ⟨j, hj, ej, _⟩ | ⟨z, _⟩
      · exfalso
        rw [ej] at hq
        rcases hq with hq | hq | hq
        · exact nI_pos (by omega) hq
        · exact nI_ge hj (by omega) hq
        · rw [show (480 : Int32) = nI 480 by decide] at hq
          exact nI_ge (a := j) (b := 480) (by omega) (by omega) hq
      · exact z
    refine ⟨il_in (la_1 e4) (by omega) (by omega), trivial, M_octet (e := e + 12) v h (by omega) (fun j' τ q' f2 m2 t2 => ?_) (fun τ q' f2 m2 t2 => ?_)⟩
    · rw [qj] at q'
      cases q'
    · refine ⟨trivial, M_thrown (e := e + 13) (by omega) ?_⟩
      refine b_eq t2 (show (1 : Int32) = nI 1 by decide) (by omega) (by omega) (fun _ => ?_) (fun q => absurd rfl q)
      refine b_ne (a := 1) (show (1 : Int32) = nI 1 by decide) z0 (by omega) (by omega) (fun _ => ?_) (fun q => by omega)
      exact ⟨trivial, hK _ _ τ _ _ (by omega) v (CC_fr f2 c) m2 ((f2 13 0 1 (by omega)).1.trans hx)⟩
theorem n6_neg : ∀ n, n < 6 → Int32.ofNat n - (Int8.ofInt 6).toInt32 < 0 := by decide
theorem n6_sub {n : Nat} : Int32.ofNat (n + 6) - (Int8.ofInt 6).toInt32 = nI n := by
  show nI (n + 6) - _ = _
  rw [← nI_add, show (Int8.ofInt 6).toInt32 = nI 6 by decide, Int32.add_sub_cancel]
theorem le_end {x4 : Int32} {i N : Nat} (e4 : x4 = nI i) (hN : N < i + 6) (hi : i < 100000) : Int32.ofNat N - (Int8.ofInt 6).toInt32 < x4 := by
  rcases Nat.lt_or_ge N 6 with z | z
  · have h1 := n6_neg N z
    rw [e4]
    have h2 := nI_pos' (n := i) (by omega)
    rw [Int32.lt_iff_toInt_lt] at h1 ⊢
    rw [Int32.le_iff_toInt_le] at h2
    omega
  · obtain ⟨n, rfl⟩ : ∃ n, N = n + 6 := ⟨N - 6, by omega⟩
    rw [n6_sub, e4]
    exact nI_lt (by omega) (by omega)
set_option maxRecDepth 100000 in
theorem law_loop (hN : N ≤ 3072) (hQ : ∀ τ, Q (some (.inl (Int32.ofInt 1))) τ) : ∀ (r i m g : Nat) (σ : ST) (A : AS) (x4 : Int32) (o5 o6 : Option AV), i ≤ N → N < i + 6 * r + 6 → r ≤ g → 3000000 + 200 * (r + 1) ≤ m → x4 = nI i → VV A → CC σ A → MM σ A → σ.1 13 0 1 = xs → wp N m (e + 14, g) TL_law 13 (LL x4 o5 o6) [] σ Q := by
  intro r
  induction r with
  | zero =>
    intro i m g σ A x4 o5 o6 hiN hr hg hm e4 v c h hx
    obtain ⟨n, rfl⟩ := il_ex (K := 40) (m := m) (by omega)
    refine ⟨fun _ => ?_, fun q => absurd ?_ q⟩
    · exact ⟨Or.inr (Or.inr (by decide)), hQ _⟩
    · exact le_end e4 (by omega) (by omega)
  | succ r ih =>
    intro i m g σ A x4 o5 o6 hiN hr hg hm e4 v c h hx
    obtain ⟨n, rfl⟩ := il_ex (K := 40) (m := m) (by omega)
    refine ⟨fun _ => ?_, fun q => ?_⟩
    · exact ⟨Or.inr (Or.inr (by decide)), hQ _⟩
    · have hi : i + 6 ≤ N := by
        rcases Nat.lt_or_ge N (i + 6) with z | z
        · exact absurd (le_end e4 (by omega) (by omega)) q
        · exact z
      refine ⟨il_in e4 (by omega) (by omega), ?_⟩
      have kk : ∀ g', r ≤ g' → ∀ m' A' τ o5 o6, 3000000 + 200 * (r + 1) + 20 ≤ m' → VV A' → CC τ A' → MM τ A' → τ.1 13 0 1 = xs → wp N m' (e + 14, g') TL_law 751 (LL x4 o5 o6) [] τ Q := by
        intro g' hg' m' A' τ o5 o6 hm' v' c' h' hx'
        obtain ⟨n', rfl⟩ := il_ex (K := 10) (m := m') (by omega)
        exact ⟨trivial, ih (i + 6) _ g' τ A' _ o5 o6 (by omega) (by omega) hg' (by omega) (la_6 e4) v' c' h' hx'⟩
      obtain ⟨g0, rfl⟩ : ∃ g0, g = g0 + 1 := ⟨g - 1, by omega⟩
      refine swK_all ?_ (kk _ (by omega) _ A σ o5 o6 (by omega) v c h hx)
      intro q hq
      simp only [List.mem_cons, List.not_mem_nil, or_false] at hq
      rcases hq with rfl | rfl | rfl | rfl | rfl | rfl | rfl | rfl | rfl | rfl | rfl | rfl | rfl | rfl | rfl | rfl | rfl | rfl | rfl | rfl | rfl | rfl | rfl | rfl | rfl | rfl | rfl | rfl | rfl | rfl | rfl | rfl | rfl | rfl
      · exact lc_feed v c h hx e4 hi hN (M := 3000000 + 200 * (r + 1) + 20) (by omega) (by omega) (kk _ (by omega))
      · exact lc_text v c h hx e4 hi hN (M := 3000000 + 200 * (r + 1) + 20) (by omega) (by omega) (kk _ (by omega))
      · exact lc_fault v c h hx e4 hi hN (M := 3000000 + 200 * (r + 1) + 20) (by omega) (by omega) (kk _ (by omega))
      · exact lc_where v c h hx e4 hi hN (M := 3000000 + 200 * (r + 1) + 20) (by omega) (by omega) (kk _ (by omega))
      · exact lc_about v c h hx e4 hi hN (M := 3000000 + 200 * (r + 1) + 20) (by omega) (by omega) (kk _ (by omega))
      · exact lc_hearing v c h hx e4 hi hN (M := 3000000 + 200 * (r + 1) + 20) (by omega) (by omega) (kk _ (by omega))
      · exact lc_word v c h hx e4 hi hN (M := 3000000 + 200 * (r + 1) + 20) (by omega) (by omega) (kk _ (by omega))
      · exact lc_letter v c h hx e4 hi hN (M := 3000000 + 200 * (r + 1) + 20) (by omega) (by omega) (kk _ (by omega))
      · exact lc_far v c h hx e4 hi hN (M := 3000000 + 200 * (r + 1) + 20) (by omega) (by omega) (kk _ (by omega))
      · exact lc_between v c h hx e4 hi hN (M := 3000000 + 200 * (r + 1) + 20) (by omega) (by omega) (kk _ (by omega))
      · exact lc_costs v c h hx e4 hi hN (M := 3000000 + 200 * (r + 1) + 20) (by omega) (by omega) (kk _ (by omega))
      · exact lc_window v c h hx e4 hi hN (M := 3000000 + 200 * (r + 1) + 20) (by omega) (by omega) (kk _ (by omega))
      · exact lc_share v c h hx e4 hi hN (M := 3000000 + 200 * (r + 1) + 20) (by omega) (by omega) (kk _ (by omega))
      · exact lc_weight v c h hx e4 hi hN (M := 3000000 + 200 * (r + 1) + 20) (by omega) (by omega) (kk _ (by omega))
      · exact lc_join v c h hx e4 hi hN (M := 3000000 + 200 * (r + 1) + 20) (by omega) (by omega) (kk _ (by omega))
      · exact lc_joinAll v c h hx e4 hi hN (M := 3000000 + 200 * (r + 1) + 20) (by omega) (by omega) (kk _ (by omega))
      · exact lc_drop v c h hx e4 hi hN (M := 3000000 + 200 * (r + 1) + 20) (by omega) (by omega) (kk _ (by omega))
      · exact lc_weigh v c h hx e4 hi hN (M := 3000000 + 200 * (r + 1) + 20) (by omega) (by omega) (kk _ (by omega))
      · exact lc_undo v c h hx e4 hi hN (M := 3000000 + 200 * (r + 1) + 20) (by omega) (by omega) (kk _ (by omega))
      · exact lc_slot v c h hx e4 hi hN (M := 3000000 + 200 * (r + 1) + 20) (by omega) (by omega) (kk _ (by omega))
      · exact lc_at v c h hx e4 hi hN (M := 3000000 + 200 * (r + 1) + 20) (by omega) (by omega) (kk _ (by omega))
      · exact lc_choice v c h hx e4 hi hN (M := 3000000 + 200 * (r + 1) + 20) (by omega) (by omega) (kk _ (by omega))
      · exact lc_doubt v c h hx e4 hi hN (M := 3000000 + 200 * (r + 1) + 20) (by omega) (by omega) (kk _ (by omega))
      · exact lc_doubtful v c h hx e4 hi hN (M := 3000000 + 200 * (r + 1) + 20) (by omega) (by omega) (kk _ (by omega))
      · exact lc_heard v c h hx e4 hi hN (M := 3000000 + 200 * (r + 1) + 20) (by omega) (by omega) (kk _ (by omega))
      · exact lc_errors v c h hx e4 hi hN (M := 3000000 + 200 * (r + 1) + 20) (by omega) (by omega) (kk _ (by omega))
      · exact lc_cost v c h hx e4 hi hN (M := 3000000 + 200 * (r + 1) + 20) (by omega) (by omega) (kk _ (by omega))
      · exact lc_way v c h hx e4 hi hN (M := 3000000 + 200 * (r + 1) + 20) (by omega) (by omega) (kk _ (by omega))
      · exact lc_without v c h hx e4 hi hN (M := 3000000 + 200 * (r + 1) + 20) (by omega) (by omega) (kk _ (by omega))
      · exact lc_best v c h hx e4 hi hN (M := 3000000 + 200 * (r + 1) + 20) (by omega) (by omega) (kk _ (by omega))
      · exact lc_write v c h hx e4 hi hN (M := 3000000 + 200 * (r + 1) + 20) (by omega) (by omega) (kk _ (by omega))
      · exact lc_octet v c h hx e4 hi hN (M := 3000000 + 200 * (r + 1) + 20) (by omega) (by omega) (kk _ (by omega))
      · exact lc_size v c h hx e4 hi hN (M := 3000000 + 200 * (r + 1) + 20) (by omega) (by omega) (kk _ (by omega))
      · exact lc_trouble v c h hx e4 hi hN (M := 3000000 + 200 * (r + 1) + 20) (by omega) (by omega) (kk _ (by omega))
end LAX
