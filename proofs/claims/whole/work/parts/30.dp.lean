/-! the cheapest WAYS: with a words and b SLOTS left, what the rest costs, and the step (0 MATCH, 1 SKIP, 2 NEW; 3: the end) -/
def pick3 (x y z : Nat) : Nat × Nat := if y < x then (if z < y then (z, 2) else (y, 1)) else (if z < x then (z, 2) else (x, 0))
def dwc (fr gp : Nat) (mc : Nat → Nat → Nat) : Nat → Nat → Nat × Nat
  | 0, 0 => (0, 3)
  | 0, b + 1 => (gp + (dwc fr gp mc 0 b).1, 1)
  | a + 1, 0 => (fr + (dwc fr gp mc a 0).1, 2)
  | a + 1, b + 1 => pick3 (mc (a + 1) (b + 1) + (dwc fr gp mc a b).1) (gp + (dwc fr gp mc (a + 1) b).1) (fr + (dwc fr gp mc a (b + 1)).1)
theorem dwc_00 (fr gp : Nat) (mc : Nat → Nat → Nat) : dwc fr gp mc 0 0 = (0, 3) := by simp [dwc]
theorem dwc_0s (fr gp : Nat) (mc : Nat → Nat → Nat) (b : Nat) : dwc fr gp mc 0 (b + 1) = (gp + (dwc fr gp mc 0 b).1, 1) := by simp [dwc]
theorem dwc_s0 (fr gp : Nat) (mc : Nat → Nat → Nat) (a : Nat) : dwc fr gp mc (a + 1) 0 = (fr + (dwc fr gp mc a 0).1, 2) := by simp [dwc]
theorem dwc_ss (fr gp : Nat) (mc : Nat → Nat → Nat) (a b : Nat) : dwc fr gp mc (a + 1) (b + 1) = pick3 (mc (a + 1) (b + 1) + (dwc fr gp mc a b).1) (gp + (dwc fr gp mc (a + 1) b).1) (fr + (dwc fr gp mc a (b + 1)).1) := by simp [dwc]
theorem pick3_le (x y z : Nat) : (pick3 x y z).1 ≤ z := by unfold pick3; split <;> split <;> simp only <;> omega
theorem dwc_le {fr gp : Nat} {mc : Nat → Nat → Nat} (h1 : fr ≤ 9) (h2 : gp ≤ 9) : ∀ a b, (dwc fr gp mc a b).1 ≤ 9 * (a + b)
  | 0, 0 => by rw [dwc_00]; simp
  | 0, b + 1 => by rw [dwc_0s]; have := dwc_le (mc := mc) h1 h2 0 b; simp only; omega
  | a + 1, 0 => by rw [dwc_s0]; have := dwc_le (mc := mc) h1 h2 a 0; simp only; omega
  | a + 1, b + 1 => by
    rw [dwc_ss]
    have h3 := dwc_le (mc := mc) h1 h2 a (b + 1)
    have := pick3_le (mc (a + 1) (b + 1) + (dwc fr gp mc a b).1) (gp + (dwc fr gp mc (a + 1) b).1) (fr + (dwc fr gp mc a (b + 1)).1)
    omega
/-- the DP of a hearing h in a net, by words and SLOTS left -/
def dwS (S : SPc) (R : RUc) (E : NEc) (h a b : Nat) : Nat × Nat := dwc R.fr R.gp (fun a b => mcS S R E h (S.cn h - a) (E.ns - b)) a b
theorem dwS_le {S : SPc} {R : RUc} {E : NEc} {h : Nat} (hR : vRU S R) (a b : Nat) : (dwS S R E h a b).1 ≤ 9 * (a + b) := dwc_le hR.1.2 hR.2.1.2 a b
theorem mcS_le {S : SPc} {R : RUc} {E : NEc} {h i s : Nat} (hR : vRU S R) : mcS S R E h i s ≤ 10 := by
  have := nrS_le (E := E) (w := S.wd h i) (s := s) hR 5
  unfold mcS far1
  split <;> omega
/-- a count that goes down to -1 -/
theorem b_down {x : Int32} {c : Nat} (hx : x = nI c - 1) (hc : c < 2147483648) {A B : Prop} (t : c = 0 → A) (f : ∀ i, c = i + 1 → x = nI i → B) : (brI .lt x 0 → A) ∧ (¬ brI .lt x 0 → B) := by
  cases c with
  | zero =>
    have : x < 0 := by rw [hx]; decide
    exact ⟨fun _ => t rfl, fun q => absurd this q⟩
  | succ i =>
    have e : x = nI i := by rw [hx]; exact nI_pred i
    refine ⟨fun q => ?_, fun _ => f i rfl e⟩
    rw [e] at q
    exact absurd q (nI_pos (by omega))
theorem il_down {x : Int32} {i : Nat} (h : x = nI i) : x + Int32.ofInt (-1) = nI i - 1 := by
  rw [h, show Int32.ofInt (-1) = -1 from by decide, Int32.sub_eq_add_neg]
theorem i61 : (Int8.ofInt 61).toInt32 = nI 61 := by decide
theorem iM : Int32.ofInt 1000000 = nI 1000000 := by decide
/-- what stands in a table at place (i, s) -/
def tbe (S : SPc) (R : RUc) (E : NEc) (h : Nat) (ro so : Nat → Int32) (i s : Nat) : Prop := ro (i * 61 + s) = nI (dwS S R E h (S.cn h - i) (E.ns - s)).1 ∧ (¬ (i = S.cn h ∧ s = E.ns) → so (i * 61 + s) = nI (dwS S R E h (S.cn h - i) (E.ns - s)).2)
abbrev pOff : List RF := [(6, 0, 1), (2, 0, 3), (9, 0, 5), (9, 0, 6), (9, 0, 7), (9, 0, 8), (9, 0, 9), (9, 0, 10), (9, 0, 11)]
abbrev qOff : List RF := [(6, 0, 1), (2, 0, 3), (9, 0, 5), (9, 0, 6)]
abbrev plOff : List RF := [(6, 0, 1), (2, 0, 3), (9, 0, 5), (9, 0, 6), (9, 0, 9), (9, 0, 10), (9, 0, 11)]
section PL
variable {N e k : Nat} {σ : ST} {Q : POST} {S : SPc} {R : RUc} {E : NEc}
abbrev plV (k : Nat) (x2 x3 x4 : Int32) (o5 o6 o7 o8 o9 : Option AV) : List (Option AV) := [some (.inr (.inr (9, 0, 0))), some (.inr (.inr (3, k, 0))), some (.inl x2), some (.inl x3), some (.inl x4), o5, o6, o7, o8, o9]
set_option maxRecDepth 100000 in
theorem pl_in (hS : vSP S) (hR : vRU S R) (hE : vNE S E) (cS : cSP σ 0 S) (cR : cRU σ 0 S R) {h M s : Nat} (hM : 900000 ≤ M) (hh : h < S.nh) {x2 x3 x4 x5 : Int32} (e2 : x2 = nI h) (e3 : x3 = nI (S.cn h)) (e4 : x4 = nI E.ns) (e5 : x5 = nI s) (hs : s ≤ E.ns) (hl : s < E.ns → cLK σ S R E s)
    (K : ∀ (m : Nat) (τ : ST) (o6 o7 o8 o9 : Option AV), M ≤ m → off qOff σ τ → cFA τ S → (∀ i' s', s ≤ s' → s' ≤ E.ns → i' ≤ S.cn h → tbe S R E h (τ.1 9 0 5) (τ.1 9 0 6) i' s') →
      wp N m (e + 4, 0) TX9_plan 144 (plV k x2 x3 x4 (some (.inl x5)) o6 o7 o8 o9) [] τ Q) :
    ∀ (b m : Nat) (τ : ST) (x6 : Int32) (o7 o8 o9 : Option AV), b ≤ S.cn h + 1 → 300 * b + 100 + M ≤ m → off qOff σ τ → cFA τ S →
      (∀ i' s', s < s' → s' ≤ E.ns → i' ≤ S.cn h → tbe S R E h (τ.1 9 0 5) (τ.1 9 0 6) i' s') → (∀ i', b ≤ i' → i' ≤ S.cn h → tbe S R E h (τ.1 9 0 5) (τ.1 9 0 6) i' s) → x6 = nI b - 1 →
      wp N m (e + 4, 0) TX9_plan 36 (plV k x2 x3 x4 (some (.inl x5)) (some (.inl x6)) o7 o8 o9) [] τ Q := by
  have hns := vNE_ns hS hE
  have hcn := hS.2.1 h hh
  intro b
  induction b with
  | zero =>
    intro m τ x6 o7 o8 o9 hb hm ho hc h1 h2 e6
    obtain ⟨n, rfl⟩ := il_ex (K := 2) (m := m) (by omega)
    refine b_down e6 (by omega) (fun _ => ?_) (fun i q _ => by omega)
    refine K n τ _ _ _ _ (by omega) ho hc (fun i' s' q1 q2 q3 => ?_)
    by_cases q : s' = s
    · subst q; exact h2 i' (by omega) q3
    · exact h1 i' s' (by omega) q2 q3
  | succ i ih =>
    intro m τ x6 o7 o8 o9 hb hm ho hc h1 h2 e6
    obtain ⟨n, rfl⟩ := il_ex (K := 150) (m := m) (by omega)
    have bA : ∀ a b, (dwS S R E h a b).1 ≤ 9 * (a + b) := dwS_le hR
    have cR' : ∀ τ', off qOff σ τ' → cRU τ' 0 S R := fun τ' ho' => cRU_off ho' (by decide) cR
    refine b_down e6 (by omega) (fun q => by omega) (fun i0 q e6' => ?_)
    clear e6
    obtain rfl : i0 = i := by omega
    have g7 : x6 * (Int8.ofInt 61).toInt32 + x5 = nI (i0 * 61 + s) := by rw [e5, e6', i61, pk_mul, nI_add]
    -- the end of a place
    have fin : ∀ (τ' : ST) (y8 y9 : Int32) (n' : Nat), 300 * i0 + 120 + M ≤ n' → off qOff σ τ' → cFA τ' S → τ'.1 9 0 5 = τ.1 9 0 5 → τ'.1 9 0 6 = τ.1 9 0 6 → y8 = nI (dwS S R E h (S.cn h - i0) (E.ns - s)).1 → (¬ (i0 = S.cn h ∧ s = E.ns) → y9 = nI (dwS S R E h (S.cn h - i0) (E.ns - s)).2) →
        wp N n' (e + 4, 0) TX9_plan 132 (plV k x2 x3 x4 (some (.inl x5)) (some (.inl x6)) (some (.inl (x6 * (Int8.ofInt 61).toInt32 + x5))) (some (.inl y8)) (some (.inl y9))) [] τ' Q := by
      intro τ' y8 y9 n' hn' ho' hc' t5 t6 g8 g9
      obtain ⟨n2, rfl⟩ := il_ex (K := 20) (m := n') (by omega)
      refine ⟨il_in g7 (by omega) (by omega), ?_⟩
      refine ⟨il_in g7 (by omega) (by omega), trivial, ?_⟩
      have r5 : ∀ z, (uI (uI τ' 9 0 5 (x6 * (Int8.ofInt 61).toInt32 + x5).toNatClampNeg y8) 9 0 6 (x6 * (Int8.ofInt 61).toInt32 + x5).toNatClampNeg y9).1 9 0 5 z = if z = i0 * 61 + s then y8 else τ.1 9 0 5 z := by
        intro z
        rw [uI_nr _ _ _ _ _ _ (by decide), uI_row, t5, il_cl g7 (by omega)]
        rfl
      have r6 : ∀ z, (uI (uI τ' 9 0 5 (x6 * (Int8.ofInt 61).toInt32 + x5).toNatClampNeg y8) 9 0 6 (x6 * (Int8.ofInt 61).toInt32 + x5).toNatClampNeg y9).1 9 0 6 z = if z = i0 * 61 + s then y9 else τ.1 9 0 6 z := by
        intro z
        rw [uI_row, il_cl g7 (by omega)]
        unfold upd
        rw [uI_nr _ _ _ _ _ _ (by decide), t6]
      refine ih _ _ _ _ _ _ (by omega) (by omega) (off_uI (off_uI ho' (by decide)) (by decide)) ?_ ?_ ?_ (il_down e6')
      · intro w v hw hv
        show (uI (uI τ' 9 0 5 _ _) 9 0 6 _ _).1 2 0 3 _ = -1 ∨ (uI (uI τ' 9 0 5 _ _) 9 0 6 _ _).1 2 0 3 _ = _
        rw [uI_nr _ _ _ _ _ _ (by decide), uI_nr _ _ _ _ _ _ (by decide)]
        exact hc' w v hw hv
      · intro i' s' q1 q2 q3
        have hx := h1 i' s' q1 q2 q3
        unfold tbe at hx ⊢
        show (uI (uI τ' 9 0 5 _ _) 9 0 6 _ _).1 9 0 5 _ = _ ∧ (_ → (uI (uI τ' 9 0 5 _ _) 9 0 6 _ _).1 9 0 6 _ = _)
        rw [r5, r6, if_neg (by omega), if_neg (by omega)]
        exact hx
      · intro i' q1 q2
        unfold tbe
        show (uI (uI τ' 9 0 5 _ _) 9 0 6 _ _).1 9 0 5 _ = _ ∧ (_ → (uI (uI τ' 9 0 5 _ _) 9 0 6 _ _).1 9 0 6 _ = _)
        rw [r5, r6]
        by_cases hq : i' = i0
        · subst hq
          rw [if_pos rfl, if_pos rfl]
          exact ⟨g8, g9⟩
        · rw [if_neg (by omega), if_neg (by omega)]
          exact h2 i' (by omega) q2
    -- from the third choice on
    have thr : ∀ (τ' : ST) (y8 y9 : Int32) (v8 v9 n' : Nat), 300 * i0 + 160 + M ≤ n' → off qOff σ τ' → cFA τ' S → τ'.1 9 0 5 = τ.1 9 0 5 → τ'.1 9 0 6 = τ.1 9 0 6 → y8 = nI v8 → y9 = nI v9 → v8 ≤ 1000000 → i0 < S.cn h →
        dwS S R E h (S.cn h - i0) (E.ns - s) = (if R.fr + (dwS S R E h (S.cn h - (i0 + 1)) (E.ns - s)).1 < v8 then (R.fr + (dwS S R E h (S.cn h - (i0 + 1)) (E.ns - s)).1, 2) else (v8, v9)) →
        wp N n' (e + 4, 0) TX9_plan 104 (plV k x2 x3 x4 (some (.inl x5)) (some (.inl x6)) (some (.inl (x6 * (Int8.ofInt 61).toInt32 + x5))) (some (.inl y8)) (some (.inl y9))) [] τ' Q := by
      intro τ' y8 y9 v8 v9 n' hn' ho' hc' t5 t6 g8 g9 hv hin hd
      obtain ⟨n2, rfl⟩ := il_ex (K := 40) (m := n') (by omega)
      have bb := bA (S.cn h - (i0 + 1)) (E.ns - s)
      have g61 : x6 * (Int8.ofInt 61).toInt32 + x5 + (Int8.ofInt 61).toInt32 = nI ((i0 + 1) * 61 + s) := by rw [g7, i61, nI_add]; congr 1; omega
      have vf : τ'.1 7 0 1 0 + τ'.1 9 0 5 (x6 * (Int8.ofInt 61).toInt32 + x5 + (Int8.ofInt 61).toInt32).toNatClampNeg = nI (R.fr + (dwS S R E h (S.cn h - (i0 + 1)) (E.ns - s)).1) := by
        rw [il_cl g61 (by omega), t5, (cR' τ' ho').1, (h2 (i0 + 1) (by omega) (by omega)).1, nI_add]
      have hfr := hR.1.2
      refine b_ge e6' e3 (by omega) (by omega) (fun q => by omega) (fun _ => ?_)
      refine ⟨il_in g61 (by omega) (by omega), ?_⟩
      refine b_ge vf g8 (by omega) (by omega) (fun q => ?_) (fun q => ?_)
      · rw [if_neg (by omega)] at hd
        exact fin τ' _ _ _ (by omega) ho' hc' t5 t6 (by rw [hd]; exact g8) (fun _ => by rw [hd]; exact g9)
      · rw [if_pos q] at hd
        refine ⟨il_in g61 (by omega) (by omega), ?_⟩
        refine adv 4 (300 * i0 + 120 + M) (by omega) (fun n3 hn3 => ?_)
        exact fin τ' _ _ n3 hn3 ho' hc' t5 t6 (by rw [hd]; exact vf) (fun _ => by rw [hd]; exact i2)
    have g1 : x6 * (Int8.ofInt 61).toInt32 + x5 + Int32.ofInt 1 = nI (i0 * 61 + (s + 1)) := by rw [g7, oi_1, nI_add]; rfl
    have hgp := hR.2.1.2
    by_cases hin : i0 = S.cn h
    · by_cases hsn : s = E.ns
      · -- the end
        refine b_ne e6' e3 (by omega) (by omega) (fun q => by omega) (fun _ => ?_)
        refine b_ne e5 e4 (by omega) (by omega) (fun q => by omega) (fun _ => ?_)
        refine ⟨trivial, ?_⟩
        refine b_ge e6' e3 (by omega) (by omega) (fun _ => ?_) (fun q => by omega)
        refine b_ge e5 e4 (by omega) (by omega) (fun _ => ?_) (fun q => by omega)
        refine b_ge e6' e3 (by omega) (by omega) (fun _ => ?_) (fun q => by omega)
        refine fin τ _ _ _ (by omega) ho hc rfl rfl ?_ (fun z => absurd ⟨hin, hsn⟩ z)
        rw [show S.cn h - i0 = 0 by omega, show E.ns - s = 0 by omega, dwS, dwc_00]
        exact oi_0
      · -- SLOTS alone are left
        have hd : dwS S R E h (S.cn h - i0) (E.ns - s) = (R.gp + (dwS S R E h (S.cn h - i0) (E.ns - (s + 1))).1, 1) := by
          rw [show S.cn h - i0 = 0 by omega, show E.ns - s = (E.ns - (s + 1)) + 1 by omega, dwS, dwc_0s]; rfl
        have bb := bA (S.cn h - i0) (E.ns - (s + 1))
        have vf : τ.1 7 0 2 0 + τ.1 9 0 5 (x6 * (Int8.ofInt 61).toInt32 + x5 + Int32.ofInt 1).toNatClampNeg = nI (R.gp + (dwS S R E h (S.cn h - i0) (E.ns - (s + 1))).1) := by
          rw [il_cl g1 (by omega), (cR' τ ho).2.1, (h1 i0 (s + 1) (by omega) (by omega) (by omega)).1, nI_add]
        refine b_ne e6' e3 (by omega) (by omega) (fun q => by omega) (fun _ => ?_)
        refine b_ne e5 e4 (by omega) (by omega) (fun _ => ?_) (fun q => by omega)
        refine b_ge e6' e3 (by omega) (by omega) (fun _ => ?_) (fun q => by omega)
        refine b_ge e5 e4 (by omega) (by omega) (fun q => by omega) (fun _ => ?_)
        refine ⟨il_in g1 (by omega) (by omega), ?_⟩
        refine b_ge vf iM (by omega) (by omega) (fun q => by omega) (fun _ => ?_)
        refine ⟨il_in g1 (by omega) (by omega), ?_⟩
        refine b_ge e6' e3 (by omega) (by omega) (fun _ => ?_) (fun q => by omega)
        exact fin τ _ _ _ (by omega) ho hc rfl rfl (by rw [hd]; exact vf) (fun _ => by rw [hd]; exact oi_1)
    · by_cases hsn : s = E.ns
      · -- words alone are left
        refine b_ne e6' e3 (by omega) (by omega) (fun _ => ?_) (fun q => by omega)
        refine b_ge e6' e3 (by omega) (by omega) (fun q => by omega) (fun _ => ?_)
        refine b_ge e5 e4 (by omega) (by omega) (fun _ => ?_) (fun q => by omega)
        refine b_ge e5 e4 (by omega) (by omega) (fun _ => ?_) (fun q => by omega)
        refine thr τ _ _ 1000000 0 _ (by omega) ho hc rfl rfl iM oi_0 (by omega) (by omega) ?_
        have bb := bA (S.cn h - (i0 + 1)) (E.ns - s)
        have hfr := hR.1.2
        rw [if_pos (by omega), show S.cn h - i0 = (S.cn h - (i0 + 1)) + 1 by omega, show E.ns - s = 0 by omega, dwS, dwc_s0]
        rfl
      · -- both are left
        have hd : dwS S R E h (S.cn h - i0) (E.ns - s) = pick3 (mcS S R E h i0 s + (dwS S R E h (S.cn h - (i0 + 1)) (E.ns - (s + 1))).1) (R.gp + (dwS S R E h (S.cn h - i0) (E.ns - (s + 1))).1) (R.fr + (dwS S R E h (S.cn h - (i0 + 1)) (E.ns - s)).1) := by
          have q1 : S.cn h - i0 = (S.cn h - (i0 + 1)) + 1 := by omega
          have q2 : E.ns - s = (E.ns - (s + 1)) + 1 := by omega
          unfold dwS
          rw [q1, q2, dwc_ss, ← q1, ← q2, show S.cn h - (S.cn h - i0) = i0 by omega, show E.ns - (E.ns - s) = s by omega]
        have b1 := bA (S.cn h - (i0 + 1)) (E.ns - (s + 1))
        have b2 := bA (S.cn h - i0) (E.ns - (s + 1))
        have bm := mcS_le (E := E) (h := h) (i := i0) (s := s) hR
        have cS' : cSP τ 0 S := cSP_off ho (by decide) cS
        refine b_ne e6' e3 (by omega) (by omega) (fun _ => ?_) (fun q => by omega)
        refine b_ge e6' e3 (by omega) (by omega) (fun q => by omega) (fun _ => ?_)
        refine b_ge e5 e4 (by omega) (by omega) (fun q => by omega) (fun _ => ?_)
        refine ⟨trivial, c_matchCost (s := s) hS hR hE cS' (cR' τ ho) hc (by omega) hh (by omega) (cLK_off ho (by decide) (by decide) (by decide) (hl (by omega))) e2 e6' (by omega) ?_⟩
        intro τ2 ho2 hc2
        have ho3 : off qOff σ τ2 := off_tr ho (off_in ho2 (by decide))
        have t5 : τ2.1 9 0 5 = τ.1 9 0 5 := (ho2 9 0 5 (by decide)).1
        have t6 : τ2.1 9 0 6 = τ.1 9 0 6 := (ho2 9 0 6 (by decide)).1
        have g62 : x6 * (Int8.ofInt 61).toInt32 + x5 + (Int8.ofInt 61).toInt32 + Int32.ofInt 1 = nI ((i0 + 1) * 61 + (s + 1)) := by rw [g7, i61, oi_1, nI_add, nI_add]; congr 1; omega
        have v0 : nI (mcS S R E h i0 s) + τ2.1 9 0 5 (x6 * (Int8.ofInt 61).toInt32 + x5 + (Int8.ofInt 61).toInt32 + Int32.ofInt 1).toNatClampNeg = nI (mcS S R E h i0 s + (dwS S R E h (S.cn h - (i0 + 1)) (E.ns - (s + 1))).1) := by
          rw [il_cl g62 (by omega), t5, (h1 (i0 + 1) (s + 1) (by omega) (by omega) (by omega)).1, nI_add]
        have v1 : τ2.1 7 0 2 0 + τ2.1 9 0 5 (x6 * (Int8.ofInt 61).toInt32 + x5 + Int32.ofInt 1).toNatClampNeg = nI (R.gp + (dwS S R E h (S.cn h - i0) (E.ns - (s + 1))).1) := by
          rw [il_cl g1 (by omega), t5, (cR' τ2 ho3).2.1, (h1 i0 (s + 1) (by omega) (by omega) (by omega)).1, nI_add]
        refine ⟨il_in g62 (by omega) (by omega), ?_⟩
        refine b_ge e5 e4 (by omega) (by omega) (fun q => by omega) (fun _ => ?_)
        refine ⟨il_in g1 (by omega) (by omega), ?_⟩
        refine b_ge v1 v0 (by omega) (by omega) (fun q => ?_) (fun q => ?_)
        · refine thr τ2 _ _ _ 0 _ (by omega) ho3 hc2 t5 t6 v0 oi_0 (by omega) (by omega) ?_
          rw [hd]; unfold pick3; rw [if_neg (by omega)]
        · refine ⟨il_in g1 (by omega) (by omega), ?_⟩
          refine adv 4 (300 * i0 + 160 + M) (by omega) (fun n3 hn3 => ?_)
          refine thr τ2 _ _ _ 1 n3 hn3 ho3 hc2 t5 t6 v1 oi_1 (by omega) (by omega) ?_
          rw [hd]; unfold pick3; rw [if_pos q]
end PL
