/-! a net kept in a row, and taken back -/
abbrev knV (x2 x3 : Int32) (o4 o5 : Option AV) : List (Option AV) := [some (.inr (.inr (3, 0, 0))), some (.inr (.inr (0, 0, 3))), some (.inl x2), some (.inl x3), o4, o5]
/-- how far the words of a net are kept: those of the SLOTS below s, and of s those below h -/
def kpP (σ τ : ST) (E : NEc) (f s h : Nat) : Prop := off [(0, 0, 3)] σ τ ∧ (∀ z, z < f + 12 ∨ f + 72 ≤ z → τ.1 0 0 3 z = σ.1 0 0 3 z) ∧ (∀ s' g i, (s' < s ∨ s' = s ∧ g < h) → s' < E.ns → E.th s' g = some i → τ.1 0 0 3 (f + 12 + g * 12 + i) = nI s') ∧
  ∀ g i, g < 5 → i < 12 → (∀ s', (s' < s ∨ s' = s ∧ g < h) → s' < E.ns → ¬ E.th s' g = some i) → τ.1 0 0 3 (f + 12 + g * 12 + i) = -2
section KN
variable {N e m : Nat} {σ : ST} {Q : POST} {S : SPc} {R : RUc} {E : NEc}
set_option maxRecDepth 100000 in
theorem kn_in (hS : vSP S) (hE : vNE S E) (cE : cNE σ 0 E) {x2 x3 : Int32} {f s : Nat} (e2 : x2 = nI f) (hf : f + 72 ≤ 820) (e3 : x3 = nI s) (hs : s < E.ns) {M : Nat}
    (K : ∀ (m : Nat) (τ : ST) (o4 o5 : Option AV), M ≤ m → kpP σ τ E f (s + 1) 0 → wp N m (e + 1, 0) TX3_keepIn 83 (knV x2 x3 o4 o5) [] τ Q) :
    ∀ (r h m : Nat) (τ : ST) (x4 : Int32) (o5 : Option AV), h + r = 5 → 40 * r + 100 + M ≤ m → kpP σ τ E f s h → x4 = nI h →
      wp N m (e + 1, 0) TX3_keepIn 56 (knV x2 x3 (some (.inl x4)) o5) [] τ Q := by
  have hns := vNE_ns hS hE
  intro r
  induction r with
  | zero =>
    intro h m τ x4 o5 hr hm hp e4
    obtain ⟨n, rfl⟩ := il_ex (K := 3) (m := m) (by omega)
    refine b_ge e4 i5 (by omega) (by omega) (fun _ => ?_) (fun q => by omega)
    obtain ⟨p1, p2, p3, p4⟩ := hp
    refine K _ τ _ _ (by omega) ⟨p1, p2, fun s' g i hq hs' ht => ?_, fun g i hg hi hn => ?_⟩
    · have := th_lt hS hE hs' ht
      exact p3 s' g i (by omega) hs' ht
    · exact p4 g i hg hi (fun s' hq hs' => hn s' (by omega) hs')
  | succ r ih =>
    intro h m τ x4 o5 hr hm hp e4
    obtain ⟨n, rfl⟩ := il_ex (K := 35) (m := m) (by omega)
    have nxt : ∀ (τ' : ST) (p5 : Option AV) (n' : Nat), 40 * r + 102 + M ≤ n' → kpP σ τ' E f s (h + 1) → wp N n' (e + 1, 0) TX3_keepIn 81 (knV x2 x3 (some (.inl x4)) p5) [] τ' Q := by
      intro τ' p5 n' hn' hp'
      obtain ⟨n2, rfl⟩ := il_ex (K := 2) (m := n') (by omega)
      exact ⟨trivial, ih (h + 1) _ τ' _ _ (by omega) (by omega) hp' (il_inc e4)⟩
    obtain ⟨p1, p2, p3, p4⟩ := hp
    have tv : τ.1 3 0 6 (s * 5 + h) = oI (-2) (E.th s h) := by rw [off_1 p1 (by decide)]; exact cE.2.2.2.2.2 s hs h (by omega)
    refine b_ge e4 i5 (by omega) (by omega) (fun q => by omega) (fun _ => ?_)
    refine ⟨trivial, c_thereOf e3 e4 (by omega) (by omega) (by omega) ?_⟩
    refine b_there ne2 tv (fun i hi => by have := th_lt hS hE hs hi; omega) (fun q0 => ?_) (fun i qi ei => ?_)
    · refine nxt τ _ _ (by omega) ⟨p1, p2, fun s' g i hq hs' ht => ?_, fun g i hg hi hn => ?_⟩
      · refine p3 s' g i ?_ hs' ht
        by_cases z : s' = s ∧ g = h
        · rw [z.1, z.2, q0] at ht; cases ht
        · omega
      · exact p4 g i hg hi (fun s' hq hs' => hn s' (by omega) hs')
    · have hi := th_lt hS hE hs qi
      have g6 : x2 + (Int8.ofInt 12).toInt32 + x4 * (Int8.ofInt 12).toInt32 + τ.1 3 0 6 (s * 5 + h) = nI (f + 12 + h * 12 + i) := by rw [e2, e4, ei, i12, pk_mul, nI_add, nI_add, nI_add]
      refine b_ge ei i12 (by omega) (by omega) (fun q => by omega) (fun _ => ?_)
      refine ⟨il_in g6 (by omega) (by omega), ?_⟩
      rw [il_cl g6 (by omega)]
      refine nxt _ _ _ (by omega) ⟨off_uI p1 (by decide), fun z hz => ?_, fun s' g i' hq hs' ht => ?_, fun g i' hg hi' hn => ?_⟩
      · rw [uI_if, if_neg (by omega)]; exact p2 z hz
      · have hi' := th_lt hS hE hs' ht
        rw [uI_if]
        by_cases z : f + 12 + g * 12 + i' = f + 12 + h * 12 + i
        · rw [if_pos z]
          obtain rfl : g = h := by omega
          obtain rfl : i' = i := by omega
          rw [th_one hE hs' hs ht qi, e3]
        · rw [if_neg z]
          refine p3 s' g i' ?_ hs' ht
          by_cases w : s' = s ∧ g = h
          · rw [w.1, w.2, qi] at ht
            cases ht
            omega
          · omega
      · rw [uI_if]
        by_cases z : f + 12 + g * 12 + i' = f + 12 + h * 12 + i
        · obtain rfl : g = h := by omega
          obtain rfl : i' = i := by omega
          exact absurd qi (hn s (by omega) hs)
        · rw [if_neg z]
          exact p4 g i' hg hi' (fun s' hq hs' => hn s' (by omega) hs')
set_option maxRecDepth 100000 in
theorem kn_out (hS : vSP S) (hE : vNE S E) (cE : cNE σ 0 E) {x2 : Int32} {f : Nat} (e2 : x2 = nI f) (hf : f + 72 ≤ 820) (hQ : ∀ τ, kpP σ τ E f E.ns 0 → Q none τ) :
    ∀ (r s m : Nat) (τ : ST) (x3 : Int32) (o4 o5 : Option AV), s + r = E.ns → 400 * r + 100 ≤ m → kpP σ τ E f s 0 → x3 = nI s →
      wp N m (e + 1, 0) TX3_keepIn 50 (knV x2 x3 o4 o5) [] τ Q := by
  have hns := vNE_ns hS hE
  intro r
  induction r with
  | zero =>
    intro s m τ x3 o4 o5 hr hm hp e3
    obtain ⟨n, rfl⟩ := il_ex (K := 10) (m := m) (by omega)
    have v1 : τ.1 3 0 (0 + 1) 0 = nI E.ns := by rw [off_1 hp.1 (by decide)]; exact cE.1
    refine b_ge e3 v1 (by omega) (by omega) (fun _ => ?_) (fun q => by omega)
    obtain rfl : s = E.ns := by omega
    exact hQ τ hp
  | succ r ih =>
    intro s m τ x3 o4 o5 hr hm hp e3
    obtain ⟨n, rfl⟩ := il_ex (K := 6) (m := m) (by omega)
    have v1 : τ.1 3 0 (0 + 1) 0 = nI E.ns := by rw [off_1 hp.1 (by decide)]; exact cE.1
    refine b_ge e3 v1 (by omega) (by omega) (fun q => by omega) (fun _ => ?_)
    refine kn_in hS hE cE e2 hf e3 (by omega) (M := 400 * r + 110) ?_ 5 0 n τ _ _ (by omega) (by omega) hp oi_0
    intro m' τ' p4 p5 hm' hp'
    obtain ⟨n2, rfl⟩ := il_ex (K := 2) (m := m') (by omega)
    exact ⟨trivial, ih (s + 1) _ τ' _ _ _ (by omega) (by omega) hp' (il_inc e3)⟩
set_option maxRecDepth 100000 in
/-- Net.keepIn -/
theorem c_netKeep (hS : vSP S) (hE : vNE S E) (cE : cNE σ 0 E) {x2 : Int32} {f : Nat} (e2 : x2 = nI f) (hf : f + 72 ≤ 820) (hm : 30000 ≤ m) (hQ : ∀ τ, off [(0, 0, 3)] σ τ → (∀ z, z < f ∨ f + 72 ≤ z → τ.1 0 0 3 z = σ.1 0 0 3 z) → kNE (fun z => τ.1 0 0 3 (f + z)) E → Q none τ) :
    wp N m (e + 2, 0) TX3_keepIn 0 (([some (.inr (.inr (3, 0, 0))), some (.inr (.inr (0, 0, 3))), some (.inl x2), none, none, none] : List (Option AV))) [] σ Q := by
  have hns := vNE_ns hS hE
  have hnh := hS.1
  have hnj := hE.1
  obtain ⟨c1, c2, c3, c4, c5, c6⟩ := cE
  obtain ⟨n, rfl⟩ := il_ex (K := 60) (m := m) (by omega)
  have g1 : x2 + Int32.ofInt 1 = nI (f + 1) := il_inc e2
  have g2 : x2 + Int32.ofInt 2 = nI (f + 2) := by rw [e2, oi_2, nI_add]
  have g7 : x2 + (Int8.ofInt 7).toInt32 = nI (f + 7) := by rw [e2, i7c, nI_add]
  have g12 : x2 + (Int8.ofInt 12).toInt32 = nI (f + 12) := by rw [e2, i12, nI_add]
  have g72 : x2 + (Int8.ofInt 72).toInt32 = nI (f + 72) := by rw [e2, i72c, nI_add]
  refine b_lt e2 z0 (by omega) (by omega) (fun q => by omega) (fun _ => ?_)
  refine b_le e2 i748c (by omega) (by omega) (fun _ => ?_) (fun q => by omega)
  refine ⟨il_in e2 (by omega) (by omega), ?_⟩
  rw [il_cl e2 (by omega)]
  refine ⟨il_in g1 (by omega) (by omega), ?_⟩
  rw [il_cl g1 (by omega)]
  refine ⟨by decide, by rw [g2]; exact nI_pos (by omega), by decide, by decide, by rw [il_cl g2 (by omega)]; show f + 2 + 5 ≤ 820; omega, ?_⟩
  rw [il_cl g2 (by omega)]
  refine ⟨by decide, by rw [g7]; exact nI_pos (by omega), by decide, by decide, by rw [il_cl g7 (by omega)]; show f + 7 + 5 ≤ 820; omega, ?_⟩
  rw [il_cl g7 (by omega)]
  refine ⟨trivial, c_fill4 (L := 820) (a := f + 12) (b := f + 72) rfl rfl (by omega) (by omega) (by omega) g12 g72 (by omega) ?_⟩
  intro τ1 o1 h1
  have o0 : off [(0, 0, 3)] σ τ1 := off_tr (off_uR (off_uR (off_uI (off_uI (off_rf _ _) (by decide)) (by decide)) (by decide)) (by decide)) o1
  have w0 : ∀ z, z < f + 12 ∨ f + 72 ≤ z → τ1.1 0 0 3 z = (cpI (cpI (uI (uI σ 0 0 3 f (σ.1 3 0 1 0)) 0 0 3 (f + 1) ((uI σ 0 0 3 f (σ.1 3 0 1 0)).1 3 0 2 0)) 3 0 3 0 0 3 0 (f + 2) 5) 3 0 5 0 0 3 0 (f + 7) 5).1 0 0 3 z := by
    intro z hz
    rw [h1 z, if_neg (by omega)]
    rfl
  have a0 : τ1.1 0 0 3 f = nI E.ns := by
    rw [w0 f (by omega)]
    unfold cpI
    rw [uR_at, cpy_out (by omega), uR_at, cpy_out (by omega), uI_if, if_neg (by omega), uI_if, if_pos rfl]
    exact c1
  have a1 : τ1.1 0 0 3 (f + 1) = nI E.nj := by
    rw [w0 (f + 1) (by omega)]
    unfold cpI
    rw [uR_at, cpy_out (by omega), uR_at, cpy_out (by omega), uI_if, if_pos rfl, u0_nr _ _ _ (by decide)]
    exact c2
  have a2 : ∀ p, p < 5 → τ1.1 0 0 3 (f + (2 + p)) = σ.1 3 0 3 p := by
    intro p hp
    rw [w0 _ (by omega)]
    unfold cpI
    rw [uR_at, cpy_out (by omega), uR_at, cpy_in (by omega) (by omega), u0_nr _ _ _ (by decide), u0_nr _ _ _ (by decide), show 0 + (f + (2 + p) - (f + 2)) = p by omega]
  have a3 : ∀ p, p < 5 → τ1.1 0 0 3 (f + (7 + p)) = σ.1 3 0 5 p := by
    intro p hp
    rw [w0 _ (by omega)]
    unfold cpI
    rw [uR_at, cpy_in (by omega) (by omega), uR_nr _ _ _ _ _ (by decide), u0_nr _ _ _ (by decide), u0_nr _ _ _ (by decide), show 0 + (f + (7 + p) - (f + 7)) = p by omega]
  have a4 : ∀ z, z < f ∨ f + 72 ≤ z → τ1.1 0 0 3 z = σ.1 0 0 3 z := by
    intro z hz
    rw [w0 z (by omega)]
    unfold cpI
    rw [uR_at, cpy_out (by omega), uR_at, cpy_out (by omega), uI_if, if_neg (by omega), uI_if, if_neg (by omega)]
  have cE1 : cNE τ1 0 E := cNE_off o0 (by decide) ⟨c1, c2, c3, c4, c5, c6⟩
  refine adv 2 29000 (by omega) (fun n2 hn2 => ?_)
  refine kn_out hS hE cE1 e2 hf ?_ E.ns 0 n2 τ1 _ _ _ (by omega) (by omega) ⟨off_rf _ _, fun z _ => rfl, fun s' g i hq => absurd hq (by omega), fun g i hg hi _ => ?_⟩ oi_0
  · intro τ hp
    obtain ⟨p1, p2, p3, p4⟩ := hp
    refine hQ τ (off_tr o0 p1) (fun z hz => by rw [p2 z (by omega), a4 z hz]) ⟨?_, ?_, fun p hp => ?_, fun p hp => ?_, fun s g i hs ht => ?_, fun g i hg hi hn => ?_⟩
    · show τ.1 0 0 3 (f + 0) = _
      rw [p2 _ (by omega)]; exact a0
    · show τ.1 0 0 3 (f + 1) = _
      rw [p2 _ (by omega)]; exact a1
    · show τ.1 0 0 3 (f + (2 + p)) = _
      rw [p2 _ (by omega), a2 p (by omega)]; exact c3 p hp
    · have := hE.2.1 p hp
      show τ.1 0 0 3 (f + (7 + E.od p)) = _
      rw [p2 _ (by omega), a3 _ (by omega)]; exact c5 p hp
    · show τ.1 0 0 3 (f + (12 + g * 12 + i)) = _
      rw [show f + (12 + g * 12 + i) = f + 12 + g * 12 + i by omega]
      exact p3 s g i (by omega) hs ht
    · show τ.1 0 0 3 (f + (12 + g * 12 + i)) = _
      rw [show f + (12 + g * 12 + i) = f + 12 + g * 12 + i by omega]
      exact p4 g i hg hi (fun s' _ hs' => hn s' hs')
  · rw [h1, if_pos (by omega)]
    exact im2
/-- a word that has no SLOT is put nowhere -/
theorem c_putNone {k : Nat} {x y z : Int32} (hx : x < 0) (hm : 40 ≤ m) (hQ : Q none σ) : wp N m (e, 0) TX3_putThere 0 [some (.inr (.inr (3, k, 0))), some (.inl x), some (.inl y), some (.inl z)] [] σ Q := by
  obtain ⟨n, rfl⟩ := il_ex hm
  exact ⟨fun _ => hQ, fun q => absurd hx q⟩
def plk (E : NEc) (k h : Nat) : Option Nat := (List.range k).find? (fun p => E.od p == h)
theorem plk_new (hE : vNE S E) {k : Nat} (hk : k < E.nj) : plk E (k + 1) (E.od k) = some k := by
  unfold plk
  rw [List.range_succ, List.find?_append]
  cases q : (List.range k).find? (fun p => E.od p == E.od k) with
  | some p =>
    have h1 := List.find?_some q
    have h2 := List.mem_of_find?_eq_some q
    rw [List.mem_range] at h2
    have h1 : E.od p = E.od k := by simpa using h1
    have := hE.2.2.1 p k (by omega) hk h1
    omega
  | none => simp [List.find?]
theorem plk_old {k h : Nat} (hne : ¬ h = E.od k) : plk E (k + 1) h = plk E k h := by
  unfold plk
  rw [List.range_succ, List.find?_append]
  have : (E.od k == h) = false := by simpa using fun w => hne w.symm
  cases q : (List.range k).find? (fun p => E.od p == h) with
  | some p => rfl
  | none => simp [List.find?, this]
abbrev tkV (x2 : Int32) (o3 o4 : Option AV) : List (Option AV) := [some (.inr (.inr (3, 0, 0))), some (.inr (.inr (0, 0, 3))), some (.inl x2), o3, o4]
/-- how far those joined are taken back -/
def tkO (σ τ : ST) (E : NEc) (k : Nat) : Prop := off (nOff 0) σ τ ∧ τ.1 3 0 1 0 = nI E.ns ∧ τ.1 3 0 2 0 = nI k ∧ (∀ p, p < k → τ.1 3 0 3 p = nI (E.od p)) ∧ (∀ h, h < 5 → τ.1 3 0 4 h = oI (-2) (plk E k h)) ∧ ∀ p, p < k → τ.1 3 0 5 (E.od p) = nI (E.ct p)
set_option maxRecDepth 100000 in
theorem tko_loop (hS : vSP S) (hE : vNE S E) {x2 : Int32} {f : Nat} (e2 : x2 = nI f) (hf : f + 72 ≤ 820) (kE : kNE (fun z => σ.1 0 0 3 (f + z)) E) {M : Nat}
    (K : ∀ (m : Nat) (τ : ST) (o3 o4 : Option AV), M ≤ m → tkO σ τ E E.nj → wp N m (e + 1, 0) TX3_takeFrom 53 (tkV x2 o3 o4) [] τ Q) :
    ∀ (r k m : Nat) (τ : ST) (x3 : Int32) (o4 : Option AV), k + r = E.nj → 60 * r + 100 + M ≤ m → tkO σ τ E k → x3 = nI k →
      wp N m (e + 1, 0) TX3_takeFrom 18 (tkV x2 (some (.inl x3)) o4) [] τ Q := by
  have hnh := hS.1
  have hnj := hE.1
  have g1 : x2 + Int32.ofInt 1 = nI (f + 1) := il_inc e2
  intro r
  induction r with
  | zero =>
    intro k m τ x3 o4 hr hm hp e3
    obtain ⟨n, rfl⟩ := il_ex (K := 7) (m := m) (by omega)
    have vj : τ.1 0 0 3 (x2 + Int32.ofInt 1).toNatClampNeg = nI E.nj := by rw [il_cl g1 (by omega), off_1 hp.1 (by decide)]; exact kE.2.1
    refine ⟨il_in g1 (by omega) (by omega), ?_⟩
    refine b_ge e3 vj (by omega) (by omega) (fun _ => ?_) (fun q => by omega)
    obtain rfl : k = E.nj := by omega
    exact K _ τ _ _ (by omega) hp
  | succ r ih =>
    intro k m τ x3 o4 hr hm hp e3
    obtain ⟨n, rfl⟩ := il_ex (K := 50) (m := m) (by omega)
    obtain ⟨p1, p2, p3, p4, p5, p6⟩ := hp
    have hod := hE.2.1 k (by omega)
    have vj : τ.1 0 0 3 (x2 + Int32.ofInt 1).toNatClampNeg = nI E.nj := by rw [il_cl g1 (by omega), off_1 p1 (by decide)]; exact kE.2.1
    have gk : x2 + Int32.ofInt 2 + x3 = nI (f + (2 + k)) := by rw [e2, e3, oi_2, nI_add, nI_add, Nat.add_assoc]
    have vo : τ.1 0 0 3 (x2 + Int32.ofInt 2 + x3).toNatClampNeg = nI (E.od k) := by rw [il_cl gk (by omega), off_1 p1 (by decide)]; exact kE.2.2.1 k (by omega)
    have gc : x2 + (Int8.ofInt 7).toInt32 + τ.1 0 0 3 (x2 + Int32.ofInt 2 + x3).toNatClampNeg = nI (f + (7 + E.od k)) := by rw [vo, e2, i7c, nI_add, nI_add, Nat.add_assoc]
    have vc : τ.1 0 0 3 (x2 + (Int8.ofInt 7).toInt32 + τ.1 0 0 3 (x2 + Int32.ofInt 2 + x3).toNatClampNeg).toNatClampNeg = nI (E.ct k) := by rw [il_cl gc (by omega), off_1 p1 (by decide)]; exact kE.2.2.2.1 k (by omega)
    refine ⟨il_in g1 (by omega) (by omega), ?_⟩
    refine b_ge e3 vj (by omega) (by omega) (fun q => by omega) (fun _ => ?_)
    refine b_ge e3 i5 (by omega) (by omega) (fun q => by omega) (fun _ => ?_)
    refine ⟨il_in gk (by omega) (by omega), ?_⟩
    refine b_lt vo z0 (by omega) (by omega) (fun q => by omega) (fun _ => ?_)
    refine b_ge vo i5 (by omega) (by omega) (fun q => by omega) (fun _ => ?_)
    refine ⟨il_in gc (by omega) (by omega), ?_⟩
    refine ⟨trivial, c_addJoined (j := k) vo (by omega) p3 (by omega) (by omega) ?_⟩
    refine ⟨trivial, ih (k + 1) _ _ _ _ (by omega) (by omega) ⟨off_uI (off_uI (off_uI (off_uI p1 (by decide)) (by decide)) (by decide)) (by decide), ?_, ?_, fun p hp => ?_, fun h hh => ?_, fun p hp => ?_⟩ (il_inc e3)⟩
    · rw [uI_nr _ _ _ _ _ _ (by decide), uI_nr _ _ _ _ _ _ (by decide), uI_nr _ _ _ _ _ _ (by decide), uI_nr _ _ _ _ _ _ (by decide)]; exact p2
    · rw [uI_at]
    · rw [uI_nr _ _ _ _ _ _ (by decide), uI_nr _ _ _ _ _ _ (by decide), uI_nr _ _ _ _ _ _ (by decide), uI_if]
      by_cases q : p = k
      · rw [if_pos q, vo, q]
      · rw [if_neg q]; exact p4 p (by omega)
    · rw [uI_nr _ _ _ _ _ _ (by decide), uI_nr _ _ _ _ _ _ (by decide), uI_if]
      by_cases q : h = E.od k
      · rw [if_pos q, q, plk_new hE (by omega)]; rfl
      · rw [if_neg q, uI_nr _ _ _ _ _ _ (by decide), plk_old q]; exact p5 h hh
    · rw [uI_nr _ _ _ _ _ _ (by decide), uI_if]
      by_cases q : p = k
      · rw [if_pos (by rw [q]), vc, q]
      · rw [if_neg (fun z => q (hE.2.2.1 p k (by omega) (by omega) z)), uI_nr _ _ _ _ _ _ (by decide), uI_nr _ _ _ _ _ _ (by decide)]
        exact p6 p (by omega)
set_option maxRecDepth 100000 in
theorem tke_loop (hns : E.ns ≤ 60) (h1 : σ.1 3 0 1 0 = nI E.ns) {x2 : Int32} {M : Nat}
    (K : ∀ (m : Nat) (τ : ST) (o3 o4 : Option AV), M ≤ m → off [(3, 0, 6)] σ τ → (∀ s h, s < E.ns → h < 5 → τ.1 3 0 6 (s * 5 + h) = -2) → wp N m (e + 2, 0) TX3_takeFrom 64 (tkV x2 o3 o4) [] τ Q) :
    ∀ (r s m : Nat) (τ : ST) (x3 : Int32) (o4 : Option AV), s + r = E.ns → 20 * r + 800 + M ≤ m → off [(3, 0, 6)] σ τ → (∀ s' h, s' < s → h < 5 → τ.1 3 0 6 (s' * 5 + h) = -2) → x3 = nI s →
      wp N m (e + 2, 0) TX3_takeFrom 55 (tkV x2 (some (.inl x3)) o4) [] τ Q := by
  intro r
  induction r with
  | zero =>
    intro s m τ x3 o4 hr hm ho h2 e3
    obtain ⟨n, rfl⟩ := il_ex (K := 4) (m := m) (by omega)
    have v1 : τ.1 3 0 (0 + 1) 0 = nI E.ns := by rw [off_1 ho (by decide)]; exact h1
    refine b_ge e3 v1 (by omega) (by omega) (fun _ => ?_) (fun q => by omega)
    exact K _ τ _ _ (by omega) ho (fun s' h hs' => h2 s' h (by omega))
  | succ r ih =>
    intro s m τ x3 o4 hr hm ho h2 e3
    obtain ⟨n, rfl⟩ := il_ex (K := 12) (m := m) (by omega)
    have v1 : τ.1 3 0 (0 + 1) 0 = nI E.ns := by rw [off_1 ho (by decide)]; exact h1
    refine b_ge e3 v1 (by omega) (by omega) (fun q => by omega) (fun _ => ?_)
    refine ⟨trivial, c_emptySlot e3 (by omega) (by omega) (fun τ' o' h' => ?_)⟩
    refine ⟨trivial, ih (s + 1) _ τ' _ _ (by omega) (by omega) (off_tr ho o') (fun s' h hs' hh => ?_) (il_inc e3)⟩
    rw [h' s' h hh]
    by_cases q : s' = s
    · rw [if_pos q]
    · rw [if_neg q]; exact h2 s' h (by omega) hh
/-- what lies in a SLOT when the words below w are put -/
def tkP (E : NEc) (w s h : Nat) : Int32 := match E.th s h with
  | some i => if h * 12 + i < w then nI i else -2
  | none => -2
set_option maxRecDepth 100000 in
theorem tkp_loop (hS : vSP S) (hE : vNE S E) {x2 : Int32} {f : Nat} (e2 : x2 = nI f) (hf : f + 72 ≤ 820) (kE : kNE (fun z => σ.1 0 0 3 (f + z)) E)
    (hQ : ∀ τ, off [(3, 0, 6)] σ τ → (∀ s h, s < E.ns → h < 5 → τ.1 3 0 6 (s * 5 + h) = tkP E 60 s h) → Q none τ) :
    ∀ (r w m : Nat) (τ : ST) (x3 : Int32) (o4 : Option AV), w + r = 60 → 30 * r + 100 ≤ m → off [(3, 0, 6)] σ τ → (∀ s h, s < E.ns → h < 5 → τ.1 3 0 6 (s * 5 + h) = tkP E w s h) → x3 = nI w →
      wp N m (e + 1, 0) TX3_takeFrom 66 (tkV x2 (some (.inl x3)) o4) [] τ Q := by
  have hns := vNE_ns hS hE
  intro r
  induction r with
  | zero =>
    intro w m τ x3 o4 hr hm ho h2 e3
    obtain ⟨n, rfl⟩ := il_ex (K := 10) (m := m) (by omega)
    obtain rfl : w = 60 := by omega
    refine b_ge e3 i60 (by omega) (by omega) (fun _ => ?_) (fun q => by omega)
    exact hQ τ ho h2
  | succ r ih =>
    intro w m τ x3 o4 hr hm ho h2 e3
    obtain ⟨n, rfl⟩ := il_ex (K := 25) (m := m) (by omega)
    have gw : x2 + (Int8.ofInt 12).toInt32 + x3 = nI (f + (12 + w / 12 * 12 + w % 12)) := by rw [e2, e3, i12, nI_add, nI_add]; congr 1; omega
    have gd : x3 / (Int8.ofInt 12).toInt32 = nI (w / 12) := by rw [e3, i12]; exact pk_div (by omega) (by omega) (by omega)
    have gm : x3 - x3 / (Int8.ofInt 12).toInt32 * (Int8.ofInt 12).toInt32 = nI (w % 12) := by rw [e3, i12]; exact pk_rem (by omega) (by omega) (by omega)
    refine b_ge e3 i60 (by omega) (by omega) (fun q => by omega) (fun _ => ?_)
    refine ⟨il_in gw (by omega) (by omega), by decide, by decide, ?_⟩
    by_cases ex : ∃ s, s < E.ns ∧ E.th s (w / 12) = some (w % 12)
    · obtain ⟨s, hs, ht⟩ := ex
      have vw : τ.1 0 0 3 (x2 + (Int8.ofInt 12).toInt32 + x3).toNatClampNeg = nI s := by rw [il_cl gw (by omega), off_1 ho (by decide)]; exact kE.2.2.2.2.1 s _ _ hs ht
      refine ⟨trivial, c_putThere vw gd (by omega) (by omega) (by omega) ?_⟩
      refine ⟨trivial, ih (w + 1) _ _ _ _ (by omega) (by omega) (off_uI ho (by decide)) (fun s' h' hs' hh' => ?_) (il_inc e3)⟩
      rw [uI_if]
      by_cases q : s' * 5 + h' = s * 5 + w / 12
      · obtain rfl : s' = s := by omega
        obtain rfl : h' = w / 12 := by omega
        rw [if_pos rfl, gm]
        unfold tkP
        rw [ht]
        simp only
        rw [if_pos (by omega)]
      · rw [if_neg q, h2 s' h' hs' hh']
        unfold tkP
        cases ht' : E.th s' h' with
        | none => rfl
        | some i' =>
          simp only
          have hi' := th_lt hS hE hs' ht'
          by_cases z : h' * 12 + i' < w
          · rw [if_pos z, if_pos (by omega)]
          · rw [if_neg z, if_neg (fun y => ?_)]
            obtain rfl : h' = w / 12 := by omega
            obtain rfl : i' = w % 12 := by omega
            have := th_one hE hs' hs ht' ht
            omega
    · have vw : τ.1 0 0 3 (x2 + (Int8.ofInt 12).toInt32 + x3).toNatClampNeg = -2 := by rw [il_cl gw (by omega), off_1 ho (by decide)]; exact kE.2.2.2.2.2 _ _ (by omega) (by omega) (fun s hs ht => ex ⟨s, hs, ht⟩)
      refine ⟨trivial, c_putNone (by rw [vw]; exact ne2) (by omega) ?_⟩
      refine ⟨trivial, ih (w + 1) _ _ _ _ (by omega) (by omega) ho (fun s' h' hs' hh' => ?_) (il_inc e3)⟩
      rw [h2 s' h' hs' hh']
      unfold tkP
      cases ht' : E.th s' h' with
      | none => rfl
      | some i' =>
        simp only
        have hi' := th_lt hS hE hs' ht'
        by_cases z : h' * 12 + i' < w
        · rw [if_pos z, if_pos (by omega)]
        · rw [if_neg z, if_neg (fun y => ?_)]
          obtain rfl : h' = w / 12 := by omega
          obtain rfl : i' = w % 12 := by omega
          exact ex ⟨s', hs', ht'⟩
set_option maxRecDepth 100000 in
/-- Net.takeFrom -/
theorem c_netTake (hS : vSP S) (hE : vNE S E) {x2 : Int32} {f : Nat} (e2 : x2 = nI f) (hf : f + 72 ≤ 820) (kE : kNE (fun z => σ.1 0 0 3 (f + z)) E) (hm : 8000 ≤ m) (hQ : ∀ τ, off (nOff 0) σ τ → cNE τ 0 E → Q none τ) :
    wp N m (e + 2, 0) TX3_takeFrom 0 (tkV x2 none none) [] σ Q := by
  have hns := vNE_ns hS hE
  have hnh := hS.1
  have hnj := hE.1
  obtain ⟨n, rfl⟩ := il_ex (K := 20) (m := m) (by omega)
  refine b_lt e2 z0 (by omega) (by omega) (fun q => by omega) (fun _ => ?_)
  refine b_le e2 i748c (by omega) (by omega) (fun _ => ?_) (fun q => by omega)
  refine ⟨trivial, c_netClear (by omega) (fun τ0 o0 n0 => ?_)⟩
  refine ⟨il_in e2 (by omega) (by omega), ?_⟩
  rw [il_cl e2 (by omega)]
  have v0 : τ0.1 0 0 3 f = nI E.ns := by rw [off_1 o0 (by decide)]; exact kE.1
  rw [v0]
  refine adv 3 7700 (by omega) (fun n2 hn2 => ?_)
  have o1 : off (nOff 0) σ (uI τ0 3 0 1 0 (nI E.ns)) := off_uI (off_mono o0 (by decide)) (by decide)
  refine tko_loop (σ := σ) hS hE e2 hf kE (M := 6000) ?_ E.nj 0 n2 _ _ _ (by omega) (by omega) ⟨o1, ?_, ?_, fun p hp => absurd hp (by omega), fun h hh => ?_, fun p hp => absurd hp (by omega)⟩ oi_0
  · intro m2 τ1 p3 p4 hm2 hp
    obtain ⟨q1, q2, q3, q4, q5, q6⟩ := hp
    refine adv 2 5900 (by omega) (fun n3 hn3 => ?_)
    refine tke_loop (σ := τ1) hns q2 (M := 3000) ?_ E.ns 0 n3 τ1 _ _ (by omega) (by omega) (off_rf _ _) (fun s' h hs' => absurd hs' (by omega)) oi_0
    intro m3 τ2 r3 r4 hm3 o2 h2
    refine adv 2 2900 (by omega) (fun n4 hn4 => ?_)
    have o12 : off (nOff 0) σ τ2 := off_tr q1 (off_mono o2 (by decide))
    have kE2 : kNE (fun z => τ2.1 0 0 3 (f + z)) E := kNE_eq hS hE (fun z hz => off_1 o12 (by decide) _) kE
    refine tkp_loop (σ := τ2) hS hE e2 hf kE2 ?_ 60 0 n4 τ2 _ _ (by omega) (by omega) (off_rf _ _) (fun s h hs hh => ?_) oi_0
    · intro τ3 o3 h3
      have o23 : off [(3, 0, 6)] τ1 τ3 := off_tr o2 o3
      refine hQ τ3 (off_tr q1 (off_mono o23 (by decide))) ⟨?_, ?_, fun p hp => ?_, fun h hh => ?_, fun p hp => ?_, fun s hs h hh => ?_⟩
      · rw [off_1 o23 (by decide)]; exact q2
      · rw [off_1 o23 (by decide)]; exact q3
      · rw [off_1 o23 (by decide)]; exact q4 p hp
      · rw [off_1 o23 (by decide)]; exact q5 h hh
      · rw [off_1 o23 (by decide)]; exact q6 p hp
      · rw [h3 s h hs hh]
        unfold tkP
        cases ht : E.th s h with
        | none => rfl
        | some i =>
          have := th_lt hS hE hs ht
          simp only
          rw [if_pos (by omega)]
          rfl
    · rw [h2 s h hs hh]
      unfold tkP
      cases E.th s h with
      | none => rfl
      | some i => simp only; rw [if_neg (by omega)]
  · rw [uI_at]
  · rw [uI_nr _ _ _ _ _ _ (by decide)]; exact n0.2.1
  · rw [uI_nr _ _ _ _ _ _ (by decide)]; exact n0.2.2.2.1 h hh
end KN
