/-! rules and a net kept in a row of numbers, and taken back -/
theorem cpy_in {f g : Nat → Int32} {sp dp n z : Nat} (h : dp ≤ z) (h2 : z < dp + n) : va_cpy f g sp dp n z = f (sp + (z - dp)) := by unfold va_cpy; rw [if_pos ⟨h, h2⟩]
theorem cpy_out {f g : Nat → Int32} {sp dp n z : Nat} (h : ¬ (dp ≤ z ∧ z < dp + n)) : va_cpy f g sp dp n z = g z := by unfold va_cpy; rw [if_neg h]
theorem oi_2 : Int32.ofInt 2 = nI 2 := by decide
theorem oi_3 : Int32.ofInt 3 = nI 3 := by decide
theorem oi_4 : Int32.ofInt 4 = nI 4 := by decide
theorem i7c : (Int8.ofInt 7).toInt32 = nI 7 := by decide
theorem i72c : (Int8.ofInt 72).toInt32 = nI 72 := by decide
theorem i82c : (Int8.ofInt 82).toInt32 = nI 82 := by decide
theorem i810c : Int32.ofNat 820 - (Int8.ofInt 10).toInt32 = nI 810 := by decide
theorem i748c : Int32.ofNat 820 - (Int8.ofInt 72).toInt32 = nI 748 := by decide
/-- a net in a row: SLOTS, how many are joined, which, at which cost, of each word its SLOT -/
def kNE (v : Nat → Int32) (E : NEc) : Prop := v 0 = nI E.ns ∧ v 1 = nI E.nj ∧ (∀ p, p < E.nj → v (2 + p) = nI (E.od p)) ∧ (∀ p, p < E.nj → v (7 + E.od p) = nI (E.ct p)) ∧ (∀ s g i, s < E.ns → E.th s g = some i → v (12 + g * 12 + i) = nI s) ∧ ∀ g i, g < 5 → i < 12 → (∀ s, s < E.ns → ¬ E.th s g = some i) → v (12 + g * 12 + i) = -2
theorem th_lt {S : SPc} {E : NEc} (hS : vSP S) (hE : vNE S E) {s g i : Nat} (hs : s < E.ns) (h : E.th s g = some i) : g < 5 ∧ i < 12 := by
  have h1 := hE.2.2.2.2.1 s g i hs h
  have h2 := hS.2.1 g h1.1
  have h3 := hS.1
  exact ⟨by omega, by omega⟩
theorem th_one {S : SPc} {E : NEc} (hE : vNE S E) {s s' g i : Nat} (hs : s < E.ns) (hs' : s' < E.ns) (h : E.th s g = some i) (h' : E.th s' g = some i) : s = s' := by
  have hm := hE.2.2.2.2.2.2.2.1
  rcases Nat.lt_trichotomy s s' with z | z | z
  · have := hm s s' g i i z hs' h h'
    omega
  · exact z
  · have := hm s' s g i i z hs h' h
    omega
theorem kNE_eq {v w : Nat → Int32} {S : SPc} {E : NEc} (hS : vSP S) (hE : vNE S E) (h : ∀ z, z < 72 → w z = v z) (c : kNE v E) : kNE w E := by
  have hnh := hS.1
  have hnj := hE.1
  obtain ⟨c1, c2, c3, c4, c5, c6⟩ := c
  refine ⟨by rw [h 0 (by omega)]; exact c1, by rw [h 1 (by omega)]; exact c2, fun p hp => by rw [h (2 + p) (by omega)]; exact c3 p hp, fun p hp => ?_, fun s g i hs ht => ?_, fun g i hg hi hn => ?_⟩
  · have := hE.2.1 p hp
    rw [h (7 + E.od p) (by omega)]; exact c4 p hp
  · have := th_lt hS hE hs ht
    rw [h (12 + g * 12 + i) (by omega)]; exact c5 s g i hs ht
  · rw [h (12 + g * 12 + i) (by omega)]; exact c6 g i hg hi hn
theorem mRU_e3 {v w : Nat → Int32} {S : SPc} {R : RUc} (hS : vSP S) (h : ∀ z, z < 10 → w z = v z) (c : mRU v S R) : mRU w S R := by
  have hnh := hS.1
  exact ⟨by rw [h 0 (by omega)]; exact c.1, by rw [h 1 (by omega)]; exact c.2.1, by rw [h 2 (by omega)]; exact c.2.2.1, by rw [h 3 (by omega)]; exact c.2.2.2.1, by rw [h 4 (by omega)]; exact c.2.2.2.2.1, fun g hg => by rw [h (5 + g) (by omega)]; exact c.2.2.2.2.2 g hg⟩
theorem u0_nr (σ : ST) (i : Nat) (x : Int32) {c k j : Nat} (h : c ≠ 0) : (uI σ 0 0 3 i x).1 c k j = σ.1 c k j := (uI_off σ 0 0 3 i x c k j (fun z => h z.1)).1
abbrev rOff (k : Nat) : List RF := [(7, k, 1), (7, k, 2), (7, k, 3), (7, k, 4), (7, k, 5), (7, k, 6)]
section KP
variable {N e m : Nat} {σ : ST} {Q : POST} {S : SPc} {R : RUc} {E : NEc}
theorem c_rangeCheck {x0 x1 x2 : Int32} {L a b : Nat} (e0 : x0 = nI L) (e1 : x1 = nI a) (e2 : x2 = nI b) (h1 : a ≤ b) (h2 : b ≤ L) (hL : L < 100000) (hm : 20 ≤ m) (hQ : Q none σ) :
    wp N m (e, 0) TJ7_rangeCheck_23922 0 [some (.inl x0), some (.inl x1), some (.inl x2)] [] σ Q := by
  obtain ⟨n, rfl⟩ := il_ex hm
  refine b_le e1 e2 (by omega) (by omega) (fun _ => ?_) (fun q => by omega)
  refine b_ge e1 z0 (by omega) (by omega) (fun _ => ?_) (fun q => by omega)
  refine b_le e2 e0 (by omega) (by omega) (fun _ => ?_) (fun q => by omega)
  exact hQ
set_option maxRecDepth 100000 in
theorem f4_loop {c k j L a b : Nat} (ar : arO N c j = some (1, L)) (h13 : Nat.beq c 13 = false) (hL : L < 100000) (hb : b ≤ L) {v x1 x2 : Int32} (e2 : x2 = nI b) (hQ : ∀ τ, off [(c, k, j)] σ τ → (∀ z, τ.1 c k j z = if a ≤ z ∧ z < b then v else σ.1 c k j z) → Q none τ) :
    ∀ (r i m : Nat) (τ : ST) (x4 : Int32), i + r = b → a ≤ i → 20 * r + 20 ≤ m → off [(c, k, j)] σ τ → (∀ z, τ.1 c k j z = if a ≤ z ∧ z < i then v else σ.1 c k j z) → x4 = nI i →
      wp N m (e, 0) TJ7_fill_fda19 7 [some (.inr (.inr (c, k, j))), some (.inl x1), some (.inl x2), some (.inl v), some (.inl x4)] [] τ Q := by
  intro r
  induction r with
  | zero =>
    intro i m τ x4 hr ha hm ho h1 e4
    obtain ⟨n, rfl⟩ := il_ex (K := 10) (m := m) (by omega)
    refine b_ge e4 e2 (by omega) (by omega) (fun _ => ?_) (fun q => by omega)
    exact hQ τ ho (fun z => by rw [h1 z, show i = b by omega])
  | succ r ih =>
    intro i m τ x4 hr ha hm ho h1 e4
    obtain ⟨n, rfl⟩ := il_ex (K := 15) (m := m) (by omega)
    refine b_ge e4 e2 (by omega) (by omega) (fun q => by omega) (fun _ => ?_)
    refine cndF h13 (arr_of ar ⟨il_in e4 (by omega) (by omega), trivial, ih (i + 1) _ _ _ (by omega) (by omega) (by omega) (off_uI ho (by simp)) ?_ (il_inc e4)⟩)
    intro z
    rw [il_cl e4 (by omega), uI_if, h1 z]
    by_cases q : z = i
    · rw [if_pos q, if_pos (by omega)]
    · rw [if_neg q]
      by_cases q2 : a ≤ z ∧ z < i
      · rw [if_pos q2, if_pos (by omega)]
      · rw [if_neg q2, if_neg (by omega)]
set_option maxRecDepth 100000 in
/-- Arrays.fill of a part of a row -/
theorem c_fill4 {c k j L a b : Nat} (ar : arO N c j = some (1, L)) (h13 : Nat.beq c 13 = false) (hL : L < 100000) (ha : a ≤ b) (hb : b ≤ L) {v x1 x2 : Int32} (e1 : x1 = nI a) (e2 : x2 = nI b) (hm : 20 * b + 60 ≤ m) (hQ : ∀ τ, off [(c, k, j)] σ τ → (∀ z, τ.1 c k j z = if a ≤ z ∧ z < b then v else σ.1 c k j z) → Q none τ) :
    wp N m (e + 1, 0) TJ7_fill_fda19 0 [some (.inr (.inr (c, k, j))), some (.inl x1), some (.inl x2), some (.inl v), none] [] σ Q := by
  obtain ⟨n, rfl⟩ := il_ex (K := 8) (m := m) (by omega)
  refine arl_of ar (by decide) ⟨trivial, c_rangeCheck rfl e1 e2 ha hb hL (by omega) ?_⟩
  refine adv 2 (20 * b + 20) (by omega) (fun n2 hn2 => ?_)
  exact f4_loop ar h13 hL hb e2 hQ (b - a) a n2 σ _ (by omega) (by omega) (by omega) (off_rf _ _) (fun z => by rw [if_neg (by omega)]) e1
set_option maxRecDepth 100000 in
/-- Rules.keepIn -/
theorem c_rulesKeep (hS : vSP S) (cR : cRU σ 0 S R) {x2 : Int32} {f : Nat} (e2 : x2 = nI f) (hf : f + 10 ≤ 820) (hm : 100 ≤ m) (hQ : ∀ τ, off [(0, 0, 3)] σ τ → (∀ z, z < f ∨ f + 10 ≤ z → τ.1 0 0 3 z = σ.1 0 0 3 z) → mRU (fun z => τ.1 0 0 3 (f + z)) S R → Q none τ) :
    wp N m (e + 1, 0) TX7_keepIn 0 [some (.inr (.inr (7, 0, 0))), some (.inr (.inr (0, 0, 3))), some (.inl x2)] [] σ Q := by
  have hnh := hS.1
  obtain ⟨c1, c2, c3, c4, c5, c6⟩ := cR
  obtain ⟨n, rfl⟩ := il_ex (K := 60) (m := m) (by omega)
  have g1 : x2 + Int32.ofInt 1 = nI (f + 1) := il_inc e2
  have g2 : x2 + Int32.ofInt 2 = nI (f + 2) := by rw [e2, oi_2, nI_add]
  have g3 : x2 + Int32.ofInt 3 = nI (f + 3) := by rw [e2, oi_3, nI_add]
  have g4 : x2 + Int32.ofInt 4 = nI (f + 4) := by rw [e2, oi_4, nI_add]
  have g5 : x2 + Int32.ofInt 5 = nI (f + 5) := by rw [e2, i5, nI_add]
  refine b_lt e2 z0 (by omega) (by omega) (fun q => by omega) (fun _ => ?_)
  refine b_le e2 i810c (by omega) (by omega) (fun _ => ?_) (fun q => by omega)
  refine ⟨il_in e2 (by omega) (by omega), ?_⟩
  rw [il_cl e2 (by omega)]
  refine ⟨il_in g1 (by omega) (by omega), ?_⟩
  rw [il_cl g1 (by omega)]
  refine ⟨il_in g2 (by omega) (by omega), ?_⟩
  rw [il_cl g2 (by omega)]
  refine ⟨il_in g3 (by omega) (by omega), ?_⟩
  rw [il_cl g3 (by omega)]
  refine ⟨il_in g4 (by omega) (by omega), ?_⟩
  rw [il_cl g4 (by omega)]
  refine ⟨by decide, by rw [g5]; exact nI_pos (by omega), by decide, by decide, by rw [il_cl g5 (by omega)]; show f + 5 + 5 ≤ 820; omega, ?_⟩
  rw [il_cl g5 (by omega)]
  refine hQ _ (off_uR (off_uI (off_uI (off_uI (off_uI (off_uI (off_rf _ _) (by decide)) (by decide)) (by decide)) (by decide)) (by decide)) (by decide)) (fun z hz => ?_) ⟨?_, ?_, ?_, ?_, ?_, fun h hh => ?_⟩
  · show (cpI (uI (uI (uI (uI (uI σ 0 0 3 f _) 0 0 3 (f + 1) _) 0 0 3 (f + 2) _) 0 0 3 (f + 3) _) 0 0 3 (f + 4) _) 7 0 6 0 0 3 0 (f + 5) 5).1 0 0 3 z = _
    unfold cpI
    rw [uR_at, cpy_out (by omega), uI_if, if_neg (by omega), uI_if, if_neg (by omega), uI_if, if_neg (by omega), uI_if, if_neg (by omega), uI_if, if_neg (by omega)]
  · show (cpI (uI (uI (uI (uI (uI σ 0 0 3 f _) 0 0 3 (f + 1) _) 0 0 3 (f + 2) _) 0 0 3 (f + 3) _) 0 0 3 (f + 4) _) 7 0 6 0 0 3 0 (f + 5) 5).1 0 0 3 (f + 0) = _
    unfold cpI
    rw [uR_at, cpy_out (by omega), uI_if, if_neg (by omega), uI_if, if_neg (by omega), uI_if, if_neg (by omega), uI_if, if_neg (by omega), uI_if, if_pos (by omega)]
    exact c1
  · show (cpI (uI (uI (uI (uI (uI σ 0 0 3 f _) 0 0 3 (f + 1) _) 0 0 3 (f + 2) _) 0 0 3 (f + 3) _) 0 0 3 (f + 4) _) 7 0 6 0 0 3 0 (f + 5) 5).1 0 0 3 (f + 1) = _
    unfold cpI
    rw [uR_at, cpy_out (by omega), uI_if, if_neg (by omega), uI_if, if_neg (by omega), uI_if, if_neg (by omega), uI_if, if_pos rfl]
    show (uI σ 0 0 3 f _).1 7 0 2 0 = _
    rw [u0_nr _ _ _ (by decide)]
    exact c2
  · show (cpI (uI (uI (uI (uI (uI σ 0 0 3 f _) 0 0 3 (f + 1) _) 0 0 3 (f + 2) _) 0 0 3 (f + 3) _) 0 0 3 (f + 4) _) 7 0 6 0 0 3 0 (f + 5) 5).1 0 0 3 (f + 2) = _
    unfold cpI
    rw [uR_at, cpy_out (by omega), uI_if, if_neg (by omega), uI_if, if_neg (by omega), uI_if, if_pos rfl]
    show (uI (uI σ 0 0 3 f _) 0 0 3 (f + 1) _).1 7 0 3 0 = _
    rw [u0_nr _ _ _ (by decide), u0_nr _ _ _ (by decide)]
    exact c3
  · show (cpI (uI (uI (uI (uI (uI σ 0 0 3 f _) 0 0 3 (f + 1) _) 0 0 3 (f + 2) _) 0 0 3 (f + 3) _) 0 0 3 (f + 4) _) 7 0 6 0 0 3 0 (f + 5) 5).1 0 0 3 (f + 3) = _
    unfold cpI
    rw [uR_at, cpy_out (by omega), uI_if, if_neg (by omega), uI_if, if_pos rfl]
    show (uI (uI (uI σ 0 0 3 f _) 0 0 3 (f + 1) _) 0 0 3 (f + 2) _).1 7 0 4 0 = _
    rw [u0_nr _ _ _ (by decide), u0_nr _ _ _ (by decide), u0_nr _ _ _ (by decide)]
    exact c4
  · show (cpI (uI (uI (uI (uI (uI σ 0 0 3 f _) 0 0 3 (f + 1) _) 0 0 3 (f + 2) _) 0 0 3 (f + 3) _) 0 0 3 (f + 4) _) 7 0 6 0 0 3 0 (f + 5) 5).1 0 0 3 (f + 4) = _
    unfold cpI
    rw [uR_at, cpy_out (by omega), uI_if, if_pos rfl]
    show (uI (uI (uI (uI σ 0 0 3 f _) 0 0 3 (f + 1) _) 0 0 3 (f + 2) _) 0 0 3 (f + 3) _).1 7 0 5 0 = _
    rw [u0_nr _ _ _ (by decide), u0_nr _ _ _ (by decide), u0_nr _ _ _ (by decide), u0_nr _ _ _ (by decide)]
    exact c5
  · show (cpI (uI (uI (uI (uI (uI σ 0 0 3 f _) 0 0 3 (f + 1) _) 0 0 3 (f + 2) _) 0 0 3 (f + 3) _) 0 0 3 (f + 4) _) 7 0 6 0 0 3 0 (f + 5) 5).1 0 0 3 (f + (5 + h)) = _
    unfold cpI
    rw [uR_at, cpy_in (by omega) (by omega), u0_nr _ _ _ (by decide), u0_nr _ _ _ (by decide), u0_nr _ _ _ (by decide), u0_nr _ _ _ (by decide), u0_nr _ _ _ (by decide), show 0 + (f + (5 + h) - (f + 5)) = h by omega]
    exact c6 h hh
set_option maxRecDepth 100000 in
/-- Rules.takeFrom -/
theorem c_rulesTake (hS : vSP S) {x2 : Int32} {f : Nat} (e2 : x2 = nI f) (hf : f + 10 ≤ 820) (cR : mRU (fun z => σ.1 0 0 3 (f + z)) S R) (hm : 100 ≤ m) (hQ : ∀ τ, off (rOff 0) σ τ → cRU τ 0 S R → Q none τ) :
    wp N m (e + 1, 0) TX7_takeFrom 0 [some (.inr (.inr (7, 0, 0))), some (.inr (.inr (0, 0, 3))), some (.inl x2)] [] σ Q := by
  have hnh := hS.1
  obtain ⟨c1, c2, c3, c4, c5, c6⟩ := cR
  obtain ⟨n, rfl⟩ := il_ex (K := 60) (m := m) (by omega)
  have g1 : x2 + Int32.ofInt 1 = nI (f + 1) := il_inc e2
  have g2 : x2 + Int32.ofInt 2 = nI (f + 2) := by rw [e2, oi_2, nI_add]
  have g3 : x2 + Int32.ofInt 3 = nI (f + 3) := by rw [e2, oi_3, nI_add]
  have g4 : x2 + Int32.ofInt 4 = nI (f + 4) := by rw [e2, oi_4, nI_add]
  have g5 : x2 + Int32.ofInt 5 = nI (f + 5) := by rw [e2, i5, nI_add]
  refine b_lt e2 z0 (by omega) (by omega) (fun q => by omega) (fun _ => ?_)
  refine b_le e2 i810c (by omega) (by omega) (fun _ => ?_) (fun q => by omega)
  refine ⟨il_in e2 (by omega) (by omega), ?_⟩
  rw [il_cl e2 (by omega)]
  refine ⟨il_in g1 (by omega) (by omega), ?_⟩
  rw [il_cl g1 (by omega)]
  refine ⟨il_in g2 (by omega) (by omega), ?_⟩
  rw [il_cl g2 (by omega)]
  refine ⟨il_in g3 (by omega) (by omega), ?_⟩
  rw [il_cl g3 (by omega)]
  refine ⟨il_in g4 (by omega) (by omega), ?_⟩
  rw [il_cl g4 (by omega)]
  refine ⟨by rw [g5]; exact nI_pos (by omega), by decide, by decide, by rw [il_cl g5 (by omega)]; show f + 5 + 5 ≤ 820; omega, by decide, ?_⟩
  rw [il_cl g5 (by omega)]
  refine hQ _ (off_uR (off_uI (off_uI (off_uI (off_uI (off_uI (off_rf _ _) (by decide)) (by decide)) (by decide)) (by decide)) (by decide)) (by decide)) ⟨?_, ?_, ?_, ?_, ?_, fun h hh => ?_⟩
  · show (cpI (uI (uI (uI (uI (uI σ 7 0 1 0 _) 7 0 2 0 _) 7 0 3 0 _) 7 0 4 0 _) 7 0 5 0 _) 0 0 3 7 0 6 (f + 5) 0 5).1 7 0 1 0 = _
    unfold cpI
    rw [uR_nr _ _ _ _ _ (by decide), uI_nr _ _ _ _ _ _ (by decide), uI_nr _ _ _ _ _ _ (by decide), uI_nr _ _ _ _ _ _ (by decide), uI_nr _ _ _ _ _ _ (by decide), uI_at]
    exact c1
  · show (cpI (uI (uI (uI (uI (uI σ 7 0 1 0 _) 7 0 2 0 _) 7 0 3 0 _) 7 0 4 0 _) 7 0 5 0 _) 0 0 3 7 0 6 (f + 5) 0 5).1 7 0 2 0 = _
    unfold cpI
    rw [uR_nr _ _ _ _ _ (by decide), uI_nr _ _ _ _ _ _ (by decide), uI_nr _ _ _ _ _ _ (by decide), uI_nr _ _ _ _ _ _ (by decide), uI_at]
    show (uI σ 7 0 1 0 _).1 0 0 3 (f + 1) = _
    rw [uI_nr _ _ _ _ _ _ (by decide)]
    exact c2
  · show (cpI (uI (uI (uI (uI (uI σ 7 0 1 0 _) 7 0 2 0 _) 7 0 3 0 _) 7 0 4 0 _) 7 0 5 0 _) 0 0 3 7 0 6 (f + 5) 0 5).1 7 0 3 0 = _
    unfold cpI
    rw [uR_nr _ _ _ _ _ (by decide), uI_nr _ _ _ _ _ _ (by decide), uI_nr _ _ _ _ _ _ (by decide), uI_at]
    show (uI (uI σ 7 0 1 0 _) 7 0 2 0 _).1 0 0 3 (f + 2) = _
    rw [uI_nr _ _ _ _ _ _ (by decide), uI_nr _ _ _ _ _ _ (by decide)]
    exact c3
  · show (cpI (uI (uI (uI (uI (uI σ 7 0 1 0 _) 7 0 2 0 _) 7 0 3 0 _) 7 0 4 0 _) 7 0 5 0 _) 0 0 3 7 0 6 (f + 5) 0 5).1 7 0 4 0 = _
    unfold cpI
    rw [uR_nr _ _ _ _ _ (by decide), uI_nr _ _ _ _ _ _ (by decide), uI_at]
    show (uI (uI (uI σ 7 0 1 0 _) 7 0 2 0 _) 7 0 3 0 _).1 0 0 3 (f + 3) = _
    rw [uI_nr _ _ _ _ _ _ (by decide), uI_nr _ _ _ _ _ _ (by decide), uI_nr _ _ _ _ _ _ (by decide)]
    exact c4
  · show (cpI (uI (uI (uI (uI (uI σ 7 0 1 0 _) 7 0 2 0 _) 7 0 3 0 _) 7 0 4 0 _) 7 0 5 0 _) 0 0 3 7 0 6 (f + 5) 0 5).1 7 0 5 0 = _
    unfold cpI
    rw [uR_nr _ _ _ _ _ (by decide), uI_at]
    show (uI (uI (uI (uI σ 7 0 1 0 _) 7 0 2 0 _) 7 0 3 0 _) 7 0 4 0 _).1 0 0 3 (f + 4) = _
    rw [uI_nr _ _ _ _ _ _ (by decide), uI_nr _ _ _ _ _ _ (by decide), uI_nr _ _ _ _ _ _ (by decide), uI_nr _ _ _ _ _ _ (by decide)]
    exact c5
  · show (cpI (uI (uI (uI (uI (uI σ 7 0 1 0 _) 7 0 2 0 _) 7 0 3 0 _) 7 0 4 0 _) 7 0 5 0 _) 0 0 3 7 0 6 (f + 5) 0 5).1 7 0 6 h = _
    unfold cpI
    rw [uR_at, cpy_in (by omega) (by omega), uI_nr _ _ _ _ _ _ (by decide), uI_nr _ _ _ _ _ _ (by decide), uI_nr _ _ _ _ _ _ (by decide), uI_nr _ _ _ _ _ _ (by decide), uI_nr _ _ _ _ _ _ (by decide), show f + 5 + (h - 0) = f + (5 + h) by omega]
    exact c6 h hh
end KP
