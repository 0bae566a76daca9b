/-! Reader's Speech: what is taken in -/
def cDC (σ : ST) (D : DC) : Prop := σ.1 8 1 2 0 = nI D.length ∧ ∀ w, w < D.length → σ.1 8 1 8 w = nI (spL (D.getD w [])) ∧ σ.1 8 1 10 w = nI (D.getD w []).length ∧ ∀ j, j < 6 → σ.1 8 1 9 (w * 6 + j) = if j < (D.getD w []).length then nI ((D.getD w []).getD j 0) else -2
def cRD (σ : ST) (P : PSc) : Prop := σ.1 8 1 1 0 = nI P.2.1 ∧ cDC σ (dH P.2 P.2.1) ∧ ∀ h, h < P.2.1 → σ.1 8 1 5 h = nI (spL (P.2.2.1 h)) ∧ σ.1 8 1 7 h = nI (P.2.2.2.2.1 h) ∧ ((h + 1 = P.2.1 ∧ (P.1 = 1 ∨ P.1 = 2)) ∨ σ.1 8 1 6 h = nI (P.2.2.2.1 h)) ∧ ∀ i, i < P.2.2.2.2.1 h → σ.1 8 1 3 (h * 12 + i) = nI (ixD (dH P.2 P.2.1) (P.2.2.2.2.2.1 h i)) ∧ ((h + 1 = P.2.1 ∧ i + 1 = P.2.2.2.2.1 h ∧ P.1 = 5) ∨ σ.1 8 1 4 (h * 12 + i) = nI (P.2.2.2.2.2.2 h i))
abbrev sOff : List RF := [(5, 0, 8), (8, 1, 1), (8, 1, 2), (8, 1, 3), (8, 1, 4), (8, 1, 5), (8, 1, 6), (8, 1, 7), (8, 1, 8), (8, 1, 9), (8, 1, 10)]
theorem cDC_off {L : List RF} {σ τ : ST} {D : DC} (h : off L σ τ) (h2 : (8, 1, 2) ∉ L) (h8 : (8, 1, 8) ∉ L) (h9 : (8, 1, 9) ∉ L) (h10 : (8, 1, 10) ∉ L) (c : cDC σ D) : cDC τ D := by
  unfold cDC at *
  rw [(h 8 1 2 h2).1, (h 8 1 8 h8).1, (h 8 1 9 h9).1, (h 8 1 10 h10).1]
  exact c
theorem vW_b {l : WL} (h : vW l) : spL l < 1073741824 := spL_b h.2.1 h.2.2
theorem sh5r : ∀ k, k < 6 → ((nI (5 * k) &&& 31).toBitVec.smod 32).toNat = 5 * k := sh5
theorem i31 : (Int8.ofInt 31).toInt32.toBitVec.toNat = 2 ^ 5 - 1 := by decide
section SPE
variable {N e m : Nat} {σ : ST} {Q : POST} {P : PSc} {A : RDc}
set_option maxRecDepth 100000 in
theorem hn_loop (v : vPS P) (c : cRD σ P) {l : WL} (hl : vW l) {x1 : Int32} (e1 : x1 = nI (spL l)) (h1 : nmI P.2 l → Q (some (.inl (nI 1))) σ) (h0 : ¬ nmI P.2 l → Q (some (.inl (nI 0))) σ) :
    ∀ (r h m : Nat) (x2 : Int32), h + r = P.2.1 → 30 * r + 30 ≤ m → (∀ k, k < h → P.2.2.1 k ≠ l) → x2 = nI h →
      wp N m (e, 0) TX8_hasName 2 [some (.inr (.inr (8, 1, 0))), some (.inl x1), some (.inl x2)] [] σ Q := by
  have hnh := v.2.1
  have hb := vW_b hl
  intro r
  induction r with
  | zero =>
    intro h m x2 hr hm hk e2
    obtain ⟨n, rfl⟩ := il_ex (K := 15) (m := m) (by omega)
    obtain rfl : h = P.2.1 := by omega
    have no : ¬ nmI P.2 l := fun ⟨k, a, b⟩ => hk k a b
    refine b_ge e2 i5 (by omega) (by omega) (fun q => ⟨Or.inr (Or.inl rfl), h0 no⟩) (fun _ => ?_)
    refine b_ge e2 c.1 (by omega) (by omega) (fun q => ⟨Or.inr (Or.inl rfl), h0 no⟩) (fun q => by omega)
  | succ r ih =>
    intro h m x2 hr hm hk e2
    obtain ⟨n, rfl⟩ := il_ex (K := 20) (m := m) (by omega)
    have hv := (v.2.2.2 h (by omega)).1
    have hb2 := vW_b hv
    refine b_ge e2 i5 (by omega) (by omega) (fun q => by omega) (fun _ => ?_)
    refine b_ge e2 c.1 (by omega) (by omega) (fun q => by omega) (fun _ => ?_)
    refine ⟨il_in e2 (by omega) (by omega), ?_⟩
    refine b_ne (show σ.1 8 1 5 x2.toNatClampNeg = nI (spL (P.2.2.1 h)) by rw [il_cl e2 (by omega)]; exact (c.2.2 h (by omega)).1) e1 (by omega) (by omega) (fun q => ?_) (fun q => ?_)
    · refine ⟨trivial, ih (h + 1) _ _ (by omega) (by omega) (fun k hk' => ?_) (il_inc e2)⟩
      by_cases z : k = h
      · rw [z]; exact fun y => q (by rw [y])
      · exact hk k (by omega)
    · exact ⟨Or.inr (Or.inr rfl), h1 ⟨h, by omega, spL_inj hv.2.2 hl.2.2 q⟩⟩
set_option maxRecDepth 100000 in
theorem c_hasName (v : vPS P) (c : cRD σ P) {l : WL} (hl : vW l) {x1 : Int32} (e1 : x1 = nI (spL l)) (hm : 300 ≤ m) (h1 : nmI P.2 l → Q (some (.inl (nI 1))) σ) (h0 : ¬ nmI P.2 l → Q (some (.inl (nI 0))) σ) :
    wp N m (e, 0) TX8_hasName 0 [some (.inr (.inr (8, 1, 0))), some (.inl x1), none] [] σ Q := by
  have hnh := v.2.1
  refine adv 2 290 (by omega) (fun n hn => ?_)
  exact hn_loop v c hl e1 h1 h0 P.2.1 0 n _ (by omega) (by omega) (fun k hk => absurd hk (Nat.not_lt_zero _)) oi_0
theorem dH_wt (A : RDc) (w n : Nat) : dH (aWt A w) n = dH A n := dH_congr (fun _ _ => ⟨rfl, fun _ _ => rfl⟩)
theorem dH_tm (A : RDc) (w n : Nat) : dH (aTm A w) n = dH A n := dH_congr (fun _ _ => ⟨rfl, fun _ _ => rfl⟩)
theorem dH_hr (A : RDc) (l : WL) : dH (aHr A l) (A.1 + 1) = dH A A.1 := by
  rw [dH]
  show dI (dH (aHr A l) A.1) (A.2.2.2.2.1 A.1) (up1 A.2.2.2.1 A.1 0 A.1) = _
  rw [up1_k]
  show dH (aHr A l) A.1 = _
  refine dH_congr (fun h hh => ⟨?_, fun i _ => rfl⟩)
  show up1 A.2.2.2.1 A.1 0 h = _
  rw [up1_n (by omega)]
set_option maxRecDepth 100000 in
theorem c_addHearing (v : vPS ⟨0, A⟩) (c : cRD σ ⟨0, A⟩) {l : WL} {x1 : Int32} (e1 : x1 = nI (spL l)) (hm : 60 ≤ m) (h0 : A.1 = 5 → Q (some (.inl (nI 0))) σ) (h1 : ∀ τ, A.1 ≠ 5 → off [(8, 1, 1), (8, 1, 5), (8, 1, 7)] σ τ → cRD τ ⟨1, aHr A l⟩ → Q (some (.inl (nI 1))) τ) :
    wp N m (e, 0) TX8_addHearing 0 [some (.inr (.inr (8, 1, 0))), some (.inl x1)] [] σ Q := by
  have hnh : A.1 ≤ 5 := v.2.1
  have c1 : σ.1 8 1 1 0 = nI A.1 := c.1
  obtain ⟨n, rfl⟩ := il_ex hm
  refine b_lt c1 z0 (by omega) (by omega) (fun q => by omega) (fun _ => ?_)
  refine b_lt c1 i5 (by omega) (by omega) (fun q => ?_) (fun q => ⟨Or.inr (Or.inl rfl), h0 (by omega)⟩)
  have cl : (σ.1 8 1 (0 + 1) 0).toNatClampNeg = A.1 := il_cl c1 (by omega)
  refine ⟨il_in c1 (by omega) (by omega), ?_⟩
  rw [cl]
  have c1' : (uI σ 8 1 5 A.1 x1).1 8 1 (0 + 1) 0 = nI A.1 := by rw [uI_nr _ _ _ _ _ _ (by decide)]; exact c1
  refine ⟨il_in c1' (by omega) (by omega), ?_⟩
  rw [il_cl c1' (by omega)]
  refine ⟨Or.inr (Or.inr rfl), ?_⟩
  have ho : off [(8, 1, 1), (8, 1, 5), (8, 1, 7)] σ (uI (uI (uI σ 8 1 5 A.1 x1) 8 1 7 A.1 (Int32.ofInt 0)) 8 1 1 0 ((uI (uI σ 8 1 5 A.1 x1) 8 1 7 A.1 (Int32.ofInt 0)).1 8 1 1 0 + Int32.ofInt 1)) := off_uI (off_uI (off_uI (off_rf _ _) (by decide)) (by decide)) (by decide)
  refine h1 _ (by omega) ho ⟨?_, ?_, fun h hh => ?_⟩
  · rw [uI_at, uI_nr _ _ _ _ _ _ (by decide), uI_nr _ _ _ _ _ _ (by decide)]
    show σ.1 8 1 1 0 + Int32.ofInt 1 = nI (A.1 + 1)
    exact il_inc c1
  · show cDC _ (dH (aHr A l) (A.1 + 1))
    rw [dH_hr]
    exact cDC_off ho (by decide) (by decide) (by decide) (by decide) c.2.1
  · have hh : h < A.1 + 1 := hh
    show _ = nI (spL (up1 A.2.1 A.1 l h)) ∧ _ = nI (up1 A.2.2.2.1 A.1 0 h) ∧ ((h + 1 = A.1 + 1 ∧ (1 = 1 ∨ 1 = 2)) ∨ _ = nI (A.2.2.1 h)) ∧ ∀ i, i < up1 A.2.2.2.1 A.1 0 h → _ = nI (ixD (dH (aHr A l) (A.1 + 1)) (A.2.2.2.2.1 h i)) ∧ ((h + 1 = A.1 + 1 ∧ i + 1 = up1 A.2.2.2.1 A.1 0 h ∧ 1 = 5) ∨ _ = nI (A.2.2.2.2.2 h i))
    rw [dH_hr]
    by_cases z : h = A.1
    · rw [z, up1_k, up1_k]
      refine ⟨?_, ?_, Or.inl ⟨rfl, Or.inl rfl⟩, fun i hi => by omega⟩
      · rw [uI_nr _ _ _ _ _ _ (by decide), uI_nr _ _ _ _ _ _ (by decide), uI_at]; exact e1
      · rw [uI_nr _ _ _ _ _ _ (by decide), uI_at]; exact oi_0
    · rw [up1_n z, up1_n z]
      obtain ⟨a1, a2, a3, a4⟩ := c.2.2 h (by show h < A.1; omega)
      simp only at a1 a2 a3 a4
      refine ⟨?_, ?_, Or.inr ?_, fun i hi => ⟨?_, Or.inr ?_⟩⟩
      · rw [uI_nr _ _ _ _ _ _ (by decide), uI_nr _ _ _ _ _ _ (by decide), uI_ne _ _ _ _ _ _ z]; exact a1
      · rw [uI_nr _ _ _ _ _ _ (by decide), uI_ne _ _ _ _ _ _ z, uI_nr _ _ _ _ _ _ (by decide)]; exact a2
      · rw [off_1 ho (by decide)]
        rcases a3 with y | y
        · omega
        · exact y
      · rw [off_1 ho (by decide)]; exact (a4 i hi).1
      · rw [off_1 ho (by decide)]
        rcases (a4 i hi).2 with y | y
        · omega
        · exact y
set_option maxRecDepth 100000 in
theorem c_setWeight8 (v : vPS ⟨2, A⟩) (c : cRD σ ⟨2, A⟩) {w : Nat} {x1 : Int32} (e1 : x1 = nI w) (hm : 40 ≤ m) (h1 : ∀ τ, off [(8, 1, 6)] σ τ → cRD τ ⟨3, aWt A w⟩ → Q none τ) :
    wp N m (e, 0) TX8_setWeight 0 [some (.inr (.inr (8, 1, 0))), some (.inl x1), none] [] σ Q := by
  have hnh : A.1 ≤ 5 := v.2.1
  have h1' : 1 ≤ A.1 := by
    rcases v.2.2.1 with z | z
    · cases z
    · exact z
  have c1 : σ.1 8 1 1 0 = nI A.1 := c.1
  obtain ⟨n, rfl⟩ := il_ex hm
  have g : σ.1 8 1 1 0 - Int32.ofInt 1 = nI (A.1 - 1) := il_sub1 (by rw [c1, show A.1 - 1 + 1 = A.1 by omega])
  refine b_lt g z0 (by omega) (by omega) (fun q => by omega) (fun _ => ?_)
  refine b_ge g i5 (by omega) (by omega) (fun q => by omega) (fun _ => ?_)
  refine ⟨il_in g (by omega) (by omega), ?_⟩
  rw [show (σ.1 8 1 (0 + 1) 0 - Int32.ofInt 1).toNatClampNeg = A.1 - 1 from il_cl g (by omega)]
  have ho : off [(8, 1, 6)] σ (uI σ 8 1 6 (A.1 - 1) x1) := off_uI (off_rf _ _) (by decide)
  refine h1 _ ho ⟨?_, by show cDC _ (dH (aWt A w) A.1); rw [dH_wt]; exact cDC_off ho (by decide) (by decide) (by decide) (by decide) c.2.1, fun h hh => ?_⟩
  · rw [off_1 ho (by decide)]; exact c1
  · have hh : h < A.1 := hh
    obtain ⟨a1, a2, a3, a4⟩ := c.2.2 h hh
    simp only at a1 a2 a3 a4
    refine ⟨by rw [off_1 ho (by decide)]; exact a1, by rw [off_1 ho (by decide)]; exact a2, Or.inr ?_, fun i hi => ⟨by show _ = nI (ixD (dH (aWt A w) A.1) (A.2.2.2.2.1 h i)); rw [dH_wt, off_1 ho (by decide)]; exact (a4 i hi).1, Or.inr ?_⟩⟩
    · show (uI σ 8 1 6 (A.1 - 1) x1).1 8 1 6 h = nI (up1 A.2.2.1 (A.1 - 1) w h)
      rw [uI_if]
      by_cases z : h = A.1 - 1
      · rw [if_pos z, z, up1_k]; exact e1
      · rw [if_neg z, up1_n z]
        rcases a3 with y | y
        · omega
        · exact y
    · rw [off_1 ho (by decide)]
      rcases (a4 i hi).2 with y | y
      · omega
      · exact y
set_option maxRecDepth 100000 in
theorem sl_loop {w : Nat} {l : WL} (hw : w < 60) (hl : vW l) {x1 x2 : Int32} (e1 : x1 = nI w) (e2 : x2 = nI (spL l)) (hQ : ∀ τ, off [(8, 1, 9), (8, 1, 10)] σ τ → (∀ z, z ≠ w → τ.1 8 1 10 z = σ.1 8 1 10 z) → (∀ z j, z ≠ w → j < 6 → τ.1 8 1 9 (z * 6 + j) = σ.1 8 1 9 (z * 6 + j)) → τ.1 8 1 10 w = nI l.length → (∀ j, j < 6 → τ.1 8 1 9 (w * 6 + j) = if j < l.length then nI (l.getD j 0) else -2) → Q none τ) :
    ∀ (r k m : Nat) (τ : ST) (x3 : Int32) (o4 : Option AV), k + r = 6 → 100 * r + 100 ≤ m → off [(8, 1, 9), (8, 1, 10)] σ τ → (∀ z, z ≠ w → τ.1 8 1 10 z = σ.1 8 1 10 z) → (∀ z j, z ≠ w → j < 6 → τ.1 8 1 9 (z * 6 + j) = σ.1 8 1 9 (z * 6 + j)) → τ.1 8 1 10 w = nI (min k l.length) → (∀ j, j < k → τ.1 8 1 9 (w * 6 + j) = if j < l.length then nI (l.getD j 0) else -2) → x3 = nI k →
      wp N m (e, 0) TX8_spell 12 [some (.inr (.inr (8, 1, 0))), some (.inl x1), some (.inl x2), some (.inl x3), o4] [] τ Q := by
  have hb := vW_b hl
  intro r
  induction r with
  | zero =>
    intro k m τ x3 o4 hr hm ho h1 h2 h3 h4 e3
    obtain ⟨n, rfl⟩ := il_ex (K := 10) (m := m) (by omega)
    obtain rfl : k = 6 := by omega
    refine b_ge e3 i6 (by omega) (by omega) (fun _ => ?_) (fun q => by omega)
    have := hl.2.1
    exact hQ τ ho h1 h2 (by rw [h3]; congr 1; omega) h4
  | succ r ih =>
    intro k m τ x3 o4 hr hm ho h1 h2 h3 h4 e3
    obtain ⟨n, rfl⟩ := il_ex (K := 45) (m := m) (by omega)
    have hl6 := hl.2.1
    have dg := spL_dig l k hl.2.2
    have g4 : (x2 >>> ((Int32.ofInt 5 * x3) &&& 31)) &&& (Int8.ofInt 31).toInt32 = nI (if k < l.length then l.getD k 0 + 1 else 0) := by
      rw [e2, e3, i5, pk_mul, pk_shrN (by omega) _ (5 * k) (sh5 k (by omega)), p5, pk_andN (Nat.lt_of_le_of_lt (Nat.div_le_self _ _) (by omega)) 5 i31, show (2 : Nat) ^ 5 = 32 from rfl, dg]
    have gi : x1 * (Int8.ofInt 6).toInt32 + x3 = nI (w * 6 + k) := by rw [e1, e3, i6, pk_mul, nI_add]
    have j1 := il_in e1 hw (n := 60) (by omega)
    have cl1 : x1.toNatClampNeg = w := il_cl e1 (by omega)
    have at37 : ∀ (y : Int32) (n' : Nat), 100 * r + 150 ≤ n' → y = (if k < l.length then nI (l.getD k 0) else -2) → wp N n' (e, 0) TX8_spell 37 [some (.inr (.inr (8, 1, 0))), some (.inl x1), some (.inl x2), some (.inl x3), some (.inl ((x2 >>> ((Int32.ofInt 5 * x3) &&& 31)) &&& (Int8.ofInt 31).toInt32))] [.inl y, .inl (x1 * (Int8.ofInt 6).toInt32 + x3), .inr (.inr (8, 1, 9))] τ Q := by
      intro y n' hn' hy
      obtain ⟨n2, rfl⟩ := il_ex (K := 20) (m := n') (by omega)
      refine ⟨il_in gi (by omega) (by omega), ?_⟩
      rw [il_cl gi (by omega)]
      refine ⟨j1, ?_⟩
      rw [cl1]
      have fin : ∀ (d : Nat) (n3 : Nat), 100 * r + 120 ≤ n3 → d = (if k < l.length then 1 else 0) → wp N n3 (e, 0) TX8_spell 48 [some (.inr (.inr (8, 1, 0))), some (.inl x1), some (.inl x2), some (.inl x3), some (.inl ((x2 >>> ((Int32.ofInt 5 * x3) &&& 31)) &&& (Int8.ofInt 31).toInt32))] [.inl (nI d), .inl ((uI τ 8 1 9 (w * 6 + k) y).1 8 1 10 w), .inl x1, .inr (.inr (8, 1, 10))] (uI τ 8 1 9 (w * 6 + k) y) Q := by
        intro d n3 hn3 hd
        obtain ⟨n4, rfl⟩ := il_ex (K := 6) (m := n3) (by omega)
        refine ⟨j1, ?_⟩
        rw [cl1]
        refine ⟨trivial, ih (k + 1) _ _ _ _ (by omega) (by omega) (off_uI (off_uI ho (by decide)) (by decide)) (fun z hz => ?_) (fun z j hz hj => ?_) ?_ (fun j hj => ?_) (il_inc e3)⟩
        · rw [uI_ne _ _ _ _ _ _ hz, uI_nr _ _ _ _ _ _ (by decide)]; exact h1 z hz
        · rw [uI_nr _ _ _ _ _ _ (by decide), uI_ne _ _ _ _ _ _ (by omega)]; exact h2 z j hz hj
        · rw [uI_at, uI_nr _ _ _ _ _ _ (by decide), h3, nI_add, hd]
          congr 1
          by_cases q : k < l.length
          · rw [if_pos q]; omega
          · rw [if_neg q]; omega
        · rw [uI_nr _ _ _ _ _ _ (by decide), uI_if]
          by_cases q : j = k
          · rw [if_pos (by omega), q]; exact hy
          · rw [if_neg (by omega)]; exact h4 j (by omega)
      by_cases q : k < l.length
      · rw [if_pos q] at g4
        have hlt := hl.2.2 k q
        refine b_ne g4 z0 (by omega) (by omega) (fun _ => ?_) (fun z => by omega)
        exact adv 1 (100 * r + 120) (by omega) (fun n9 hn9 => fin 1 n9 hn9 (by rw [if_pos q]))
      · rw [if_neg q] at g4
        refine b_ne g4 z0 (by omega) (by omega) (fun z => absurd rfl z) (fun _ => ?_)
        exact ⟨trivial, fin 0 _ (by omega) (by rw [if_neg q])⟩
    refine b_ge e3 i6 (by omega) (by omega) (fun q => by omega) (fun _ => ?_)
    by_cases q : k < l.length
    · have g4' := g4
      rw [if_pos q] at g4'
      have hlt := hl.2.2 k q
      refine b_ne g4' z0 (by omega) (by omega) (fun _ => ?_) (fun z => by omega)
      refine adv 3 (100 * r + 150) (by omega) (fun n9 hn9 => at37 _ n9 hn9 ?_)
      rw [if_pos q]
      exact il_sub1 g4'
    · have g4' := g4
      rw [if_neg q] at g4'
      refine b_ne g4' z0 (by omega) (by omega) (fun z => absurd rfl z) (fun _ => ?_)
      exact ⟨trivial, at37 _ _ (by omega) (by rw [if_neg q]; exact im2)⟩
set_option maxRecDepth 100000 in
theorem c_spell {D : DC} {l : WL} (hD : D.length < 60) (c : cDC σ D) (hl : vW l) (hn : l ∉ D) {x1 x2 : Int32} (e1 : x1 = nI D.length) (e2 : x2 = nI (spL l)) (hm : 900 ≤ m) (hQ : ∀ τ, off [(8, 1, 8), (8, 1, 9), (8, 1, 10)] σ τ → (∀ w, w < (adD D l).length → τ.1 8 1 8 w = nI (spL ((adD D l).getD w [])) ∧ τ.1 8 1 10 w = nI ((adD D l).getD w []).length ∧ ∀ j, j < 6 → τ.1 8 1 9 (w * 6 + j) = if j < ((adD D l).getD w []).length then nI (((adD D l).getD w []).getD j 0) else -2) → Q none τ) :
    wp N m (e, 0) TX8_spell 0 [some (.inr (.inr (8, 1, 0))), some (.inl x1), some (.inl x2), none, none] [] σ Q := by
  obtain ⟨n, rfl⟩ := il_ex (K := 10) (m := m) (by omega)
  have j1 := il_in e1 hD (n := 60) (by omega)
  have cl1 : x1.toNatClampNeg = D.length := il_cl e1 (by omega)
  have hlen : (adD D l).length = D.length + 1 := by unfold adD; rw [if_neg hn]; simp
  have hlast : (adD D l).getD D.length [] = l := by
    unfold adD
    rw [if_neg hn, List.getD_eq_getElem?_getD, List.getElem?_append_right (Nat.le_refl _)]
    simp
  refine ⟨j1, j1, ?_⟩
  rw [cl1]
  refine adv 2 800 (by omega) (fun n2 hn2 => ?_)
  have ho0 : off [(8, 1, 8), (8, 1, 9), (8, 1, 10)] σ (uI (uI σ 8 1 8 D.length x2) 8 1 10 D.length (Int32.ofInt 0)) := off_uI (off_uI (off_rf _ _) (by decide)) (by decide)
  refine sl_loop (σ := uI (uI σ 8 1 8 D.length x2) 8 1 10 D.length (Int32.ofInt 0)) hD hl e1 e2 ?_ 6 0 n2 _ _ _ (by omega) (by omega) (off_rf _ _) (fun z hz => rfl) (fun z j hz hj => rfl) ?_ (fun j hj => absurd hj (Nat.not_lt_zero _)) oi_0
  · intro τ ho h1 h2 h3 h4
    refine hQ τ (off_tr ho0 (off_in ho (by decide))) (fun w hw => ?_)
    rw [hlen] at hw
    have s8 : ∀ z, τ.1 8 1 8 z = if z = D.length then x2 else σ.1 8 1 8 z := fun z => by
      rw [off_1 ho (by decide), uI_nr _ _ _ _ _ _ (by decide), uI_if]
    by_cases q : w = D.length
    · rw [q, hlast]
      exact ⟨by rw [s8, if_pos rfl]; exact e2, h3, h4⟩
    · have cw := c.2 w (by omega)
      rw [getD_adD (by omega)]
      refine ⟨by rw [s8, if_neg q]; exact cw.1, ?_, fun j hj => ?_⟩
      · rw [h1 w q, uI_ne _ _ _ _ _ _ q, uI_nr _ _ _ _ _ _ (by decide)]; exact cw.2.1
      · rw [h2 w j q hj, uI_nr _ _ _ _ _ _ (by decide), uI_nr _ _ _ _ _ _ (by decide)]; exact cw.2.2 j hj
  · rw [uI_at, Nat.zero_min]; exact oi_0
set_option maxRecDepth 100000 in
theorem nb_loop {D : DC} {l : WL} (hD : D.length < 60) (vD : vDC D) (c : cDC σ D) (hl : vW l) {x1 : Int32} (e1 : x1 = nI (spL l)) (hQ : ∀ τ, off [(8, 1, 2), (8, 1, 8), (8, 1, 9), (8, 1, 10)] σ τ → cDC τ (adD D l) → Q (some (.inl (nI (ixD D l)))) τ) :
    ∀ (r w m : Nat) (x2 : Int32), w + r = ixD D l → 40 * r + 1000 ≤ m → x2 = nI w →
      wp N m (e + 1, 0) TX8_numberOf 2 [some (.inr (.inr (8, 1, 0))), some (.inl x1), some (.inl x2)] [] σ Q := by
  have hb := vW_b hl
  have hix : ixD D l ≤ D.length := by
    by_cases q : l ∈ D
    · exact Nat.le_of_lt (ixD_lt q)
    · rw [ixD_no q]; exact Nat.le_refl _
  intro r
  induction r with
  | zero =>
    intro w m x2 hr hm e2
    obtain ⟨n, rfl⟩ := il_ex (K := 30) (m := m) (by omega)
    obtain rfl : w = ixD D l := by omega
    refine b_ge e2 i60 (by omega) (by omega) (fun q => by omega) (fun _ => ?_)
    by_cases q : l ∈ D
    · have hlt := ixD_lt q
      have ea : adD D l = D := by unfold adD; rw [if_pos q]
      refine b_lt e2 c.1 (by omega) (by omega) (fun _ => ?_) (fun z => by omega)
      refine ⟨il_in e2 (by omega) (by omega), ?_⟩
      refine b_ne (show σ.1 8 1 8 x2.toNatClampNeg = nI (spL l) by rw [il_cl e2 (by omega), (c.2 _ hlt).1, ixD_get q]) e1 (by omega) (by omega) (fun z => absurd rfl z) (fun _ => ?_)
      refine ⟨Or.inl rfl, ?_⟩
      rw [e2]
      exact hQ σ (off_rf _ _) (by rw [ea]; exact c)
    · have he := ixD_no q
      refine b_lt e2 c.1 (by omega) (by omega) (fun z => by omega) (fun _ => ?_)
      refine ⟨trivial, c_spell hD c hl q (by rw [e2, he]) e1 (by omega) ?_⟩
      intro τ o1 h1
      have hlen : (adD D l).length = D.length + 1 := by unfold adD; rw [if_neg q]; simp
      have hlast : (adD D l).getD D.length [] = l := by
        unfold adD
        rw [if_neg q, List.getD_eq_getElem?_getD, List.getElem?_append_right (Nat.le_refl _)]
        simp
      refine ⟨il_in e2 (by omega) (by omega), ?_⟩
      refine b_ne (show (uI τ 8 1 2 0 (x2 + Int32.ofInt 1)).1 8 1 8 x2.toNatClampNeg = nI (spL l) by rw [uI_nr _ _ _ _ _ _ (by decide), il_cl e2 (by omega), (h1 _ (by omega)).1, he, hlast]) e1 (by omega) (by omega) (fun z => absurd rfl z) (fun _ => ?_)
      refine ⟨Or.inl rfl, ?_⟩
      have fin : cDC (uI τ 8 1 2 0 (x2 + Int32.ofInt 1)) (adD D l) → Q (some (.inl x2)) (uI τ 8 1 2 0 (x2 + Int32.ofInt 1)) := fun z => by
        have := hQ _ (off_uI (off_in o1 (by decide)) (by decide)) z
        rw [← e2] at this
        exact this
      refine fin ⟨?_, fun w hw => ?_⟩
      · rw [uI_at, il_inc e2, he, hlen]
      · rw [uI_nr _ _ _ _ _ _ (by decide), uI_nr _ _ _ _ _ _ (by decide)]
        have := h1 w hw
        refine ⟨this.1, this.2.1, fun j hj => ?_⟩
        rw [uI_nr _ _ _ _ _ _ (by decide)]; exact this.2.2 j hj
  | succ r ih =>
    intro w m x2 hr hm e2
    obtain ⟨n, rfl⟩ := il_ex (K := 30) (m := m) (by omega)
    have hv := vDC_get vD (k := w) (by omega)
    have hb2 := vW_b hv
    refine b_ge e2 i60 (by omega) (by omega) (fun q => by omega) (fun _ => ?_)
    refine b_lt e2 c.1 (by omega) (by omega) (fun _ => ?_) (fun z => by omega)
    refine ⟨il_in e2 (by omega) (by omega), ?_⟩
    refine b_ne (show σ.1 8 1 8 x2.toNatClampNeg = nI (spL (D.getD w [])) by rw [il_cl e2 (by omega), (c.2 _ (by omega)).1]) e1 (by omega) (by omega) (fun z => ?_) (fun z => ?_)
    · exact ⟨trivial, ih (w + 1) _ _ (by omega) (by omega) (il_inc e2)⟩
    · exact absurd (spL_inj hv.2.2 hl.2.2 z) (ixD_bef (by omega))
theorem dH_wd {A : RDc} (l : WL) (h1 : 1 ≤ A.1) : dH (aWd A l) A.1 = adD (dH A A.1) l := by
  obtain ⟨k, hk⟩ : ∃ k, A.1 = k + 1 := ⟨A.1 - 1, by omega⟩
  rw [hk]
  have hk1 : A.1 - 1 = k := by omega
  show dI (dH (aWd A l) k) (up2 A.2.2.2.2.1 (A.1 - 1) (A.2.2.2.1 (A.1 - 1)) l k) (up1 A.2.2.2.1 (A.1 - 1) (A.2.2.2.1 (A.1 - 1) + 1) k) = adD (dI (dH A k) (A.2.2.2.2.1 k) (A.2.2.2.1 k)) l
  rw [hk1, up1_k]
  have e1 : dH (aWd A l) k = dH A k := dH_congr (fun h hh => by
    refine ⟨?_, fun i _ => ?_⟩
    · show up1 A.2.2.2.1 (A.1 - 1) _ h = _
      rw [up1_n (by omega)]
    · show up2 A.2.2.2.2.1 (A.1 - 1) _ l h i = _
      rw [up2_n (by omega)])
  rw [e1, dI]
  rw [show up2 A.2.2.2.2.1 k (A.2.2.2.1 k) l k (A.2.2.2.1 k) = l from up2_k]
  congr 1
  exact dI_congr (fun i hi => up2_n (by omega))
theorem dD_lt {A : RDc} {a0 : Nat} (v : vPS ⟨a0, A⟩) (h1 : 1 ≤ A.1) (h12 : A.2.2.2.1 (A.1 - 1) ≠ 12) : (dH A A.1).length < 60 := by
  have hl := dH_len A A.1
  have hnh : A.1 ≤ 5 := v.2.1
  have h3 := v.2.2.2
  simp only at h3
  have c12 : A.2.2.2.1 (A.1 - 1) ≤ 12 := (h3 (A.1 - 1) (by omega)).2.1
  obtain ⟨k, hk⟩ : ∃ k, A.1 = k + 1 := ⟨A.1 - 1, by omega⟩
  have hk1 : A.1 - 1 = k := by omega
  rw [hk1] at c12 h12
  have h2 : sm A.2.2.2.1 k ≤ k * 12 := sm_le (fun i hi => (h3 i (by omega)).2.1)
  have h4 : sm A.2.2.2.1 (k + 1) = sm A.2.2.2.1 k + A.2.2.2.1 k := rfl
  rw [hk] at hl ⊢
  omega
theorem dD_v {A : RDc} {a0 : Nat} (v : vPS ⟨a0, A⟩) : vDC (dH A A.1) := dH_v A.1 (fun h hh i hi => (v.2.2.2 h hh).2.2.1 i hi)
set_option maxRecDepth 100000 in
theorem c_addWord {a0 : Nat} (ha : a0 = 4 ∨ a0 = 6) (v : vPS ⟨a0, A⟩) (c : cRD σ ⟨a0, A⟩) {l : WL} (hl : vW l) {x1 : Int32} (e1 : x1 = nI (spL l)) (hm : 4000 ≤ m) (h0 : A.2.2.2.1 (A.1 - 1) = 12 → Q (some (.inl (nI 0))) σ) (h1 : ∀ τ, A.2.2.2.1 (A.1 - 1) ≠ 12 → off [(8, 1, 2), (8, 1, 3), (8, 1, 7), (8, 1, 8), (8, 1, 9), (8, 1, 10)] σ τ → cRD τ ⟨5, aWd A l⟩ → Q (some (.inl (nI 1))) τ) :
    wp N m (e + 2, 0) TX8_addWord 0 [some (.inr (.inr (8, 1, 0))), some (.inl x1), none, none] [] σ Q := by
  have hnh : A.1 ≤ 5 := v.2.1
  have hn1 : 1 ≤ A.1 := by
    have := v.2.2.1
    simp only at this
    omega
  have c1 : σ.1 8 1 1 0 = nI A.1 := c.1
  obtain ⟨n, rfl⟩ := il_ex (K := 60) (m := m) (by omega)
  have g : σ.1 8 1 1 0 - Int32.ofInt 1 = nI (A.1 - 1) := il_sub1 (by rw [c1, show A.1 - 1 + 1 = A.1 by omega])
  have c12 : A.2.2.2.1 (A.1 - 1) ≤ 12 := (v.2.2.2 (A.1 - 1) (by show A.1 - 1 < A.1; omega)).2.1
  have cc : σ.1 8 1 7 (A.1 - 1) = nI (A.2.2.2.1 (A.1 - 1)) := (c.2.2 (A.1 - 1) (by show A.1 - 1 < A.1; omega)).2.1
  refine ⟨trivial, c_countOf g (by omega) (by omega) ?_⟩
  refine b_lt g z0 (by omega) (by omega) (fun q => by omega) (fun _ => ?_)
  refine b_ge g i5 (by omega) (by omega) (fun q => by omega) (fun _ => ?_)
  refine b_lt cc z0 (by omega) (by omega) (fun q => by omega) (fun _ => ?_)
  refine b_lt cc i12 (by omega) (by omega) (fun q => ?_) (fun q => ⟨Or.inr (Or.inl rfl), h0 (by omega)⟩)
  have hD := dD_lt v hn1 (by omega)
  have hix : ixD (dH A A.1) l ≤ (dH A A.1).length := by
    by_cases q : l ∈ dH A A.1
    · exact Nat.le_of_lt (ixD_lt q)
    · rw [ixD_no q]; exact Nat.le_refl _
  refine ⟨trivial, ?_⟩
  refine adv 2 3500 (by omega) (fun n2 hn2 => ?_)
  refine nb_loop (D := dH A A.1) hD (dD_v v) c.2.1 hl e1 ?_ (ixD (dH A A.1) l) 0 n2 _ (by omega) (by omega) oi_0
  intro τ o1 d1
  have gi : (σ.1 8 1 1 0 - Int32.ofInt 1) * (Int8.ofInt 12).toInt32 + σ.1 8 1 7 (A.1 - 1) = nI ((A.1 - 1) * 12 + A.2.2.2.1 (A.1 - 1)) := by rw [g, cc, i12, pk_mul, nI_add]
  refine ⟨il_in gi (by omega) (by omega), il_in g (by omega) (by omega), ?_⟩
  rw [show ((σ.1 8 1 (0 + 1) 0 - Int32.ofInt 1) * (Int8.ofInt 12).toInt32 + σ.1 8 1 7 (A.1 - 1)).toNatClampNeg = (A.1 - 1) * 12 + A.2.2.2.1 (A.1 - 1) from il_cl gi (by omega), show (σ.1 8 1 (0 + 1) 0 - Int32.ofInt 1).toNatClampNeg = A.1 - 1 from il_cl g (by omega)]
  refine ⟨Or.inr (Or.inr rfl), ?_⟩
  have o2 : off [(8, 1, 3), (8, 1, 7)] τ (uI (uI τ 8 1 3 ((A.1 - 1) * 12 + A.2.2.2.1 (A.1 - 1)) (nI (ixD (dH A A.1) l))) 8 1 7 (A.1 - 1) (σ.1 8 1 7 (A.1 - 1) + Int32.ofInt 1)) := off_uI (off_uI (off_rf _ _) (by decide)) (by decide)
  have o12 := off_tr (off_in (L' := [(8, 1, 2), (8, 1, 3), (8, 1, 7), (8, 1, 8), (8, 1, 9), (8, 1, 10)]) o1 (by decide)) (off_in o2 (by decide))
  refine h1 _ (by omega) o12 ⟨?_, ?_, fun h hh => ?_⟩
  · rw [off_1 o12 (by decide)]; exact c1
  · show cDC _ (dH (aWd A l) A.1)
    rw [dH_wd l hn1]
    exact cDC_off o2 (by decide) (by decide) (by decide) (by decide) d1
  · have hh : h < A.1 := hh
    obtain ⟨a1, a2, a3, a4⟩ := c.2.2 h hh
    simp only at a1 a2 a3 a4
    have vh := v.2.2.2 h hh
    simp only at vh
    show _ ∧ _ = nI (up1 A.2.2.2.1 (A.1 - 1) (A.2.2.2.1 (A.1 - 1) + 1) h) ∧ ((h + 1 = A.1 ∧ (5 = 1 ∨ 5 = 2)) ∨ _) ∧ ∀ i, i < up1 A.2.2.2.1 (A.1 - 1) (A.2.2.2.1 (A.1 - 1) + 1) h → _ = nI (ixD (dH (aWd A l) A.1) (up2 A.2.2.2.2.1 (A.1 - 1) (A.2.2.2.1 (A.1 - 1)) l h i)) ∧ ((h + 1 = A.1 ∧ i + 1 = up1 A.2.2.2.1 (A.1 - 1) (A.2.2.2.1 (A.1 - 1) + 1) h ∧ 5 = 5) ∨ _)
    rw [dH_wd l hn1]
    have old : ∀ i, i < A.2.2.2.1 h → ixD (adD (dH A A.1) l) (A.2.2.2.2.1 h i) = ixD (dH A A.1) (A.2.2.2.2.1 h i) := fun i hi => (adD_old (dH_in (A := A) hh hi).1).2
    have t3 : ∀ z, (uI (uI τ 8 1 3 ((A.1 - 1) * 12 + A.2.2.2.1 (A.1 - 1)) (nI (ixD (dH A A.1) l))) 8 1 7 (A.1 - 1) (σ.1 8 1 7 (A.1 - 1) + Int32.ofInt 1)).1 8 1 3 z = if z = (A.1 - 1) * 12 + A.2.2.2.1 (A.1 - 1) then nI (ixD (dH A A.1) l) else σ.1 8 1 3 z := fun z => by
      rw [uI_nr _ _ _ _ _ _ (by decide), uI_if, off_1 o1 (by decide)]
    have a3' : σ.1 8 1 6 h = nI (A.2.2.1 h) := by
      rcases a3 with y | y
      · omega
      · exact y
    have a4' : ∀ i, i < A.2.2.2.1 h → σ.1 8 1 4 (h * 12 + i) = nI (A.2.2.2.2.2 h i) := fun i hi => by
      rcases (a4 i hi).2 with y | y
      · omega
      · exact y
    by_cases z : h = A.1 - 1
    · subst z
      rw [up1_k]
      refine ⟨by rw [off_1 o12 (by decide)]; exact a1, ?_, Or.inr (by rw [off_1 o12 (by decide)]; exact a3'), fun i hi => ⟨?_, ?_⟩⟩
      · rw [uI_at, cc]; exact il_inc rfl
      · rw [t3]
        by_cases y : i = A.2.2.2.1 (A.1 - 1)
        · rw [if_pos (by omega), y, up2_k, adD_ix]
        · rw [if_neg (by omega), up2_n (by omega), old i (by omega)]; exact (a4 i (by omega)).1
      · by_cases y : i = A.2.2.2.1 (A.1 - 1)
        · exact Or.inl ⟨by omega, by omega, rfl⟩
        · exact Or.inr (by rw [off_1 o12 (by decide)]; exact a4' i (by omega))
    · rw [up1_n z]
      have ch := vh.2.1
      refine ⟨by rw [off_1 o12 (by decide)]; exact a1, ?_, Or.inr (by rw [off_1 o12 (by decide)]; exact a3'), fun i hi => ⟨?_, Or.inr (by rw [off_1 o12 (by decide)]; exact a4' i hi)⟩⟩
      · rw [uI_ne _ _ _ _ _ _ z, uI_nr _ _ _ _ _ _ (by decide), off_1 o1 (by decide)]; exact a2
      · rw [t3, if_neg (by omega), up2_n (by omega), old i hi]; exact (a4 i hi).1
set_option maxRecDepth 100000 in
theorem c_setTime (v : vPS ⟨5, A⟩) (c : cRD σ ⟨5, A⟩) {t : Nat} (ht : t ≤ 999) {x1 : Int32} (e1 : x1 = nI t) (hm : 200 ≤ m) (h0 : tmX A t → Q (some (.inl (nI 0))) σ) (h1 : ∀ τ, ¬ tmX A t → off [(8, 1, 4)] σ τ → cRD τ ⟨6, aTm A t⟩ → Q (some (.inl (nI 1))) τ) :
    wp N m (e + 1, 0) TX8_setTime 0 [some (.inr (.inr (8, 1, 0))), some (.inl x1), none, none] [] σ Q := by
  have hnh : A.1 ≤ 5 := v.2.1
  have hn1 : 1 ≤ A.1 := by
    have := v.2.2.1
    simp only at this
    omega
  have c1 : σ.1 8 1 1 0 = nI A.1 := c.1
  obtain ⟨n, rfl⟩ := il_ex (K := 60) (m := m) (by omega)
  have g : σ.1 8 1 1 0 - Int32.ofInt 1 = nI (A.1 - 1) := il_sub1 (by rw [c1, show A.1 - 1 + 1 = A.1 by omega])
  have vh := v.2.2.2 (A.1 - 1) (by show A.1 - 1 < A.1; omega)
  simp only at vh
  have c12 : A.2.2.2.1 (A.1 - 1) ≤ 12 := vh.2.1
  have cp : 1 ≤ A.2.2.2.1 (A.1 - 1) := by rcases vh.2.2.2.2.1 with y | y <;> omega
  obtain ⟨a1, a2, a3, a4⟩ := c.2.2 (A.1 - 1) (by show A.1 - 1 < A.1; omega)
  simp only at a1 a2 a3 a4
  have gc : σ.1 8 1 7 (A.1 - 1) - Int32.ofInt 1 = nI (A.2.2.2.1 (A.1 - 1) - 1) := il_sub1 (by rw [a2, show A.2.2.2.1 (A.1 - 1) - 1 + 1 = A.2.2.2.1 (A.1 - 1) by omega])
  have put : ∀ m', 50 ≤ m' → ¬ tmX A t → wp N m' (e + 1, 0) TX8_setTime 33 [some (.inr (.inr (8, 1, 0))), some (.inl x1), some (.inl (σ.1 8 1 (0 + 1) 0 - Int32.ofInt 1)), some (.inl (σ.1 8 1 7 (A.1 - 1) - Int32.ofInt 1))] [] σ Q := by
    intro m' hm' hx
    obtain ⟨n2, rfl⟩ := il_ex (K := 20) (m := m') (by omega)
    have gi : (σ.1 8 1 1 0 - Int32.ofInt 1) * (Int8.ofInt 12).toInt32 + (σ.1 8 1 7 (A.1 - 1) - Int32.ofInt 1) = nI ((A.1 - 1) * 12 + (A.2.2.2.1 (A.1 - 1) - 1)) := by rw [g, gc, i12, pk_mul, nI_add]
    refine ⟨il_in gi (by omega) (by omega), ?_⟩
    rw [show ((σ.1 8 1 (0 + 1) 0 - Int32.ofInt 1) * (Int8.ofInt 12).toInt32 + (σ.1 8 1 7 (A.1 - 1) - Int32.ofInt 1)).toNatClampNeg = (A.1 - 1) * 12 + (A.2.2.2.1 (A.1 - 1) - 1) from il_cl gi (by omega)]
    refine ⟨Or.inr (Or.inr rfl), ?_⟩
    have ho : off [(8, 1, 4)] σ (uI σ 8 1 4 ((A.1 - 1) * 12 + (A.2.2.2.1 (A.1 - 1) - 1)) x1) := off_uI (off_rf _ _) (by decide)
    refine h1 _ hx ho ⟨by rw [off_1 ho (by decide)]; exact c1, by show cDC _ (dH (aTm A t) A.1); rw [dH_tm]; exact cDC_off ho (by decide) (by decide) (by decide) (by decide) c.2.1, fun h hh => ?_⟩
    have hh : h < A.1 := hh
    obtain ⟨b1, b2, b3, b4⟩ := c.2.2 h hh
    simp only at b1 b2 b3 b4
    have vh2 := v.2.2.2 h hh
    simp only at vh2
    refine ⟨by rw [off_1 ho (by decide)]; exact b1, by rw [off_1 ho (by decide)]; exact b2, Or.inr ?_, fun i hi => ⟨by show _ = nI (ixD (dH (aTm A t) A.1) (A.2.2.2.2.1 h i)); rw [dH_tm, off_1 ho (by decide)]; exact (b4 i hi).1, Or.inr ?_⟩⟩
    · rw [off_1 ho (by decide)]
      rcases b3 with y | y
      · omega
      · exact y
    · have hi : i < A.2.2.2.1 h := hi
      show (uI σ 8 1 4 _ x1).1 8 1 4 (h * 12 + i) = nI (up2 A.2.2.2.2.2 (A.1 - 1) (A.2.2.2.1 (A.1 - 1) - 1) t h i)
      rw [uI_if]
      have := vh2.2.1
      by_cases z : h = A.1 - 1 ∧ i = A.2.2.2.1 (A.1 - 1) - 1
      · rw [if_pos (by rw [z.1, z.2]), z.1, z.2, up2_k]; exact e1
      · have nz : ¬ h * 12 + i = (A.1 - 1) * 12 + (A.2.2.2.1 (A.1 - 1) - 1) := by omega
        rw [if_neg nz, up2_n z]
        rcases (b4 i hi).2 with y | y
        · exfalso
          have : h = A.1 - 1 := by omega
          rw [this] at y
          exact z ⟨this, by omega⟩
        · exact y
  refine ⟨trivial, c_countOf g (by omega) (by omega) ?_⟩
  refine b_lt g z0 (by omega) (by omega) (fun q => by omega) (fun _ => ?_)
  refine b_ge g i5 (by omega) (by omega) (fun q => by omega) (fun _ => ?_)
  refine b_lt gc z0 (by omega) (by omega) (fun q => by omega) (fun _ => ?_)
  refine b_ge gc i12 (by omega) (by omega) (fun q => by omega) (fun _ => ?_)
  refine b_le gc z0 (by omega) (by omega) (fun q => ?_) (fun q => ?_)
  · exact put _ (by omega) (fun z => by have := z.1; omega)
  · have g2 : σ.1 8 1 7 (A.1 - 1) - Int32.ofInt 1 - Int32.ofInt 1 = nI (A.2.2.2.1 (A.1 - 1) - 2) := il_sub1 (by rw [gc]; congr 1; omega)
    refine ⟨trivial, c_timeOf g g2 (by omega) (by omega) (by omega) ?_⟩
    have tv : σ.1 8 1 4 ((A.1 - 1) * 12 + (A.2.2.2.1 (A.1 - 1) - 2)) = nI (A.2.2.2.2.2 (A.1 - 1) (A.2.2.2.1 (A.1 - 1) - 2)) := by
      rcases (a4 (A.2.2.2.1 (A.1 - 1) - 2) (by omega)).2 with y | y
      · omega
      · exact y
    have tb : A.2.2.2.2.2 (A.1 - 1) (A.2.2.2.1 (A.1 - 1) - 2) ≤ 999 := by
      rcases vh.2.2.2.2.2 (A.2.2.2.1 (A.1 - 1) - 2) (by omega) with y | y
      · omega
      · exact y
    refine b_gt e1 tv (by omega) (by omega) (fun q2 => ?_) (fun q2 => ?_)
    · exact put _ (by omega) (fun z => by have := z.2; omega)
    · exact ⟨Or.inr (Or.inl rfl), h0 ⟨by omega, q2⟩⟩
end SPE
