/-! the WAY itself, from its beginning on -/
def nxI (p i : Nat) : Nat := if p = 1 then i else i + 1
def nxS (p s : Nat) : Nat := if p = 2 then s else s + 1
def wkp (f : Nat → Nat → Nat) : Nat → Nat × Nat
  | 0 => (0, 0)
  | k + 1 => (nxI (f (wkp f k).1 (wkp f k).2) (wkp f k).1, nxS (f (wkp f k).1 (wkp f k).2) (wkp f k).2)
def wln (f : Nat → Nat → Nat) (n m : Nat) : Nat → Nat → Nat → Nat
  | 0, _, _ => 0
  | q + 1, i, s => if i = n ∧ s = m then 0 else wln f n m q (nxI (f i s) i) (nxS (f i s) s) + 1
theorem wln_end (f : Nat → Nat → Nat) (n m q : Nat) : wln f n m q n m = 0 := by cases q <;> simp [wln]
theorem wln_le (f : Nat → Nat → Nat) (n m : Nat) : ∀ q i s, wln f n m q i s ≤ q
  | 0, _, _ => Nat.le_refl _
  | q + 1, i, s => by
    rw [wln]
    split
    · omega
    · have := wln_le f n m q (nxI (f i s) i) (nxS (f i s) s)
      omega
/-- the step at (i, s) -/
def stS (S : SPc) (R : RUc) (E : NEc) (h i s : Nat) : Nat := (dwS S R E h (S.cn h - i) (E.ns - s)).2
/-- how many steps -/
def wayT (S : SPc) (R : RUc) (E : NEc) (h : Nat) : Nat := wln (stS S R E h) (S.cn h) E.ns (S.cn h + E.ns) 0 0
theorem pick3_2 (x y z : Nat) : (pick3 x y z).2 = 0 ∨ (pick3 x y z).2 = 1 ∨ (pick3 x y z).2 = 2 := by unfold pick3; split <;> split <;> simp
theorem stS_ok {S : SPc} {R : RUc} {E : NEc} {h i s : Nat} (hi : i ≤ S.cn h) (hs : s ≤ E.ns) (hne : ¬ (i = S.cn h ∧ s = E.ns)) :
    (stS S R E h i s = 0 ∧ i < S.cn h ∧ s < E.ns) ∨ (stS S R E h i s = 1 ∧ s < E.ns) ∨ (stS S R E h i s = 2 ∧ i < S.cn h) := by
  unfold stS dwS
  by_cases h1 : i = S.cn h
  · have e1 : S.cn h - i = 0 := by omega
    have e2 : E.ns - s = (E.ns - (s + 1)) + 1 := by omega
    rw [e1, e2, dwc_0s]
    exact Or.inr (Or.inl ⟨rfl, by omega⟩)
  · have e1 : S.cn h - i = (S.cn h - (i + 1)) + 1 := by omega
    by_cases h2 : s = E.ns
    · have e2 : E.ns - s = 0 := by omega
      rw [e1, e2, dwc_s0]
      exact Or.inr (Or.inr ⟨rfl, by omega⟩)
    · have e2 : E.ns - s = (E.ns - (s + 1)) + 1 := by omega
      rw [e1, e2, dwc_ss]
      rcases pick3_2 _ _ _ with q | q | q
      · exact Or.inl ⟨q, by omega, by omega⟩
      · exact Or.inr (Or.inl ⟨q, by omega⟩)
      · exact Or.inr (Or.inr ⟨q, by omega⟩)
theorem stS_nx {S : SPc} {R : RUc} {E : NEc} {h i s : Nat} (hi : i ≤ S.cn h) (hs : s ≤ E.ns) (hne : ¬ (i = S.cn h ∧ s = E.ns)) :
    nxI (stS S R E h i s) i ≤ S.cn h ∧ nxS (stS S R E h i s) s ≤ E.ns ∧ (S.cn h - nxI (stS S R E h i s) i) + (E.ns - nxS (stS S R E h i s) s) + 1 ≤ (S.cn h - i) + (E.ns - s) := by
  rcases stS_ok (R := R) hi hs hne with ⟨q, q1, q2⟩ | ⟨q, q1⟩ | ⟨q, q1⟩
  · rw [q]; unfold nxI nxS; simp only [Nat.zero_ne_one, if_false, show (0 : Nat) ≠ 2 by decide]; omega
  · rw [q]; unfold nxI nxS; simp only [if_true, show (1 : Nat) ≠ 2 by decide, if_false]; omega
  · rw [q]; unfold nxI nxS; simp only [if_true, show (2 : Nat) ≠ 1 by decide, if_false]; omega
section FS
variable {N e k : Nat} {σ : ST} {Q : POST} {S : SPc} {R : RUc} {E : NEc}
set_option maxRecDepth 100000 in
theorem fs_loop {h : Nat} (hcn : 1 ≤ S.cn h ∧ S.cn h ≤ 12) (hns : E.ns ≤ 60) {x1 x2 : Int32} (e1 : x1 = nI (S.cn h)) (e2 : x2 = nI E.ns) (htb : ∀ i s, i ≤ S.cn h → s ≤ E.ns → ¬ (i = S.cn h ∧ s = E.ns) → σ.1 9 0 6 (i * 61 + s) = nI (stS S R E h i s))
    (hQ : ∀ τ, off [(9, 0, 7), (9, 0, 8)] σ τ → τ.1 9 0 8 0 = nI (wayT S R E h) → (∀ j, j < wayT S R E h → τ.1 9 0 7 j = nI (stS S R E h (wkp (stS S R E h) j).1 (wkp (stS S R E h) j).2)) → Q none τ) :
    ∀ (q kk m i s : Nat) (τ : ST) (x3 x4 x5 : Int32), (S.cn h - i) + (E.ns - s) ≤ q → kk + q ≤ S.cn h + E.ns → wayT S R E h = kk + wln (stS S R E h) (S.cn h) E.ns q i s → wkp (stS S R E h) kk = (i, s) → i ≤ S.cn h → s ≤ E.ns → 200 * q + 200 ≤ m → off [(9, 0, 7), (9, 0, 8)] σ τ → τ.1 9 0 8 0 = nI kk →
      (∀ j, j < kk → τ.1 9 0 7 j = nI (stS S R E h (wkp (stS S R E h) j).1 (wkp (stS S R E h) j).2)) → x3 = nI i → x4 = nI s → x5 = nI kk →
      wp N m (e, 0) TX9_followSteps 6 [some (.inr (.inr (9, 0, 0))), some (.inl x1), some (.inl x2), some (.inl x3), some (.inl x4), some (.inl x5)] [] τ Q := by
  intro q
  induction q with
  | zero =>
    intro kk m i s τ x3 x4 x5 hq hk hT hw hi hs hm ho h9 h8 e3 e4 e5
    obtain ⟨n, rfl⟩ := il_ex (K := 20) (m := m) (by omega)
    have fin : Q none τ := hQ τ ho (by rw [h9, hT]; rfl) (fun j hj => h8 j (by rw [hT] at hj; exact hj))
    refine b_ge e5 rfl (by omega) (by omega) (fun _ => fin) (fun _ => ?_)
    refine b_lt e3 e1 (by omega) (by omega) (fun z => by omega) (fun _ => ?_)
    refine b_ge e4 e2 (by omega) (by omega) (fun _ => fin) (fun z => by omega)
  | succ q ih =>
    intro kk m i s τ x3 x4 x5 hq hk hT hw hi hs hm ho h9 h8 e3 e4 e5
    obtain ⟨n, rfl⟩ := il_ex (K := 100) (m := m) (by omega)
    by_cases hend : i = S.cn h ∧ s = E.ns
    · have fin : Q none τ := by
        rw [hend.1, hend.2, wln_end] at hT
        exact hQ τ ho (by rw [h9, hT]; rfl) (fun j hj => h8 j (by rw [hT] at hj; exact hj))
      refine b_ge e5 rfl (by omega) (by omega) (fun _ => fin) (fun _ => ?_)
      refine b_lt e3 e1 (by omega) (by omega) (fun z => by omega) (fun _ => ?_)
      refine b_ge e4 e2 (by omega) (by omega) (fun _ => fin) (fun z => by omega)
    · have hnx := stS_nx (R := R) hi hs hend
      have hok := stS_ok (R := R) hi hs hend
      rw [wln, if_neg hend] at hT
      have g : x3 * (Int8.ofInt 61).toInt32 + x4 = nI (i * 61 + s) := by rw [e3, e4, i61, pk_mul, nI_add]
      have v : τ.1 9 0 6 (x3 * (Int8.ofInt 61).toInt32 + x4).toNatClampNeg = nI (stS S R E h i s) := by rw [il_cl g (by omega), off_1 ho (by decide)]; exact htb i s hi hs hend
      generalize hp : stS S R E h i s = p at hnx hok v hT
      have hp2 : p ≤ 2 := by omega
      have go : ∀ n', 200 * q + 300 ≤ n' → wp N n' (e, 0) TX9_followSteps 17 [some (.inr (.inr (9, 0, 0))), some (.inl x1), some (.inl x2), some (.inl x3), some (.inl x4), some (.inl x5)] [] τ Q := by
        intro n' hn'
        obtain ⟨n2, rfl⟩ := il_ex (K := 60) (m := n') (by omega)
        refine ⟨il_in g (by omega) (by omega), ?_⟩
        refine ⟨il_in e5 (by omega) (by omega), ?_⟩
        have w8 : (uI τ 9 0 7 x5.toNatClampNeg (τ.1 9 0 6 (x3 * (Int8.ofInt 61).toInt32 + x4).toNatClampNeg)).1 9 0 7 x5.toNatClampNeg = nI p := (uI_at ..).trans v
        refine ⟨il_in e5 (by omega) (by omega), ?_⟩
        -- the last stretch
        have fin : ∀ (y3 y : Int32) (n3 : Nat), 200 * q + 210 ≤ n3 → y3 = nI (nxI p i) → x4 + y = nI (nxS p s) → wp N n3 (e, 0) TX9_followSteps 51 [some (.inr (.inr (9, 0, 0))), some (.inl x1), some (.inl x2), some (.inl y3), some (.inl x4), some (.inl x5)] [.inl y, .inl x4] (uI τ 9 0 7 x5.toNatClampNeg (τ.1 9 0 6 (x3 * (Int8.ofInt 61).toInt32 + x4).toNatClampNeg)) Q := by
          intro y3 y n3 hn3 g3 g4
          obtain ⟨n4, rfl⟩ := il_ex (K := 9) (m := n3) (by omega)
          refine ⟨trivial, ih (kk + 1) _ (nxI p i) (nxS p s) _ _ _ _ (by omega) (by omega) (by rw [hT]; omega) ?_ hnx.1 hnx.2.1 (by omega) (off_uI (off_uI ho (by decide)) (by decide)) ?_ ?_ g3 g4 (il_inc e5)⟩
          · rw [wkp, hw]; simp only [hp]
          · exact (uI_at ..).trans (il_inc e5)
          · intro j hj
            show (uI (uI τ 9 0 7 _ _) 9 0 8 _ _).1 9 0 7 j = _
            rw [uI_nr _ _ _ _ _ _ (by decide), il_cl e5 (by omega)]
            by_cases hj2 : j = kk
            · subst hj2
              rw [uI_at, v, hw]
              simp only [hp]
            · rw [uI_ne _ _ _ _ _ _ hj2]
              exact h8 j (by omega)
        have mid : ∀ (y3 : Int32) (y : Int32) (n3 : Nat), 200 * q + 240 ≤ n3 → x3 + y = nI (nxI p i) → wp N n3 (e, 0) TX9_followSteps 39 [some (.inr (.inr (9, 0, 0))), some (.inl x1), some (.inl x2), some (.inl x3), some (.inl x4), some (.inl x5)] [.inl y, .inl x3] (uI τ 9 0 7 x5.toNatClampNeg (τ.1 9 0 6 (x3 * (Int8.ofInt 61).toInt32 + x4).toNatClampNeg)) Q := by
          intro y3 y n3 hn3 g3
          obtain ⟨n4, rfl⟩ := il_ex (K := 20) (m := n3) (by omega)
          refine ⟨il_in e5 (by omega) (by omega), ?_⟩
          refine b_ne w8 i2 (by omega) (by omega) (fun z => ?_) (fun z => ?_)
          · refine adv 1 (200 * q + 210) (by omega) (fun n5 hn5 => ?_)
            exact fin _ _ n5 hn5 g3 (by rw [il_inc e4]; unfold nxS; rw [if_neg z])
          · exact ⟨trivial, fin _ _ _ (by omega) g3 (by rw [e4, oi_0, nI_add]; unfold nxS; rw [if_pos z]; rfl)⟩
        refine b_ne w8 oi_1 (by omega) (by omega) (fun z => ?_) (fun z => ?_)
        · refine adv 1 (200 * q + 240) (by omega) (fun n5 hn5 => ?_)
          exact mid 0 _ n5 hn5 (by rw [il_inc e3]; unfold nxI; rw [if_neg z])
        · exact ⟨trivial, mid 0 _ _ (by omega) (by rw [e3, oi_0, nI_add]; unfold nxI; rw [if_pos z]; rfl)⟩
      refine b_ge e5 rfl (by omega) (by omega) (fun z => by omega) (fun _ => ?_)
      refine b_lt e3 e1 (by omega) (by omega) (fun _ => go _ (by omega)) (fun z => ?_)
      refine b_ge e4 e2 (by omega) (by omega) (fun z2 => by omega) (fun _ => go _ (by omega))
set_option maxRecDepth 100000 in
theorem c_followSteps {h m : Nat} (hcn : 1 ≤ S.cn h ∧ S.cn h ≤ 12) (hns : E.ns ≤ 60) {x1 x2 : Int32} (e1 : x1 = nI (S.cn h)) (e2 : x2 = nI E.ns) (htb : ∀ i s, i ≤ S.cn h → s ≤ E.ns → ¬ (i = S.cn h ∧ s = E.ns) → σ.1 9 0 6 (i * 61 + s) = nI (stS S R E h i s)) (h9 : σ.1 9 0 8 0 = nI 0) (hm : 20000 ≤ m)
    (hQ : ∀ τ, off [(9, 0, 7), (9, 0, 8)] σ τ → τ.1 9 0 8 0 = nI (wayT S R E h) → (∀ j, j < wayT S R E h → τ.1 9 0 7 j = nI (stS S R E h (wkp (stS S R E h) j).1 (wkp (stS S R E h) j).2)) → Q none τ) :
    wp N m (e, 0) TX9_followSteps 0 [some (.inr (.inr (9, 0, 0))), some (.inl x1), some (.inl x2), none, none, none] [] σ Q := by
  refine adv 6 15000 (by omega) (fun n hn => ?_)
  exact fs_loop hcn hns e1 e2 htb hQ (S.cn h + E.ns) 0 n 0 0 σ _ _ _ (by omega) (by omega) (by rw [wayT, Nat.zero_add]) rfl (by omega) (by omega) (by omega) (off_rf _ _) h9 (fun j hj => by omega) oi_0 oi_0 oi_0
set_option maxRecDepth 100000 in
theorem pl_out (hS : vSP S) (hR : vRU S R) (hE : vNE S E) (cS : cSP σ 0 S) (cR : cRU σ 0 S R) (cE : cNE σ k E) {h M : Nat} (hM : 900000 ≤ M) (hh : h < S.nh) {x2 x3 x4 : Int32} (e2 : x2 = nI h) (e3 : x3 = nI (S.cn h)) (e4 : x4 = nI E.ns)
    (K : ∀ (m : Nat) (τ : ST) (o5 o6 o7 o8 o9 : Option AV), M ≤ m → off plOff σ τ → cFA τ S → (∀ i' s', i' ≤ S.cn h → s' ≤ E.ns → tbe S R E h (τ.1 9 0 5) (τ.1 9 0 6) i' s') → wp N m (e + 4, 0) TX9_plan 146 (plV k x2 x3 x4 o5 o6 o7 o8 o9) [] τ Q) :
    ∀ (c m : Nat) (τ : ST) (x5 : Int32) (o6 o7 o8 o9 : Option AV), c ≤ E.ns + 1 → 6000 * c + 10 + M ≤ m → off plOff σ τ → cFA τ S →
      (∀ i' s', c ≤ s' → s' ≤ E.ns → i' ≤ S.cn h → tbe S R E h (τ.1 9 0 5) (τ.1 9 0 6) i' s') → x5 = nI c - 1 →
      wp N m (e + 4, 0) TX9_plan 25 (plV k x2 x3 x4 (some (.inl x5)) o6 o7 o8 o9) [] τ Q := by
  have hns := vNE_ns hS hE
  have hcn := hS.2.1 h hh
  intro c
  induction c with
  | zero =>
    intro m τ x5 o6 o7 o8 o9 hc hm ho hf ht e5
    obtain ⟨n, rfl⟩ := il_ex (K := 2) (m := m) (by omega)
    refine b_down e5 (by omega) (fun _ => ?_) (fun i q _ => by omega)
    exact K n τ _ _ _ _ _ (by omega) ho hf (fun i' s' q1 q2 => ht i' s' (by omega) q2 q1)
  | succ s ih =>
    intro m τ x5 o6 o7 o8 o9 hc hm ho hf ht e5
    obtain ⟨n, rfl⟩ := il_ex (K := 20) (m := m) (by omega)
    refine b_down e5 (by omega) (fun q => by omega) (fun s0 q e5' => ?_)
    obtain rfl : s0 = s := by omega
    have go : ∀ (τ1 : ST) (n1 : Nat), 6000 * s0 + 5900 + M ≤ n1 → off plOff σ τ1 → cFA τ1 S → (s0 < E.ns → cLK τ1 S R E s0) → (∀ i' s', s0 + 1 ≤ s' → s' ≤ E.ns → i' ≤ S.cn h → tbe S R E h (τ1.1 9 0 5) (τ1.1 9 0 6) i' s') →
        wp N n1 (e + 4, 0) TX9_plan 34 (plV k x2 x3 x4 (some (.inl x5)) o6 o7 o8 o9) [] τ1 Q := by
      intro τ1 n1 hn1 ho1 hf1 hl1 ht1
      refine adv 2 (6000 * s0 + 5800 + M) (by omega) (fun n2 hn2 => ?_)
      refine pl_in (k := k) hS hR hE (cSP_off ho1 (by decide) cS) (cRU_off ho1 (by decide) cR) (M := 6000 * s0 + 12 + M) (by omega) hh e2 e3 e4 e5' (by omega) hl1 ?_ (S.cn h + 1) n2 τ1 _ _ _ _ (by omega) (by omega) (off_rf _ _) hf1 (fun i' s' q1 q2 q3 => ht1 i' s' (by omega) q2 q3) (fun i' q1 q2 => by omega) (by rw [e3]; exact (nI_pred _).symm)
      intro m' τ' p6 p7 p8 p9 hm' ho' hf' ht'
      obtain ⟨n', rfl⟩ := il_ex (K := 2) (m := m') (by omega)
      exact ⟨trivial, ih _ τ' _ _ _ _ _ (by omega) (by omega) (off_tr ho1 (off_in ho' (by decide))) hf' ht' (il_down e5')⟩
    refine b_ge e5' e4 (by omega) (by omega) (fun q1 => ?_) (fun q1 => ?_)
    · exact go τ _ (by omega) ho hf (fun q2 => by omega) ht
    · refine ⟨trivial, c_lookInto hS hR hE (cSP_off ho (by decide) cS) (cRU_off ho (by decide) cR) (cNE_off ho (by intro r hr; simp only [List.mem_cons, List.not_mem_nil, or_false] at hr; rintro ⟨z1, -⟩; rcases hr with rfl | rfl | rfl | rfl | rfl | rfl | rfl <;> simp at z1) cE) q1 e5' (by omega) ?_⟩
      intro τ1 ho1 hl1
      refine go τ1 _ (by omega) (off_tr ho (off_in ho1 (by decide))) (fun w v hw hv => by rw [off_1 ho1 (by decide)]; exact hf w v hw hv) (fun _ => hl1) ?_
      rw [(ho1 9 0 5 (by decide)).1, (ho1 9 0 6 (by decide)).1]
      exact ht
set_option maxRecDepth 100000 in
/-- Weaver.plan -/
theorem c_plan (hS : vSP S) (hR : vRU S R) (hE : vNE S E) (cS : cSP σ 0 S) (cR : cRU σ 0 S R) (cE : cNE σ k E) (cF : cFA σ S) {h m : Nat} (hh : h < S.nh) {x2 : Int32} (e2 : x2 = nI h) (hm : 2000000 ≤ m)
    (hQ : ∀ τ, off pOff σ τ → cFA τ S → τ.1 9 0 8 0 = nI (wayT S R E h) → (∀ j, j < wayT S R E h → τ.1 9 0 7 j = nI (stS S R E h (wkp (stS S R E h) j).1 (wkp (stS S R E h) j).2)) → Q (some (.inl (nI (dwS S R E h (S.cn h) E.ns).1))) τ) :
    wp N m (e + 4, 0) TX9_plan 0 [some (.inr (.inr (9, 0, 0))), some (.inr (.inr (3, k, 0))), some (.inl x2), none, none, none, none, none, none, none] [] σ Q := by
  have hns := vNE_ns hS hE
  have hcn := hS.2.1 h hh
  have hnh := hS.1
  have nE : ∀ {L : List RF} {τ : ST}, off L σ τ → (∀ r ∈ L, r.1 ≠ 3) → cNE τ k E := fun ho hL => cNE_off ho (fun r hr q => hL r hr q.1) cE
  obtain ⟨n, rfl⟩ := il_ex (K := 22) (m := m) (by omega)
  refine ⟨trivial, c_countOf e2 (by omega) (by omega) ?_⟩
  rw [cS.2.2.1 h hh]
  refine b_lt rfl z0 (by omega) (by omega) (fun q => by omega) (fun _ => ?_)
  refine b_gt rfl i12 (by omega) (by omega) (fun q => by omega) (fun _ => ?_)
  refine b_lt cE.1 z0 (by omega) (by omega) (fun q => by omega) (fun _ => ?_)
  refine b_le cE.1 i60 (by omega) (by omega) (fun _ => ?_) (fun q => by omega)
  refine adv 2 1990000 (by omega) (fun n1 hn1 => ?_)
  have ho1 : off [(9, 0, 8)] σ (uI σ 9 0 8 0 (Int32.ofInt 0)) := off_uI (off_rf _ _) (by decide)
  have h9 : (uI σ 9 0 8 0 (Int32.ofInt 0)).1 9 0 8 0 = nI 0 := (uI_at ..).trans oi_0
  have cF1 : cFA (uI σ 9 0 8 0 (Int32.ofInt 0)) S := fun w v hw hv => by rw [off_1 ho1 (by decide)]; exact cF w v hw hv
  refine pl_out hS hR hE (cSP_off ho1 (by decide) cS) (cRU_off ho1 (by decide) cR) (nE ho1 (by decide)) (M := 1000000) (by omega) hh e2 rfl cE.1 ?_ (E.ns + 1) n1 (uI σ 9 0 8 0 (Int32.ofInt 0)) _ _ _ _ _ (by omega) (by omega) (off_rf _ _) cF1 (fun i' s' q1 q2 q3 => by omega) (cE.1.trans (nI_pred _).symm)
  intro m2 τ2 p5 p6 p7 p8 p9 hm2 ho2 hf2 ht2
  obtain ⟨n3, rfl⟩ := il_ex (K := 20) (m := m2) (by omega)
  refine ⟨trivial, c_followSteps (R := R) hcn hns rfl cE.1 (fun i s q1 q2 q3 => (ht2 i s q1 q2).2 q3) (by rw [off_1 ho2 (by decide)]; exact h9) (by omega) ?_⟩
  intro τ3 ho3 g9 g8
  have hoa : off pOff σ τ3 := off_tr (off_tr (off_in ho1 (by decide)) (off_in ho2 (by decide))) (off_in ho3 (by decide))
  have hr : τ3.1 9 0 5 (Int32.ofInt 0).toNatClampNeg = nI (dwS S R E h (S.cn h) E.ns).1 := by
    rw [show (Int32.ofInt 0).toNatClampNeg = 0 from by decide, off_1 ho3 (by decide)]
    have := (ht2 0 0 (by omega) (by omega)).1
    rw [Nat.sub_zero, Nat.sub_zero, Nat.zero_mul, Nat.zero_add] at this
    exact this
  refine ⟨il_in oi_0 (by omega) (by omega), Or.inl rfl, ?_⟩
  have hq := hQ τ3 hoa (fun w v hw hv => by rw [off_1 ho3 (by decide)]; exact hf2 w v hw hv) g9 g8
  rw [← hr] at hq
  exact hq
end FS
