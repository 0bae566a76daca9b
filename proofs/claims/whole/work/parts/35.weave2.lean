theorem i1m : Int32.ofInt 1 = (1 : Int32) := by decide
abbrev vOff (k : Nat) : List RF := [(6, 0, 1), (2, 0, 3), (9, 0, 5), (9, 0, 6), (9, 0, 7), (9, 0, 8), (9, 0, 9), (9, 0, 10), (9, 0, 11), (3, k, 1), (3, k, 2), (3, k, 3), (3, k, 4), (3, k, 5), (3, k, 6)]
section WV
variable {N e k : Nat} {σ : ST} {Q : POST} {S : SPc} {R : RUc} {E : NEc}
set_option maxRecDepth 100000 in
theorem wv_loop {h M : Nat} (hM : 2000 ≤ M) (hh5 : h < 5) (hT60 : wayT S R E h ≤ 60) (hthn : ∀ s, s < E.ns → E.th s h = none) {x2 x3 : Int32} (e2 : x2 = nI h) (h9 : σ.1 9 0 8 0 = nI (wayT S R E h)) (h8 : ∀ j, j < wayT S R E h → σ.1 9 0 7 j = nI (stK S R E h j))
    (K : ∀ (m : Nat) (τ : ST) (x4 x5 x6 : Int32), M ≤ m → off [(3, k, 6)] σ τ → (∀ t, t < wayT S R E h → ∀ g, g < 5 → τ.1 3 k 6 (t * 5 + g) = oI (-2) (thJ S R E h t g)) → wp N m (e + 2, 0) TX9_weave 60 [some (.inr (.inr (9, 0, 0))), some (.inr (.inr (3, k, 0))), some (.inl x2), some (.inl x3), some (.inl x4), some (.inl x5), some (.inl x6)] [] τ Q) :
    ∀ (c m : Nat) (τ : ST) (x4 x5 x6 : Int32), c ≤ wayT S R E h → 300 * c + 100 + M ≤ m → off [(3, k, 6)] σ τ → (∀ t, c ≤ t → t < wayT S R E h → ∀ g, g < 5 → τ.1 3 k 6 (t * 5 + g) = oI (-2) (thJ S R E h t g)) → (∀ s, s < wkS S R E h c → ∀ g, g < 5 → τ.1 3 k 6 (s * 5 + g) = oI (-2) (E.th s g)) →
      x4 = nI (wkI S R E h c) → x5 = nI (wkS S R E h c) → x6 = nI c - 1 →
      wp N m (e + 2, 0) TX9_weave 31 [some (.inr (.inr (9, 0, 0))), some (.inr (.inr (3, k, 0))), some (.inl x2), some (.inl x3), some (.inl x4), some (.inl x5), some (.inl x6)] [] τ Q := by
  intro c
  induction c with
  | zero =>
    intro m τ x4 x5 x6 hc hm ho h1 h2 e4 e5 e6
    obtain ⟨n, rfl⟩ := il_ex (K := 2) (m := m) (by omega)
    refine b_down e6 (by omega) (fun _ => ?_) (fun i q _ => by omega)
    exact K n τ _ _ _ (by omega) ho (fun t ht g hg => h1 t (by omega) ht g hg)
  | succ c ih =>
    intro m τ x4 x5 x6 hc hm ho h1 h2 e4 e5 e6
    obtain ⟨n, rfl⟩ := il_ex (K := 100) (m := m) (by omega)
    have hok := wk_ok (S := S) (R := R) (E := E) (h := h) (k := c) (by omega)
    have hsle := wkS_le (S := S) (R := R) (E := E) (h := h) c
    have q9 : ∀ τ', off [(3, k, 6)] σ τ' → τ'.1 9 0 8 0 = nI (wayT S R E h) := fun τ' ho' => by rw [off_1 ho' (by simp)]; exact h9
    have q8 : ∀ τ', off [(3, k, 6)] σ τ' → τ'.1 9 0 7 c = nI (stK S R E h c) := fun τ' ho' => by rw [off_1 ho' (by simp)]; exact h8 c (by omega)
    refine b_down e6 (by omega) (fun q => by omega) (fun c0 q e6' => ?_)
    obtain rfl : c0 = c := by omega
    clear e6
    have nxt : ∀ (τ' : ST) (y4 y5 : Int32) (n' : Nat), 300 * c0 + 110 + M ≤ n' → off [(3, k, 6)] σ τ' → (∀ s g, g < 5 → s ≠ c0 → τ'.1 3 k 6 (s * 5 + g) = τ.1 3 k 6 (s * 5 + g)) → (∀ g, g < 5 → τ'.1 3 k 6 (c0 * 5 + g) = oI (-2) (thJ S R E h c0 g)) → y4 = nI (wkI S R E h c0) → y5 = nI (wkS S R E h c0) →
        wp N n' (e + 2, 0) TX9_weave 58 [some (.inr (.inr (9, 0, 0))), some (.inr (.inr (3, k, 0))), some (.inl x2), some (.inl x3), some (.inl y4), some (.inl y5), some (.inl x6)] [] τ' Q := by
      intro τ' y4 y5 n' hn' ho' r1 r2 g4 g5
      obtain ⟨n2, rfl⟩ := il_ex (K := 2) (m := n') (by omega)
      refine ⟨trivial, ih _ τ' _ _ _ (by omega) (by omega) ho' ?_ ?_ g4 g5 (il_down e6')⟩
      · intro t ht1 ht2 g hg
        by_cases q : t = c0
        · subst q; exact r2 g hg
        · rw [r1 t g hg q]; exact h1 t (by omega) ht2 g hg
      · intro s hs g hg
        rw [r1 s g hg (by omega)]
        exact h2 s (Nat.lt_of_lt_of_le hs (wkS_mono (by omega))) g hg
    -- behind the row's own move
    have mid : ∀ (τ' : ST) (y5 : Int32) (n' : Nat), 300 * c0 + 200 + M ≤ n' → off [(3, k, 6)] σ τ' → (∀ s g, g < 5 → s ≠ c0 → τ'.1 3 k 6 (s * 5 + g) = τ.1 3 k 6 (s * 5 + g)) → (∀ g, g < 5 → τ'.1 3 k 6 (c0 * 5 + g) = if stK S R E h c0 = 2 then -2 else oI (-2) (E.th (wkS S R E h c0) g)) → y5 = nI (wkS S R E h c0) →
        wp N n' (e + 2, 0) TX9_weave 47 [some (.inr (.inr (9, 0, 0))), some (.inr (.inr (3, k, 0))), some (.inl x2), some (.inl x3), some (.inl x4), some (.inl y5), some (.inl x6)] [] τ' Q := by
      intro τ' y5 n' hn' ho' r1 r2 g5
      obtain ⟨n2, rfl⟩ := il_ex (K := 50) (m := n') (by omega)
      refine ⟨trivial, c_stepOf e6' (q9 τ' ho') (by omega) (by omega) (by omega) ?_⟩
      rw [q8 τ' ho']
      refine b_eq rfl oi_1 (by omega) (by omega) (fun z => ?_) (fun z => ?_)
      · refine nxt τ' _ _ _ (by omega) ho' r1 ?_ (by rw [e4, wkI_s, if_pos z]) g5
        intro g hg
        have z2 : ¬ stK S R E h c0 = 2 := by omega
        have zs : wkS S R E h c0 < E.ns := by omega
        rw [r2 g hg, if_neg z2]
        unfold thJ
        by_cases hgh : g = h
        · rw [if_pos hgh, if_pos z, hgh, hthn _ zs]
        · rw [if_neg hgh, if_neg z2]
      · have g4 : x4 + Int32.ofInt (-1) = nI (wkI S R E h c0) := il_dec (by rw [e4, wkI_s, if_neg z])
        refine ⟨trivial, c_putThere e6' e2 (by omega) hh5 (by omega) ?_⟩
        refine nxt _ _ _ _ (by omega) (off_uI ho' (by simp)) ?_ ?_ g4 g5
        · intro s g hg hs
          rw [uI_ne _ _ _ _ _ _ (by omega)]
          exact r1 s g hg hs
        · intro g hg
          unfold thJ
          rw [if_neg z]
          by_cases hgh : g = h
          · rw [if_pos hgh, hgh, uI_at, g4]; rfl
          · rw [if_neg hgh, uI_ne _ _ _ _ _ _ (by omega), r2 g hg]
            by_cases h2' : stK S R E h c0 = 2
            · rw [if_pos h2', if_pos h2']; rfl
            · rw [if_neg h2', if_neg h2']
    refine ⟨trivial, c_stepOf e6' (q9 τ ho) (by omega) (by omega) (by omega) ?_⟩
    rw [q8 τ ho]
    refine b_ne rfl i2 (by omega) (by omega) (fun z => ?_) (fun z => ?_)
    · have g5 : x5 + Int32.ofInt (-1) = nI (wkS S R E h c0) := il_dec (by rw [e5, wkS_s, if_neg z])
      have hlt : wkS S R E h c0 < wkS S R E h (c0 + 1) := by rw [wkS_s, if_neg z]; omega
      refine ⟨trivial, c_moveSlot g5 e6' (by omega) (by omega) (by omega) ?_⟩
      intro τ' ho' r'
      refine mid τ' _ _ (by omega) (off_tr ho ho') (fun s g hg hs => by rw [r' s g hg, if_neg hs]) (fun g hg => ?_) g5
      rw [r' c0 g hg, if_pos rfl, if_neg z]
      exact h2 _ hlt g hg
    · refine ⟨trivial, c_emptySlot e6' (by omega) (by omega) ?_⟩
      intro τ' ho' r'
      refine ⟨trivial, mid τ' _ _ (by omega) (off_tr ho ho') (fun s g hg hs => by rw [r' s g hg, if_neg hs]) (fun g hg => ?_) (by rw [e5, wkS_s, if_pos z])⟩
      rw [r' c0 g hg, if_pos rfl, if_pos z]
theorem off_app {L L' : List RF} {σ τ : ST} (h : off L σ τ) (hs : ∀ r ∈ L, r ∈ L') : off L' σ τ := off_mono h hs
set_option maxRecDepth 100000 in
/-- Weaver.weave: a HEARING is joined -/
theorem c_weave (hS : vSP S) (hR : vRU S R) (hE : vNE S E) (cS : cSP σ 0 S) (cR : cRU σ 0 S R) (cE : cNE σ k E) (cF : cFA σ S) {h m : Nat} (hh : h < S.nh) (hn : plc E h = none) {x2 : Int32} (e2 : x2 = nI h) (hm : 2100000 ≤ m)
    (hQ : ∀ τ, off (vOff k) σ τ → cFA τ S → cNE τ k (jnE S R E h) → Q (some (.inl (nI (dwS S R E h (S.cn h) E.ns).1))) τ) :
    wp N m (e + 5, 0) TX9_weave 0 [some (.inr (.inr (9, 0, 0))), some (.inr (.inr (3, k, 0))), some (.inl x2), none, none, none, none] [] σ Q := by
  have hns := vNE_ns hS hE
  have hcn := hS.2.1 h hh
  have hnh := hS.1
  have hvj := vNE_jn (R := R) hS hR hE hh hn
  have hT60 : wayT S R E h ≤ 60 := vNE_ns hS hvj
  have hnj : E.nj + 1 ≤ S.nh := hvj.1
  have hthn : ∀ s, s < E.ns → E.th s h = none := by
    intro s hs
    cases q : E.th s h with
    | none => rfl
    | some i => have := (hE.2.2.2.2.1 s h i hs q).2.2; rw [hn] at this; cases this
  obtain ⟨n, rfl⟩ := il_ex (K := 100) (m := m) (by omega)
  refine b_lt e2 z0 (by omega) (by omega) (fun q => by omega) (fun _ => ?_)
  refine b_ge e2 cS.1 (by omega) (by omega) (fun q => by omega) (fun _ => ?_)
  refine ⟨trivial, c_holds e2 (by omega) (by omega) ?_⟩
  rw [cE.2.2.2.1 h (by omega), hn, if_pos (show oI (-2) none < 0 from ne2)]
  refine b_eq (a := 0) rfl z0 (by omega) (by omega) (fun _ => ?_) (fun q => by omega)
  refine ⟨trivial, c_plan hS hR hE cS cR cE cF hh e2 (by omega) ?_⟩
  intro τ1 ho1 hf1 h9 h8
  have cS1 : cSP τ1 0 S := cSP_off ho1 (by decide) cS
  have cE1 : cNE τ1 k E := cNE_off ho1 (fun r hr q => absurd q.1 ((show ∀ r ∈ pOff, r.1 ≠ 3 by decide) r hr)) cE
  refine ⟨trivial, c_countOf e2 (by omega) (by omega) ?_⟩
  rw [cS1.2.2.1 h hh]
  refine adv 9 2090000 (by omega) (fun n1 hn1 => ?_)
  have he := wk_end (S := S) (R := R) (E := E) (h := h)
  refine wv_loop (M := 10000) (by omega) (by omega) hT60 hthn e2 h9 h8 ?_ (wayT S R E h) n1 τ1 _ _ _ (Nat.le_refl _) (by omega) (off_rf _ _) (fun t h1 h2 => by omega) ?_ ?_ ?_ (by rw [i1m]; exact congrArg (fun z => z - 1) h9)
  · intro m2 τ2 x4 x5 x6 hm2 ho2 ht
    obtain ⟨n2, rfl⟩ := il_ex (K := 20) (m := m2) (by omega)
    have h92 : τ2.1 9 0 8 0 = nI (wayT S R E h) := by rw [off_1 ho2 (by simp)]; exact h9
    have cE2 : ∀ j, j ≠ 6 → ∀ z, τ2.1 3 k j z = τ1.1 3 k j z := fun j hj z => off_1 ho2 (by simp; omega) z
    refine ⟨trivial, c_addJoined (σ := uI τ2 3 k 1 0 (τ2.1 9 0 8 0)) (j := E.nj) e2 (by omega) ?_ (by omega) (by omega) ?_⟩
    · rw [uI_nr _ _ _ _ _ _ (by omega), cE2 2 (by omega)]; exact cE1.2.1
    · refine ⟨Or.inl rfl, ?_⟩
      refine hQ _ ?_ ?_ ?_
      · refine off_uI (off_uI (off_uI (off_uI (off_uI (off_tr (off_mono ho1 (by intro r hr; simp only [List.mem_cons, List.not_mem_nil, or_false] at hr ⊢; rcases hr with rfl | rfl | rfl | rfl | rfl | rfl | rfl | rfl | rfl <;> simp)) (off_mono ho2 (by simp))) (by simp)) (by simp)) (by simp)) (by simp)) (by simp)
      · intro w v hw hv
        rw [uI_nr _ _ _ _ _ _ (by omega), uI_nr _ _ _ _ _ _ (by omega), uI_nr _ _ _ _ _ _ (by omega), uI_nr _ _ _ _ _ _ (by omega), uI_nr _ _ _ _ _ _ (by omega), off_1 ho2 (by simp)]
        exact hf1 w v hw hv
      · refine ⟨?_, ?_, ?_, ?_, ?_, ?_⟩
        · rw [uI_nr _ _ _ _ _ _ (by omega), uI_nr _ _ _ _ _ _ (by omega), uI_nr _ _ _ _ _ _ (by omega), uI_nr _ _ _ _ _ _ (by omega), uI_at]
          exact h92
        · rw [uI_at]; rfl
        · intro p hp
          have hp : p < E.nj + 1 := hp
          rw [uI_nr _ _ _ _ _ _ (by omega), uI_nr _ _ _ _ _ _ (by omega), uI_nr _ _ _ _ _ _ (by omega)]
          show _ = nI (if p = E.nj then h else E.od p)
          by_cases q : p = E.nj
          · rw [if_pos q, q, uI_at, e2]
          · rw [if_neg q, uI_ne _ _ _ _ _ _ q, uI_nr _ _ _ _ _ _ (by omega), cE2 3 (by omega)]
            exact cE1.2.2.1 p (by omega)
        · intro g hg
          rw [uI_nr _ _ _ _ _ _ (by omega), uI_nr _ _ _ _ _ _ (by omega), plc_jn S R hn]
          by_cases q : g = h
          · rw [if_pos q, q, uI_at]; rfl
          · rw [if_neg q, uI_ne _ _ _ _ _ _ q, uI_nr _ _ _ _ _ _ (by omega), uI_nr _ _ _ _ _ _ (by omega), cE2 4 (by omega)]
            exact cE1.2.2.2.1 g hg
        · intro p hp
          have hp : p < E.nj + 1 := hp
          rw [uI_nr _ _ _ _ _ _ (by omega)]
          show (uI _ 3 k 5 h _).1 3 k 5 (if p = E.nj then h else E.od p) = nI (if p = E.nj then (dwS S R E h (S.cn h) E.ns).1 else E.ct p)
          by_cases q : p = E.nj
          · rw [if_pos q, if_pos q, uI_at]
          · rw [if_neg q, if_neg q, uI_ne _ _ _ _ _ _ (plc_none hn p (by omega)), uI_nr _ _ _ _ _ _ (by omega), uI_nr _ _ _ _ _ _ (by omega), uI_nr _ _ _ _ _ _ (by omega), cE2 5 (by omega)]
            exact cE1.2.2.2.2.1 p (by omega)
        · intro s hs g hg
          rw [uI_nr _ _ _ _ _ _ (by omega), uI_nr _ _ _ _ _ _ (by omega), uI_nr _ _ _ _ _ _ (by omega), uI_nr _ _ _ _ _ _ (by omega), uI_nr _ _ _ _ _ _ (by omega)]
          exact ht s hs g hg
  · intro s hs g hg
    have : wkS S R E h (wayT S R E h) = E.ns := by show (wkp _ _).2 = _; rw [he]
    rw [this] at hs
    exact cE1.2.2.2.2.2 s hs g hg
  · show _ = nI (wkp _ _).1; rw [he]
  · show _ = nI (wkp _ _).2; rw [he]; exact cE1.1
end WV
