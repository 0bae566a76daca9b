/-! the reference counts VOTES -/
theorem wcI_inj {c d : Nat} (hc : c ≤ 60) (hd : d ≤ 60) : wcI c = wcI d ↔ c = d := by
  unfold wcI
  constructor
  · intro h
    by_cases a : c = 60
    · by_cases b : d = 60
      · omega
      · rw [if_pos a, if_neg b] at h
        exact absurd (show nI d < 0 by rw [← h]; decide) (nI_pos (by omega))
    · by_cases b : d = 60
      · rw [if_neg a, if_pos b] at h
        exact absurd (show nI c < 0 by rw [h]; decide) (nI_pos (by omega))
      · rw [if_neg a, if_neg b] at h
        exact (nI_eq (by omega) (by omega)).mp h
  · intro h; rw [h]
abbrev gOff : List RF := [(11, 0, 37), (11, 0, 38), (11, 0, 39), (11, 0, 40)]
/-- words alone -/
def vwO (S : SPc) (R : RUc) (E : NEc) (s : Nat) : VF := fun h => match E.th s h with
  | some i => some (S.wd h i, 100 * R.wt h)
  | none => none
theorem vwO_t {S : SPc} {R : RUc} {E : NEc} {s h i : Nat} (q : E.th s h = some i) : vwO S R E s h = some (S.wd h i, 100 * R.wt h) := by unfold vwO; rw [q]
theorem vwO_n {S : SPc} {R : RUc} {E : NEc} {s h : Nat} (q : E.th s h = none) : vwO S R E s h = none := by unfold vwO; rw [q]
theorem vw_c {S : SPc} {R : RUc} {E : NEc} {s h c p : Nat} (hS : vSP S) (hE : vNE S E) (hs : s < E.ns) (q : vwO S R E s h = some (c, p)) : c < 60 ∧ vcO S R E s h = some (c, p) := by
  cases t : E.th s h with
  | none => rw [vwO_n t] at q; cases q
  | some i =>
    rw [vwO_t t] at q
    cases q
    have h1 := hE.2.2.2.2.1 s h i hs t
    have h3 := (hS.2.2.1 h h1.1 i h1.2.1).1
    have h60 := hS.2.2.2.1
    exact ⟨by omega, vcO_t t⟩
theorem vw_of {S : SPc} {R : RUc} {E : NEc} {s h c p : Nat} (q : vcO S R E s h = some (c, p)) (hc : c ≠ 60) : vwO S R E s h = some (c, p) := by
  cases t : E.th s h with
  | some i => rw [vcO_t t] at q; rw [vwO_t t]; exact q
  | none =>
    exfalso
    unfold vcO at q
    rw [t] at q
    simp only at q
    split at q
    · cases q; exact hc rfl
    · cases q
theorem vw_vcF {S : SPc} {R : RUc} {E : NEc} {s : Nat} (hS : vSP S) (hE : vNE S E) (hs : s < E.ns) {n c : Nat} : vcF (vwO S R E s) n c ↔ (c ≠ 60 ∧ vcF (vcO S R E s) n c) := by
  constructor
  · rintro ⟨h, hh, p, q⟩
    have := vw_c hS hE hs q
    exact ⟨by omega, h, hh, p, this.2⟩
  · rintro ⟨hc, h, hh, p, q⟩
    exact ⟨h, hh, p, vw_of q hc⟩
theorem vw_pt {S : SPc} {R : RUc} {E : NEc} {s : Nat} (hS : vSP S) (hE : vNE S E) (hs : s < E.ns) {c : Nat} (hc : c ≠ 60) (n : Nat) : ptF (vwO S R E s) n c = ptF (vcO S R E s) n c := by
  apply sm_congr
  intro h _
  cases q : vwO S R E s h with
  | some z =>
    obtain ⟨d, p⟩ := z
    rw [vP_s q, vP_s (vw_c hS hE hs q).2]
  | none =>
    rw [vP_n q]
    cases q2 : vcO S R E s h with
    | none => rw [vP_n q2]
    | some z =>
      obtain ⟨d, p⟩ := z
      rw [vP_s q2]
      by_cases e : d = c
      · exfalso
        rw [vw_of q2 (by omega)] at q
        cases q
      · rw [if_neg e]
theorem vw_to {S : SPc} {R : RUc} {E : NEc} {s : Nat} (hS : vSP S) (hE : vNE S E) (hs : s < E.ns) (n : Nat) : toF (vcO S R E s) n = toF (vwO S R E s) n + ptF (vcO S R E s) n 60 := by
  unfold toF ptF
  rw [← sm_add]
  apply sm_congr
  intro h _
  cases q : vwO S R E s h with
  | some z =>
    obtain ⟨d, p⟩ := z
    have := vw_c hS hE hs q
    rw [vA_s q, vA_s this.2, vP_s this.2, if_neg (by omega)]; rfl
  | none =>
    rw [vA_n q]
    cases q2 : vcO S R E s h with
    | none => rw [vA_n q2, vP_n q2]
    | some z =>
      obtain ⟨d, p⟩ := z
      rw [vA_s q2, vP_s q2]
      by_cases e : d = 60
      · rw [if_pos e, Nat.zero_add]
      · rw [vw_of q2 e] at q; cases q
/-- a list of all choices -/
def vJ (F : VF) (n : Nat) (ch : Nat → Nat) : Prop := (∀ i, i < n → vcF F 5 (ch i)) ∧ (∀ c, vcF F 5 c → ∃ i, i < n ∧ ch i = c) ∧ (∀ i j, i < n → j < n → ch i = ch j → i = j) ∧ sm (fun i => ptF F 5 (ch i)) n = toF F 5
theorem vJ_no {S : SPc} {R : RUc} {E : NEc} {s n : Nat} {ch : Nat → Nat} (hS : vSP S) (hE : vNE S E) (hs : s < E.ns) (v : vI (vwO S R E s) 5 n ch) (hg : ¬ vcF (vcO S R E s) 5 60) : vJ (vcO S R E s) n ch := by
  obtain ⟨_, v2, v3, v4, v5⟩ := v
  refine ⟨fun i hi => ((vw_vcF hS hE hs).mp (v2 i hi)).2, fun c hc => v3 c ((vw_vcF hS hE hs).mpr ⟨fun z => hg (z ▸ hc), hc⟩), v4, ?_⟩
  rw [vw_to hS hE hs, ptF_0 hg, Nat.add_zero, ← v5]
  exact sm_congr (fun i hi => (vw_pt hS hE hs ((vw_vcF hS hE hs).mp (v2 i hi)).1 5).symm)
theorem vJ_yes {S : SPc} {R : RUc} {E : NEc} {s n : Nat} {ch : Nat → Nat} (hS : vSP S) (hE : vNE S E) (hs : s < E.ns) (v : vI (vwO S R E s) 5 n ch) (hg : vcF (vcO S R E s) 5 60) : vJ (vcO S R E s) (n + 1) (fun i => if i = n then 60 else ch i) := by
  obtain ⟨_, v2, v3, v4, v5⟩ := v
  have n60 : ∀ i, i < n → ch i ≠ 60 := fun i hi => ((vw_vcF hS hE hs).mp (v2 i hi)).1
  refine ⟨fun i hi => ?_, fun c hc => ?_, fun i j hi hj e => ?_, ?_⟩
  · by_cases e : i = n
    · simp only [if_pos e]; exact hg
    · simp only [if_neg e]; exact ((vw_vcF hS hE hs).mp (v2 i (by omega))).2
  · by_cases e : c = 60
    · exact ⟨n, by omega, by show (if n = n then 60 else ch n) = c; rw [if_pos rfl, e]⟩
    · obtain ⟨i, hi, ei⟩ := v3 c ((vw_vcF hS hE hs).mpr ⟨e, hc⟩)
      exact ⟨i, by omega, by show (if i = n then 60 else ch i) = c; rw [if_neg (by omega)]; exact ei⟩
  · by_cases e1 : i = n
    · by_cases e2 : j = n
      · omega
      · simp only [if_pos e1, if_neg e2] at e
        exact absurd e.symm (n60 j (by omega))
    · by_cases e2 : j = n
      · simp only [if_neg e1, if_pos e2] at e
        exact absurd e (n60 i (by omega))
      · simp only [if_neg e1, if_neg e2] at e
        exact v4 i j (by omega) (by omega) e
  · rw [vw_to hS hE hs, ← v5, sm]
    show sm (fun i => ptF (vcO S R E s) 5 (if i = n then 60 else ch i)) n + ptF (vcO S R E s) 5 (if n = n then 60 else ch n) = _
    rw [if_pos (show n = n from rfl)]
    congr 1
    apply sm_congr
    intro i hi
    rw [if_neg (by omega)]
    exact (vw_pt hS hE hs (n60 i hi) 5).symm
theorem rnk_ofJ {F : VF} {n : Nat} {ch ch' : Nat → Nat} (v : vJ F n ch) (a1 : ∀ c, (∃ i, i < n ∧ ch' i = c) ↔ ∃ i, i < n ∧ ch i = c) (a3 : srt (ptF F 5) ch' n) : rnk F n ch' := by
  refine ⟨fun i hi => ?_, fun c hc => (a1 c).mpr (v.2.1 c hc), a3⟩
  obtain ⟨j, hj, e⟩ := (a1 (ch' i)).mp ⟨i, hi, rfl⟩
  rw [← e]
  exact v.1 j hj
def mVT (σ : ST) (F : VF) : Prop := σ.1 11 0 39 0 = nI (vtE F).1 ∧ σ.1 11 0 40 0 = nI (toF F 5) ∧ vR (σ.1 11 0 37) (σ.1 11 0 38) wcI (vtE F).1 (vtE F).2 (ptF F 5)
section GV
variable {N e m jv : Nat} {σ : ST} {Q : POST} {S : SPc} {R : RUc} {E : NEc}
set_option maxRecDepth 100000 in
theorem gv_loop {n c p : Nat} {ch pt : Nat → Nat} {x1 x2 : Int32} (e1 : x1 = wcI c) (e2 : x2 = nI p) (hn5 : n ≤ 5) (hc : c ≤ 60) (hch : ∀ i, i < n → ch i ≤ 60) (hinj : ∀ i j, i < n → j < n → ch i = ch j → i = j) (hz : (∀ i, i < n → ch i ≠ c) → pt c = 0) (hn : σ.1 11 0 39 0 = nI n) (hr : vR (σ.1 11 0 37) (σ.1 11 0 38) wcI n ch pt)
    (hQ : ∀ τ n' ch', off [(11, 0, 37), (11, 0, 38), (11, 0, 39)] σ τ → vst n ch c n' ch' → τ.1 11 0 39 0 = nI n' → vR (τ.1 11 0 37) (τ.1 11 0 38) wcI n' ch' (fun d => pt d + if d = c then p else 0) → Q none τ) :
    ∀ (r i m : Nat) (x3 : Int32), i + r = n → 20 * r + 60 ≤ m → (∀ j, j < i → ch j ≠ c) → x3 = nI i →
      wp N m (e, 0) TX11_gives 2 [some (.inr (.inr (11, 0, 0))), some (.inl x1), some (.inl x2), some (.inl x3)] [] σ Q := by
  intro r
  induction r with
  | zero =>
    intro i m x3 hr' hm hj e3
    obtain ⟨n1, rfl⟩ := il_ex (K := 60) (m := m) (by omega)
    obtain rfl : i = n := by omega
    refine b_ge e3 hn (by omega) (by omega) (fun _ => ?_) (fun q => by omega)
    have gn : σ.1 11 0 (38 + 1) 0 = nI i := hn
    refine ⟨il_in gn (by omega) (by omega), ?_⟩
    have cn1 : (σ.1 11 0 (38 + 1) 0).toNatClampNeg = i := il_cl gn (by omega)
    have gn2 : (uI σ 11 0 37 (σ.1 11 0 (38 + 1) 0).toNatClampNeg x1).1 11 0 (38 + 1) 0 = nI i := by rw [uI_nr _ _ _ _ _ _ (by decide)]; exact hn
    refine ⟨il_in gn2 (by omega) (by omega), ?_⟩
    refine hQ _ (i + 1) (fun z => if z = i then c else ch z) (off_uI (off_uI (off_uI (off_rf _ _) (by decide)) (by decide)) (by decide)) (Or.inr ⟨hj, rfl, rfl⟩) ?_ ?_
    · show (uI _ 11 0 39 0 _).1 11 0 39 0 = _
      rw [uI_at]
      show (uI (uI σ 11 0 37 _ x1) 11 0 38 _ x2).1 11 0 39 0 + Int32.ofInt 1 = _
      rw [uI_nr _ _ _ _ _ _ (by decide), uI_nr _ _ _ _ _ _ (by decide), hn, oi_1, nI_add]
    · intro z hz'
      rw [il_cl gn2 (by omega), cn1]
      refine ⟨?_, ?_⟩
      · show (uI (uI (uI σ 11 0 37 i x1) 11 0 38 i x2) 11 0 39 0 _).1 11 0 37 z = wcI (if z = i then c else ch z)
        rw [uI_nr _ _ _ _ _ _ (by decide), uI_nr _ _ _ _ _ _ (by decide), uI_if]
        by_cases q : z = i
        · rw [if_pos q, if_pos q]; exact e1
        · rw [if_neg q, if_neg q]; exact (hr z (by omega)).1
      · show (uI (uI (uI σ 11 0 37 i x1) 11 0 38 i x2) 11 0 39 0 _).1 11 0 38 z = nI (pt (if z = i then c else ch z) + if (if z = i then c else ch z) = c then p else 0)
        rw [uI_nr _ _ _ _ _ _ (by decide), uI_if]
        by_cases q : z = i
        · rw [if_pos q, if_pos q, if_pos (show c = c from rfl), hz hj, Nat.zero_add]; exact e2
        · rw [if_neg q, if_neg q, if_neg (hj z (by omega)), uI_nr _ _ _ _ _ _ (by decide)]; exact (hr z (by omega)).2
  | succ r ih =>
    intro i m x3 hr' hm hj e3
    obtain ⟨n1, rfl⟩ := il_ex (K := 20) (m := m) (by omega)
    have hci := hch i (by omega)
    have hcl : x3.toNatClampNeg = i := il_cl e3 (by omega)
    refine b_ge e3 hn (by omega) (by omega) (fun q => by omega) (fun _ => ?_)
    refine ⟨il_in e3 (by omega) (by omega), ?_⟩
    have v : σ.1 11 0 37 x3.toNatClampNeg = wcI (ch i) := by rw [hcl]; exact (hr i (by omega)).1
    refine ⟨fun q => ?_, fun q => ?_⟩
    · have q' : wcI (ch i) = wcI c := by rw [← v, ← e1]; exact q
      have q := (wcI_inj hci hc).mp q'
      refine ⟨il_in e3 (by omega) (by omega), il_in e3 (by omega) (by omega), ?_⟩
      refine hQ _ n ch (off_uI (off_rf _ _) (by decide)) (Or.inl ⟨i, by omega, q, rfl, rfl⟩) ?_ ?_
      · rw [uI_nr _ _ _ _ _ _ (by decide)]; exact hn
      · intro z hz'
        rw [hcl]
        refine ⟨?_, ?_⟩
        · rw [uI_nr _ _ _ _ _ _ (by decide)]; exact (hr z hz').1
        · rw [uI_if]
          show (if z = i then σ.1 11 0 38 i + x2 else σ.1 11 0 38 z) = nI (pt (ch z) + if ch z = c then p else 0)
          by_cases q2 : z = i
          · rw [if_pos q2, (hr i (by omega)).2, e2, nI_add, q2, if_pos q]
          · rw [if_neg q2, if_neg (fun y => q2 (hinj z i hz' (by omega) (by rw [y, q]))), Nat.add_zero]; exact (hr z hz').2
    · have q' : ¬ ch i = c := fun y => q (by show σ.1 11 0 37 x3.toNatClampNeg = x1; rw [v, y, e1])
      refine ⟨trivial, ?_⟩
      refine ⟨trivial, ih (i + 1) _ _ (by omega) (by omega) (fun j hj' => ?_) (il_inc e3)⟩
      by_cases e : j = i
      · rw [e]; exact q'
      · exact hj j (by omega)
set_option maxRecDepth 100000 in
/-- the reference's gives -/
theorem c_gives {n c p : Nat} {ch pt : Nat → Nat} {x1 x2 : Int32} (e1 : x1 = wcI c) (e2 : x2 = nI p) (hn5 : n ≤ 5) (hc : c ≤ 60) (hch : ∀ i, i < n → ch i ≤ 60) (hinj : ∀ i j, i < n → j < n → ch i = ch j → i = j) (hz : (∀ i, i < n → ch i ≠ c) → pt c = 0) (hn : σ.1 11 0 39 0 = nI n) (hr : vR (σ.1 11 0 37) (σ.1 11 0 38) wcI n ch pt) (hm : 300 ≤ m)
    (hQ : ∀ τ n' ch', off [(11, 0, 37), (11, 0, 38), (11, 0, 39)] σ τ → vst n ch c n' ch' → τ.1 11 0 39 0 = nI n' → vR (τ.1 11 0 37) (τ.1 11 0 38) wcI n' ch' (fun d => pt d + if d = c then p else 0) → Q none τ) :
    wp N m (e, 0) TX11_gives 0 [some (.inr (.inr (11, 0, 0))), some (.inl x1), some (.inl x2), none] [] σ Q := by
  refine adv 2 200 (by omega) (fun n1 hn1 => ?_)
  exact gv_loop e1 e2 hn5 hc hch hinj hz hn hr hQ n 0 n1 _ (by omega) (by omega) (fun j hj => by omega) oi_0
set_option maxRecDepth 100000 in
theorem c_isAhead {a b ca cb pa pb : Nat} {x1 x2 : Int32} (e1 : x1 = nI a) (e2 : x2 = nI b) (ha : a < 6) (hb : b < 6) (hca : ca ≤ 60) (hcb : cb ≤ 60) (hne : ca ≠ cb) (hpa : pa < 2147483648) (hpb : pb < 2147483648) (wa : σ.1 11 0 37 a = wcI ca) (wb : σ.1 11 0 37 b = wcI cb) (ra : σ.1 11 0 38 a = nI pa) (rb : σ.1 11 0 38 b = nI pb) (hm : 80 ≤ m)
    (h1 : (pb < pa ∨ (pa = pb ∧ ca < cb)) → Q (some (.inl (nI 1))) σ) (h0 : ¬ (pb < pa ∨ (pa = pb ∧ ca < cb)) → Q (some (.inl (nI 0))) σ) :
    wp N m (e, 0) TX11_isAhead 0 [some (.inr (.inr (11, 0, 0))), some (.inl x1), some (.inl x2)] [] σ Q := by
  obtain ⟨n1, rfl⟩ := il_ex hm
  have ka : x1.toNatClampNeg = a := il_cl e1 (by omega)
  have kb : x2.toNatClampNeg = b := il_cl e2 (by omega)
  have va : σ.1 11 0 38 x1.toNatClampNeg = nI pa := by rw [ka]; exact ra
  have vb : σ.1 11 0 38 x2.toNatClampNeg = nI pb := by rw [kb]; exact rb
  have ua : σ.1 11 0 37 x1.toNatClampNeg = wcI ca := by rw [ka]; exact wa
  have ub : σ.1 11 0 37 x2.toNatClampNeg = wcI cb := by rw [kb]; exact wb
  have ia := il_in e1 ha (n := 6) (by omega)
  have ib := il_in e2 hb (n := 6) (by omega)
  refine ⟨ia, ib, ?_⟩
  refine b_eq va vb hpa hpb (fun q => ?_) (fun q => ?_)
  · refine ⟨ib, ?_⟩
    refine ⟨fun y => ?_, fun y => ?_⟩
    · have y : wcI cb = wcI 60 := by rw [← ub]; rw [show wcI 60 = (-2 : Int32) from rfl, ← im2]; exact y
      have y := (wcI_inj hcb (by omega)).mp y
      refine ⟨trivial, Or.inr (Or.inr rfl), h1 (Or.inr ⟨q, by omega⟩)⟩
    · have y : cb ≠ 60 := fun z => y (by show σ.1 11 0 37 x2.toNatClampNeg = (Int8.ofInt (-2)).toInt32; rw [ub, z, im2]; rfl)
      refine ⟨ia, ?_⟩
      refine ⟨fun z => ?_, fun z => ?_⟩
      · have z : wcI ca = wcI 60 := by rw [← ua]; rw [show wcI 60 = (-2 : Int32) from rfl, ← im2]; exact z
        have z := (wcI_inj hca (by omega)).mp z
        exact ⟨Or.inr (Or.inl rfl), h0 (by omega)⟩
      · have z : ca ≠ 60 := fun w => z (by show σ.1 11 0 37 x1.toNatClampNeg = (Int8.ofInt (-2)).toInt32; rw [ua, w, im2]; rfl)
        refine ⟨ia, ib, ?_⟩
        have wa' : σ.1 11 0 37 x1.toNatClampNeg = nI ca := by rw [ua]; unfold wcI; rw [if_neg z]
        have wb' : σ.1 11 0 37 x2.toNatClampNeg = nI cb := by rw [ub]; unfold wcI; rw [if_neg y]
        refine b_ge wa' wb' (by omega) (by omega) (fun w => ?_) (fun w => ?_)
        · exact ⟨Or.inr (Or.inl rfl), h0 (by omega)⟩
        · exact ⟨trivial, Or.inr (Or.inr rfl), h1 (Or.inr ⟨q, w⟩)⟩
  · refine ⟨ia, ib, ?_⟩
    refine b_le va vb hpa hpb (fun w => ?_) (fun w => ?_)
    · exact ⟨Or.inr (Or.inl rfl), h0 (by omega)⟩
    · exact ⟨trivial, Or.inr (Or.inr rfl), h1 (Or.inl w)⟩
set_option maxRecDepth 100000 in
theorem c_swaps {i : Nat} {x1 : Int32} (e1 : x1 = nI (i + 1)) (hi : i + 1 < 6) (hm : 60 ≤ m)
    (hQ : ∀ τ, off [(11, 0, 37), (11, 0, 38)] σ τ → (∀ z, τ.1 11 0 37 z = if z = i then σ.1 11 0 37 (i + 1) else if z = i + 1 then σ.1 11 0 37 i else σ.1 11 0 37 z) → (∀ z, τ.1 11 0 38 z = if z = i then σ.1 11 0 38 (i + 1) else if z = i + 1 then σ.1 11 0 38 i else σ.1 11 0 38 z) → Q none τ) :
    wp N m (e, 0) TX11_swaps 0 [some (.inr (.inr (11, 0, 0))), some (.inl x1), none, none] [] σ Q := by
  obtain ⟨n1, rfl⟩ := il_ex hm
  have g : x1 - Int32.ofInt 1 = nI i := il_sub1 e1
  have k1 : x1.toNatClampNeg = i + 1 := il_cl e1 (by omega)
  have k0 : (x1 - Int32.ofInt 1).toNatClampNeg = i := il_cl g (by omega)
  have i1 := il_in e1 hi (n := 6) (by omega)
  have i0 := il_in g (show i < 6 by omega) (by omega)
  refine ⟨i1, i1, i0, i1, i0, i1, i0, i0, ?_⟩
  rw [k1, k0]
  refine hQ _ (off_uI (off_uI (off_uI (off_uI (off_rf _ _) (by decide)) (by decide)) (by decide)) (by decide)) (fun z => ?_) (fun z => ?_)
  · rw [uI_nr _ _ _ _ _ _ (by decide), uI_if, uI_nr _ _ _ _ _ _ (by decide), uI_if]
  · rw [uI_if]
    by_cases q : z = i
    · rw [if_pos q, if_pos q]
    · rw [if_neg q, if_neg q, uI_nr _ _ _ _ _ _ (by decide), uI_if]
      by_cases q2 : z = i + 1
      · rw [if_pos q2, if_pos q2, uI_nr _ _ _ _ _ _ (by decide)]
      · rw [if_neg q2, if_neg q2, uI_nr _ _ _ _ _ _ (by decide)]
end GV
