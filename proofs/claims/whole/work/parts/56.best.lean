/-! both searches for the best order -/
theorem cSP_eq {σ τ : ST} {k : Nat} {S : SPc} (h : ∀ j, τ.1 8 k j = σ.1 8 k j) (c : cSP σ k S) : cSP τ k S := by unfold cSP at *; simp only [h]; exact c
theorem cRU_eq {σ τ : ST} {k : Nat} {S : SPc} {R : RUc} (h : ∀ j, τ.1 7 k j = σ.1 7 k j) (c : cRU σ k S R) : cRU τ k S R := by unfold cRU at *; simp only [h]; exact c
theorem cNE_eq {σ τ : ST} {k : Nat} {E : NEc} (h : ∀ j, τ.1 3 k j = σ.1 3 k j) (c : cNE σ k E) : cNE τ k E := by unfold cNE at *; simp only [h]; exact c
theorem cFA_eq {σ τ : ST} {S : SPc} (h : τ.1 2 0 3 = σ.1 2 0 3) (c : cFA σ S) : cFA τ S := by unfold cFA at *; simp only [h]; exact c
abbrev gB : List RF := [(6, 0, 1), (2, 0, 3), (9, 0, 5), (9, 0, 6), (9, 0, 7), (9, 0, 8), (9, 0, 9), (9, 0, 10), (9, 0, 11), (4, 0, 1), (4, 0, 5)]
/-- all but the nets behind the k-th -/
def ofg (k : Nat) (σ τ : ST) : Prop := ∀ c k' j, (c, k', j) ∉ gB → ¬ (c = 3 ∧ 2 + k < k') → τ.1 c k' j = σ.1 c k' j ∧ τ.2 c k' j = σ.2 c k' j
theorem ofg_rf (k : Nat) (σ : ST) : ofg k σ σ := fun _ _ _ _ _ => ⟨rfl, rfl⟩
theorem ofg_tr {k : Nat} {σ τ υ : ST} (h : ofg k σ τ) (h2 : ofg k τ υ) : ofg k σ υ := fun c k' j a b => ⟨((h2 c k' j a b).1).trans (h c k' j a b).1, ((h2 c k' j a b).2).trans (h c k' j a b).2⟩
theorem ofg_dn {k : Nat} {σ τ : ST} (h : ofg (k + 1) σ τ) : ofg k σ τ := fun c k' j a b => h c k' j a (fun z => b ⟨z.1, by omega⟩)
theorem ofg_off {k : Nat} {L : List RF} {σ τ : ST} (h : off L σ τ) (hL : ∀ r ∈ L, r ∈ gB ∨ (r.1 = 3 ∧ 2 + k < r.2.1)) : ofg k σ τ := fun c k' j a b => h c k' j (fun z => (hL _ z).elim a b)
theorem cSP_ofg {k : Nat} {σ τ : ST} {S : SPc} (h : ofg k σ τ) (c : cSP σ 0 S) : cSP τ 0 S := cSP_eq (fun j => (h 8 0 j (by simp) (by omega)).1) c
theorem cRU_ofg {k : Nat} {σ τ : ST} {S : SPc} {R : RUc} (h : ofg k σ τ) (c : cRU σ 0 S R) : cRU τ 0 S R := cRU_eq (fun j => (h 7 0 j (by simp) (by omega)).1) c
theorem cNE_ofg {k i : Nat} {σ τ : ST} {E : NEc} (h : ofg k σ τ) (hi : i ≤ 2 + k) (c : cNE σ i E) : cNE τ i E := cNE_eq (fun j => (h 3 i j (by simp) (by omega)).1) c
def cB (σ : ST) (S : SPc) (b : BO) : Prop := (b = none ∧ σ.1 4 0 1 0 = nI 1000000) ∨ ∃ c o, b = some (c, o) ∧ c ≤ 10000 ∧ σ.1 4 0 1 0 = nI c ∧ ∀ i, i < S.nh → σ.1 4 0 5 i = nI (o i)
theorem cB_off {L : List RF} {σ τ : ST} {S : SPc} {b : BO} (h : off L σ τ) (h1 : (4, 0, 1) ∉ L) (h5 : (4, 0, 5) ∉ L) (c : cB σ S b) : cB τ S b := by
  unfold cB at *
  rw [(h 4 0 1 h1).1, (h 4 0 5 h5).1]
  exact c
section BS
variable {N e : Nat} {Q : POST} {S : SPc} {R : RUc}
set_option maxRecDepth 100000 in
theorem ko_loop {σ : ST} {k : Nat} {x2 : Int32} (hQ : ∀ τ, off [(4, 0, 5)] σ τ → (∀ i, i < 5 → τ.1 4 0 5 i = σ.1 3 k 3 i) → Q none τ) :
    ∀ (r i m : Nat) (τ : ST) (x3 : Int32), i + r = 5 → 20 * r + 40 ≤ m → off [(4, 0, 5)] σ τ → (∀ z, z < i → τ.1 4 0 5 z = σ.1 3 k 3 z) → x3 = nI i →
      wp N m (e + 1, 0) TX4_keepOrder 5 [some (.inr (.inr (4, 0, 0))), some (.inr (.inr (3, k, 0))), some (.inl x2), some (.inl x3)] [] τ Q := by
  intro r
  induction r with
  | zero =>
    intro i m τ x3 hr hm ho h1 e3
    obtain ⟨n, rfl⟩ := il_ex (K := 10) (m := m) (by omega)
    obtain rfl : i = 5 := by omega
    refine b_ge e3 i5 (by omega) (by omega) (fun _ => ?_) (fun q => by omega)
    exact hQ τ ho h1
  | succ r ih =>
    intro i m τ x3 hr hm ho h1 e3
    obtain ⟨n, rfl⟩ := il_ex (K := 15) (m := m) (by omega)
    refine b_ge e3 i5 (by omega) (by omega) (fun q => by omega) (fun _ => ?_)
    refine ⟨trivial, c_joinedAt e3 (by omega) (by omega) ?_⟩
    refine ⟨il_in e3 (by omega) (by omega), ?_⟩
    rw [il_cl e3 (by omega)]
    refine ⟨trivial, ih (i + 1) _ _ _ (by omega) (by omega) (off_uI ho (by simp)) (fun z hz => ?_) (il_inc e3)⟩
    rw [uI_if]
    by_cases q : z = i
    · rw [if_pos q, q, off_1 ho (by simp)]
    · rw [if_neg q]; exact h1 z (by omega)
set_option maxRecDepth 100000 in
theorem c_keepOrder {σ : ST} {k m : Nat} {x2 : Int32} (hm : 200 ≤ m) (hQ : ∀ τ, off [(4, 0, 1), (4, 0, 5)] σ τ → τ.1 4 0 1 0 = x2 → (∀ i, i < 5 → τ.1 4 0 5 i = σ.1 3 k 3 i) → Q none τ) :
    wp N m (e + 1, 0) TX4_keepOrder 0 [some (.inr (.inr (4, 0, 0))), some (.inr (.inr (3, k, 0))), some (.inl x2), none] [] σ Q := by
  refine adv 5 190 (by omega) (fun n hn => ?_)
  refine ko_loop (σ := uI σ 4 0 1 0 x2) ?_ 5 0 n _ _ (by omega) (by omega) (off_rf _ _) (fun z hz => absurd hz (Nat.not_lt_zero _)) oi_0
  intro τ ho h1
  refine hQ τ (off_tr (off_uI (off_rf _ _) (by simp)) (off_in ho (by decide))) ?_ (fun i hi => ?_)
  · rw [off_1 ho (by decide), uI_at]
  · rw [h1 i hi, uI_nr _ _ _ _ _ _ (by omega)]
theorem i1e6 : Int32.ofInt 1000000 = nI 1000000 := by decide
set_option maxRecDepth 100000 in
/-- Orders.goOn -/
theorem c_goOn (hS : vSP S) (hR : vRU S R) : ∀ (r : Nat) (o : Nat → Nat) (k : Nat) (b : BO) (σ : ST) (Q : POST) (m d : Nat) (x1 x2 : Int32), d = e + r + 6 → vOr S o k → k + r = S.nh → cB σ S b → (r = 0 → ∀ c0 o0, b = some (c0, o0) → obC S R o k < c0) → cFA σ S → cNE σ (2 + k) (obE S R o k) → cSP σ 0 S → cRU σ 0 S R → x1 = nI k → x2 = nI (obC S R o k) →
    2200000 + 600 * r ≤ m → (∀ τ, ofg k σ τ → cFA τ S → cB τ S (fsr S R r o k b) → Q none τ) →
    wp N m (d, 0) TX4_goOn 0 [some (.inr (.inr (4, 0, 0))), some (.inl x1), some (.inl x2), none, none, none, none] [] σ Q := by
  have hnh := hS.1
  intro r
  induction r with
  | zero =>
    intro o k b σ Q m d x1 x2 hd v hk hb hl hf hc cS cR e1 e2 hm hQ
    subst hd
    obtain ⟨n, rfl⟩ := il_ex (K := 40) (m := m) (by omega)
    have ob := obE_nj S R o k
    have hcl := obC_le hS hR v
    refine b_lt e1 z0 (by omega) (by omega) (fun q => by omega) (fun _ => ?_)
    refine b_le e1 i5 (by omega) (by omega) (fun _ => ?_) (fun q => by omega)
    refine ⟨il_in e1 (by omega) (by omega), ?_⟩
    rw [il_cl e1 (by omega)]
    have leaf : ∀ m', 300 ≤ m' → wp N m' (e + 0 + 6, 0) TX4_goOn 22 [some (.inr (.inr (4, 0, 0))), some (.inl x1), some (.inl x2), some (.inr (.inr (3, k + 2, 0))), none, none, none] [] σ Q := by
      intro m' hm'
      obtain ⟨n2, rfl⟩ := il_ex (K := 10) (m := m') (by omega)
      refine ⟨trivial, c_keepOrder (e := e + 4) (by omega) ?_⟩
      intro τ ho h1 h2
      refine hQ τ (ofg_off ho (by simp)) (cFA_eq (by rw [(ho 2 0 3 (by decide)).1]) hf) ?_
      refine Or.inr ⟨obC S R o k, o, ?_, by omega, by rw [h1, e2], fun i hi => ?_⟩
      · show upB _ _ b = _
        cases b with
        | none => rfl
        | some z =>
          obtain ⟨c0, o0⟩ := z
          exact if_pos (hl rfl c0 o0 rfl)
      · rw [h2 i (by omega), Nat.add_comm k 2, hc.2.2.1 i (by rw [ob.1]; omega), ob.2 i (by omega)]
    refine b_eq e1 i5 (by omega) (by omega) (fun q => leaf _ (by omega)) (fun q => ?_)
    refine b_ne e1 cS.1 (by omega) (by omega) (fun q => by omega) (fun _ => leaf _ (by omega))
  | succ r ih =>
    intro o k b σ Q m d x1 x2 hd v hk hb hl hf hc cS cR e1 e2 hm hQ
    subst hd
    obtain ⟨n, rfl⟩ := il_ex (K := 40) (m := m) (by omega)
    have ob := obE_nj S R o k
    have hv := obE_v (R := R) hS hR v
    have hcl := obC_le hS hR v
    refine b_lt e1 z0 (by omega) (by omega) (fun q => by omega) (fun _ => ?_)
    refine b_le e1 i5 (by omega) (by omega) (fun _ => ?_) (fun q => by omega)
    refine ⟨il_in e1 (by omega) (by omega), ?_⟩
    rw [il_cl e1 (by omega)]
    refine b_eq e1 i5 (by omega) (by omega) (fun q => by omega) (fun q => ?_)
    refine b_ne e1 cS.1 (by omega) (by omega) (fun _ => ?_) (fun q => by omega)
    have g1 : x1 + Int32.ofInt 1 = nI (k + 1) := il_inc e1
    refine ⟨il_in g1 (by omega) (by omega), ?_⟩
    rw [il_cl g1 (by omega)]
    have loop : ∀ (q h m : Nat) (τ : ST) (x5 : Int32) (o6 : Option AV), h + q = S.nh → 2200000 + 600 * r + 100 * q + 10 ≤ m → ofg k σ τ → cFA τ S → cB τ S (itB (fun h b => if (plc (obE S R o k) h).isSome = true then b else fsr S R r (exO o k h) (k + 1) b) h b) → x5 = nI h →
        wp N m (e + (r + 1) + 6, 0) TX4_goOn 36 [some (.inr (.inr (4, 0, 0))), some (.inl x1), some (.inl x2), some (.inr (.inr (3, k + 2, 0))), some (.inr (.inr (3, k + 1 + 2, 0))), some (.inl x5), o6] [] τ Q := by
      intro q
      induction q with
      | zero =>
        intro h m τ x5 o6 hq hm ho hf hb e5
        obtain ⟨n, rfl⟩ := il_ex (K := 10) (m := m) (by omega)
        obtain rfl : h = S.nh := by omega
        refine b_ge e5 (cSP_ofg ho cS).1 (by omega) (by omega) (fun _ => ?_) (fun q => by omega)
        exact hQ τ ho hf hb
      | succ q ihq =>
        intro h m τ x5 o6 hq hm ho hf hb e5
        obtain ⟨n, rfl⟩ := il_ex (K := 60) (m := m) (by omega)
        have kE : cNE τ (k + 2) (obE S R o k) := by rw [Nat.add_comm k 2]; exact cNE_ofg ho (by omega) hc
        have nxt : ∀ (τ' : ST) (p6 : Option AV) (n' : Nat), 2200000 + 600 * r + 100 * q + 12 ≤ n' → ofg k σ τ' → cFA τ' S → cB τ' S (itB (fun h b => if (plc (obE S R o k) h).isSome = true then b else fsr S R r (exO o k h) (k + 1) b) (h + 1) b) →
            wp N n' (e + (r + 1) + 6, 0) TX4_goOn 68 [some (.inr (.inr (4, 0, 0))), some (.inl x1), some (.inl x2), some (.inr (.inr (3, k + 2, 0))), some (.inr (.inr (3, k + 1 + 2, 0))), some (.inl x5), p6] [] τ' Q := by
          intro τ' p6 n' hn' ho' hf' hb'
          obtain ⟨n3, rfl⟩ := il_ex (K := 2) (m := n') (by omega)
          exact ⟨trivial, ihq (h + 1) _ τ' _ _ (by omega) (by omega) ho' hf' hb' (il_inc e5)⟩
        refine b_ge e5 (cSP_ofg ho cS).1 (by omega) (by omega) (fun q => by omega) (fun _ => ?_)
        refine ⟨trivial, c_holds (e := e + r + 5) e5 (by omega) (by omega) ?_⟩
        rw [kE.2.2.2.1 h (by omega)]
        cases hp : plc (obE S R o k) h with
        | some p =>
          have hz := plc_some hp
          rw [if_neg (show ¬ oI (-2) (some p) < 0 from nI_pos (by rw [ob.1] at hz; omega))]
          refine b_ne (a := 1) rfl z0 (by omega) (by omega) (fun _ => ?_) (fun q => by omega)
          exact nxt τ _ _ (by omega) ho hf (by rw [itB, if_pos (by rw [hp]; rfl)]; exact hb)
        | none =>
          rw [if_pos (show oI (-2) none < 0 from ne2)]
          refine b_ne (a := 0) rfl z0 (by omega) (by omega) (fun q => absurd rfl q) (fun _ => ?_)
          refine ⟨trivial, c_netCopy (e := e + r + 5) (k := k + 1 + 2) (k2 := k + 2) (by omega) hS hv kE (by omega) ?_⟩
          intro τ1 o1 c1
          have g1 : ofg k σ τ1 := ofg_tr ho (ofg_off o1 (by simp <;> omega))
          refine ⟨trivial, c_weave (k := k + 1 + 2) (e := e + (r + 1)) hS hR hv (cSP_ofg g1 cS) (cRU_ofg g1 cR) c1 (cFA_eq (by rw [(o1 2 0 3 (by simp)).1]) hf) (show h < S.nh by omega) hp e5 (by omega) ?_⟩
          intro τ2 o2 f2 c2
          have g2 : ofg k σ τ2 := ofg_tr g1 (ofg_off o2 (by simp <;> omega))
          have v' := exO_v v (show h < S.nh by omega) (obE_plc.mp hp)
          have eE : obE S R (exO o k h) (k + 1) = jnE S R (obE S R o k) h := by
            rw [obE, exO_k, obE_congr (fun p hp => exO_lt hp)]
          have eC : obC S R (exO o k h) (k + 1) = obC S R o k + ctS S R (obE S R o k) h := by
            rw [obC, exO_k, obE_congr (o := o) (o' := exO o k h) (fun p hp => exO_lt hp), obC_congr (o := o) (o' := exO o k h) (fun p hp => exO_lt hp)]
          have hcl' := obC_le hS hR v'
          have tg : x2 + nI (dwS S R (obE S R o k) h (S.cn h) (obE S R o k).ns).1 = nI (obC S R (exO o k h) (k + 1)) := by rw [e2, nI_add, eC]; rfl
          have hb2 : cB τ2 S (itB (fun h b => if (plc (obE S R o k) h).isSome = true then b else fsr S R r (exO o k h) (k + 1) b) h b) := cB_off o2 (by simp) (by simp) (cB_off o1 (by simp) (by simp) hb)
          have hst : itB (fun h b => if (plc (obE S R o k) h).isSome = true then b else fsr S R r (exO o k h) (k + 1) b) (h + 1) b = fsr S R r (exO o k h) (k + 1) (itB (fun h b => if (plc (obE S R o k) h).isSome = true then b else fsr S R r (exO o k h) (k + 1) b) h b) := by
            rw [itB, if_neg (by rw [hp]; simp)]
          generalize hB : itB (fun h b => if (plc (obE S R o k) h).isSome = true then b else fsr S R r (exO o k h) (k + 1) b) h b = B at hb2 hst
          have go : ∀ (n' : Nat), 2200000 + 600 * r + 100 * q + 20 ≤ n' → (∀ c0 o0, B = some (c0, o0) → obC S R (exO o k h) (k + 1) < c0) → wp N n' (e + (r + 1) + 6, 0) TX4_goOn 62 [some (.inr (.inr (4, 0, 0))), some (.inl x1), some (.inl x2), some (.inr (.inr (3, k + 2, 0))), some (.inr (.inr (3, k + 1 + 2, 0))), some (.inl x5), some (.inl (x2 + nI (dwS S R (obE S R o k) h (S.cn h) (obE S R o k).ns).1))] [] τ2 Q := by
            intro n' hn' hlt
            obtain ⟨n4, rfl⟩ := il_ex (K := 6) (m := n') (by omega)
            refine ⟨trivial, ih (exO o k h) (k + 1) B τ2 _ _ _ _ _ (by omega) v' (by omega) hb2 (fun _ => hlt) f2 ?_ (cSP_ofg g2 cS) (cRU_ofg g2 cR) (il_inc e1) tg (by omega) ?_⟩
            · rw [eE, Nat.add_comm 2 (k + 1)]; exact c2
            · intro τ3 o3 f3 b3
              exact nxt τ3 _ _ (by omega) (ofg_tr g2 (ofg_dn o3)) f3 (by rw [hst]; exact b3)
          rcases hb2 with ⟨bn, l1⟩ | ⟨c0, o0, bs, bc, l1, l2⟩
          · refine b_ge tg l1 (by omega) (by omega) (fun q => by omega) (fun _ => ?_)
            exact go _ (by omega) (fun c0 o0 z => by rw [bn] at z; cases z)
          · refine b_ge tg l1 (by omega) (by omega) (fun q => ?_) (fun q => ?_)
            · refine nxt τ2 _ _ (by omega) g2 f2 ?_
              rw [hst, bs, fsr_dear r _ _ q]
              exact Or.inr ⟨c0, o0, rfl, bc, l1, l2⟩
            · exact go _ (by omega) (fun c0' o0' z => by rw [bs] at z; cases z; exact q)
    refine adv 3 (2200000 + 600 * r + 510) (by omega) (fun n2 hn2 => ?_)
    exact loop S.nh 0 n2 σ _ _ (by omega) (by omega) (ofg_rf _ _) hf hb oi_0
/-- what Orders keeps -/
def cKN (σ : ST) (S : SPc) (R : RUc) : Prop := σ.1 4 0 1 0 = nI (bsC S R) ∧ ∀ i, i < S.nh → σ.1 4 0 5 i = nI (bsW S R i)
set_option maxRecDepth 100000 in
/-- Orders.find -/
theorem c_find {σ : ST} {m : Nat} (hS : vSP S) (hR : vRU S R) (h0 : 0 < S.nh) (cS : cSP σ 0 S) (cR : cRU σ 0 S R) (cF : cFA σ S) (c12 : cNE σ 2 emE) (hk : σ.1 4 0 2 0 = 0 ∨ (σ.1 4 0 2 0 = 1 ∧ cKN σ S R)) (hm : 2300000 ≤ m)
    (hQ : ∀ τ, (∀ c k' j, (c, k', j) ∉ ((4, 0, 2) :: gB) → ¬ (c = 3 ∧ 2 < k') → τ.1 c k' j = σ.1 c k' j ∧ τ.2 c k' j = σ.2 c k' j) → cFA τ S → τ.1 4 0 2 0 = 1 → cKN τ S R → Q none τ) :
    wp N m (e + S.nh + 7, 0) TX4_find 0 [some (.inr (.inr (4, 0, 0)))] [] σ Q := by
  have hnh := hS.1
  obtain ⟨n, rfl⟩ := il_ex (K := 20) (m := m) (by omega)
  rcases hk with hk | ⟨hk, kn⟩
  · refine ⟨fun q => absurd hk q, fun _ => ?_⟩
    refine ⟨trivial, c_goOn (e := e) hS hR S.nh (fun _ => 0) 0 none _ _ _ _ _ _ rfl ⟨fun p hp => absurd hp (Nat.not_lt_zero _), fun p q hp => absurd hp (Nat.not_lt_zero _)⟩ (by omega) (Or.inl ⟨rfl, by rw [uI_at]; exact i1e6⟩) (fun _ c0 o0 z => by cases z) (cFA_eq (by rw [(uI_off σ 4 0 1 0 _ 2 0 3 (by decide)).1]) cF) (cNE_eq (fun j => by rw [(uI_off σ 4 0 1 0 _ 3 2 j (by omega)).1]) c12) (cSP_eq (fun j => by rw [(uI_off σ 4 0 1 0 _ 8 0 j (by omega)).1]) cS) (cRU_eq (fun j => by rw [(uI_off σ 4 0 1 0 _ 7 0 j (by omega)).1]) cR) oi_0 oi_0 (by omega) ?_⟩
    intro τ ho hf hb
    have hb : cB τ S (bsO S R) := hb
    rw [bsO_ok hS hR] at hb
    refine ⟨Or.inr rfl, ?_⟩
    refine hQ _ (fun c k' j a b => ?_) (cFA_eq (by rw [(uI_off τ 4 0 2 0 _ 2 0 3 (by decide)).1]) hf) (by rw [uI_at]; rfl) ?_
    · have n2 : ¬ (c = 4 ∧ k' = 0 ∧ j = 2) := fun z => a (by obtain ⟨rfl, rfl, rfl⟩ := z; simp)
      have n1 : ¬ (c = 4 ∧ k' = 0 ∧ j = 1) := fun z => a (by obtain ⟨rfl, rfl, rfl⟩ := z; simp)
      have h1 := uI_off τ 4 0 2 0 (Int32.ofInt 1) c k' j n2
      have h2 := ho c k' j (fun z => a (List.mem_cons_of_mem _ z)) (by omega)
      have h3 := uI_off σ 4 0 1 0 (Int32.ofInt 1000000) c k' j n1
      exact ⟨h1.1.trans (h2.1.trans h3.1), h1.2.trans (h2.2.trans h3.2)⟩
    · rcases hb with ⟨z, _⟩ | ⟨c, o, z, _, l1, l2⟩
      · cases z
      · cases z
        refine ⟨?_, fun i hi => ?_⟩
        · show (uI τ 4 0 2 0 _).1 4 0 1 0 = _
          rw [uI_nr _ _ _ _ _ _ (by decide)]; exact l1
        · show (uI τ 4 0 2 0 _).1 4 0 5 i = _
          rw [uI_nr _ _ _ _ _ _ (by decide)]; exact l2 i hi
  · refine ⟨fun _ => ?_, fun q => absurd (show ¬ σ.1 4 0 2 0 = 0 by rw [hk]; decide) q⟩
    exact hQ σ (fun c k' j a b => ⟨rfl, rfl⟩) cF hk kn
end BS
