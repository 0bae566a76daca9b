/-! the reference's text: its lines, and what holds then -/
section TXT
variable {N e m : Nat} {σ : ST} {Q : POST} {n : Nat} {tb : Nat → Nat}
set_option maxRecDepth 100000 in
theorem tx_flt {f s : Nat} (hf : 1 ≤ f) (hf4 : f ≤ 4) {x1 : Int32} (h8 : σ.1 11 0 8 0 = nI f) (h9 : σ.1 11 0 9 0 = nI s) (hm : 100 ≤ m) (hQ : Q (some (.inl (-1))) (uI (uI σ 11 0 2 0 (Int32.ofInt 4)) 11 0 3 0 (nI s))) :
    wp N m (e + 1, 0) TX11_text 32 [some (.inr (.inr (11, 0, 0))), some (.inl x1)] [] σ Q := by
  obtain ⟨n1, rfl⟩ := il_ex (K := 40) (m := m) (by omega)
  refine ⟨trivial, c_isSignF (by omega) (by omega) h8 (by omega) ?_⟩
  refine b_eq (a := 0) rfl z0 (by omega) (by omega) (fun _ => ?_) (fun q => absurd rfl q)
  refine b_ne h8 z0 (by omega) (by omega) (fun _ => ?_) (fun q => by omega)
  refine b_le h8 z0 (by omega) (by omega) (fun q => by omega) (fun _ => ?_)
  refine ⟨Or.inl rfl, ?_⟩
  rw [im1]
  rw [show (uI σ 11 0 2 0 (Int32.ofInt 4)).1 11 0 9 0 = nI s by rw [uI_nr _ _ _ _ _ _ (by decide)]; exact h9]
  exact hQ
set_option maxRecDepth 100000 in
theorem tx_loop {x1 : Int32} {R0 : PRc} {M : Nat}
    (hF : ∀ f s' τ, R0 = .inl (f, s') → 1 ≤ f → f ≤ 4 → off rOfM σ τ → τ.1 11 0 8 0 = nI f → Q (some (.inl (-1))) (uI (uI τ 11 0 2 0 (Int32.ofInt 4)) 11 0 3 0 (nI s')))
    (K : ∀ m A τ, M ≤ m → R0 = .inr A → vRD A → 1 ≤ A.1 → off rOfM σ τ → mRX τ A A.1 → τ.1 11 0 24 0 = nI A.1 → τ.1 11 0 8 0 = nI 0 → wp N m (e + 5, 0) TX11_text 63 [some (.inr (.inr (11, 0, 0))), some (.inl x1)] [] τ Q) :
    ∀ (r p m : Nat) (A : RDc) (τ : ST), mTP τ n tb → p ≤ n → n + 1 ≤ p + (r + 1) → vPS ⟨6, A⟩ → 400 * r + 80000 + M ≤ m → off rOfM σ τ → mRX τ A A.1 → τ.1 11 0 24 0 = nI A.1 → mCU τ n tb p → (∀ l, (tkA n tb (tkS n tb p)).1 ≠ .wd l) → prs n tb (r + 1) ⟨6, A⟩ p = R0 →
      wp N m (e + 5, 0) TX11_text 32 [some (.inr (.inr (11, 0, 0))), some (.inl x1)] [] τ Q := by
  intro r
  induction r using Nat.strongRecOn with
  | ind r ih =>
    intro p m A τ c hp hr v hm ho hx h24 cu nwd hR
    have hn := c.2.1
    obtain ⟨n1, rfl⟩ := il_ex (K := 40) (m := m) (by omega)
    have cu' := cu
    obtain ⟨u1, u2, u3, u4⟩ := cu'
    have ck := mTK_k u4
    have kl := kdM_le (tkA n tb (tkS n tb p)).1
    refine ⟨trivial, c_isSignN u1 u4 i59 (Or.inr rfl) (by omega) (fun hpa => ?_) (fun hpa => ?_)⟩
    · have tpa : (tkA n tb (tkS n tb p)).1 = .pa := by
        rcases hpa with ⟨z, _⟩ | ⟨_, z⟩
        · cases z
        · exact z
      refine b_eq (a := 1) rfl z0 (by omega) (by omega) (fun q => by omega) (fun _ => ?_)
      have st1 : stp ⟨6, A⟩ (tkA n tb (tkS n tb p)).1 = .inr ⟨0, A⟩ := by rw [tpa]; rfl
      obtain ⟨r1, er1, pr1, p2n, p2r⟩ := prs_go hp hr st1
      have v1 := vPS_pa v
      refine ⟨trivial, c_goOnM (e := e + 2) c p2n u1 u3 (by omega) ?_⟩
      intro τ1 o1 g1 g2 g3
      have ho1 : off rOfM σ τ1 := off_tr ho (off_in o1 (by decide))
      refine ⟨trivial, c_readLine (e := e) (R0 := R0) (mTP_off o1 (by decide) (by decide) c) p2n p2r v1 (mRX_off o1 (by decide) (by decide) (by decide) (by decide) (by decide) hx) (by rw [off_1 o1 (by decide)]; exact h24) ⟨by rw [off_1 o1 (by decide)]; exact u1, g1, g2, g3⟩ (by rw [← pr1]; exact hR) (by omega) (fun f s' τ2 hR' f1 f4 o2 f8 f9 => ?_) (fun A' p' r' τ2 hR' rlt v' p'n p'r o2 hx' h24' cu2 nwd' => ?_)⟩
      · exact ⟨trivial, tx_flt f1 f4 f8 f9 (by omega) (hF f s' τ2 hR' f1 f4 (off_tr ho1 o2) f8)⟩
      · exact ⟨trivial, ih r' (by omega) p' _ A' τ2 (mTP_off o2 (by decide) (by decide) (mTP_off o1 (by decide) (by decide) c)) p'n p'r v' (by omega) (off_tr ho1 o2) hx' h24' cu2 nwd' hR'.symm⟩
    · have npa : (tkA n tb (tkS n tb p)).1 ≠ .pa := fun z => hpa (Or.inr ⟨rfl, z⟩)
      refine b_eq (a := 0) rfl z0 (by omega) (by omega) (fun _ => ?_) (fun q => absurd rfl q)
      refine b_ne u1 z0 (by omega) (by omega) (fun q => absurd rfl q) (fun _ => ?_)
      refine b_eq ck oi_1 (by omega) (by omega) (fun q => ?_) (fun q => ?_)
      · have tf : (tkA n tb (tkS n tb p)).1 = .fin := by
          cases z : (tkA n tb (tkS n tb p)).1 using TK_el with
          | fin => rfl
          | no => rw [z] at q; cases q
          | wd l => rw [z] at q; cases q
          | wh v => rw [z] at q; cases q
          | pa => rw [z] at q; cases q
          | co => rw [z] at q; cases q
        have ee := vPS_end v rfl
        rw [prs_ok tf rfl] at hR
        refine b_le u1 z0 (by omega) (by omega) (fun _ => ?_) (fun q => by omega)
        exact K _ A τ (by omega) hR.symm ee.1 ee.2 ho hx h24 u1
      · have nf : (tkA n tb (tkS n tb p)).1 ≠ .fin := fun z => q (by rw [z]; rfl)
        refine ⟨trivial, c_flaw u1 (by omega) ?_⟩
        have g8 : (uI (uI τ 11 0 8 0 (Int32.ofInt 1)) 11 0 9 0 (τ.1 11 0 11 0)).1 11 0 8 0 = nI 1 := by rw [uI_nr _ _ _ _ _ _ (by decide), uI_at]; exact oi_1
        have g9 : (uI (uI τ 11 0 8 0 (Int32.ofInt 1)) 11 0 9 0 (τ.1 11 0 11 0)).1 11 0 9 0 = nI (tkS n tb p) := by rw [uI_at]; exact u2
        refine b_le g8 z0 (by omega) (by omega) (fun q => by omega) (fun _ => ?_)
        refine ⟨Or.inl rfl, ?_⟩
        rw [im1]
        have := hF 1 (tkS n tb p) _ (by rw [← hR]; exact prs_no (Or.inr nf) (st_6n npa nwd)) (by omega) (by omega) (off_uI (off_uI ho (by decide)) (by decide)) g8
        rw [show (uI (uI (uI τ 11 0 8 0 (Int32.ofInt 1)) 11 0 9 0 (τ.1 11 0 11 0)) 11 0 2 0 (Int32.ofInt 4)).1 11 0 9 0 = nI (tkS n tb p) by rw [uI_nr _ _ _ _ _ _ (by decide)]; exact g9]
        exact this
abbrev tOfM : List RF := [(11, 0, 5), (11, 0, 6), (11, 0, 7), (11, 0, 8), (11, 0, 9), (11, 0, 10), (11, 0, 11), (11, 0, 12), (11, 0, 13), (11, 0, 14), (11, 0, 15), (11, 0, 16), (11, 0, 18), (11, 0, 19), (11, 0, 20), (11, 0, 24)]
set_option maxRecDepth 100000 in
/-- text of the reference, behind its tests -/
theorem tx_13 {x1 : Int32} {M : Nat} (hn : n ≤ 600) (e1 : x1 = nI n) (ht : ∀ i, i < n → σ.1 11 0 4 i = nI (tb i) ∧ tb i < 256) (hm : 500000 + M ≤ m)
    (hF : ∀ f s' τ, prs n tb (n + 1) ⟨0, rd0⟩ 0 = .inl (f, s') → 1 ≤ f → f ≤ 4 → off tOfM σ τ → τ.1 11 0 5 0 = nI 0 → τ.1 11 0 8 0 = nI f → Q (some (.inl (-1))) (uI (uI τ 11 0 2 0 (Int32.ofInt 4)) 11 0 3 0 (nI s')))
    (K : ∀ m A τ, M ≤ m → prs n tb (n + 1) ⟨0, rd0⟩ 0 = .inr A → vRD A → 1 ≤ A.1 → off tOfM σ τ → τ.1 11 0 5 0 = nI 0 → mRX τ A A.1 → τ.1 11 0 24 0 = nI A.1 → τ.1 11 0 8 0 = nI 0 → wp N m (e + 5, 0) TX11_text 63 [some (.inr (.inr (11, 0, 0))), some (.inl x1)] [] τ Q) :
    wp N m (e + 5, 0) TX11_text 13 [some (.inr (.inr (11, 0, 0))), some (.inl x1)] [] σ Q := by
  obtain ⟨n1, rfl⟩ := il_ex (K := 40) (m := m) (by omega)
  have o0 : off tOfM σ (uI (uI (uI (uI (uI σ 11 0 6 0 x1) 11 0 5 0 (Int32.ofInt 0)) 11 0 7 0 (Int32.ofInt 0)) 11 0 8 0 (Int32.ofInt 0)) 11 0 24 0 (Int32.ofInt 0)) := off_uI (off_uI (off_uI (off_uI (off_uI (off_rf _ _) (by decide)) (by decide)) (by decide)) (by decide)) (by decide)
  have k6 : (uI (uI (uI (uI (uI σ 11 0 6 0 x1) 11 0 5 0 (Int32.ofInt 0)) 11 0 7 0 (Int32.ofInt 0)) 11 0 8 0 (Int32.ofInt 0)) 11 0 24 0 (Int32.ofInt 0)).1 11 0 6 0 = nI n := by
    rw [uI_nr _ _ _ _ _ _ (by decide), uI_nr _ _ _ _ _ _ (by decide), uI_nr _ _ _ _ _ _ (by decide), uI_nr _ _ _ _ _ _ (by decide), uI_at]; exact e1
  have k5 : (uI (uI (uI (uI (uI σ 11 0 6 0 x1) 11 0 5 0 (Int32.ofInt 0)) 11 0 7 0 (Int32.ofInt 0)) 11 0 8 0 (Int32.ofInt 0)) 11 0 24 0 (Int32.ofInt 0)).1 11 0 5 0 = nI 0 := by
    rw [uI_nr _ _ _ _ _ _ (by decide), uI_nr _ _ _ _ _ _ (by decide), uI_nr _ _ _ _ _ _ (by decide), uI_at]; exact oi_0
  have k7 : (uI (uI (uI (uI (uI σ 11 0 6 0 x1) 11 0 5 0 (Int32.ofInt 0)) 11 0 7 0 (Int32.ofInt 0)) 11 0 8 0 (Int32.ofInt 0)) 11 0 24 0 (Int32.ofInt 0)).1 11 0 7 0 = nI 0 := by
    rw [uI_nr _ _ _ _ _ _ (by decide), uI_nr _ _ _ _ _ _ (by decide), uI_at]; exact oi_0
  have k8 : (uI (uI (uI (uI (uI σ 11 0 6 0 x1) 11 0 5 0 (Int32.ofInt 0)) 11 0 7 0 (Int32.ofInt 0)) 11 0 8 0 (Int32.ofInt 0)) 11 0 24 0 (Int32.ofInt 0)).1 11 0 8 0 = nI 0 := by
    rw [uI_nr _ _ _ _ _ _ (by decide), uI_at]; exact oi_0
  have k24 : (uI (uI (uI (uI (uI σ 11 0 6 0 x1) 11 0 5 0 (Int32.ofInt 0)) 11 0 7 0 (Int32.ofInt 0)) 11 0 8 0 (Int32.ofInt 0)) 11 0 24 0 (Int32.ofInt 0)).1 11 0 24 0 = nI 0 := by
    rw [uI_at]; exact oi_0
  have c0 : mTP (uI (uI (uI (uI (uI σ 11 0 6 0 x1) 11 0 5 0 (Int32.ofInt 0)) 11 0 7 0 (Int32.ofInt 0)) 11 0 8 0 (Int32.ofInt 0)) 11 0 24 0 (Int32.ofInt 0)) n tb := ⟨k6, hn, fun i hi => by rw [off_1 o0 (by decide)]; exact ht i hi⟩
  refine ⟨trivial, c_goOnM (e := e + 2) c0 (p := 0) (by omega) k8 k7 (by omega) ?_⟩
  generalize hτ0 : uI (uI (uI (uI (uI σ 11 0 6 0 x1) 11 0 5 0 (Int32.ofInt 0)) 11 0 7 0 (Int32.ofInt 0)) 11 0 8 0 (Int32.ofInt 0)) 11 0 24 0 (Int32.ofInt 0) = τ0 at *
  intro τ1 o1 g1 g2 g3
  have ho1 : off tOfM σ τ1 := off_tr o0 (off_in o1 (by decide))
  have k51 : τ1.1 11 0 5 0 = nI 0 := by rw [off_1 o1 (by decide)]; exact k5
  refine ⟨trivial, c_readLine (e := e) (r := n) (A := rd0) (R0 := prs n tb (n + 1) ⟨0, rd0⟩ 0) (mTP_off o1 (by decide) (by decide) c0) (p := 0) (by omega) (by omega) (vPS_0 _ rfl) (fun h hh => absurd hh (Nat.not_lt_zero _)) (by rw [off_1 o1 (by decide)]; exact k24) ⟨by rw [off_1 o1 (by decide)]; exact k8, g1, g2, g3⟩ rfl (by omega) (fun f s' τ2 hR' f1 f4 o2 f8 f9 => ?_) (fun A' p' r' τ2 hR' rlt v' p'n p'r o2 hx' h24' cu2 nwd' => ?_)⟩
  · exact tx_flt f1 f4 f8 f9 (by omega) (hF f s' τ2 hR' f1 f4 (off_tr ho1 (off_in o2 (by decide))) (by rw [off_1 o2 (by decide)]; exact k51) f8)
  · refine tx_loop (σ := τ2) (R0 := prs n tb (n + 1) ⟨0, rd0⟩ 0) (M := M) (fun f s' τ3 hR2 f1 f4 o3 f8 => hF f s' τ3 hR2 f1 f4 (off_tr (off_tr ho1 (off_in o2 (by decide))) (off_in o3 (by decide))) (by rw [off_1 o3 (by decide), off_1 o2 (by decide)]; exact k51) f8) (fun m' A τ3 hm' hR2 va vb o3 hx3 h243 f8 => K m' A τ3 hm' hR2 va vb (off_tr (off_tr ho1 (off_in o2 (by decide))) (off_in o3 (by decide))) (by rw [off_1 o3 (by decide), off_1 o2 (by decide)]; exact k51) hx3 h243 f8) r' p' _ A' τ2 (mTP_off o2 (by decide) (by decide) (mTP_off o1 (by decide) (by decide) c0)) p'n p'r v' (by omega) (off_rf _ _) hx' h24' cu2 nwd' hR'.symm
end TXT
theorem ixD_un {D : DC} {l : WL} {k : Nat} (hk : k < D.length) (e : D.getD k [] = l) (hb : ∀ i, i < k → D.getD i [] ≠ l) : l ∈ D ∧ ixD D l = k := by
  have hm : l ∈ D := by
    rw [← e, List.getD_eq_getElem?_getD, List.getElem?_eq_getElem hk]
    exact List.getElem_mem hk
  refine ⟨hm, ?_⟩
  have h1 := ixD_get hm
  by_cases q : ixD D l < k
  · exact absurd h1 (hb _ q)
  · by_cases q2 : k < ixD D l
    · exact absurd e (ixD_bef q2)
    · omega
theorem notin_D {D : DC} {l : WL} (h : ∀ k, k < D.length → D.getD k [] ≠ l) : l ∉ D := by
  intro z
  have := ixD_lt z
  exact h _ this (ixD_get z)
def rdR (A : RDc) : RUc := (3, 3, 4, 999, 100, A.2.2.1)
theorem rdR_v {A : RDc} (v : vRD A) : vRU (rdS A) (rdR A) := ⟨⟨by show 1 ≤ 3; omega, by show 3 ≤ 9; omega⟩, ⟨by show 1 ≤ 3; omega, by show 3 ≤ 9; omega⟩, by show 4 ≤ 9; omega, by show 999 ≤ 999; omega, by show 100 ≤ 200; omega, fun h hh => (v.2 h hh).1⟩
abbrev hOfM : List RF := [(11, 0, 17), (11, 0, 21), (11, 0, 22), (11, 0, 23), (11, 0, 25), (11, 0, 26), (11, 0, 27), (11, 0, 30)]
/-- what holds of the first h HEARINGS and the first i words of the next -/
def hlI (τ : ST) (A : RDc) (h i : Nat) : Prop := τ.1 11 0 25 0 = nI A.1 ∧ τ.1 11 0 26 0 = nI (dI (dH A h) (A.2.2.2.2.1 h) i).length ∧ (∀ w, w < (dI (dH A h) (A.2.2.2.2.1 h) i).length → τ.2 11 0 17 w = lN (enL ((dI (dH A h) (A.2.2.2.2.1 h) i).getD w []))) ∧ (∀ g, g < h → τ.1 11 0 21 g = nI (A.2.2.2.1 g) ∧ τ.1 11 0 27 (5 + g) = nI (A.2.2.1 g)) ∧ ∀ g j, (g < h ∧ j < A.2.2.2.1 g) ∨ (g = h ∧ j < i) → τ.1 11 0 22 (12 * g + j) = nI (ixD (dI (dH A h) (A.2.2.2.2.1 h) i) (A.2.2.2.2.1 g j)) ∧ τ.1 11 0 23 (12 * g + j) = nI (A.2.2.2.2.2 g j)
section HL
variable {N e m : Nat} {σ : ST} {Q : POST} {A : RDc}
set_option maxRecDepth 100000 in
theorem hl_in (v : vRD A) (hx : mRX σ A A.1) {h M : Nat} (hh : h < A.1) {x1 : Int32} (e1 : x1 = nI h)
    (K : ∀ (m : Nat) (τ : ST) (x2 : Int32) (o3 o4 : Option AV), M ≤ m → off hOfM σ τ → hlI τ A h (A.2.2.2.1 h) → τ.1 11 0 21 h = nI (A.2.2.2.1 h) → τ.1 11 0 27 (5 + h) = nI (A.2.2.1 h) → wp N m (e + 1, 0) TX11_holds 91 [some (.inr (.inr (11, 0, 0))), some (.inl x1), some (.inl x2), o3, o4] [] τ Q) :
    ∀ (r i m : Nat) (τ : ST) (x2 : Int32) (o3 o4 : Option AV), i + r = A.2.2.2.1 h → 100 * r + 1600 + M ≤ m → off hOfM σ τ → hlI τ A h i → τ.1 11 0 21 h = nI (A.2.2.2.1 h) → τ.1 11 0 27 (5 + h) = nI (A.2.2.1 h) → x2 = nI i →
      wp N m (e + 1, 0) TX11_holds 33 [some (.inr (.inr (11, 0, 0))), some (.inl x1), some (.inl x2), o3, o4] [] τ Q := by
  have hnh := v.1
  have vh := v.2 h hh
  have hc := vh.2.1
  intro r
  induction r with
  | zero =>
    intro i m τ x2 o3 o4 hr hm ho hI h21 h27 e2
    obtain ⟨n1, rfl⟩ := il_ex (K := 8) (m := m) (by omega)
    obtain rfl : i = A.2.2.2.1 h := by omega
    refine ⟨il_in e1 (by omega) (by omega), ?_⟩
    refine b_ge e2 (show τ.1 11 0 21 x1.toNatClampNeg = nI (A.2.2.2.1 h) by rw [il_cl e1 (by omega)]; exact h21) (by omega) (by omega) (fun _ => ?_) (fun q => by omega)
    exact K _ τ _ _ _ (by omega) ho hI h21 h27
  | succ r ih =>
    intro i m τ x2 o3 o4 hr hm ho hI h21 h27 e2
    obtain ⟨n1, rfl⟩ := il_ex (K := 60) (m := m) (by omega)
    obtain ⟨i25, i26, i17, i21', i22'⟩ := hI
    have hwv := (vh.2.2 i (by omega)).1
    have vD : vDC (dI (dH A h) (A.2.2.2.2.1 h) i) := dI_v (dH_v h (fun g hg j hj => ((v.2 g (by omega)).2.2 j hj).1)) i (fun j hj => (vh.2.2 j (by omega)).1)
    have lD : (dI (dH A h) (A.2.2.2.2.1 h) i).length ≤ 59 := by
      have h1 := dI_len (dH A h) (A.2.2.2.2.1 h) i
      have h2 := dH_len A h
      have h3 : sm A.2.2.2.1 h ≤ h * 12 := sm_le (fun g hg => (v.2 g (by omega)).2.1.2)
      omega
    have gi : (Int8.ofInt 12).toInt32 * x1 + x2 = nI (12 * h + i) := by rw [e1, e2, i12, pk_mul, nI_add]
    have ji := il_in gi (show 12 * h + i < 60 by omega) (by omega)
    have cli := il_cl gi (show 12 * h + i < 2147483648 by omega)
    have rw16 : τ.2 11 0 16 (12 * h + i) = lN (enL (A.2.2.2.2.1 h i)) := by rw [off_2 ho (by decide)]; exact ((hx h hh).2.2.2 i (by omega)).1
    have rw20 : τ.1 11 0 20 (12 * h + i) = nI (A.2.2.2.2.2 h i) := by rw [off_1 ho (by decide)]; exact ((hx h hh).2.2.2 i (by omega)).2
    -- the word has its number
    have at76 : ∀ (τ' : ST) (y4 : Int32) (m' : Nat), 100 * r + 1630 + M ≤ m' → off [(11, 0, 17), (11, 0, 26)] τ τ' → y4 = nI (ixD (dI (dH A h) (A.2.2.2.2.1 h) i) (A.2.2.2.2.1 h i)) → τ'.1 11 0 26 0 = nI (dI (dH A h) (A.2.2.2.2.1 h) (i + 1)).length → (∀ w, w < (dI (dH A h) (A.2.2.2.2.1 h) (i + 1)).length → τ'.2 11 0 17 w = lN (enL ((dI (dH A h) (A.2.2.2.2.1 h) (i + 1)).getD w []))) → wp N m' (e + 1, 0) TX11_holds 76 [some (.inr (.inr (11, 0, 0))), some (.inl x1), some (.inl x2), some (.inl ((Int8.ofInt 12).toInt32 * x1 + x2)), some (.inl y4)] [] τ' Q := by
      intro τ' y4 m' hm' o1 ey h26 h17
      obtain ⟨n2, rfl⟩ := il_ex (K := 20) (m := m') (by omega)
      refine ⟨ji, ji, ji, ?_⟩
      rw [cli]
      have o2 : off [(11, 0, 22), (11, 0, 23)] τ' (uI (uI τ' 11 0 22 (12 * h + i) y4) 11 0 23 (12 * h + i) ((uI τ' 11 0 22 (12 * h + i) y4).1 11 0 20 (12 * h + i))) := off_uI (off_uI (off_rf _ _) (by decide)) (by decide)
      have ho2 : off hOfM σ _ := off_tr (off_tr ho (off_in o1 (by decide))) (off_in o2 (by decide))
      refine ⟨trivial, ih (i + 1) _ _ _ _ _ (by omega) (by omega) ho2 ⟨?_, ?_, ?_, fun g hg => ?_, fun g j hgj => ?_⟩ ?_ ?_ (il_inc e2)⟩
      · rw [off_1 o2 (by decide), off_1 o1 (by decide)]; exact i25
      · rw [off_1 o2 (by decide)]; exact h26
      · intro w hw
        rw [off_2 o2 (by decide)]; exact h17 w hw
      · rw [off_1 o2 (by decide), off_1 o2 (by decide), off_1 o1 (by decide), off_1 o1 (by decide)]; exact i21' g hg
      · have t22 : (uI (uI τ' 11 0 22 (12 * h + i) y4) 11 0 23 (12 * h + i) ((uI τ' 11 0 22 (12 * h + i) y4).1 11 0 20 (12 * h + i))).1 11 0 22 (12 * g + j) = if 12 * g + j = 12 * h + i then y4 else τ.1 11 0 22 (12 * g + j) := by
          rw [uI_nr _ _ _ _ _ _ (by decide), uI_if, off_1 o1 (by decide)]
        have t23 : (uI (uI τ' 11 0 22 (12 * h + i) y4) 11 0 23 (12 * h + i) ((uI τ' 11 0 22 (12 * h + i) y4).1 11 0 20 (12 * h + i))).1 11 0 23 (12 * g + j) = if 12 * g + j = 12 * h + i then nI (A.2.2.2.2.2 h i) else τ.1 11 0 23 (12 * g + j) := by
          rw [uI_if, uI_nr _ _ _ _ _ _ (by decide), uI_nr _ _ _ _ _ _ (by decide), off_1 o1 (by decide), off_1 o1 (by decide), rw20]
        rw [t22, t23]
        by_cases z : g = h ∧ j = i
        · obtain ⟨rfl, rfl⟩ := z
          rw [if_pos rfl, if_pos rfl]
          exact ⟨by rw [ey]; show _ = nI (ixD (adD _ _) _); rw [adD_ix], rfl⟩
        · have cg : (g < h ∧ j < A.2.2.2.1 g) ∨ (g = h ∧ j < i) := by omega
          have jb : j < 12 := by
            rcases cg with y | y
            · have := (v.2 g (by omega)).2.1.2; omega
            · omega
          rw [if_neg (by omega), if_neg (by omega)]
          have := i22' g j cg
          refine ⟨?_, this.2⟩
          rw [this.1]
          have hin : A.2.2.2.2.1 g j ∈ dI (dH A h) (A.2.2.2.2.1 h) i := by
            rcases cg with y | y
            · exact (dI_old (f := A.2.2.2.2.1 h) (dH_in (A := A) y.1 y.2).1 i).1
            · obtain ⟨rfl, y⟩ := y
              exact (dI_in y).1
          show _ = nI (ixD (adD (dI (dH A h) (A.2.2.2.2.1 h) i) (A.2.2.2.2.1 h i)) (A.2.2.2.2.1 g j))
          rw [(adD_old hin).2]
      · rw [off_1 o2 (by decide), off_1 o1 (by decide)]; exact h21
      · rw [off_1 o2 (by decide), off_1 o1 (by decide)]; exact h27
    refine ⟨il_in e1 (by omega) (by omega), ?_⟩
    refine b_ge e2 (show τ.1 11 0 21 x1.toNatClampNeg = nI (A.2.2.2.1 h) by rw [il_cl e1 (by omega)]; exact h21) (by omega) (by omega) (fun q => by omega) (fun _ => ?_)
    refine ⟨ji, ?_⟩
    rw [cli]
    refine ⟨trivial, c_find11 (j := 17) (L := 60) (k0 := (dI (dH A h) (A.2.2.2.2.1 h) i).length) (f := fun w => (dI (dH A h) (A.2.2.2.2.1 h) i).getD w []) (l := A.2.2.2.2.1 h i) rfl (by omega) (by omega) (fun k hk => vDC_get vD hk) hwv i17 i26 rw16 (by omega) (fun k hk ek eb => ?_) (fun hno => ?_)⟩
    · have ix := ixD_un hk ek eb
      refine ⟨fun _ => ?_, fun z => absurd (b_n1 (z := k) (by omega)) z⟩
      have ea : dI (dH A h) (A.2.2.2.2.1 h) (i + 1) = dI (dH A h) (A.2.2.2.2.1 h) i := by show adD _ _ = _; unfold adD; rw [if_pos ix.1]
      exact at76 τ _ _ (by omega) (off_rf _ _) (by rw [ix.2]) (by rw [ea]; exact i26) (by rw [ea]; exact i17)
    · have nin := notin_D hno
      refine ⟨fun z => absurd (show (-1 : Int32) = Int32.ofInt (-1) by rw [im1]) z, fun _ => ?_⟩
      have ea : dI (dH A h) (A.2.2.2.2.1 h) (i + 1) = dI (dH A h) (A.2.2.2.2.1 h) i ++ [A.2.2.2.2.1 h i] := by show adD _ _ = _; unfold adD; rw [if_neg nin]
      refine ⟨ji, ?_⟩
      rw [cli]
      refine ⟨il_in i26 (by omega) (by omega), ?_⟩
      rw [show (τ.1 11 0 (25 + 1) 0).toNatClampNeg = (dI (dH A h) (A.2.2.2.2.1 h) i).length from il_cl i26 (by omega)]
      refine adv 9 (100 * r + 1635 + M) (by omega) (fun n9 hn9 => ?_)
      refine at76 _ _ n9 (by omega) (off_uI (off_uL (off_rf _ _) (by decide)) (by decide)) (by rw [ixD_no nin]; exact i26) ?_ ?_
      · rw [uI_at]
        show (uL τ 11 0 17 _ _).1 11 0 26 0 + Int32.ofInt 1 = _
        rw [uL_1, ea, List.length_append]
        exact il_inc i26
      · intro w hw
        rw [ea, List.length_append] at hw
        have hw : w < (dI (dH A h) (A.2.2.2.2.1 h) i).length + 1 := hw
        rw [uI_2, uL_if, ea]
        by_cases z : w = (dI (dH A h) (A.2.2.2.2.1 h) i).length
        · rw [if_pos z, z, rw16, List.getD_eq_getElem?_getD, List.getElem?_append_right (Nat.le_refl _)]
          simp
        · rw [if_neg z, i17 w (by omega), List.getD_eq_getElem?_getD, List.getD_eq_getElem?_getD, List.getElem?_append_left (by omega)]
set_option maxRecDepth 100000 in
theorem hl_out (v : vRD A) (hx : mRX σ A A.1) (hQ : ∀ τ, off hOfM σ τ → mSP τ (rdS A) → mRU (τ.1 11 0 27) (rdS A) (rdR A) → mNE (τ.1 11 0 27) emE → τ.1 11 0 30 0 = nI 0 → Q none τ) :
    ∀ (r h m : Nat) (τ : ST) (x1 : Int32) (o2 o3 o4 : Option AV), h + r = A.1 → 4000 * r + 3500 ≤ m → off hOfM σ τ → hlI τ A h 0 → x1 = nI h →
      wp N m (e + 1, 0) TX11_holds 9 [some (.inr (.inr (11, 0, 0))), some (.inl x1), o2, o3, o4] [] τ Q := by
  have hnh := v.1
  intro r
  induction r with
  | zero =>
    intro h m τ x1 o2 o3 o4 hr hm ho hI e1
    obtain ⟨n1, rfl⟩ := il_ex (K := 60) (m := m) (by omega)
    obtain rfl : h = A.1 := by omega
    obtain ⟨i25, i26, i17, i21', i22'⟩ := hI
    refine b_ge e1 i25 (by omega) (by omega) (fun _ => ?_) (fun q => by omega)
    refine ⟨il_in oi_0 (by omega) (by omega), il_in oi_1 (by omega) (by omega), il_in i2 (by omega) (by omega), il_in i3 (by omega) (by omega), il_in i4 (by omega) (by omega), ?_⟩
    refine ⟨trivial, c_empties (jv := 27) rfl (by omega) ?_⟩
    have e0 : (Int32.ofInt 0).toNatClampNeg = 0 := by decide
    have e1' : (Int32.ofInt 1).toNatClampNeg = 1 := by decide
    have e2' : (Int32.ofInt 2).toNatClampNeg = 2 := by decide
    have e3' : (Int32.ofInt 3).toNatClampNeg = 3 := by decide
    have e4' : (Int32.ofInt 4).toNatClampNeg = 4 := by decide
    rw [e0, e1', e2', e3', e4']
    have o1 : off [(11, 0, 27), (11, 0, 30)] τ (uI (uI (uI (uI (uI (uI (uI (uI τ 11 0 27 0 (Int32.ofInt 3)) 11 0 27 1 (Int32.ofInt 3)) 11 0 27 2 (Int32.ofInt 4)) 11 0 27 3 (Int16.ofInt 999).toInt32) 11 0 27 4 (Int8.ofInt 100).toInt32) 11 0 27 10 (nI 0)) 11 0 27 21 (nI 0)) 11 0 30 0 (Int32.ofInt 0)) := off_uI (off_uI (off_uI (off_uI (off_uI (off_uI (off_uI (off_uI (off_rf _ _) (by decide)) (by decide)) (by decide)) (by decide)) (by decide)) (by decide)) (by decide)) (by decide)
    have r27 : ∀ z, (uI (uI (uI (uI (uI (uI (uI (uI τ 11 0 27 0 (Int32.ofInt 3)) 11 0 27 1 (Int32.ofInt 3)) 11 0 27 2 (Int32.ofInt 4)) 11 0 27 3 (Int16.ofInt 999).toInt32) 11 0 27 4 (Int8.ofInt 100).toInt32) 11 0 27 10 (nI 0)) 11 0 27 21 (nI 0)) 11 0 30 0 (Int32.ofInt 0)).1 11 0 27 z = if z = 21 then nI 0 else if z = 10 then nI 0 else if z = 4 then nI 100 else if z = 3 then nI 999 else if z = 2 then nI 4 else if z = 1 then nI 3 else if z = 0 then nI 3 else τ.1 11 0 27 z := fun z => by
      rw [uI_nr _ _ _ _ _ _ (by decide), uI_if, uI_if, uI_if, uI_if, uI_if, uI_if, uI_if, i100, i999, i3, i4]
    refine hQ _ (off_tr ho (off_in o1 (by decide))) ⟨?_, ?_, fun g hg => ?_, fun g hg i hi => ?_, fun w hw => ?_⟩ ⟨?_, ?_, ?_, ?_, ?_, fun g hg => ?_⟩ ⟨?_, ?_, fun p hp => absurd hp (Nat.not_lt_zero _), fun s hs => absurd hs (Nat.not_lt_zero _)⟩ ?_
    · rw [off_1 o1 (by decide)]; exact i25
    · rw [off_1 o1 (by decide)]; exact i26
    · rw [off_1 o1 (by decide)]; exact (i21' g hg).1
    · rw [off_1 o1 (by decide), off_1 o1 (by decide)]; exact i22' g i (Or.inl ⟨hg, hi⟩)
    · rw [off_2 o1 (by decide)]; exact i17 w hw
    · rw [r27]; rfl
    · rw [r27]; rfl
    · rw [r27]; rfl
    · rw [r27]; rfl
    · rw [r27]; rfl
    · have hg : g < A.1 := hg
      rw [r27, if_neg (by omega), if_neg (by omega), if_neg (by omega), if_neg (by omega), if_neg (by omega), if_neg (by omega), if_neg (by omega)]
      exact (i21' g hg).2
    · rw [r27]; rfl
    · rw [r27]; rfl
    · rw [uI_at]; exact oi_0
  | succ r ih =>
    intro h m τ x1 o2 o3 o4 hr hm ho hI e1
    obtain ⟨n1, rfl⟩ := il_ex (K := 40) (m := m) (by omega)
    have hh : h < A.1 := by omega
    obtain ⟨i25, i26, i17, i21', i22'⟩ := hI
    have j1 := il_in e1 (show h < 5 by omega) (by omega)
    have cl1 : x1.toNatClampNeg = h := il_cl e1 (by omega)
    have g5 : Int32.ofInt 5 + x1 = nI (5 + h) := by rw [e1, i5, nI_add]
    refine b_ge e1 i25 (by omega) (by omega) (fun q => by omega) (fun _ => ?_)
    refine ⟨j1, j1, ?_⟩
    rw [cl1]
    refine ⟨j1, il_in g5 (by omega) (by omega), ?_⟩
    rw [il_cl g5 (by omega), cl1]
    have x18 : τ.1 11 0 18 h = nI (A.2.2.1 h) := by rw [off_1 ho (by decide)]; exact (hx h hh).2.1
    have x19 : τ.1 11 0 19 h = nI (A.2.2.2.1 h) := by rw [off_1 ho (by decide)]; exact (hx h hh).2.2.1
    have o1 : off [(11, 0, 21), (11, 0, 27)] τ (uI (uI τ 11 0 21 h (τ.1 11 0 19 h)) 11 0 27 (5 + h) ((uI τ 11 0 21 h (τ.1 11 0 19 h)).1 11 0 18 h)) := off_uI (off_uI (off_rf _ _) (by decide)) (by decide)
    refine adv 2 (4000 * r + 7300) (by omega) (fun n2 hn2 => ?_)
    have hc := (v.2 h hh).2.1
    refine hl_in (e := e) (M := 4000 * r + 3510) v hx hh e1 ?_ (A.2.2.2.1 h) 0 n2 _ _ _ _ (by omega) (by omega) (off_tr ho (off_in o1 (by decide))) ⟨?_, ?_, fun w hw => ?_, fun g hg => ?_, fun g j hgj => ?_⟩ ?_ ?_ oi_0
    · intro m3 τ3 x2 o3 o4 hm3 ho3 hI3 h21 h27
      obtain ⟨n3, rfl⟩ := il_ex (K := 2) (m := m3) (by omega)
      obtain ⟨k25, k26, k17, k21, k22⟩ := hI3
      refine ⟨trivial, ih (h + 1) _ τ3 _ _ _ _ (by omega) (by omega) ho3 ⟨k25, k26, k17, fun g hg => ?_, fun g j hgj => k22 g j ?_⟩ (il_inc e1)⟩
      · by_cases z : g = h
        · rw [z]; exact ⟨h21, h27⟩
        · exact k21 g (by omega)
      · rcases hgj with y | y
        · by_cases z : g = h
          · exact Or.inr ⟨z, by rw [← z]; exact y.2⟩
          · exact Or.inl ⟨by omega, y.2⟩
        · omega
    · rw [off_1 o1 (by decide)]; exact i25
    · rw [off_1 o1 (by decide)]; exact i26
    · rw [off_2 o1 (by decide)]; exact i17 w hw
    · have := i21' g hg
      refine ⟨?_, ?_⟩
      · rw [uI_nr _ _ _ _ _ _ (by decide), uI_ne _ _ _ _ _ _ (by omega)]; exact this.1
      · rw [uI_ne _ _ _ _ _ _ (by omega), uI_nr _ _ _ _ _ _ (by decide)]; exact this.2
    · rw [off_1 o1 (by decide), off_1 o1 (by decide)]
      exact i22' g j hgj
    · rw [uI_nr _ _ _ _ _ _ (by decide), uI_at]; exact x19
    · rw [uI_at, uI_nr _ _ _ _ _ _ (by decide)]; exact x18
set_option maxRecDepth 100000 in
/-- the reference's holds -/
theorem c_holdsM (v : vRD A) (hx : mRX σ A A.1) (h24 : σ.1 11 0 24 0 = nI A.1) (hm : 30000 ≤ m) (hQ : ∀ τ, off hOfM σ τ → mSP τ (rdS A) → mRU (τ.1 11 0 27) (rdS A) (rdR A) → mNE (τ.1 11 0 27) emE → τ.1 11 0 30 0 = nI 0 → Q none τ) :
    wp N m (e + 1, 0) TX11_holds 0 [some (.inr (.inr (11, 0, 0))), none, none, none, none] [] σ Q := by
  have hnh := v.1
  refine adv 9 29000 (by omega) (fun n1 hn1 => ?_)
  have o0 : off hOfM σ (uI (uI σ 11 0 25 0 (σ.1 11 0 24 0)) 11 0 26 0 (Int32.ofInt 0)) := off_uI (off_uI (off_rf _ _) (by decide)) (by decide)
  refine hl_out v hx hQ A.1 0 n1 _ _ _ _ _ (by omega) (by omega) o0 ⟨?_, ?_, fun w hw => absurd hw (Nat.not_lt_zero _), fun g hg => absurd hg (Nat.not_lt_zero _), fun g j hgj => by omega⟩ oi_0
  · rw [uI_nr _ _ _ _ _ _ (by decide), uI_at]; exact h24
  · rw [uI_at]; exact oi_0
end HL
