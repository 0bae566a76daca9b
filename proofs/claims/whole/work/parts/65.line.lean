/-! the reference reads a line -/
theorem uL_ne (σ : ST) (c k j i : Nat) (x : Int64) {i' : Nat} (h : i' ≠ i) : (uL σ c k j i x).2 c k j i' = σ.2 c k j i' := by unfold uL; simp [h]
theorem uL_nr (σ : ST) (c k j i : Nat) (x : Int64) {c' k' j' : Nat} (h : ¬ (c' = c ∧ k' = k ∧ j' = j)) (i' : Nat) : (uL σ c k j i x).2 c' k' j' i' = σ.2 c' k' j' i' := by rw [(uL_off σ c k j i x c' k' j' h).2]
theorem uL_if (σ : ST) (c k j i : Nat) (x : Int64) (i' : Nat) : (uL σ c k j i x).2 c k j i' = if i' = i then x else σ.2 c k j i' := by unfold uL; simp
def mRX (σ : ST) (A : RDc) (k : Nat) : Prop := ∀ h, h < k → σ.2 11 0 15 h = lN (enL (A.2.1 h)) ∧ σ.1 11 0 18 h = nI (A.2.2.1 h) ∧ σ.1 11 0 19 h = nI (A.2.2.2.1 h) ∧ ∀ i, i < A.2.2.2.1 h → σ.2 11 0 16 (12 * h + i) = lN (enL (A.2.2.2.2.1 h i)) ∧ σ.1 11 0 20 (12 * h + i) = nI (A.2.2.2.2.2 h i)
theorem mRX_off {L : List RF} {σ τ : ST} {A : RDc} {k : Nat} (h : off L σ τ) (h15 : (11, 0, 15) ∉ L) (h16 : (11, 0, 16) ∉ L) (h18 : (11, 0, 18) ∉ L) (h19 : (11, 0, 19) ∉ L) (h20 : (11, 0, 20) ∉ L) (c : mRX σ A k) : mRX τ A k := by
  unfold mRX at *
  rw [(h 11 0 15 h15).2, (h 11 0 16 h16).2, (h 11 0 18 h18).1, (h 11 0 19 h19).1, (h 11 0 20 h20).1]
  exact c
def kdM : TK → Nat
  | none => 0
  | some none => 1
  | some (some (.inl _)) => 2
  | some (some (.inr (.inl _))) => 3
  | some (some (.inr (.inr false))) => 4
  | some (some (.inr (.inr true))) => 4
theorem mTK_k {σ : ST} {t : TK} (c : mTK σ t) : σ.1 11 0 10 0 = nI (kdM t) := by
  cases t using TK_el with
  | no => exact c
  | fin => exact c
  | wd l => exact c.1
  | wh v => exact c.1
  | pa => exact c.1
  | co => exact c.1
theorem kdM_le (t : TK) : kdM t ≤ 4 := by cases t using TK_el <;> simp [kdM]
/-- the token that stands at a place -/
def mCU (σ : ST) (n : Nat) (tb : Nat → Nat) (p : Nat) : Prop := σ.1 11 0 8 0 = nI 0 ∧ σ.1 11 0 11 0 = nI (tkS n tb p) ∧ σ.1 11 0 7 0 = nI (tkA n tb (tkS n tb p)).2 ∧ mTK σ (tkA n tb (tkS n tb p)).1
theorem mTK_off {L : List RF} {σ τ : ST} {t : TK} (h : off L σ τ) (h10 : (11, 0, 10) ∉ L) (h12 : (11, 0, 12) ∉ L) (h13 : (11, 0, 13) ∉ L) (h14 : (11, 0, 14) ∉ L) (c : mTK σ t) : mTK τ t := by
  cases t using TK_el <;> (unfold mTK at *; simp only [(h 11 0 10 h10).1, (h 11 0 12 h12).1, (h 11 0 13 h13).1, (h 11 0 14 h14).2]; exact c)
theorem mCU_off {L : List RF} {σ τ : ST} {n p : Nat} {tb : Nat → Nat} (h : off L σ τ) (hL : ∀ j, j ∈ [7, 8, 10, 11, 12, 13, 14] → ((11, 0, j) : RF) ∉ L) (c : mCU σ n tb p) : mCU τ n tb p :=
  ⟨by rw [off_1 h (hL 8 (by simp))]; exact c.1, by rw [off_1 h (hL 11 (by simp))]; exact c.2.1, by rw [off_1 h (hL 7 (by simp))]; exact c.2.2.1, mTK_off h (hL 10 (by simp)) (hL 12 (by simp)) (hL 13 (by simp)) (hL 14 (by simp)) c.2.2.2⟩
theorem stp_fin (P : PSc) : stp P .fin = .inl 1 := by
  obtain ⟨aw, A⟩ := P
  unfold stp
  simp only
  split <;> rfl
/-- a good token isn't the end -/
theorem tk_adv {n p : Nat} {tb : Nat → Nat} {P P' : PSc} (hp : p ≤ n) (h : stp P (tkA n tb (tkS n tb p)).1 = .inr P') : p < (tkA n tb (tkS n tb p)).2 ∧ (tkA n tb (tkS n tb p)).2 ≤ n ∧ (tkA n tb (tkS n tb p)).1 ≠ .fin := by
  have hs := tkS_le (tb := tb) hp
  have ha := tkA_le (tb := tb) hs.2
  have nf : (tkA n tb (tkS n tb p)).1 ≠ .fin := fun z => by rw [z, stp_fin] at h; cases h
  have : tkS n tb p < n := Nat.lt_of_not_le (fun z => nf (by rw [tkA_fin z]))
  exact ⟨by have := ha.2.2 this; omega, ha.2.1, nf⟩
theorem prs_go {n p r : Nat} {tb : Nat → Nat} {P P' : PSc} (hp : p ≤ n) (hr : n + 1 ≤ p + (r + 1)) (h : stp P (tkA n tb (tkS n tb p)).1 = .inr P') : ∃ r', r = r' + 1 ∧ prs n tb (r + 1) P p = prs n tb (r' + 1) P' (tkA n tb (tkS n tb p)).2 ∧ (tkA n tb (tkS n tb p)).2 ≤ n ∧ n + 1 ≤ (tkA n tb (tkS n tb p)).2 + (r' + 1) := by
  have ha := tk_adv hp h
  obtain ⟨r', rfl⟩ : ∃ r', r = r' + 1 := ⟨r - 1, by omega⟩
  exact ⟨r', rfl, prs_n (fun z => ha.2.2 z.1) h, ha.2.1, by omega⟩
theorem prs_no {n p r f : Nat} {tb : Nat → Nat} {P : PSc} (h6 : P.1 ≠ 6 ∨ (tkA n tb (tkS n tb p)).1 ≠ .fin) (h : stp P (tkA n tb (tkS n tb p)).1 = .inl f) : prs n tb (r + 1) P p = .inl (f, tkS n tb p) := prs_f (fun z => h6.elim (fun w => w z.2) (fun w => w z.1)) h
abbrev rOfM : List RF := [(11, 0, 7), (11, 0, 8), (11, 0, 9), (11, 0, 10), (11, 0, 11), (11, 0, 12), (11, 0, 13), (11, 0, 14), (11, 0, 15), (11, 0, 16), (11, 0, 18), (11, 0, 19), (11, 0, 20), (11, 0, 24)]
theorem wg_en : enL wgL = 777297172 := by decide
section LI
variable {N e m : Nat} {σ : ST} {Q : POST} {n : Nat} {tb : Nat → Nat}
set_option maxRecDepth 100000 in
theorem fd_loop {j L k0 : Nat} (a : arO N 11 j = some (2, L)) (hL : L ≤ 60) (hk : k0 ≤ L) {f : Nat → WL} {l : WL} (hf : ∀ k, k < k0 → vW (f k)) (hl : vW l) (hr : ∀ k, k < k0 → σ.2 11 0 j k = lN (enL (f k))) {x1 : Int32} {x2 : Int64} (e1 : x1 = nI k0) (e2 : x2 = lN (enL l)) (h1 : ∀ k, k < k0 → f k = l → (∀ i, i < k → f i ≠ l) → Q (some (.inl (nI k))) σ) (h0 : (∀ k, k < k0 → f k ≠ l) → Q (some (.inl (-1))) σ) :
    ∀ (r k m : Nat) (x4 : Int32), k + r = k0 → 20 * r + 20 ≤ m → (∀ i, i < k → f i ≠ l) → x4 = nI k →
      wp N m (e, 0) TX11_find 2 [some (.inr (.inr (11, 0, j))), some (.inl x1), some (.inr (.inl x2)), none, some (.inl x4)] [] σ Q := by
  have hb := enL_b hl.2.1 hl.2.2
  intro r
  induction r with
  | zero =>
    intro k m x4 hr' hm hi e4
    obtain ⟨n1, rfl⟩ := il_ex (K := 10) (m := m) (by omega)
    obtain rfl : k = k0 := by omega
    refine b_ge e4 e1 (by omega) (by omega) (fun _ => ?_) (fun q => by omega)
    refine ⟨Or.inl rfl, ?_⟩
    rw [im1]; exact h0 hi
  | succ r ih =>
    intro k m x4 hr' hm hi e4
    obtain ⟨n1, rfl⟩ := il_ex (K := 15) (m := m) (by omega)
    have hv := hf k (by omega)
    have hb2 := enL_b hv.2.1 hv.2.2
    refine b_ge e4 e1 (by omega) (by omega) (fun q => by omega) (fun _ => ?_)
    refine arr_of a ⟨il_in e4 (by omega) (by omega), ?_⟩
    have c : lg_cmp (σ.2 11 0 j x4.toNatClampNeg) x2 = if enL l < enL (f k) then 1 else if enL (f k) = enL l then 0 else -1 := by
      rw [il_cl e4 (by omega), hr k (by omega), e2, b_lcm (by omega) (by omega)]
    show (brI .ne (lg_cmp _ _) 0 → _) ∧ (¬ brI .ne (lg_cmp _ _) 0 → _)
    rw [c]
    by_cases q : f k = l
    · rw [if_neg (by rw [q]; omega), if_pos (by rw [q])]
      refine ⟨fun z => absurd rfl z, fun _ => ⟨Or.inl rfl, ?_⟩⟩
      rw [e4]; exact h1 k (by omega) q hi
    · have ne : enL (f k) ≠ enL l := fun z => q (enL_inj hv.2.2 hl.2.2 z)
      rw [if_neg ne]
      refine ⟨fun _ => ?_, fun z => absurd (show ¬ (if enL l < enL (f k) then (1 : Int32) else -1) = 0 by split <;> decide) z⟩
      refine ⟨trivial, ih (k + 1) _ _ (by omega) (by omega) (fun i hi' => ?_) (il_inc e4)⟩
      by_cases z : i = k
      · rw [z]; exact q
      · exact hi i (by omega)
set_option maxRecDepth 100000 in
/-- the reference's find -/
theorem c_find11 {j L k0 : Nat} (a : arO N 11 j = some (2, L)) (hL : L ≤ 60) (hk : k0 ≤ L) {f : Nat → WL} {l : WL} (hf : ∀ k, k < k0 → vW (f k)) (hl : vW l) (hr : ∀ k, k < k0 → σ.2 11 0 j k = lN (enL (f k))) {x1 : Int32} {x2 : Int64} (e1 : x1 = nI k0) (e2 : x2 = lN (enL l)) (hm : 1500 ≤ m) (h1 : ∀ k, k < k0 → f k = l → (∀ i, i < k → f i ≠ l) → Q (some (.inl (nI k))) σ) (h0 : (∀ k, k < k0 → f k ≠ l) → Q (some (.inl (-1))) σ) :
    wp N m (e, 0) TX11_find 0 [some (.inr (.inr (11, 0, j))), some (.inl x1), some (.inr (.inl x2)), none, none] [] σ Q := by
  refine adv 2 1490 (by omega) (fun n1 hn1 => ?_)
  exact fd_loop a hL hk hf hl hr e1 e2 h1 h0 k0 0 n1 _ (by omega) (by omega) (fun i hi => absurd hi (Nat.not_lt_zero _)) oi_0
theorem c_isSignF {f : Nat} (hf : 0 < f) (hf4 : f < 2147483648) (h8 : σ.1 11 0 8 0 = nI f) {x1 : Int32} (hm : 20 ≤ m) (hQ : Q (some (.inl (nI 0))) σ) : wp N m (e, 0) TX11_isSign 0 [some (.inr (.inr (11, 0, 0))), some (.inl x1)] [] σ Q := by
  obtain ⟨n1, rfl⟩ := il_ex hm
  exact b_ne h8 z0 (by omega) (by omega) (fun _ => ⟨Or.inr (Or.inl rfl), hQ⟩) (fun q => by omega)
theorem c_isSignN {t : TK} {c : Nat} (h8 : σ.1 11 0 8 0 = nI 0) (ct : mTK σ t) {x1 : Int32} (e1 : x1 = nI c) (hc : c = 58 ∨ c = 59) (hm : 20 ≤ m) (h1 : (c = 58 ∧ t = .co) ∨ (c = 59 ∧ t = .pa) → Q (some (.inl (nI 1))) σ) (h0 : ¬ ((c = 58 ∧ t = .co) ∨ (c = 59 ∧ t = .pa)) → Q (some (.inl (nI 0))) σ) : wp N m (e, 0) TX11_isSign 0 [some (.inr (.inr (11, 0, 0))), some (.inl x1)] [] σ Q := by
  obtain ⟨n1, rfl⟩ := il_ex hm
  have ck := mTK_k ct
  have kl := kdM_le t
  refine b_ne h8 z0 (by omega) (by omega) (fun q => absurd rfl q) (fun _ => ?_)
  refine b_ne ck i4 (by omega) (by omega) (fun q => ⟨Or.inr (Or.inl rfl), h0 (fun z => ?_)⟩) (fun q => ?_)
  · rcases z with ⟨_, z⟩ | ⟨_, z⟩ <;> (rw [z] at q; exact q rfl)
  · cases t using TK_el with
    | no => cases q
    | fin => cases q
    | wd l => cases q
    | wh v => cases q
    | pa =>
      refine b_ne ct.2 e1 (by omega) (by omega) (fun z => ⟨Or.inr (Or.inl rfl), h0 (fun y => ?_)⟩) (fun z => ⟨trivial, Or.inr (Or.inr rfl), h1 (Or.inr ⟨z.symm, rfl⟩)⟩)
      rcases y with ⟨_, y⟩ | ⟨y, _⟩
      · cases y
      · omega
    | co =>
      refine b_ne ct.2 e1 (by omega) (by omega) (fun z => ⟨Or.inr (Or.inl rfl), h0 (fun y => ?_)⟩) (fun z => ⟨trivial, Or.inr (Or.inr rfl), h1 (Or.inl ⟨z.symm, rfl⟩)⟩)
      rcases y with ⟨y, _⟩ | ⟨_, y⟩
      · omega
      · cases y
set_option maxRecDepth 100000 in
theorem c_readWholeF {f : Nat} (hf : 0 < f) (hf4 : f < 2147483648) (h8 : σ.1 11 0 8 0 = nI f) {x1 x2 : Int32} (hm : 100 ≤ m) (hQ : ∀ y, Q (some (.inl y)) σ) : wp N m (e + 1, 0) TX11_readWhole 0 [some (.inr (.inr (11, 0, 0))), some (.inl x1), some (.inl x2), none] [] σ Q := by
  obtain ⟨n1, rfl⟩ := il_ex (K := 40) (m := m) (by omega)
  have tail : ∀ m', 30 ≤ m' → wp N m' (e + 1, 0) TX11_readWhole 17 [some (.inr (.inr (11, 0, 0))), some (.inl x1), some (.inl x2), none] [] σ Q := by
    intro m' hm'
    obtain ⟨n2, rfl⟩ := il_ex (K := 10) (m := m') (by omega)
    refine ⟨trivial, c_goOnF hf hf4 h8 (by omega) ?_⟩
    exact ⟨Or.inl rfl, hQ _⟩
  refine ⟨fun _ => ?_, fun _ => ?_⟩
  · refine ⟨trivial, c_inM (by omega) (fun _ _ => ?_) (fun _ => ?_)⟩
    · exact b_ne (a := 1) rfl z0 (by omega) (by omega) (fun _ => tail _ (by omega)) (fun q => by omega)
    · refine b_ne (a := 0) rfl z0 (by omega) (by omega) (fun q => absurd rfl q) (fun _ => ?_)
      exact ⟨trivial, c_flawF hf hf4 h8 (by omega) (tail _ (by omega))⟩
  · exact ⟨trivial, c_flawF hf hf4 h8 (by omega) ⟨trivial, tail _ (by omega)⟩⟩
set_option maxRecDepth 100000 in
theorem c_readWhole (c : mTP σ n tb) {p : Nat} (hp : p ≤ n) (cu : mCU σ n tb p) {x1 x2 : Int32} {a b : Nat} (ha : a < 2147483648) (hb : b < 2147483647) (e1 : x1 = nI a) (e2 : x2 = nI b) (hm : 50000 ≤ m)
    (h1 : ∀ v τ, (tkA n tb (tkS n tb p)).1 = .wh v → a ≤ v → v ≤ b → off oTk σ τ → mCU τ n tb (tkA n tb (tkS n tb p)).2 → Q (some (.inl (nI v))) τ)
    (hF : ∀ f y τ, ((∃ v, (tkA n tb (tkS n tb p)).1 = .wh v ∧ ¬ (a ≤ v ∧ v ≤ b) ∧ f = 2) ∨ ((∀ v, (tkA n tb (tkS n tb p)).1 ≠ .wh v) ∧ f = 1)) → off [(11, 0, 8), (11, 0, 9)] σ τ → τ.1 11 0 8 0 = nI f → τ.1 11 0 9 0 = nI (tkS n tb p) → Q (some (.inl y)) τ) :
    wp N m (e + 3, 0) TX11_readWhole 0 [some (.inr (.inr (11, 0, 0))), some (.inl x1), some (.inl x2), none] [] σ Q := by
  have hn := c.2.1
  have hs := tkS_le (tb := tb) hp
  have hA := tkA_le (tb := tb) hs.2
  have vt := tkA_v (n := n) (tb := tb) (tkS n tb p)
  obtain ⟨n1, rfl⟩ := il_ex (K := 40) (m := m) (by omega)
  obtain ⟨u1, u2, u3, u4⟩ := cu
  have ck := mTK_k u4
  have kl := kdM_le (tkA n tb (tkS n tb p)).1
  have flt : ∀ (f : Nat) (x : Int32) (m' : Nat), 1 ≤ f → f ≤ 2 → x = nI f → 30 ≤ m' → ((∃ v, (tkA n tb (tkS n tb p)).1 = .wh v ∧ ¬ (a ≤ v ∧ v ≤ b) ∧ f = 2) ∨ ((∀ v, (tkA n tb (tkS n tb p)).1 ≠ .wh v) ∧ f = 1)) → wp N m' (e + 3, 0) TX11_readWhole 17 [some (.inr (.inr (11, 0, 0))), some (.inl x1), some (.inl x2), none] [] (uI (uI σ 11 0 8 0 x) 11 0 9 0 (σ.1 11 0 11 0)) Q := by
    intro f x m' f1 f2 ex hm' hx
    obtain ⟨n2, rfl⟩ := il_ex (K := 10) (m := m') (by omega)
    have g8 : (uI (uI σ 11 0 8 0 x) 11 0 9 0 (σ.1 11 0 11 0)).1 11 0 8 0 = nI f := by rw [uI_nr _ _ _ _ _ _ (by decide), uI_at]; exact ex
    refine ⟨trivial, c_goOnF (f := f) (by omega) (by omega) g8 (by omega) ?_⟩
    exact ⟨Or.inl rfl, hF f _ _ hx (off_uI (off_uI (off_rf _ _) (by decide)) (by decide)) g8 (by rw [uI_at]; exact u2)⟩
  refine b_eq ck i3 (by omega) (by omega) (fun q => ?_) (fun q => ?_)
  · obtain ⟨v, hv⟩ : ∃ v, (tkA n tb (tkS n tb p)).1 = .wh v := by
      cases z : (tkA n tb (tkS n tb p)).1 using TK_el with
      | wh v => exact ⟨v, rfl⟩
      | no => rw [z] at q; cases q
      | fin => rw [z] at q; cases q
      | wd l => rw [z] at q; cases q
      | pa => rw [z] at q; cases q
      | co => rw [z] at q; cases q
    rw [hv] at u4 vt
    have v9 : v ≤ 999 := vt
    have e13 : σ.1 11 0 13 0 = nI v := u4.2
    refine ⟨trivial, c_inB ha hb e1 e2 (by omega) (fun j j1 j2 ej _ => ?_) (fun hno => ?_)⟩
    · have ejv : v = j := (nI_eq (by omega) (by omega)).mp (e13.symm.trans ej)
      refine b_ne (a := 1) rfl z0 (by omega) (by omega) (fun _ => ?_) (fun q => by omega)
      refine ⟨trivial, c_goOnM c hA.2.1 u1 u3 (by omega) ?_⟩
      intro τ o1 g1 g2 g3
      refine ⟨Or.inl rfl, ?_⟩
      rw [show σ.1 11 0 (12 + 1) 0 = nI v from e13]
      exact h1 v τ hv (by omega) (by omega) o1 ⟨by rw [off_1 o1 (by decide)]; exact u1, g1, g2, g3⟩
    · refine b_ne (a := 0) rfl z0 (by omega) (by omega) (fun q => absurd rfl q) (fun _ => ?_)
      refine ⟨trivial, c_flaw u1 (by omega) ?_⟩
      refine flt 2 _ _ (by omega) (by omega) i2 (by omega) (Or.inl ⟨v, hv, fun z => ?_, rfl⟩)
      rw [show σ.1 11 0 (12 + 1) 0 = nI v from e13] at hno
      unfold inB at hno
      rw [if_pos ⟨nI_nlt z.1 (by omega), nI_nlt z.2 (by omega)⟩] at hno
      cases hno
  · refine ⟨trivial, c_flaw u1 (by omega) ?_⟩
    exact ⟨trivial, flt 1 _ _ (by omega) (by omega) oi_1 (by omega) (Or.inr ⟨fun v z => q (by rw [z]; rfl), rfl⟩)⟩
/-! the ways behind a fault -/
set_option maxRecDepth 100000 in
theorem ft87 {f : Nat} (hf : 0 < f) (hf4 : f < 2147483648) {x1 x2 x3 : Int32} {o4 o6 : Option AV} (h8 : σ.1 11 0 8 0 = nI f) (e3 : x3 = nI 0) (hm : 20 ≤ m) (hQ : Q none σ) :
    wp N m (e, 0) TX11_readLine 87 [some (.inr (.inr (11, 0, 0))), some (.inl x1), some (.inl x2), some (.inl x3), o4, none, o6] [] σ Q := by
  obtain ⟨n1, rfl⟩ := il_ex hm
  refine b_eq e3 z0 (by omega) (by omega) (fun _ => ?_) (fun q => absurd rfl q)
  exact b_ne h8 z0 (by omega) (by omega) (fun _ => hQ) (fun q => by omega)
set_option maxRecDepth 100000 in
theorem ft71 {f h : Nat} (hf : 0 < f) (hf4 : f < 2147483648) (hh : h < 5) {x1 : Int32} (e1 : x1 = nI h) {o2 o3 o4 o6 : Option AV} (h8 : σ.1 11 0 8 0 = nI f) (hm : 100 ≤ m) (hQ : ∀ τ, off [(11, 0, 18), (11, 0, 19)] σ τ → Q none τ) :
    wp N m (e + 2, 0) TX11_readLine 71 [some (.inr (.inr (11, 0, 0))), some (.inl x1), o2, o3, o4, none, o6] [] σ Q := by
  obtain ⟨n1, rfl⟩ := il_ex (K := 30) (m := m) (by omega)
  refine ⟨trivial, c_goOnF hf hf4 h8 (by omega) ?_⟩
  refine ⟨il_in e1 (by omega) (by omega), ?_⟩
  have o1 : off [(11, 0, 18), (11, 0, 19)] σ (uI σ 11 0 19 x1.toNatClampNeg (Int32.ofInt 0)) := off_uI (off_rf _ _) (by decide)
  have g8 : (uI σ 11 0 19 x1.toNatClampNeg (Int32.ofInt 0)).1 11 0 8 0 = nI f := by rw [off_1 o1 (by decide)]; exact h8
  refine b_ne g8 z0 (by omega) (by omega) (fun _ => ?_) (fun q => by omega)
  exact adv 2 30 (by omega) (fun n9 hn9 => ft87 (m := n9) hf hf4 g8 oi_0 (by omega) (hQ _ o1))
set_option maxRecDepth 100000 in
theorem ft64 {f h : Nat} (hf : 0 < f) (hf4 : f < 2147483648) (hh : h < 5) {x1 : Int32} (e1 : x1 = nI h) {o2 o3 o4 o6 : Option AV} (h8 : σ.1 11 0 8 0 = nI f) (hm : 200 ≤ m) (hQ : ∀ τ, off [(11, 0, 18), (11, 0, 19)] σ τ → Q none τ) :
    wp N m (e + 2, 0) TX11_readLine 64 [some (.inr (.inr (11, 0, 0))), some (.inl x1), o2, o3, o4, none, o6] [] σ Q := by
  obtain ⟨n1, rfl⟩ := il_ex (K := 30) (m := m) (by omega)
  refine ⟨trivial, c_isSignF hf hf4 h8 (by omega) ?_⟩
  refine b_ne (a := 0) rfl z0 (by omega) (by omega) (fun q => absurd rfl q) (fun _ => ?_)
  refine ⟨trivial, c_flawF hf hf4 h8 (by omega) ?_⟩
  exact ft71 hf hf4 hh e1 h8 (by omega) hQ
set_option maxRecDepth 100000 in
theorem ft54 {f h : Nat} (hf : 0 < f) (hf4 : f < 2147483648) (hh : h < 5) {x1 : Int32} (e1 : x1 = nI h) {o2 o3 o4 o6 : Option AV} (h8 : σ.1 11 0 8 0 = nI f) (hm : 400 ≤ m) (hQ : ∀ τ, off [(11, 0, 18), (11, 0, 19)] σ τ → Q none τ) :
    wp N m (e + 2, 0) TX11_readLine 54 [some (.inr (.inr (11, 0, 0))), some (.inl x1), o2, o3, o4, none, o6] [] σ Q := by
  obtain ⟨n1, rfl⟩ := il_ex (K := 30) (m := m) (by omega)
  refine ⟨trivial, c_goOnF hf hf4 h8 (by omega) ?_⟩
  refine ⟨trivial, c_readWholeF hf hf4 h8 (by omega) (fun y => ?_)⟩
  refine ⟨il_in e1 (by omega) (by omega), ?_⟩
  have o1 : off [(11, 0, 18), (11, 0, 19)] σ (uI σ 11 0 18 x1.toNatClampNeg y) := off_uI (off_rf _ _) (by decide)
  exact ft64 hf hf4 hh e1 (by rw [off_1 o1 (by decide)]; exact h8) (by omega) (fun τ o2 => hQ τ (off_tr o1 o2))
set_option maxRecDepth 100000 in
theorem ft117 {f : Nat} (hf : 0 < f) (hf4 : f < 2147483648) {x1 x2 x3 y : Int32} {L : Int64} {o6 : Option AV} (h8 : σ.1 11 0 8 0 = nI f) (hm : 100 ≤ m) (hQ : Q none σ) :
    wp N m (e + 2, 0) TX11_readLine 117 [some (.inr (.inr (11, 0, 0))), some (.inl x1), some (.inl x2), some (.inl x3), some (.inr (.inl L)), none, o6] [.inl y] σ Q := by
  obtain ⟨n1, rfl⟩ := il_ex (K := 30) (m := m) (by omega)
  refine b_ne h8 z0 (by omega) (by omega) (fun _ => ?_) (fun q => by omega)
  refine b_ne h8 z0 (by omega) (by omega) (fun _ => ?_) (fun q => by omega)
  exact ⟨trivial, ft87 hf hf4 h8 oi_0 (by omega) hQ⟩
set_option maxRecDepth 100000 in
theorem ft106 {f : Nat} (hf : 0 < f) (hf4 : f < 2147483648) {x1 x2 x3 : Int32} {o4 o6 : Option AV} (h8 : σ.1 11 0 8 0 = nI f) (hm : 300 ≤ m) (hQ : Q none σ) :
    wp N m (e + 2, 0) TX11_readLine 106 [some (.inr (.inr (11, 0, 0))), some (.inl x1), some (.inl x2), some (.inl x3), o4, none, o6] [] σ Q := by
  obtain ⟨n1, rfl⟩ := il_ex (K := 30) (m := m) (by omega)
  refine ⟨trivial, c_goOnF hf hf4 h8 (by omega) ?_⟩
  refine ⟨trivial, c_readWholeF hf hf4 h8 (by omega) (fun y => ?_)⟩
  exact ft117 hf hf4 h8 (by omega) hQ
end LI
