/-! what it costs that a word comes into a SLOT -/
def nrS (S : SPc) (R : RUc) (E : NEc) (w s : Nat) : Nat → Nat
  | 0 => R.nr
  | g + 1 => match E.th s g with
    | some j => min (farS S w (S.wd g j)) (nrS S R E w s g)
    | none => nrS S R E w s g
def far1 (a b wn : Nat) : Nat := if wn < (a - b) + (b - a) then 1 else 0
def mcS (S : SPc) (R : RUc) (E : NEc) (h i s : Nat) : Nat := nrS S R E (S.wd h i) s 5 + far1 (S.tm h i) (tmF S R E s (fun _ _ => true)) R.wn
theorem nrS_n {S : SPc} {R : RUc} {E : NEc} {w s g : Nat} (q : E.th s g = none) : nrS S R E w s (g + 1) = nrS S R E w s g := by rw [nrS, q]
theorem nrS_s {S : SPc} {R : RUc} {E : NEc} {w s g j : Nat} (q : E.th s g = some j) : nrS S R E w s (g + 1) = min (farS S w (S.wd g j)) (nrS S R E w s g) := by rw [nrS, q]
theorem nrS_mono {S : SPc} {R : RUc} {E : NEc} {w s : Nat} : ∀ {a b : Nat}, a ≤ b → nrS S R E w s b ≤ nrS S R E w s a := by
  intro a b h
  induction b with
  | zero => obtain rfl : a = 0 := by omega
            exact Nat.le_refl _
  | succ b ih =>
    by_cases e : a = b + 1
    · subst e; exact Nat.le_refl _
    · refine Nat.le_trans ?_ (ih (by omega))
      cases q : E.th s b with
      | none => rw [nrS_n q]; exact Nat.le_refl _
      | some j => rw [nrS_s q]; exact Nat.min_le_right _ _
theorem nrS_le {S : SPc} {R : RUc} {E : NEc} {w s : Nat} (hR : vRU S R) (g : Nat) : nrS S R E w s g ≤ 9 := Nat.le_trans (nrS_mono (Nat.zero_le g)) hR.2.2.1
theorem nrS_tail {S : SPc} {R : RUc} {E : NEc} {w s a : Nat} : ∀ {b : Nat}, a ≤ b → (∀ i, a ≤ i → i < b → E.th s i = none) → nrS S R E w s b = nrS S R E w s a
  | 0, h, _ => by obtain rfl : a = 0 := by omega
                  rfl
  | b + 1, h, hz => by
    by_cases e : a = b + 1
    · subst e; rfl
    · rw [nrS_n (hz b (by omega) (by omega)), nrS_tail (b := b) (by omega) (fun i h1 h2 => hz i h1 (by omega))]
theorem tmF_le {S : SPc} {R : RUc} {E : NEc} {s : Nat} {fl : Nat → Nat → Bool} (hS : vSP S) (hR : vRU S R) (hE : vNE S E) (hs : s < E.ns) : tmF S R E s fl ≤ 999 := by
  have h1 : ∀ n, sm (tmU S R E s fl) n ≤ sm (tmB R E s fl) n * 999 := by
    intro n
    induction n with
    | zero => simp [sm]
    | succ n ih =>
      rw [sm, sm, Nat.add_mul]
      refine Nat.add_le_add ih ?_
      cases q : E.th s n with
      | none => rw [tmU_n q]; exact Nat.zero_le _
      | some i =>
        have h1 := hE.2.2.2.2.1 s n i hs q
        by_cases hf : fl n i = true
        · rw [tmU_t q hf, tmB_t q hf]
          exact Nat.mul_le_mul_left _ (hS.2.2.1 n h1.1 i h1.2.1).2
        · rw [tmU_f q hf]; exact Nat.zero_le _
  unfold tmF
  exact Nat.div_le_of_le_mul (h1 5)
theorem nI_neg_sub (a b : Nat) : -(nI a - nI b) = nI b - nI a := Int32.neg_sub
/-- how far two TIMES are apart, against the WINDOW: as the class tells it -/
theorem late_c {a b w : Nat} (ha : a ≤ 999) (hb : b ≤ 999) (hw : w ≤ 999) : (if (0 : Int32) ≤ nI a - nI b then nI a - nI b else -(nI a - nI b)) = nI ((a - b) + (b - a)) := by
  by_cases h : b ≤ a
  · have e : nI a - nI b = nI (a - b) := pk_sub h
    rw [e, if_pos (nI_pos' (by omega)), show (a - b) + (b - a) = a - b by omega]
  · have e : nI b - nI a = nI (b - a) := pk_sub (by omega)
    have hn : nI a - nI b < 0 := pk_sneg (by omega) (by omega)
    rw [if_neg (Int32.not_le.mpr hn), nI_neg_sub, e, show (a - b) + (b - a) = b - a by omega]
/-- the least of how far a word is from the first c of a row of words, NEAREST at the most -/
def nrF (S : SPc) (R : RUc) (w : Nat) (f : Nat → Nat) : Nat → Nat
  | 0 => R.nr
  | c + 1 => min (farS S w (f c)) (nrF S R w f c)
theorem nrF_congr {S : SPc} {R : RUc} {w : Nat} {f g : Nat → Nat} : ∀ {c : Nat}, (∀ j, j < c → f j = g j) → nrF S R w f c = nrF S R w g c
  | 0, _ => rfl
  | c + 1, h => by rw [nrF, nrF, nrF_congr (fun j hj => h j (by omega)), h c (by omega)]
theorem nrF_mono {S : SPc} {R : RUc} {w : Nat} {f : Nat → Nat} : ∀ {a b : Nat}, a ≤ b → nrF S R w f b ≤ nrF S R w f a := by
  intro a b h
  induction b with
  | zero => obtain rfl : a = 0 := by omega
            exact Nat.le_refl _
  | succ b ih =>
    by_cases e : a = b + 1
    · subst e; exact Nat.le_refl _
    · refine Nat.le_trans ?_ (ih (by omega))
      rw [nrF]
      exact Nat.min_le_right _ _
theorem nrF_le {S : SPc} {R : RUc} {w : Nat} {f : Nat → Nat} (hR : vRU S R) (c : Nat) : nrF S R w f c ≤ 9 := Nat.le_trans (nrF_mono (Nat.zero_le c)) hR.2.2.1
/-- the words of the first g hearings in SLOT s, as the class has looked them up -/
def lkA (σ : ST) (S : SPc) (R : RUc) (E : NEc) (s g : Nat) : Prop := ∃ (c : Nat) (f : Nat → Nat), c ≤ g ∧ (∀ j, j < c → f j < S.nw) ∧ (∀ w, nrF S R w f c = nrS S R E w s g) ∧ σ.1 9 0 10 0 = nI c ∧ ∀ j, j < c → σ.1 9 0 9 j = nI (f j)
/-- SLOT s as it was looked into -/
def cLK (σ : ST) (S : SPc) (R : RUc) (E : NEc) (s : Nat) : Prop := lkA σ S R E s 5 ∧ σ.1 9 0 11 0 = nI (tmF S R E s (fun _ _ => true))
abbrev lkOff : List RF := [(9, 0, 9), (9, 0, 10), (9, 0, 11)]
theorem cLK_off {L : List RF} {σ τ : ST} {S : SPc} {R : RUc} {E : NEc} {s : Nat} (ho : off L σ τ) (h9 : (9, 0, 9) ∉ L) (h10 : (9, 0, 10) ∉ L) (h11 : (9, 0, 11) ∉ L) (h : cLK σ S R E s) : cLK τ S R E s := by
  obtain ⟨⟨c, f, a1, a2, a3, a4, a5⟩, ht⟩ := h
  exact ⟨⟨c, f, a1, a2, a3, by rw [off_1 ho h10]; exact a4, fun j hj => by rw [off_1 ho h9]; exact a5 j hj⟩, by rw [off_1 ho h11]; exact ht⟩
section LK
variable {N e k : Nat} {σ : ST} {Q : POST} {S : SPc} {R : RUc} {E : NEc}
set_option maxRecDepth 100000 in
theorem lk_loop (hS : vSP S) (hR : vRU S R) (hE : vNE S E) (cS : cSP σ 0 S) (cR : cRU σ 0 S R) (cE : cNE σ k E) {s : Nat} (hs : s < E.ns) {x2 : Int32} (e2 : x2 = nI s)
    (hQ : ∀ τ, off lkOff σ τ → cLK τ S R E s → Q none τ) :
    ∀ (r g m : Nat) (τ : ST) (x3 : Int32) (o4 : Option AV), g + r = 5 → 3000 + 200 * r ≤ m → off lkOff σ τ → lkA τ S R E s g → x3 = nI g →
      wp N m (e + 2, 0) TX9_lookInto 5 [some (.inr (.inr (9, 0, 0))), some (.inr (.inr (3, k, 0))), some (.inl x2), some (.inl x3), o4] [] τ Q := by
  have hns := vNE_ns hS hE
  have hnw := hS.2.2.2.1
  intro r
  induction r with
  | zero =>
    intro g m τ x3 o4 hg hm ho hl e3
    obtain ⟨n, rfl⟩ := il_ex (K := 50) (m := m) (by omega)
    obtain rfl : g = 5 := by omega
    have cS' : cSP τ 0 S := cSP_off ho (by decide) cS
    have cR' : cRU τ 0 S R := cRU_off ho (by decide) cR
    have cE' : cNE τ k E := cNE_off ho (by intro r hr; simp only [List.mem_cons, List.not_mem_nil, or_false] at hr; rintro ⟨q1, -⟩; rcases hr with rfl | rfl | rfl <;> simp at q1) cE
    obtain ⟨h0, i0, he0⟩ := hE.2.2.2.2.2.1 s hs
    refine b_ge e3 i5 (by omega) (by omega) (fun _ => ?_) (fun q => by omega)
    refine ⟨trivial, c_meanTime (fl := fun _ _ => true) hS hR hE cS' cR' cE' hs e2 (Or.inl ⟨im1, fun _ _ => rfl⟩) (tmB_pos hS hR hE hs he0 rfl) (by omega) ?_⟩
    obtain ⟨c, f, a1, a2, a3, a4, a5⟩ := hl
    have w9 : ∀ (x : Int32) (z : Nat), (uI τ 9 0 11 0 x).1 9 0 9 z = τ.1 9 0 9 z := fun x z => uI_nr _ _ _ _ _ _ (by decide) z
    have w10 : ∀ (x : Int32) (z : Nat), (uI τ 9 0 11 0 x).1 9 0 10 z = τ.1 9 0 10 z := fun x z => uI_nr _ _ _ _ _ _ (by decide) z
    exact hQ _ (off_uI ho (by decide)) ⟨⟨c, f, a1, a2, a3, (w10 _ _).trans a4, fun j hj => (w9 _ _).trans (a5 j hj)⟩, uI_at ..⟩
  | succ r ih =>
    intro g m τ x3 o4 hg hm ho hl e3
    obtain ⟨n, rfl⟩ := il_ex (K := 60) (m := m) (by omega)
    have cS' : cSP τ 0 S := cSP_off ho (by decide) cS
    have cE' : cNE τ k E := cNE_off ho (by intro r hr; simp only [List.mem_cons, List.not_mem_nil, or_false] at hr; rintro ⟨q1, -⟩; rcases hr with rfl | rfl | rfl <;> simp at q1) cE
    have nxt : ∀ (τ' : ST) (p4 : Option AV) (n' : Nat), 3000 + 200 * r + 2 ≤ n' → off lkOff σ τ' → lkA τ' S R E s (g + 1) → wp N n' (e + 2, 0) TX9_lookInto 35 [some (.inr (.inr (9, 0, 0))), some (.inr (.inr (3, k, 0))), some (.inl x2), some (.inl x3), p4] [] τ' Q := by
      intro τ' p4 n' hn' ho' hl'
      obtain ⟨n2, rfl⟩ := il_ex (K := 2) (m := n') (by omega)
      exact ⟨trivial, ih (g + 1) n2 τ' _ _ (by omega) (by omega) ho' hl' (il_inc e3)⟩
    refine b_ge e3 i5 (by omega) (by omega) (fun q => by omega) (fun _ => ?_)
    refine ⟨trivial, c_thereOf e2 e3 (by omega) (by omega) (by omega) ?_⟩
    rw [cE'.2.2.2.2.2 s hs g (by omega)]
    have hlt : ∀ i, E.th s g = some i → i < 2147483648 := fun i e' => by
      have h1 := hE.2.2.2.2.1 s g i hs e'
      have h2 := (hS.2.1 g h1.1).2
      omega
    obtain ⟨c, f, a1, a2, a3, a4, a5⟩ := hl
    refine b_there ne2 rfl hlt (fun q1 => ?_) (fun j q1 q2 => ?_)
    · exact nxt τ _ _ (by omega) ho ⟨c, f, by omega, a2, fun w => by rw [nrS_n q1]; exact a3 w, a4, a5⟩
    · have h1 := hE.2.2.2.2.1 s g j hs q1
      have h2 := (hS.2.1 g h1.1).2
      have h6 := hS.2.2.1 g h1.1 j h1.2.1
      refine b_ge a4 i5 (by omega) (by omega) (fun q => by omega) (fun _ => ?_)
      refine ⟨trivial, c_wordOf e3 q2 (by omega) (by omega) (by omega) ?_⟩
      rw [(cS'.2.2.2.1 g h1.1 j h1.2.1).1]
      refine ⟨il_in a4 (by omega) (by omega), ?_⟩
      refine adv 6 (3000 + 200 * r + 2) (by omega) (fun n3 hn3 => ?_)
      refine nxt (uI (uI τ 9 0 9 (τ.1 9 0 10 0).toNatClampNeg (nI (S.wd g j))) 9 0 10 0 ((uI τ 9 0 9 (τ.1 9 0 10 0).toNatClampNeg (nI (S.wd g j))).1 9 0 10 0 + Int32.ofInt 1)) _ n3 hn3 (off_uI (off_uI ho (by decide)) (by decide)) ⟨c + 1, fun z => if z = c then S.wd g j else f z, by omega, ?_, ?_, ?_, ?_⟩
      · intro z hz
        show (if z = c then S.wd g j else f z) < S.nw
        by_cases hq : z = c
        · rw [if_pos hq]; exact h6.1
        · rw [if_neg hq]; exact a2 z (by omega)
      · intro w
        have hfe : nrF S R w (fun z => if z = c then S.wd g j else f z) c = nrF S R w f c := nrF_congr (fun z hz => if_neg (by omega))
        show min (farS S w (if c = c then S.wd g j else f c)) (nrF S R w (fun z => if z = c then S.wd g j else f z) c) = _
        rw [nrS_s q1, if_pos rfl, hfe, a3 w]
      · rw [uI_at, uI_nr _ _ _ _ _ _ (by decide)]
        exact il_inc a4
      · intro z hz
        show _ = nI (if z = c then S.wd g j else f z)
        rw [uI_nr _ _ _ _ _ _ (by decide), il_cl a4 (by omega)]
        by_cases hq : z = c
        · rw [hq, uI_at, if_pos rfl]
        · rw [uI_ne _ _ _ _ _ _ hq, if_neg hq]
          exact a5 z (by omega)
set_option maxRecDepth 100000 in
/-- Weaver.lookInto -/
theorem c_lookInto (hS : vSP S) (hR : vRU S R) (hE : vNE S E) (cS : cSP σ 0 S) (cR : cRU σ 0 S R) (cE : cNE σ k E) {s m : Nat} (hs : s < E.ns) {x2 : Int32} (e2 : x2 = nI s) (hm : 5000 ≤ m)
    (hQ : ∀ τ, off lkOff σ τ → cLK τ S R E s → Q none τ) :
    wp N m (e + 2, 0) TX9_lookInto 0 [some (.inr (.inr (9, 0, 0))), some (.inr (.inr (3, k, 0))), some (.inl x2), none, none] [] σ Q := by
  refine adv 5 4900 (by omega) (fun n hn => ?_)
  exact lk_loop hS hR hE cS cR cE hs e2 hQ 5 0 n (uI σ 9 0 10 0 (Int32.ofInt 0)) _ _ (by omega) (by omega) (off_uI (off_rf _ _) (by decide)) ⟨0, fun _ => 0, by omega, fun j hj => by omega, fun _ => rfl, (uI_at ..).trans oi_0, fun j hj => by omega⟩ oi_0
end LK
section MC
variable {N e : Nat} {σ : ST} {Q : POST} {S : SPc} {R : RUc} {E : NEc}
abbrev mcV (x1 x2 x3 x4 x5 : Int32) (o6 : Option AV) : List (Option AV) := [some (.inr (.inr (9, 0, 0))), some (.inl x1), some (.inl x2), some (.inl x3), some (.inl x4), some (.inl x5), o6]
set_option maxRecDepth 100000 in
theorem mc_loop (hS : vSP S) (hR : vRU S R) (cS : cSP σ 0 S) {w M C : Nat} {f : Nat → Nat} (hw : w < S.nw) (hC : C ≤ 5) (hf : ∀ j, j < C → f j < S.nw) (hn : σ.1 9 0 10 0 = nI C) (hv : ∀ j, j < C → σ.1 9 0 9 j = nI (f j)) {x1 x2 x3 : Int32} (e3 : x3 = nI w)
    (K : ∀ (m : Nat) (τ : ST) (x4 x5 : Int32) (o6 : Option AV), M ≤ m → off [(6, 0, 1), (2, 0, 3)] σ τ → cFA τ S → x4 = nI (nrF S R w f C) → wp N m (e + 3, 0) TX9_matchCost 36 (mcV x1 x2 x3 x4 x5 o6) [] τ Q) :
    ∀ (r c m : Nat) (τ : ST) (x4 x5 : Int32) (o6 : Option AV), c + r = C → 700000 + 300 * r + M ≤ m → off [(6, 0, 1), (2, 0, 3)] σ τ → cFA τ S → x4 = nI (nrF S R w f c) → x5 = nI c →
      wp N m (e + 3, 0) TX9_matchCost 12 (mcV x1 x2 x3 x4 x5 o6) [] τ Q := by
  have hnw := hS.2.2.2.1
  intro r
  induction r with
  | zero =>
    intro c m τ x4 x5 o6 hg hm ho hc e4 e5
    obtain ⟨n, rfl⟩ := il_ex (K := 4) (m := m) (by omega)
    obtain rfl : c = C := by omega
    have hn' : τ.1 9 0 10 0 = nI c := by rw [off_1 ho (by decide)]; exact hn
    refine b_ge e5 hn' (by omega) (by omega) (fun _ => ?_) (fun q => by omega)
    exact K n τ x4 x5 o6 (by omega) ho hc e4
  | succ r ih =>
    intro c m τ x4 x5 o6 hg hm ho hc e4 e5
    obtain ⟨n, rfl⟩ := il_ex (K := 100) (m := m) (by omega)
    have hb := nrF_le (w := w) (f := f) hR c
    have hn' : τ.1 9 0 10 0 = nI C := by rw [off_1 ho (by decide)]; exact hn
    have cS' : cSP τ 0 S := cSP_off ho (by decide) cS
    have hfc := hf c (by omega)
    have nxt : ∀ (τ' : ST) (y4 : Int32) (p6 : Option AV) (n' : Nat), 700000 + 300 * r + 2 + M ≤ n' → off [(6, 0, 1), (2, 0, 3)] σ τ' → cFA τ' S → y4 = nI (nrF S R w f (c + 1)) → wp N n' (e + 3, 0) TX9_matchCost 34 (mcV x1 x2 x3 y4 x5 p6) [] τ' Q := by
      intro τ' y4 p6 n' hn1 ho' hc' e4'
      obtain ⟨n2, rfl⟩ := il_ex (K := 2) (m := n') (by omega)
      exact ⟨trivial, ih (c + 1) n2 τ' _ _ _ (by omega) (by omega) ho' hc' e4' (il_inc e5)⟩
    refine b_ge e5 hn' (by omega) (by omega) (fun q => by omega) (fun _ => ?_)
    refine b_le e4 z0 (by omega) (by omega) (fun q => ?_) (fun _ => ?_)
    · exact K _ τ x4 x5 o6 (by omega) ho hc (by rw [e4]; congr 1; have := nrF_mono (S := S) (R := R) (w := w) (f := f) (show c ≤ C by omega); omega)
    · refine ⟨il_in e5 (by omega) (by omega), ?_⟩
      have gv : τ.1 9 0 9 x5.toNatClampNeg = nI (f c) := by rw [il_cl e5 (by omega), off_1 ho (by decide)]; exact hv c (by omega)
      refine ⟨trivial, c_farsApart hS cS' hc hw hfc e3 gv (by omega) ?_⟩
      intro τ2 ho2 hc2
      have hfl := farS_le hS hw hfc
      refine b_ge rfl e4 (by omega) (by omega) (fun q3 => ?_) (fun q3 => ?_)
      · refine adv 2 (700000 + 300 * r + 2 + M) (by omega) (fun n3 hn3 => ?_)
        exact nxt τ2 _ _ n3 hn3 (off_tr ho ho2) hc2 (by rw [e4, nrF]; congr 1; omega)
      · refine ⟨trivial, ?_⟩
        refine adv 1 (700000 + 300 * r + 2 + M) (by omega) (fun n3 hn3 => ?_)
        exact nxt τ2 _ _ n3 hn3 (off_tr ho ho2) hc2 (by rw [nrF]; congr 1; omega)
set_option maxRecDepth 100000 in
/-- Weaver.matchCost, where the SLOT was looked into -/
theorem c_matchCost (hS : vSP S) (hR : vRU S R) (hE : vNE S E) (cS : cSP σ 0 S) (cR : cRU σ 0 S R) (cF : cFA σ S) {s h i m : Nat} (hs : s < E.ns) (hh : h < S.nh) (hi : i < S.cn h) (hl : cLK σ S R E s)
    {x1 x2 : Int32} (e1 : x1 = nI h) (e2 : x2 = nI i) (hm : 800000 ≤ m) (hQ : ∀ τ, off [(6, 0, 1), (2, 0, 3)] σ τ → cFA τ S → Q (some (.inl (nI (mcS S R E h i s)))) τ) :
    wp N m (e + 3, 0) TX9_matchCost 0 [some (.inr (.inr (9, 0, 0))), some (.inl x1), some (.inl x2), none, none, none, none] [] σ Q := by
  have hcn := hS.2.1 h hh
  have hwt := hS.2.2.1 h hh i hi
  have hnh := hS.1
  obtain ⟨⟨C, f, a1, a2, a3, a4, a5⟩, ht⟩ := hl
  obtain ⟨n, rfl⟩ := il_ex (K := 12) (m := m) (by omega)
  refine ⟨trivial, c_wordOf e1 e2 (by omega) (by omega) (by omega) ?_⟩
  rw [(cS.2.2.2.1 h hh i hi).1]
  refine mc_loop hS hR cS (w := S.wd h i) (M := 1000) hwt.1 a1 a2 a4 a5 rfl ?_ C 0 n σ _ _ _ (by omega) (by omega) (off_rf _ _) cF (by rw [nrF]; exact cR.2.2.1) oi_0
  intro m' τ x4 x5 o6 hm' ho hc e4
  rw [a3] at e4
  obtain ⟨n', rfl⟩ := il_ex (K := 100) (m := m') (by omega)
  have cS' : cSP τ 0 S := cSP_off ho (by decide) cS
  have cR' : cRU τ 0 S R := cRU_off ho (by decide) cR
  have hb := nrS_le (E := E) (w := S.wd h i) (s := s) hR 5
  have htf := tmF_le (fl := fun _ _ => true) hS hR hE hs
  have hwn := hR.2.2.2.1
  refine ⟨trivial, c_timeOf e1 e2 (by omega) (by omega) (by omega) ?_⟩
  rw [(cS'.2.2.2.1 h hh i hi).2]
  have g7 : τ.1 9 0 11 0 = nI (tmF S R E s (fun _ _ => true)) := by rw [off_1 ho (by decide)]; exact ht
  have fin : ∀ (y : Int32) (p5 : Option AV) (n2 : Nat), 20 ≤ n2 → y = nI ((S.tm h i - tmF S R E s (fun _ _ => true)) + (tmF S R E s (fun _ _ => true) - S.tm h i)) → wp N n2 (e + 3, 0) TX9_matchCost 51 [some (.inr (.inr (9, 0, 0))), some (.inl x1), some (.inl x2), some (.inl (nI (S.wd h i))), some (.inl x4), p5, o6] [.inl y] τ Q := by
    intro y p5 n2 hn2 hy
    obtain ⟨n3, rfl⟩ := il_ex hn2
    have hq := hQ τ ho hc
    unfold mcS far1 at hq
    refine b_le hy cR'.2.2.2.1 (by omega) (by omega) (fun q => ?_) (fun q => ?_)
    · refine ⟨Or.inl rfl, ?_⟩
      rw [if_neg (by omega), Nat.add_zero, ← e4] at hq
      exact hq
    · refine ⟨trivial, Or.inl rfl, ?_⟩
      rw [if_pos (by omega), ← il_inc e4] at hq
      exact hq
  have lc := late_c (a := S.tm h i) (b := tmF S R E s (fun _ _ => true)) (w := R.wn) hwt.2 htf hwn
  have g8 : nI (S.tm h i) - τ.1 9 0 11 0 = nI (S.tm h i) - nI (tmF S R E s (fun _ _ => true)) := by rw [g7]
  refine ⟨fun q => ?_, fun q => ?_⟩
  · have q : (0 : Int32) ≤ nI (S.tm h i) - nI (tmF S R E s (fun _ _ => true)) := by rw [← g8]; exact q
    rw [if_pos q] at lc
    refine adv 1 30 (by omega) (fun n3 hn3 => ?_)
    exact fin _ _ n3 (by omega) (g8.trans lc)
  · have q : ¬ (0 : Int32) ≤ nI (S.tm h i) - nI (tmF S R E s (fun _ _ => true)) := by rw [← g8]; exact q
    rw [if_neg q] at lc
    exact ⟨trivial, fin _ _ _ (by omega) ((congrArg (fun z => -z) g8).trans lc)⟩
end MC
