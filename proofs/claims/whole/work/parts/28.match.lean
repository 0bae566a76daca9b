/-! what it costs that a word comes into a SLOT -/
def nrS (S : SPc) (R : RUc) (E : NEc) (w s : Nat) : Nat → Nat
  | 0 => R.nr
  | g + 1 => match E.th s g with
    | some j => min (farS S w (S.wd g j)) (nrS S R E w s g)
    | none => nrS S R E w s g
def far1 (a b wn : Nat) : Nat := if wn < (a - b) + (b - a) then 1 else 0
def mcS (S : SPc) (R : RUc) (E : NEc) (h i s : Nat) : Nat := nrS S R E (S.wd h i) s 5 + far1 (S.tm h i) (tmF S R E s (fun _ _ => true)) R.wn
theorem nrS_n {S : SPc} {R : RUc} {E : NEc} {w s g : Nat} (q : E.th s g = none) : nrS S R E w s (g + 1) = nrS S R E w s g := by rw [nrS, q]
theorem nrS_s {S : SPc} {R : RUc} {E : NEc} {w s g j : Nat} (q : E.th s g = some j) : nrS S R E w s (g + 1) = min (farS S w (S.wd g j)) (nrS S R E w s g) := by rw [nrS, q]
theorem nrS_mono {S : SPc} {R : RUc} {E : NEc} {w s : Nat} : ∀ {a b : Nat}, a ≤ b → nrS S R E w s b ≤ nrS S R E w s a := by
  intro a b h
  induction b with
  | zero => obtain rfl : a = 0 := by omega
            exact Nat.le_refl _
  | succ b ih =>
    by_cases e : a = b + 1
    · subst e; exact Nat.le_refl _
    · refine Nat.le_trans ?_ (ih (by omega))
      cases q : E.th s b with
      | none => rw [nrS_n q]; exact Nat.le_refl _
      | some j => rw [nrS_s q]; exact Nat.min_le_right _ _
theorem nrS_le {S : SPc} {R : RUc} {E : NEc} {w s : Nat} (hR : vRU S R) (g : Nat) : nrS S R E w s g ≤ 9 := Nat.le_trans (nrS_mono (Nat.zero_le g)) hR.2.2.1
theorem nrS_tail {S : SPc} {R : RUc} {E : NEc} {w s a : Nat} : ∀ {b : Nat}, a ≤ b → (∀ i, a ≤ i → i < b → E.th s i = none) → nrS S R E w s b = nrS S R E w s a
  | 0, h, _ => by obtain rfl : a = 0 := by omega
                  rfl
  | b + 1, h, hz => by
    by_cases e : a = b + 1
    · subst e; rfl
    · rw [nrS_n (hz b (by omega) (by omega)), nrS_tail (b := b) (by omega) (fun i h1 h2 => hz i h1 (by omega))]
theorem tmF_le {S : SPc} {R : RUc} {E : NEc} {s : Nat} {fl : Nat → Nat → Bool} (hS : vSP S) (hR : vRU S R) (hE : vNE S E) (hs : s < E.ns) : tmF S R E s fl ≤ 999 := by
  have h1 : ∀ n, sm (tmU S R E s fl) n ≤ sm (tmB R E s fl) n * 999 := by
    intro n
    induction n with
    | zero => simp [sm]
    | succ n ih =>
      rw [sm, sm, Nat.add_mul]
      refine Nat.add_le_add ih ?_
      cases q : E.th s n with
      | none => rw [tmU_n q]; exact Nat.zero_le _
      | some i =>
        have h1 := hE.2.2.2.2.1 s n i hs q
        by_cases hf : fl n i = true
        · rw [tmU_t q hf, tmB_t q hf]
          exact Nat.mul_le_mul_left _ (hS.2.2.1 n h1.1 i h1.2.1).2
        · rw [tmU_f q hf]; exact Nat.zero_le _
  unfold tmF
  exact Nat.div_le_of_le_mul (h1 5)
theorem nI_neg_sub (a b : Nat) : -(nI a - nI b) = nI b - nI a := Int32.neg_sub
/-- how far two TIMES are apart, against the WINDOW: as the class tells it -/
theorem late_c {a b w : Nat} (ha : a ≤ 999) (hb : b ≤ 999) (hw : w ≤ 999) : (if (0 : Int32) ≤ nI a - nI b then nI a - nI b else -(nI a - nI b)) = nI ((a - b) + (b - a)) := by
  by_cases h : b ≤ a
  · have e : nI a - nI b = nI (a - b) := pk_sub h
    rw [e, if_pos (nI_pos' (by omega)), show (a - b) + (b - a) = a - b by omega]
  · have e : nI b - nI a = nI (b - a) := pk_sub (by omega)
    have hn : nI a - nI b < 0 := pk_sneg (by omega) (by omega)
    rw [if_neg (Int32.not_le.mpr hn), nI_neg_sub, e, show (a - b) + (b - a) = b - a by omega]
section MC
variable {N e k : Nat} {σ : ST} {Q : POST} {S : SPc} {R : RUc} {E : NEc}
abbrev mcV (k : Nat) (x2 x3 x4 x5 x6 x7 : Int32) (o8 o9 : Option AV) : List (Option AV) := [some (.inr (.inr (9, 0, 0))), some (.inr (.inr (3, k, 0))), some (.inl x2), some (.inl x3), some (.inl x4), some (.inl x5), some (.inl x6), some (.inl x7), o8, o9]
set_option maxRecDepth 100000 in
theorem mc_loop (hS : vSP S) (hR : vRU S R) (hE : vNE S E) (cS : cSP σ 0 S) (cE : cNE σ k E) {s w M : Nat} (hs : s < E.ns) (hw : w < S.nw) {x2 x3 x4 x5 : Int32} (e2 : x2 = nI s) (e5 : x5 = nI w)
    (K : ∀ (m : Nat) (τ : ST) (x6 x7 : Int32) (o8 o9 : Option AV), M ≤ m → off [(6, 0, 1), (2, 0, 3)] σ τ → cFA τ S → x6 = nI (nrS S R E w s 5) → wp N m (e + 3, 0) TX9_matchCost 43 (mcV k x2 x3 x4 x5 x6 x7 o8 o9) [] τ Q) :
    ∀ (r g m : Nat) (τ : ST) (x6 x7 : Int32) (o8 o9 : Option AV), g + r = 5 → 700000 + 300 * r + M ≤ m → off [(6, 0, 1), (2, 0, 3)] σ τ → cFA τ S → x6 = nI (nrS S R E w s g) → x7 = nI g →
      wp N m (e + 3, 0) TX9_matchCost 12 (mcV k x2 x3 x4 x5 x6 x7 o8 o9) [] τ Q := by
  have hns := vNE_ns hS hE
  have hnw := hS.2.2.2.1
  intro r
  induction r with
  | zero =>
    intro g m τ x6 x7 o8 o9 hg hm ho hc e6 e7
    obtain ⟨n, rfl⟩ := il_ex (K := 3) (m := m) (by omega)
    obtain rfl : g = 5 := by omega
    refine b_ge e7 i5 (by omega) (by omega) (fun _ => ?_) (fun q => by omega)
    exact K n τ x6 x7 o8 o9 (by omega) ho hc e6
  | succ r ih =>
    intro g m τ x6 x7 o8 o9 hg hm ho hc e6 e7
    obtain ⟨n, rfl⟩ := il_ex (K := 100) (m := m) (by omega)
    have hb := nrS_le (E := E) (w := w) (s := s) hR g
    have cS' : cSP τ 0 S := cSP_off ho (by decide) cS
    have cE' : cNE τ k E := cNE_off ho (by intro r hr; rcases List.mem_cons.mp hr with rfl | hr; · simp
                                           · rcases List.mem_cons.mp hr with rfl | hr
                                             · simp
                                             · cases hr) cE
    have nxt : ∀ (τ' : ST) (y6 : Int32) (p8 p9 : Option AV) (n' : Nat), 700000 + 300 * r + 2 + M ≤ n' → off [(6, 0, 1), (2, 0, 3)] σ τ' → cFA τ' S → y6 = nI (nrS S R E w s (g + 1)) → wp N n' (e + 3, 0) TX9_matchCost 41 (mcV k x2 x3 x4 x5 y6 x7 p8 p9) [] τ' Q := by
      intro τ' y6 p8 p9 n' hn' ho' hc' e6'
      obtain ⟨n2, rfl⟩ := il_ex (K := 2) (m := n') (by omega)
      exact ⟨trivial, ih (g + 1) n2 τ' _ _ _ _ (by omega) (by omega) ho' hc' e6' (il_inc e7)⟩
    refine b_ge e7 i5 (by omega) (by omega) (fun q => by omega) (fun _ => ?_)
    refine b_le e6 z0 (by omega) (by omega) (fun q => ?_) (fun _ => ?_)
    · exact K _ τ x6 x7 o8 o9 (by omega) ho hc (by rw [e6]; congr 1; have := nrS_mono (S := S) (R := R) (E := E) (w := w) (s := s) (show g ≤ 5 by omega); omega)
    · refine ⟨trivial, c_thereOf e2 e7 (by omega) (by omega) (by omega) ?_⟩
      rw [cE'.2.2.2.2.2 s hs g (by omega)]
      have hlt : ∀ i, E.th s g = some i → i < 2147483648 := fun i e' => by
        have h1 := hE.2.2.2.2.1 s g i hs e'
        have h2 := (hS.2.1 g h1.1).2
        omega
      refine b_there ne2 rfl hlt (fun q1 => ?_) (fun j q1 q2 => ?_)
      · exact nxt τ _ _ _ _ (by omega) ho hc (by rw [e6, nrS_n q1])
      · have h1 := hE.2.2.2.2.1 s g j hs q1
        have h2 := (hS.2.1 g h1.1).2
        have h6 := hS.2.2.1 g h1.1 j h1.2.1
        refine ⟨trivial, c_wordOf e7 q2 (by omega) (by omega) (by omega) ?_⟩
        rw [(cS'.2.2.2.1 g h1.1 j h1.2.1).1]
        refine ⟨trivial, c_farsApart hS cS' hc hw h6.1 e5 rfl (by omega) ?_⟩
        intro τ2 ho2 hc2
        have hf := farS_le hS hw h6.1
        refine b_ge rfl e6 (by omega) (by omega) (fun q3 => ?_) (fun q3 => ?_)
        · refine adv 2 (700000 + 300 * r + 2 + M) (by omega) (fun n3 hn3 => ?_)
          exact nxt τ2 _ _ _ n3 hn3 (off_tr ho ho2) hc2 (by rw [e6, nrS_s q1]; congr 1; omega)
        · refine ⟨trivial, ?_⟩
          refine adv 1 (700000 + 300 * r + 2 + M) (by omega) (fun n3 hn3 => ?_)
          exact nxt τ2 _ _ _ n3 hn3 (off_tr ho ho2) hc2 (by rw [nrS_s q1]; congr 1; omega)
set_option maxRecDepth 100000 in
/-- Weaver.matchCost, where the TIMES of the SLOTS are laid -/
theorem c_matchCost (hS : vSP S) (hR : vRU S R) (hE : vNE S E) (cS : cSP σ 0 S) (cR : cRU σ 0 S R) (cE : cNE σ k E) (cF : cFA σ S) {s h i m : Nat} (hs : s < E.ns) (hh : h < S.nh) (hi : i < S.cn h) (ht : σ.1 9 0 7 s = nI (tmF S R E s (fun _ _ => true)))
    {x2 x3 x4 : Int32} (e2 : x2 = nI s) (e3 : x3 = nI h) (e4 : x4 = nI i) (hm : 800000 ≤ m) (hQ : ∀ τ, off [(6, 0, 1), (2, 0, 3)] σ τ → cFA τ S → Q (some (.inl (nI (mcS S R E h i s)))) τ) :
    wp N m (e + 3, 0) TX9_matchCost 0 [some (.inr (.inr (9, 0, 0))), some (.inr (.inr (3, k, 0))), some (.inl x2), some (.inl x3), some (.inl x4), none, none, none, none, none] [] σ Q := by
  have hns := vNE_ns hS hE
  have hcn := hS.2.1 h hh
  have hwt := hS.2.2.1 h hh i hi
  have hnh := hS.1
  obtain ⟨n, rfl⟩ := il_ex (K := 12) (m := m) (by omega)
  refine ⟨trivial, c_wordOf e3 e4 (by omega) (by omega) (by omega) ?_⟩
  rw [(cS.2.2.2.1 h hh i hi).1]
  refine mc_loop hS hR hE cS cE (w := S.wd h i) (M := 1000) hs hwt.1 e2 rfl ?_ 5 0 n σ _ _ _ _ (by omega) (by omega) (off_rf _ _) cF (by rw [nrS]; exact cR.2.2.1) oi_0
  intro m' τ x6 x7 o8 o9 hm' ho hc e6
  obtain ⟨n', rfl⟩ := il_ex (K := 100) (m := m') (by omega)
  have cS' : cSP τ 0 S := cSP_off ho (by decide) cS
  have cR' : cRU τ 0 S R := cRU_off ho (by decide) cR
  have hb := nrS_le (E := E) (w := S.wd h i) (s := s) hR 5
  have htf := tmF_le (fl := fun _ _ => true) hS hR hE hs
  have hwn := hR.2.2.2.1
  refine ⟨trivial, c_timeOf e3 e4 (by omega) (by omega) (by omega) ?_⟩
  rw [(cS'.2.2.2.1 h hh i hi).2]
  refine ⟨il_in e2 (by omega) (by omega), ?_⟩
  have g7 : τ.1 9 0 7 x2.toNatClampNeg = nI (tmF S R E s (fun _ _ => true)) := by rw [il_cl e2 (by omega), off_1 ho (by decide)]; exact ht
  have fin : ∀ (y : Int32) (p7 : Option AV) (n2 : Nat), 20 ≤ n2 → y = nI ((S.tm h i - tmF S R E s (fun _ _ => true)) + (tmF S R E s (fun _ _ => true) - S.tm h i)) → wp N n2 (e + 3, 0) TX9_matchCost 60 [some (.inr (.inr (9, 0, 0))), some (.inr (.inr (3, k, 0))), some (.inl x2), some (.inl x3), some (.inl x4), some (.inl (nI (S.wd h i))), some (.inl x6), p7, o8, o9] [.inl y] τ Q := by
    intro y p7 n2 hn2 hy
    obtain ⟨n3, rfl⟩ := il_ex hn2
    have hq := hQ τ ho hc
    unfold mcS far1 at hq
    refine b_le hy cR'.2.2.2.1 (by omega) (by omega) (fun q => ?_) (fun q => ?_)
    · refine ⟨Or.inl rfl, ?_⟩
      rw [if_neg (by omega), Nat.add_zero, ← e6] at hq
      exact hq
    · refine ⟨trivial, Or.inl rfl, ?_⟩
      rw [if_pos (by omega), ← il_inc e6] at hq
      exact hq
  have lc := late_c (a := S.tm h i) (b := tmF S R E s (fun _ _ => true)) (w := R.wn) hwt.2 htf hwn
  have g8 : nI (S.tm h i) - τ.1 9 0 7 x2.toNatClampNeg = nI (S.tm h i) - nI (tmF S R E s (fun _ _ => true)) := by rw [g7]
  refine ⟨fun q => ?_, fun q => ?_⟩
  · have q : (0 : Int32) ≤ nI (S.tm h i) - nI (tmF S R E s (fun _ _ => true)) := by rw [← g8]; exact q
    rw [if_pos q] at lc
    refine adv 1 30 (by omega) (fun n3 hn3 => ?_)
    exact fin _ _ n3 (by omega) (g8.trans lc)
  · have q : ¬ (0 : Int32) ≤ nI (S.tm h i) - nI (tmF S R E s (fun _ _ => true)) := by rw [← g8]; exact q
    rw [if_neg q] at lc
    exact ⟨trivial, fin _ _ _ (by omega) ((congrArg (fun z => -z) g8).trans lc)⟩
end MC
