/-! what is written -/
def wdL (S : SPc) (w k : Nat) : List Nat := (List.range k).map (fun j => 97 + S.lt w j)
theorem wdL_s (S : SPc) (w k : Nat) : wdL S w (k + 1) = wdL S w k ++ [97 + S.lt w k] := by unfold wdL; rw [List.range_succ, List.map_append]; rfl
theorem wdL_len (S : SPc) (w k : Nat) : (wdL S w k).length = k := by unfold wdL; simp
noncomputable def ikW (S : SPc) (R : RUc) (E : NEc) (s : Nat) : List Nat := (if hdC S R E s = 0 then [] else [32]) ++ (wdL S (wnF S R E s) (S.ln (wnF S R E s)) ++ (if dB S R E s < 2 * dA S R E s then [63] else []))
noncomputable def ikL (S : SPc) (R : RUc) (E : NEc) : Nat → List Nat
  | 0 => []
  | s + 1 => if wnF S R E s = 60 then ikL S R E s else ikL S R E s ++ ikW S R E s
theorem ikL_eq {S : SPc} {R : RUc} {E : NEc} {s : Nat} : ∀ t, s ≤ t → hdC S R E s = hdC S R E t → ikL S R E s = ikL S R E t
  | 0, h, _ => by obtain rfl : s = 0 := by omega
                  rfl
  | t + 1, h, e => by
    by_cases q : s = t + 1
    · rw [q]
    · by_cases w : wnF S R E t = 60
      · rw [ikL, if_pos w]
        rw [hdC, if_pos w] at e
        exact ikL_eq t (by omega) e
      · have h1 := hdC_mono S R E (a := s) (b := t) (by omega)
        rw [hdC, if_neg w] at e
        omega
theorem ikL_e2 {S : SPc} {R : RUc} {E : NEc} {s t : Nat} (e : hdC S R E s = hdC S R E t) : ikL S R E s = ikL S R E t := by
  by_cases q : s ≤ t
  · exact ikL_eq t q e
  · exact (ikL_eq s (by omega) e.symm).symm
theorem ikL_len {S : SPc} {R : RUc} {E : NEc} (hS : vSP S) (hR : vRU S R) (hE : vNE S E) : ∀ s, s ≤ E.ns → (ikL S R E s).length ≤ 8 * hdC S R E s ∧ (0 < hdC S R E s → 0 < (ikL S R E s).length)
  | 0, _ => ⟨Nat.le_refl _, fun h => absurd h (Nat.not_lt_zero _)⟩
  | s + 1, h => by
    have ih := ikL_len hS hR hE s (by omega)
    rw [ikL, hdC]
    by_cases w : wnF S R E s = 60
    · rw [if_pos w, if_pos w]; exact ih
    · rw [if_neg w, if_neg w]
      have hw := (wnF_le (s := s) hS hR hE (by omega)).2 w
      have hl := hS.2.2.2.2 _ hw
      have : (ikW S R E s).length ≤ 8 ∧ 0 < (ikW S R E s).length := by
        unfold ikW
        rw [List.length_append, List.length_append, wdL_len]
        have a : (if hdC S R E s = 0 then ([] : List Nat) else [32]).length ≤ 1 := by split <;> simp
        have b : (if dB S R E s < 2 * dA S R E s then [63] else ([] : List Nat)).length ≤ 1 := by split <;> simp
        omega
      rw [List.length_append]
      omega
def rwL (f : Nat → Int32) (l : List Nat) : Prop := ∀ i, i < l.length → f i = nI (l.getD i 0)
theorem rwL_ap {f g : Nat → Int32} {l : List Nat} {x : Nat} (h : rwL f l) (hg : ∀ i, g i = if i = l.length then nI x else f i) : rwL g (l ++ [x]) := by
  intro i hi
  rw [List.length_append] at hi
  simp only [List.length_cons, List.length_nil] at hi
  rw [hg i]
  by_cases q : i = l.length
  · rw [if_pos q, q]
    rw [List.getD_eq_getElem?_getD, List.getElem?_append_right (Nat.le_refl _)]
    simp
  · rw [if_neg q, h i (by omega)]
    rw [List.getD_eq_getElem?_getD, List.getD_eq_getElem?_getD, List.getElem?_append_left (by omega)]
def cWR (σ : ST) (l : List Nat) : Prop := σ.1 10 0 17 0 = nI l.length ∧ rwL (σ.1 10 0 2) l
def mWR (σ : ST) (l : List Nat) : Prop := σ.1 11 0 48 0 = nI l.length ∧ rwL (σ.1 11 0 47) l
theorem i480 : Int32.ofNat 480 = nI 480 := rfl
abbrev xOff : List RF := [(10, 0, 2), (10, 0, 17)]
abbrev xOfM : List RF := [(11, 0, 47), (11, 0, 48)]
theorem i97 : (Int8.ofInt 97).toInt32 = nI 97 := by decide
theorem i32 : (Int8.ofInt 32).toInt32 = nI 32 := by decide
theorem i63 : (Int8.ofInt 63).toInt32 = nI 63 := by decide
section WR
variable {N e m : Nat} {σ : ST} {Q : POST} {S : SPc} {R : RUc} {E : NEc}
set_option maxRecDepth 100000 in
theorem c_putWritten {l : List Nat} {x : Nat} {x1 : Int32} (e1 : x1 = nI x) (c : cWR σ l) (hl : l.length < 480) (hm : 50 ≤ m) (hQ : ∀ τ, off xOff σ τ → cWR τ (l ++ [x]) → Q none τ) :
    wp N m (e, 0) TX10_putWritten 0 [some (.inr (.inr (10, 0, 0))), some (.inl x1)] [] σ Q := by
  obtain ⟨n, rfl⟩ := il_ex hm
  refine b_lt c.1 z0 (by omega) (by omega) (fun q => by omega) (fun _ => ?_)
  refine b_ge c.1 i480 (by omega) (by omega) (fun q => by omega) (fun _ => ?_)
  refine ⟨il_in c.1 (by omega) (by omega), ?_⟩
  have cl : (σ.1 10 0 (16 + 1) 0).toNatClampNeg = l.length := il_cl c.1 (by omega)
  rw [cl]
  refine hQ _ (off_uI (off_uI (off_rf _ _) (by decide)) (by decide)) ⟨?_, rwL_ap c.2 (fun i => ?_)⟩
  · rw [uI_at]
    show (uI σ 10 0 2 l.length x1).1 10 0 17 0 + Int32.ofInt 1 = _
    rw [uI_nr _ _ _ _ _ _ (by decide), List.length_append]
    exact il_inc c.1
  · show (uI (uI σ 10 0 2 l.length x1) 10 0 17 0 _).1 10 0 2 i = _
    rw [uI_nr _ _ _ _ _ _ (by decide), uI_if, e1]
theorem c_inks {l : List Nat} {x : Nat} {x1 : Int32} (e1 : x1 = nI x) (c : mWR σ l) (hl : l.length < 480) (hm : 50 ≤ m) (hQ : ∀ τ, off xOfM σ τ → mWR τ (l ++ [x]) → Q none τ) :
    wp N m (e, 0) TX11_inks 0 [some (.inr (.inr (11, 0, 0))), some (.inl x1)] [] σ Q := by
  obtain ⟨n, rfl⟩ := il_ex hm
  refine ⟨il_in c.1 (by omega) (by omega), ?_⟩
  have cl : (σ.1 11 0 (47 + 1) 0).toNatClampNeg = l.length := il_cl c.1 (by omega)
  rw [cl]
  refine hQ _ (off_uI (off_uI (off_rf _ _) (by decide)) (by decide)) ⟨?_, rwL_ap c.2 (fun i => ?_)⟩
  · rw [uI_at]
    show (uI σ 11 0 47 l.length x1).1 11 0 48 0 + Int32.ofInt 1 = _
    rw [uI_nr _ _ _ _ _ _ (by decide), List.length_append]
    exact il_inc c.1
  · show (uI (uI σ 11 0 47 l.length x1) 11 0 48 0 _).1 11 0 47 i = _
    rw [uI_nr _ _ _ _ _ _ (by decide), uI_if, e1]
theorem c_letterOf {k : Nat} {x y : Int32} {w j : Nat} (ex : x = nI w) (ey : y = nI j) (hw : w < 60) (hj : j < 6) (hm : 40 ≤ m) (hQ : Q (some (.inl (σ.1 8 k 9 (w * 6 + j)))) σ) : wp N m (e, 0) TX8_letterOf 0 [some (.inr (.inr (8, k, 0))), some (.inl x), some (.inl y)] [] σ Q := by
  obtain ⟨n, rfl⟩ := il_ex hm
  have g : x * (Int8.ofInt 6).toInt32 + y = nI (w * 6 + j) := by rw [ex, ey, i6, pk_mul, nI_add]
  refine b_lt ex z0 (by omega) (by omega) (fun q => by omega) (fun _ => ?_)
  refine b_ge ex i60 (by omega) (by omega) (fun q => by omega) (fun _ => ?_)
  refine b_lt ey z0 (by omega) (by omega) (fun q => by omega) (fun _ => ?_)
  refine b_ge ey i6 (by omega) (by omega) (fun q => by omega) (fun _ => ?_)
  refine ⟨il_in g (by omega) (by omega), trivial, Or.inl rfl, ?_⟩
  rw [← il_cl g (by omega)] at hQ
  exact hQ
set_option maxRecDepth 100000 in
theorem ww6_loop {l : List Nat} {w : Nat} (hS : vSP S) (cS : cSP σ 0 S) (hw : w < S.nw) (hl : l.length + 6 ≤ 480) {x1 : Int32} (e1 : x1 = nI w) (hQ : ∀ τ, off xOff σ τ → cWR τ (l ++ wdL S w (S.ln w)) → Q none τ) :
    ∀ (r k m : Nat) (τ : ST) (x2 : Int32) (o3 : Option AV), k + r = 6 → 40 * r + 100 ≤ m → off xOff σ τ → cWR τ (l ++ wdL S w (min k (S.ln w))) → x2 = nI k →
      wp N m (e + 1, 0) TX10_writeWord 2 [some (.inr (.inr (10, 0, 0))), some (.inl x1), some (.inl x2), o3] [] τ Q := by
  have hnw := hS.2.2.2.1
  have lw := hS.2.2.2.2 w hw
  intro r
  induction r with
  | zero =>
    intro k m τ x2 o3 hr hm ho hc e2
    obtain ⟨n, rfl⟩ := il_ex (K := 10) (m := m) (by omega)
    obtain rfl : k = 6 := by omega
    refine b_ge e2 i6 (by omega) (by omega) (fun _ => ?_) (fun q => by omega)
    rw [show min 6 (S.ln w) = S.ln w by omega] at hc
    exact hQ τ ho hc
  | succ r ih =>
    intro k m τ x2 o3 hr hm ho hc e2
    obtain ⟨n, rfl⟩ := il_ex (K := 25) (m := m) (by omega)
    refine b_ge e2 i6 (by omega) (by omega) (fun q => by omega) (fun _ => ?_)
    refine ⟨trivial, c_letterOf e1 e2 (by omega) (by omega) (by omega) ?_⟩
    rw [((cSP_off ho (by decide) cS).2.2.2.2 w hw).2 k (by omega)]
    by_cases q : k < S.ln w
    · have hlt := lw.2.2 k q
      rw [if_pos q]
      refine ⟨fun z => absurd z (nI_pos (by omega)), fun _ => ?_⟩
      rw [show min k (S.ln w) = k by omega] at hc
      refine ⟨trivial, c_putWritten (x := 97 + S.lt w k) (show (Int8.ofInt 97).toInt32 + nI (S.lt w k) = _ by rw [i97, nI_add]) hc (by rw [List.length_append, wdL_len]; omega) (by omega) ?_⟩
      intro τ2 o2 c2
      refine ⟨trivial, ih (k + 1) _ τ2 _ _ (by omega) (by omega) (off_tr ho o2) ?_ (il_inc e2)⟩
      rw [show min (k + 1) (S.ln w) = k + 1 by omega, wdL_s, ← List.append_assoc]
      exact c2
    · rw [if_neg q]
      refine ⟨fun _ => ?_, fun z => absurd (show (-2 : Int32) < 0 by decide) z⟩
      refine ⟨trivial, ih (k + 1) _ τ _ _ (by omega) (by omega) ho ?_ (il_inc e2)⟩
      rw [show min (k + 1) (S.ln w) = min k (S.ln w) by omega]
      exact hc
set_option maxRecDepth 100000 in
theorem c_writeWord {l : List Nat} {w : Nat} (hS : vSP S) (cS : cSP σ 0 S) (hw : w < S.nw) (hl : l.length + 6 ≤ 480) {x1 : Int32} (e1 : x1 = nI w) (c : cWR σ l) (hm : 400 ≤ m) (hQ : ∀ τ, off xOff σ τ → cWR τ (l ++ wdL S w (S.ln w)) → Q none τ) :
    wp N m (e + 1, 0) TX10_writeWord 0 [some (.inr (.inr (10, 0, 0))), some (.inl x1), none, none] [] σ Q := by
  refine adv 2 390 (by omega) (fun n hn => ?_)
  exact ww6_loop hS cS hw hl e1 hQ 6 0 n σ _ _ (by omega) (by omega) (off_rf _ _) (by rw [Nat.zero_min]; show cWR σ (l ++ []); rw [List.append_nil]; exact c) oi_0
set_option maxRecDepth 100000 in
/-- write of the class: its loop -/
theorem wl_loop (hS : vSP S) (hR : vRU S R) (hE : vNE S E) (cS : cSP σ 0 S) (cH : cHD σ S R E) (cD : cDB σ S R E E.ns) (hQ : ∀ τ, off xOff σ τ → cWR τ (ikL S R E E.ns) → Q (some (.inl (nI (ikL S R E E.ns).length))) (uI (uI τ 10 0 18 0 0) 10 0 20 0 (-1))) :
    ∀ (r i m : Nat) (τ : ST) (x1 : Int32), i + r = hdC S R E E.ns → 60 * r + 600 ≤ m → off xOff σ τ → (∀ s, s ≤ E.ns → hdC S R E s = i → cWR τ (ikL S R E s)) → x1 = nI i →
      wp N m (e + 2, 0) TX10_write 22 [some (.inr (.inr (10, 0, 0))), some (.inl x1)] [] τ Q := by
  have hns := vNE_ns hS hE
  have hle := hdC_le S R E E.ns
  have kH : ∀ τ, off xOff σ τ → cHD τ S R E := fun τ ho => ⟨by rw [off_1 ho (by decide)]; exact cH.1, by rw [(ho 1 0 4 (by decide)).1]; exact cH.2.1, by rw [(ho 1 0 5 (by decide)).1]; exact cH.2.2⟩
  have kD : ∀ τ, off xOff σ τ → cDB τ S R E E.ns := fun τ ho => by
    unfold cDB at *
    rw [(ho 1 0 8 (by decide)).1, (ho 1 0 9 (by decide)).1, (ho 1 0 10 (by decide)).1]
    exact cD
  intro r
  induction r with
  | zero =>
    intro i m τ x1 hr hm ho hc e1
    obtain ⟨n, rfl⟩ := il_ex (K := 12) (m := m) (by omega)
    refine b_ge e1 (kH τ ho).1 (by omega) (by omega) (fun _ => ?_) (fun q => by omega)
    have c := hc E.ns (Nat.le_refl _) (by omega)
    refine ⟨trivial, c_answered (by omega) ?_⟩
    refine ⟨Or.inl rfl, ?_⟩
    rw [show τ.1 10 0 17 0 = _ from c.1]
    exact hQ τ ho c
  | succ r ih =>
    intro i m τ x1 hr hm ho hc e1
    obtain ⟨n, rfl⟩ := il_ex (K := 40) (m := m) (by omega)
    obtain ⟨s, hs, w, es⟩ := hdC_ex (S := S) (R := R) (E := E) (i := i) (n := E.ns) (by omega)
    have c := hc s (by omega) es
    have hw := (wnF_le (s := s) hS hR hE hs).2 w
    have hlen := ikL_len hS hR hE s (by omega)
    have hi : i < 60 := by omega
    have hdn : hdC S R E (s + 1) = i + 1 := by rw [hdC, if_neg w, es]
    have stp : ikL S R E (s + 1) = ikL S R E s ++ ikW S R E s := by rw [ikL, if_neg w]
    have fin : ∀ (τ' : ST) (n' : Nat), 60 * r + 602 ≤ n' → off xOff σ τ' → cWR τ' (ikL S R E (s + 1)) → wp N n' (e + 2, 0) TX10_write 49 [some (.inr (.inr (10, 0, 0))), some (.inl x1)] [] τ' Q := by
      intro τ' n' hn' ho' c'
      obtain ⟨n3, rfl⟩ := il_ex (K := 2) (m := n') (by omega)
      refine ⟨trivial, ih (i + 1) _ τ' _ (by omega) (by omega) ho' (fun t ht et => ?_) (il_inc e1)⟩
      rw [ikL_e2 (show hdC S R E t = hdC S R E (s + 1) by rw [et, hdn])]
      exact c'
    have at32 : ∀ (τ' : ST) (n' : Nat), 60 * r + 620 ≤ n' → off xOff σ τ' → cWR τ' (ikL S R E s ++ (if hdC S R E s = 0 then [] else [32])) → wp N n' (e + 2, 0) TX10_write 32 [some (.inr (.inr (10, 0, 0))), some (.inl x1)] [] τ' Q := by
      intro τ' n' hn' ho' c'
      obtain ⟨n3, rfl⟩ := il_ex (K := 18) (m := n') (by omega)
      have ll : (ikL S R E s ++ (if hdC S R E s = 0 then [] else [32])).length ≤ 8 * i + 1 := by
        rw [List.length_append]
        have a : (if hdC S R E s = 0 then ([] : List Nat) else [32]).length ≤ 1 := by split <;> simp
        omega
      have l6 := hS.2.2.2.2 _ hw
      refine ⟨trivial, c_heardWord (kH τ' ho') hS hE hs w (by rw [es]; exact e1) (by omega) ?_⟩
      refine ⟨trivial, c_writeWord hS (cSP_off ho' (by decide) cS) hw (by omega) rfl c' (by omega) ?_⟩
      intro τ2 o2 c2
      have ho2 := off_tr ho' o2
      refine ⟨trivial, c_heardSlot (kH τ2 ho2) hS hE hs w (by rw [es]; exact e1) (by omega) ?_⟩
      refine ⟨trivial, c_isAboveHalf hS hR hE (kD τ2 ho2) hs rfl (by omega) (fun q => ?_) (fun q => ?_)⟩
      · refine b_eq (a := 1) rfl z0 (by omega) (by omega) (fun q => by omega) (fun _ => ?_)
        refine ⟨trivial, c_putWritten i63 c2 (by rw [List.length_append, wdL_len]; omega) (by omega) ?_⟩
        intro τ3 o3 c3
        refine fin τ3 _ (by omega) (off_tr ho2 o3) ?_
        rw [stp]
        unfold ikW
        rw [if_pos q]
        rw [List.append_assoc, List.append_assoc] at c3
        exact c3
      · refine b_eq (a := 0) rfl z0 (by omega) (by omega) (fun _ => ?_) (fun q => absurd rfl q)
        refine fin τ2 _ (by omega) ho2 ?_
        rw [stp]
        unfold ikW
        rw [if_neg (show ¬ dB S R E s < 2 * dA S R E s by omega), List.append_nil, ← List.append_assoc]
        exact c2
    refine b_ge e1 (kH τ ho).1 (by omega) (by omega) (fun q => by omega) (fun _ => ?_)
    refine b_le e1 z0 (by omega) (by omega) (fun q => ?_) (fun q => ?_)
    · refine at32 τ _ (by omega) ho ?_
      rw [if_pos (by omega), List.append_nil]; exact c
    · refine ⟨trivial, c_putWritten i32 c (by omega) (by omega) ?_⟩
      intro τ2 o2 c2
      refine at32 τ2 _ (by omega) (off_tr ho o2) ?_
      rw [if_neg (by omega)]; exact c2
abbrev zOfM : List RF := [(11, 0, 37), (11, 0, 38), (11, 0, 39), (11, 0, 40), (11, 0, 47), (11, 0, 48)]
set_option maxRecDepth 100000 in
theorem wz_loop {l : List Nat} {w : Nat} {M : Nat} (hM : 1500 ≤ M) (hS : vSP S) (cS : mSP σ S) (hw : w < S.nw) (hl : l.length + 6 ≤ 480) {x1 x2 x3 : Int32} (e3 : x3 = nI w)
    (K : ∀ (m : Nat) (τ : ST) (x4 : Int32), M ≤ m → off xOfM σ τ → mWR τ (l ++ wdL S w (S.ln w)) → wp N m (e + 2, 0) TX11_write 63 [some (.inr (.inr (11, 0, 0))), some (.inl x1), some (.inl x2), some (.inl x3), some (.inl x4)] [] τ Q) :
    ∀ (r k m : Nat) (τ : ST) (x4 : Int32), k + r = S.ln w → 40 * r + 40 + M ≤ m → off xOfM σ τ → mWR τ (l ++ wdL S w k) → x4 = nI k →
      wp N m (e + 2, 0) TX11_write 44 [some (.inr (.inr (11, 0, 0))), some (.inl x1), some (.inl x2), some (.inl x3), some (.inl x4)] [] τ Q := by
  have hnw := hS.2.2.2.1
  have lw := hS.2.2.2.2 w hw
  intro r
  induction r with
  | zero =>
    intro k m τ x4 hr hm ho hc e4
    obtain ⟨n, rfl⟩ := il_ex (K := 10) (m := m) (by omega)
    obtain rfl : k = S.ln w := by omega
    refine ⟨il_in e3 (by omega) (by omega), ?_⟩
    have g := (mSP_off ho (by decide) cS).2.2.2.2 w hw
    refine ⟨trivial, c_lettersIn (f := S.lt w) (n := S.ln w) (by omega) lw.2.2 (by rw [il_cl e3 (by omega)]; exact g) (by omega) ?_⟩
    refine b_ge e4 rfl (by omega) (by omega) (fun _ => ?_) (fun q => by omega)
    exact K _ τ _ (by omega) ho hc
  | succ r ih =>
    intro k m τ x4 hr hm ho hc e4
    obtain ⟨n, rfl⟩ := il_ex (K := 25) (m := m) (by omega)
    have hlt := lw.2.2 k (by omega)
    have g := (mSP_off ho (by decide) cS).2.2.2.2 w hw
    refine ⟨il_in e3 (by omega) (by omega), ?_⟩
    refine ⟨trivial, c_lettersIn (f := S.lt w) (n := S.ln w) (by omega) lw.2.2 (by rw [il_cl e3 (by omega)]; exact g) (by omega) ?_⟩
    refine b_ge e4 rfl (by omega) (by omega) (fun q => by omega) (fun _ => ?_)
    refine ⟨il_in e3 (by omega) (by omega), ?_⟩
    refine ⟨trivial, c_letterIn (f := S.lt w) (n := S.ln w) (by omega) lw.2.2 (by rw [il_cl e3 (by omega)]; exact g) e4 (by omega) (by omega) ?_⟩
    refine ⟨trivial, c_inks (x := 97 + S.lt w k) (show (Int8.ofInt 97).toInt32 + nI (S.lt w k) = _ by rw [i97, nI_add]) hc (by rw [List.length_append, wdL_len]; omega) (by omega) ?_⟩
    intro τ2 o2 c2
    refine ⟨trivial, ih (k + 1) _ τ2 _ (by omega) (by omega) (off_tr ho o2) ?_ (il_inc e4)⟩
    rw [wdL_s, ← List.append_assoc]
    exact c2
set_option maxRecDepth 100000 in
/-- write of the reference: its loop -/
theorem wm1_loop (hS : vSP S) (hR : vRU S R) (hE : vNE S E) (cS : mSP σ S) (cR : mRU (σ.1 11 0 27) S R) (cE : mNE (σ.1 11 0 27) E) (hQ : ∀ τ, off zOfM σ τ → mWR τ (ikL S R E E.ns) → Q (some (.inl (nI (ikL S R E E.ns).length))) (uI (uI τ 11 0 2 0 0) 11 0 3 0 (-1))) :
    ∀ (r s m : Nat) (τ : ST) (x1 : Int32) (o2 o3 o4 : Option AV), s + r = E.ns → 400 * r + 4000 ≤ m → off zOfM σ τ → mWR τ (ikL S R E s) → x1 = nI s →
      wp N m (e + 3, 0) TX11_write 15 [some (.inr (.inr (11, 0, 0))), some (.inl x1), o2, o3, o4] [] τ Q := by
  have hns := vNE_ns hS hE
  have v21 : ∀ τ, off zOfM σ τ → τ.1 11 0 27 (Int8.ofInt 21).toInt32.toNatClampNeg = nI E.ns := fun τ ho => by rw [il_cl i21 (by omega)]; exact (mNE_off ho (by decide) cE).2.1
  intro r
  induction r with
  | zero =>
    intro s m τ x1 o2 o3 o4 hr hm ho hc e1
    obtain ⟨n, rfl⟩ := il_ex (K := 12) (m := m) (by omega)
    obtain rfl : s = E.ns := by omega
    refine ⟨il_in i21 (by omega) (by omega), ?_⟩
    refine b_ge e1 (v21 τ ho) (by omega) (by omega) (fun _ => ?_) (fun q => by omega)
    refine ⟨trivial, c_good (by omega) ?_⟩
    refine ⟨Or.inl rfl, ?_⟩
    rw [show τ.1 11 0 48 0 = _ from hc.1]
    exact hQ τ ho hc
  | succ r ih =>
    intro s m τ x1 o2 o3 o4 hr hm ho hc e1
    obtain ⟨n, rfl⟩ := il_ex (K := 40) (m := m) (by omega)
    have hs : s < E.ns := by omega
    have hlen := ikL_len hS hR hE s (by omega)
    have hdl := hdC_le S R E s
    refine ⟨il_in i21 (by omega) (by omega), ?_⟩
    refine b_ge e1 (v21 τ ho) (by omega) (by omega) (fun q => by omega) (fun _ => ?_)
    refine ⟨trivial, c_doubtOf (jv := 27) (e := e) rfl (by decide) hS hR hE (mSP_off ho (by decide) cS) (mRU_off ho (by decide) cR) (mNE_off ho (by decide) cE) hs e1 (by omega) ?_⟩
    intro τ1 ho1 v1
    have ho1' : off zOfM σ τ1 := off_tr ho (off_in ho1 (by decide))
    have c1 : mWR τ1 (ikL S R E s) := by
      unfold mWR at *
      rw [(ho1 11 0 48 (by decide)).1, (ho1 11 0 47 (by decide)).1]; exact hc
    refine ⟨il_in oi_0 (by omega) (by omega), ?_⟩
    have wv : τ1.1 11 0 37 (Int32.ofInt 0).toNatClampNeg = wcI (wnF S R E s) := by rw [il_cl oi_0 (by omega)]; exact (v1.2.2 0 (vt_pos hE hS hs)).1
    have hw0 := wnF_le (s := s) hS hR hE hs
    have fin : ∀ (τ' : ST) (n' : Nat) (o2 o3 o4 : Option AV), 400 * r + 4002 ≤ n' → off zOfM σ τ' → mWR τ' (ikL S R E (s + 1)) → wp N n' (e + 3, 0) TX11_write 72 [some (.inr (.inr (11, 0, 0))), some (.inl x1), o2, o3, o4] [] τ' Q := by
      intro τ' n' o2 o3 o4 hn' ho' c'
      obtain ⟨n3, rfl⟩ := il_ex (K := 2) (m := n') (by omega)
      exact ⟨trivial, ih (s + 1) _ τ' _ _ _ _ (by omega) (by omega) ho' c' (il_inc e1)⟩
    by_cases w : wnF S R E s = 60
    · refine ⟨fun q => absurd (show τ1.1 11 0 37 (Int32.ofInt 0).toNatClampNeg = (Int8.ofInt (-2)).toInt32 by rw [wv, w, im2]; rfl) q, fun _ => ?_⟩
      exact ⟨trivial, fin τ1 _ _ _ _ (by omega) ho1' (by rw [ikL, if_pos w]; exact c1)⟩
    · have hw := hw0.2 w
      have hnw := hS.2.2.2.1
      have l6 := hS.2.2.2.2 _ hw
      have ew : τ1.1 11 0 37 (Int32.ofInt 0).toNatClampNeg = nI (wnF S R E s) := by rw [wv]; unfold wcI; rw [if_neg w]
      have stp : ikL S R E (s + 1) = ikL S R E s ++ ikW S R E s := by rw [ikL, if_neg w]
      refine ⟨fun _ => ?_, fun q => absurd (fun z => w ((wcI_inj (by omega) (by omega)).mp (show wcI (wnF S R E s) = wcI 60 by rw [show wcI 60 = (-2 : Int32) from rfl, ← im2, ← wv]; exact z))) q⟩
      have at42 : ∀ (τ' : ST) (n' : Nat) (o4 : Option AV), 400 * r + 4320 ≤ n' → off xOfM τ1 τ' → mWR τ' (ikL S R E s ++ (if hdC S R E s = 0 then [] else [32])) → wp N n' (e + 3, 0) TX11_write 42 [some (.inr (.inr (11, 0, 0))), some (.inl x1), some (.inl (nI (dbF (vcO S R E s)))), some (.inl (τ1.1 11 0 37 (Int32.ofInt 0).toNatClampNeg)), o4] [] τ' Q := by
        intro τ' n' o4 hn' ho' c'
        have ll : (ikL S R E s ++ (if hdC S R E s = 0 then [] else [32])).length ≤ 8 * s + 1 := by
          rw [List.length_append]
          have a : (if hdC S R E s = 0 then ([] : List Nat) else [32]).length ≤ 1 := by split <;> simp
          omega
        refine adv 2 (400 * r + 4318) (by omega) (fun n4 hn4 => ?_)
        have ho2 : off zOfM σ τ' := off_tr ho1' (off_in ho' (by decide))
        refine wz_loop (e := e + 1) (M := 400 * r + 4020) (l := ikL S R E s ++ (if hdC S R E s = 0 then [] else [32])) (by omega) hS (mSP_off ho2 (by decide) cS) hw (by omega) ew ?_ (S.ln (wnF S R E s)) 0 n4 τ' _ (by omega) (by omega) (off_rf _ _) (by show mWR τ' (_ ++ []); rw [List.append_nil]; exact c') oi_0
        intro m5 τ5 x4 hm5 o5 c5
        obtain ⟨n5, rfl⟩ := il_ex (K := 12) (m := m5) (by omega)
        have ho5 : off zOfM σ τ5 := off_tr ho2 (off_in o5 (by decide))
        have ba := dA_le hS hR hE hs
        have bb := dB_le hS hR hE hs
        have p1 : Int32.ofInt 2 * nI (dbF (vcO S R E s)) = nI (2 * dA S R E s) := by rw [i2, pk_mul]; rfl
        have p2 : τ5.1 11 0 40 0 = nI (dB S R E s) := by rw [off_1 o5 (by decide), off_1 ho' (by decide)]; exact v1.2.1
        refine b_le p1 p2 (by omega) (by omega) (fun q => ?_) (fun q => ?_)
        · refine fin τ5 _ _ _ _ (by omega) ho5 ?_
          rw [stp]
          unfold ikW
          rw [if_neg (show ¬ dB S R E s < 2 * dA S R E s by omega), List.append_nil, ← List.append_assoc]
          exact c5
        · refine ⟨trivial, c_inks i63 c5 (by rw [List.length_append, wdL_len]; omega) (by omega) ?_⟩
          intro τ6 o6 c6
          refine fin τ6 _ _ _ _ (by omega) (off_tr ho5 (off_in o6 (by decide))) ?_
          rw [stp]
          unfold ikW
          rw [if_pos q]
          rw [List.append_assoc, List.append_assoc] at c6
          exact c6
      refine b_le c1.1 z0 (by omega) (by omega) (fun q => ?_) (fun q => ?_)
      · refine at42 τ1 _ _ (by omega) (off_rf _ _) ?_
        rw [if_pos (by omega), List.append_nil]; exact c1
      · refine ⟨trivial, c_inks i32 c1 (by omega) (by omega) ?_⟩
        intro τ2 o2 c2
        refine at42 τ2 _ _ (by omega) o2 ?_
        rw [if_neg (by omega)]; exact c2
end WR
