/-! the class counts VOTES -/
theorem vcO_t {S : SPc} {R : RUc} {E : NEc} {s h i : Nat} (q : E.th s h = some i) : vcO S R E s h = some (S.wd h i, 100 * R.wt h) := by unfold vcO; rw [q]
theorem vcO_g {S : SPc} {R : RUc} {E : NEc} {s h : Nat} (q : E.th s h = none) (j : (plc E h).isSome = true) : vcO S R E s h = some (60, R.sh * R.wt h) := by unfold vcO; rw [q]; simp only; rw [if_pos j]
theorem vcO_n {S : SPc} {R : RUc} {E : NEc} {s h : Nat} (q : E.th s h = none) (j : plc E h = none) : vcO S R E s h = none := by unfold vcO; rw [q]; simp only; rw [if_neg (by rw [j]; simp)]
theorem plc_lt {S : SPc} {E : NEc} (hE : vNE S E) {h : Nat} (j : (plc E h).isSome = true) : h < S.nh := by
  cases q : plc E h with
  | none => rw [q] at j; cases j
  | some p => have := plc_some q; rw [← this.2]; exact hE.2.1 p this.1
theorem vcO_b {S : SPc} {R : RUc} {E : NEc} {s h c p : Nat} (hS : vSP S) (hR : vRU S R) (hE : vNE S E) (hs : s < E.ns) (q : vcO S R E s h = some (c, p)) : h < S.nh ∧ p ≤ 19800 ∧ (c = 60 ∨ c < S.nw) ∧ c ≤ 60 := by
  have h60 := hS.2.2.2.1
  cases t : E.th s h with
  | some i =>
    rw [vcO_t t] at q
    cases q
    have h1 := hE.2.2.2.2.1 s h i hs t
    have h2 := (hR.2.2.2.2.2 h h1.1).2
    have h3 := (hS.2.2.1 h h1.1 i h1.2.1).1
    exact ⟨h1.1, by omega, Or.inr h3, by omega⟩
  | none =>
    by_cases j : (plc E h).isSome = true
    · rw [vcO_g t j] at q
      cases q
      have h1 := plc_lt hE j
      have h2 := (hR.2.2.2.2.2 h h1).2
      have h3 := hR.2.2.2.2.1
      have h4 : R.sh * R.wt h ≤ 200 * 99 := Nat.mul_le_mul h3 h2
      exact ⟨h1, by omega, Or.inl rfl, by omega⟩
    · have : plc E h = none := by
        cases z : plc E h with
        | none => rfl
        | some p => rw [z] at j; exact absurd rfl j
      rw [vcO_n t this] at q
      cases q
theorem ptF_le {F : VF} {M : Nat} (hF : ∀ h c p, F h = some (c, p) → p ≤ M) (c n : Nat) : ptF F n c ≤ n * M := by
  refine sm_le (fun h _ => ?_)
  cases q : F h with
  | none => rw [vP_n q]; omega
  | some z =>
    obtain ⟨d, p⟩ := z
    rw [vP_s q]
    have := hF h d p q
    split <;> omega
theorem toF_le {F : VF} {M : Nat} (hF : ∀ h c p, F h = some (c, p) → p ≤ M) (n : Nat) : toF F n ≤ n * M := by
  refine sm_le (fun h _ => ?_)
  cases q : F h with
  | none => rw [vA_n q]; omega
  | some z =>
    obtain ⟨d, p⟩ := z
    rw [vA_s q]
    exact hF h d p q
/-- rows that hold choices and points -/
def vR (wr pr : Nat → Int32) (wI : Nat → Int32) (n : Nat) (ch pt : Nat → Nat) : Prop := ∀ i, i < n → wr i = wI (ch i) ∧ pr i = nI (pt (ch i))
/-- one vote more -/
def vst (n : Nat) (ch : Nat → Nat) (c n' : Nat) (ch' : Nat → Nat) : Prop := (∃ i, i < n ∧ ch i = c ∧ n' = n ∧ ch' = ch) ∨ ((∀ i, i < n → ch i ≠ c) ∧ n' = n + 1 ∧ ch' = fun i => if i = n then c else ch i)
theorem vI_st {F : VF} {h n n' c p : Nat} {ch ch' : Nat → Nat} (q : F h = some (c, p)) (v : vI F h n ch) (st : vst n ch c n' ch') : vI F (h + 1) n' ch' := by
  rcases st with ⟨i, hi, e, e1, e2⟩ | ⟨hn, e1, e2⟩
  · subst e1; subst e2; exact vI_old q hi e v
  · subst e1; subst e2; exact vI_new q hn v
theorem ptF_st {F : VF} {h c p : Nat} (q : F h = some (c, p)) (d : Nat) : ptF F (h + 1) d = ptF F h d + (if d = c then p else 0) := by
  show sm (vP F d) h + vP F d h = _
  rw [vP_s q]
  by_cases e : c = d
  · rw [if_pos e, if_pos e.symm]; rfl
  · rw [if_neg e, if_neg (fun z => e z.symm)]; rfl
theorem ptF_nn {F : VF} {h : Nat} (q : F h = none) (d : Nat) : ptF F (h + 1) d = ptF F h d := by
  show sm (vP F d) h + vP F d h = _
  rw [vP_n q]; rfl
abbrev bOff : List RF := [(1, 0, 1), (1, 0, 2), (1, 0, 6), (1, 0, 7)]
section TL
variable {N e m : Nat} {σ : ST} {Q : POST} {S : SPc} {R : RUc} {E : NEc}
set_option maxRecDepth 100000 in
theorem vo_fin {n c p t i0 : Nat} {ch pt : Nat → Nat} {x1 x2 x3 : Int32} (e2 : x2 = nI p) (e3 : x3 = nI i0) (hi0 : i0 < n) (e0 : ch i0 = c) (hn5 : n ≤ 5) (hinj : ∀ i, i < n → ch i = c → i = i0) (hn : σ.1 1 0 1 0 = nI n) (hr : vR (σ.1 1 0 6) (σ.1 1 0 7) nI n ch pt) (ht : σ.1 1 0 2 0 = nI t) (hm : 40 ≤ m)
    (hQ : ∀ τ, off bOff σ τ → τ.1 1 0 1 0 = nI n → vR (τ.1 1 0 6) (τ.1 1 0 7) nI n ch (fun d => pt d + if d = c then p else 0) → τ.1 1 0 2 0 = nI (t + p) → Q none τ) :
    wp N m (e, 0) TX1_vote 38 [some (.inr (.inr (1, 0, 0))), some (.inl x1), some (.inl x2), some (.inl x3)] [] σ Q := by
  obtain ⟨n', rfl⟩ := il_ex hm
  refine ⟨il_in e3 (by omega) (by omega), il_in e3 (by omega) (by omega), ?_⟩
  refine hQ _ (off_uI (off_uI (off_rf _ _) (by decide)) (by decide)) ?_ ?_ ?_
  · rw [uI_nr _ _ _ _ _ _ (by decide), uI_nr _ _ _ _ _ _ (by decide)]; exact hn
  · intro i hi
    have hri := hr i hi
    refine ⟨?_, ?_⟩
    · rw [uI_nr _ _ _ _ _ _ (by decide), uI_nr _ _ _ _ _ _ (by decide)]; exact hri.1
    · rw [uI_nr _ _ _ _ _ _ (by decide), il_cl e3 (by omega), uI_if]
      show (if i = i0 then σ.1 1 0 7 i0 + x2 else σ.1 1 0 7 i) = nI (pt (ch i) + if ch i = c then p else 0)
      by_cases q : i = i0
      · rw [if_pos q, (hr i0 hi0).2, e2, nI_add, q, if_pos e0]
      · rw [if_neg q, if_neg (fun z => q (hinj i hi z)), Nat.add_zero]; exact hri.2
  · show (uI _ 1 0 2 0 _).1 1 0 2 0 = _
    rw [uI_at]
    show (uI σ 1 0 7 x3.toNatClampNeg _).1 1 0 2 0 + x2 = _
    rw [uI_nr _ _ _ _ _ _ (by decide), ht, e2, nI_add]
set_option maxRecDepth 100000 in
theorem vo_loop {n c p t : Nat} {ch pt : Nat → Nat} {x1 x2 : Int32} (e1 : x1 = nI c) (e2 : x2 = nI p) (hn4 : n ≤ 4) (hc : c ≤ 60) (hch : ∀ i, i < n → ch i ≤ 60) (hinj : ∀ i j, i < n → j < n → ch i = ch j → i = j) (hz : (∀ i, i < n → ch i ≠ c) → pt c = 0) (hn : σ.1 1 0 1 0 = nI n) (hr : vR (σ.1 1 0 6) (σ.1 1 0 7) nI n ch pt) (ht : σ.1 1 0 2 0 = nI t)
    (hQ : ∀ τ n' ch', off bOff σ τ → vst n ch c n' ch' → τ.1 1 0 1 0 = nI n' → vR (τ.1 1 0 6) (τ.1 1 0 7) nI n' ch' (fun d => pt d + if d = c then p else 0) → τ.1 1 0 2 0 = nI (t + p) → Q none τ) :
    ∀ (r i m : Nat) (x3 : Int32), i + r = n → 20 * r + 100 ≤ m → (∀ j, j < i → ch j ≠ c) → x3 = nI i →
      wp N m (e, 0) TX1_vote 2 [some (.inr (.inr (1, 0, 0))), some (.inl x1), some (.inl x2), some (.inl x3)] [] σ Q := by
  intro r
  induction r with
  | zero =>
    intro i m x3 hr' hm hj e3
    obtain ⟨n1, rfl⟩ := il_ex (K := 60) (m := m) (by omega)
    obtain rfl : i = n := by omega
    refine b_ge e3 hn (by omega) (by omega) (fun _ => ?_) (fun q => by omega)
    refine b_lt e3 i5 (by omega) (by omega) (fun _ => ?_) (fun q => by omega)
    refine b_ne e3 hn (by omega) (by omega) (fun q => absurd rfl q) (fun _ => ?_)
    refine ⟨il_in e3 (by omega) (by omega), il_in e3 (by omega) (by omega), ?_⟩
    refine adv 6 40 (by omega) (fun n2 hn2 => ?_)
    have hcl : x3.toNatClampNeg = i := il_cl e3 (by omega)
    refine vo_fin (n := i + 1) (c := c) (p := p) (t := t) (i0 := i) (ch := fun z => if z = i then c else ch z) (pt := pt) e2 e3 (by omega) (if_pos rfl) (by omega) ?_ ?_ ?_ ?_ hn2 ?_
    · intro z hz' ez
      apply Classical.byContradiction
      intro q
      simp only [if_neg q] at ez
      exact hj z (by omega) ez
    · show (uI _ 1 0 1 0 _).1 1 0 1 0 = _
      rw [uI_at, hcl]
      show (uI (uI σ 1 0 6 i x1) 1 0 7 i (Int32.ofInt 0)).1 1 0 1 0 + Int32.ofInt 1 = _
      rw [uI_nr _ _ _ _ _ _ (by decide), uI_nr _ _ _ _ _ _ (by decide), hn, oi_1, nI_add]
    · intro z hz'
      rw [hcl]
      refine ⟨?_, ?_⟩
      · show (uI (uI (uI σ 1 0 6 i x1) 1 0 7 i (Int32.ofInt 0)) 1 0 1 0 _).1 1 0 6 z = _
        rw [uI_nr _ _ _ _ _ _ (by decide), uI_nr _ _ _ _ _ _ (by decide), uI_if]
        by_cases q : z = i
        · simp only [if_pos q]; exact e1
        · simp only [if_neg q]; exact (hr z (by omega)).1
      · show (uI (uI (uI σ 1 0 6 i x1) 1 0 7 i (Int32.ofInt 0)) 1 0 1 0 _).1 1 0 7 z = _
        rw [uI_nr _ _ _ _ _ _ (by decide), uI_if]
        by_cases q : z = i
        · simp only [if_pos q]; rw [hz hj]; exact oi_0
        · simp only [if_neg q]
          rw [uI_nr _ _ _ _ _ _ (by decide)]; exact (hr z (by omega)).2
    · show (uI (uI (uI σ 1 0 6 _ x1) 1 0 7 _ (Int32.ofInt 0)) 1 0 1 0 _).1 1 0 2 0 = _
      rw [uI_nr _ _ _ _ _ _ (by decide), uI_nr _ _ _ _ _ _ (by decide), uI_nr _ _ _ _ _ _ (by decide)]; exact ht
    · intro τ ho a1 a2 a3
      refine hQ τ (i + 1) _ (off_tr (off_uI (off_uI (off_uI (off_rf _ _) (by decide)) (by decide)) (by decide)) ho) (Or.inr ⟨hj, rfl, rfl⟩) a1 a2 a3
  | succ r ih =>
    intro i m x3 hr' hm hj e3
    obtain ⟨n1, rfl⟩ := il_ex (K := 20) (m := m) (by omega)
    have hci := hch i (by omega)
    refine b_ge e3 hn (by omega) (by omega) (fun q => by omega) (fun _ => ?_)
    refine ⟨il_in e3 (by omega) (by omega), ?_⟩
    refine b_eq (show σ.1 1 0 6 x3.toNatClampNeg = nI (ch i) by rw [il_cl e3 (by omega)]; exact (hr i (by omega)).1) e1 (by omega) (by omega) (fun q => ?_) (fun q => ?_)
    · refine b_lt e3 i5 (by omega) (by omega) (fun _ => ?_) (fun q => by omega)
      refine b_ne e3 hn (by omega) (by omega) (fun _ => ?_) (fun q => by omega)
      refine vo_fin (n := n) (c := c) (p := p) (t := t) (i0 := i) (ch := ch) (pt := pt) e2 e3 (by omega) q (by omega) (fun z hz' ez => hinj z i hz' (by omega) (by rw [ez, q])) hn hr ht (by omega) ?_
      intro τ ho a1 a2 a3
      exact hQ τ n ch ho (Or.inl ⟨i, by omega, q, rfl, rfl⟩) a1 a2 a3
    · refine ⟨trivial, ih (i + 1) _ _ (by omega) (by omega) (fun j hj' => ?_) (il_inc e3)⟩
      by_cases e : j = i
      · rw [e]; exact q
      · exact hj j (by omega)
set_option maxRecDepth 100000 in
/-- Ballot.vote -/
theorem c_vote {n c p t : Nat} {ch pt : Nat → Nat} {x1 x2 : Int32} (e1 : x1 = nI c) (e2 : x2 = nI p) (hn4 : n ≤ 4) (hc : c ≤ 60) (hch : ∀ i, i < n → ch i ≤ 60) (hinj : ∀ i j, i < n → j < n → ch i = ch j → i = j) (hz : (∀ i, i < n → ch i ≠ c) → pt c = 0) (hn : σ.1 1 0 1 0 = nI n) (hr : vR (σ.1 1 0 6) (σ.1 1 0 7) nI n ch pt) (ht : σ.1 1 0 2 0 = nI t) (hm : 300 ≤ m)
    (hQ : ∀ τ n' ch', off bOff σ τ → vst n ch c n' ch' → τ.1 1 0 1 0 = nI n' → vR (τ.1 1 0 6) (τ.1 1 0 7) nI n' ch' (fun d => pt d + if d = c then p else 0) → τ.1 1 0 2 0 = nI (t + p) → Q none τ) :
    wp N m (e, 0) TX1_vote 0 [some (.inr (.inr (1, 0, 0))), some (.inl x1), some (.inl x2), none] [] σ Q := by
  refine adv 2 200 (by omega) (fun n1 hn1 => ?_)
  exact vo_loop e1 e2 hn4 hc hch hinj hz hn hr ht hQ n 0 n1 _ (by omega) (by omega) (fun j hj => by omega) oi_0
set_option maxRecDepth 100000 in
theorem ma_loop {n f : Nat} {ch pt : Nat → Nat} (hf : f < n) (hn5 : n ≤ 5) (hch : ∀ i, i < n → ch i ≤ 60) (hpt : ∀ c, pt c < 2147483648) (hr : vR (σ.1 1 0 6) (σ.1 1 0 7) nI n ch pt) {x1 x2 x3 : Int32} (e2 : x2 = nI (ch f)) (e3 : x3 = nI (pt (ch f)))
    (hQ : ∀ τ t, off [(1, 0, 6), (1, 0, 7)] σ τ → t ≤ f → (t = 0 ∨ ¬ bef pt (ch f) (ch (t - 1))) → (∀ j, t ≤ j → j < f → bef pt (ch f) (ch j)) → vR (τ.1 1 0 6) (τ.1 1 0 7) nI n (insF ch f t) pt → Q none τ) :
    ∀ (t m : Nat) (τ : ST) (x4 : Int32), t ≤ f → 80 * t + 60 ≤ m → off [(1, 0, 6), (1, 0, 7)] σ τ → (∀ j, t ≤ j → j < f → bef pt (ch f) (ch j)) → (∀ i, i < n → i ≠ t → τ.1 1 0 6 i = nI (insF ch f t i) ∧ τ.1 1 0 7 i = nI (pt (insF ch f t i))) → x4 = nI t →
      wp N m (e, 0) TX1_moveAhead 12 [some (.inr (.inr (1, 0, 0))), some (.inl x1), some (.inl x2), some (.inl x3), some (.inl x4)] [] τ Q := by
  intro t
  have out : ∀ (t : Nat) (m : Nat) (τ : ST) (x4 : Int32), t ≤ f → 20 ≤ m → off [(1, 0, 6), (1, 0, 7)] σ τ → (t = 0 ∨ ¬ bef pt (ch f) (ch (t - 1))) → (∀ j, t ≤ j → j < f → bef pt (ch f) (ch j)) → (∀ i, i < n → i ≠ t → τ.1 1 0 6 i = nI (insF ch f t i) ∧ τ.1 1 0 7 i = nI (pt (insF ch f t i))) → x4 = nI t → wp N m (e, 0) TX1_moveAhead 60 [some (.inr (.inr (1, 0, 0))), some (.inl x1), some (.inl x2), some (.inl x3), some (.inl x4)] [] τ Q := by
    intro t m τ x4 ht hm ho h1 h2 h3 e4
    obtain ⟨n1, rfl⟩ := il_ex hm
    refine ⟨il_in e4 (by omega) (by omega), il_in e4 (by omega) (by omega), ?_⟩
    refine hQ _ t (off_uI (off_uI ho (by decide)) (by decide)) ht h1 h2 ?_
    intro i hi
    have hself : insF ch f t t = ch f := by unfold insF; rw [if_neg (by omega), if_pos rfl]
    rw [il_cl e4 (by omega)]
    refine ⟨?_, ?_⟩
    · rw [uI_nr _ _ _ _ _ _ (by decide), uI_if]
      by_cases q : i = t
      · rw [if_pos q, q, hself]; exact e2
      · rw [if_neg q]; exact (h3 i hi q).1
    · rw [uI_if]
      by_cases q : i = t
      · rw [if_pos q, q, hself]; exact e3
      · rw [if_neg q, uI_nr _ _ _ _ _ _ (by decide)]; exact (h3 i hi q).2
  induction t with
  | zero =>
    intro m τ x4 ht hm ho h2 h3 e4
    obtain ⟨n1, rfl⟩ := il_ex (K := 5) (m := m) (by omega)
    refine b_le e4 z0 (by omega) (by omega) (fun _ => ?_) (fun q => by omega)
    exact out 0 _ τ x4 ht (by omega) ho (Or.inl rfl) h2 h3 e4
  | succ t ih =>
    intro m τ x4 ht hm ho h2 h3 e4
    obtain ⟨n1, rfl⟩ := il_ex (K := 60) (m := m) (by omega)
    have g : x4 - Int32.ofInt 1 = nI t := il_sub1 e4
    have hp1 := hpt (ch t)
    have hp2 := hpt (ch f)
    have hc1 := hch t (by omega)
    have hc2 := hch f hf
    have low : insF ch f (t + 1) t = ch t := by unfold insF; rw [if_pos (by omega)]
    have h3t := h3 t (by omega) (by omega)
    rw [low] at h3t
    have v6 : τ.1 1 0 6 (x4 - Int32.ofInt 1).toNatClampNeg = nI (ch t) := by rw [il_cl g (by omega)]; exact h3t.1
    have v7 : τ.1 1 0 7 (x4 - Int32.ofInt 1).toNatClampNeg = nI (pt (ch t)) := by rw [il_cl g (by omega)]; exact h3t.2
    have stop : ∀ n', 20 ≤ n' → ¬ bef pt (ch f) (ch t) → wp N n' (e, 0) TX1_moveAhead 60 [some (.inr (.inr (1, 0, 0))), some (.inl x1), some (.inl x2), some (.inl x3), some (.inl x4)] [] τ Q :=
      fun n' hn' hb => out (t + 1) n' τ x4 ht hn' ho (Or.inr hb) h2 h3 e4
    have go : ∀ n', 80 * t + 85 ≤ n' → bef pt (ch f) (ch t) → wp N n' (e, 0) TX1_moveAhead 38 [some (.inr (.inr (1, 0, 0))), some (.inl x1), some (.inl x2), some (.inl x3), some (.inl x4)] [] τ Q := by
      intro n' hn' hb
      obtain ⟨n2, rfl⟩ := il_ex (K := 25) (m := n') (by omega)
      refine ⟨il_in g (by omega) (by omega), il_in e4 (by omega) (by omega), il_in g (by omega) (by omega), il_in e4 (by omega) (by omega), trivial, ?_⟩
      refine ih _ _ _ (by omega) (by omega) (off_uI (off_uI ho (by decide)) (by decide)) (fun j h4 h5 => ?_) ?_ (il_dec e4)
      · by_cases q : j = t
        · rw [q]; exact hb
        · exact h2 j (by omega) h5
      · intro i hi hne
        rw [il_cl e4 (by omega), v6]
        rw [uI_nr τ 1 0 6 (t + 1) _ (show ¬ (1 = 1 ∧ 0 = 0 ∧ 7 = 6) by decide) _]
        rw [v7]
        by_cases q : i = t + 1
        · have hin : insF ch f t i = ch t := by unfold insF; rw [if_neg (by omega), if_neg (by omega), if_pos (by omega), q]; rfl
          rw [hin]
          refine ⟨?_, ?_⟩
          · rw [uI_nr _ _ _ _ _ _ (by decide), uI_if, if_pos q]
          · rw [uI_if, if_pos q]
        · have hin : insF ch f t i = insF ch f (t + 1) i := by
            unfold insF
            by_cases q1 : i < t
            · rw [if_pos q1, if_pos (by omega)]
            · rw [if_neg q1, if_neg (show ¬ i = t by omega), if_neg (show ¬ i < t + 1 by omega), if_neg (show ¬ i = t + 1 by omega)]
          rw [hin]
          refine ⟨?_, ?_⟩
          · rw [uI_nr _ _ _ _ _ _ (by decide), uI_if, if_neg q]; exact (h3 i hi q).1
          · rw [uI_if, if_neg q, uI_nr _ _ _ _ _ _ (by decide)]; exact (h3 i hi q).2
    refine b_le e4 z0 (by omega) (by omega) (fun q => by omega) (fun _ => ?_)
    refine ⟨il_in g (by omega) (by omega), ?_⟩
    refine b_gt e3 v7 (by omega) (by omega) (fun q => go _ (by omega) (Or.inl q)) (fun q => ?_)
    refine ⟨il_in g (by omega) (by omega), ?_⟩
    refine b_ne e3 v7 (by omega) (by omega) (fun q2 => stop _ (by omega) (by unfold bef; omega)) (fun q2 => ?_)
    refine ⟨il_in g (by omega) (by omega), ?_⟩
    refine b_ge e2 v6 (by omega) (by omega) (fun q3 => stop _ (by omega) (by unfold bef; omega)) (fun q3 => go _ (by omega) (Or.inr ⟨q2, q3⟩))
set_option maxRecDepth 100000 in
/-- Ballot.moveAhead -/
theorem c_moveAhead {n f : Nat} {ch pt : Nat → Nat} (hf : f < n) (hn5 : n ≤ 5) (hch : ∀ i, i < n → ch i ≤ 60) (hpt : ∀ c, pt c < 2147483648) (hr : vR (σ.1 1 0 6) (σ.1 1 0 7) nI n ch pt) {x1 : Int32} (e1 : x1 = nI f) (hm : 500 ≤ m)
    (hQ : ∀ τ t, off [(1, 0, 6), (1, 0, 7)] σ τ → t ≤ f → (t = 0 ∨ ¬ bef pt (ch f) (ch (t - 1))) → (∀ j, t ≤ j → j < f → bef pt (ch f) (ch j)) → vR (τ.1 1 0 6) (τ.1 1 0 7) nI n (insF ch f t) pt → Q none τ) :
    wp N m (e, 0) TX1_moveAhead 0 [some (.inr (.inr (1, 0, 0))), some (.inl x1), none, none, none] [] σ Q := by
  obtain ⟨n1, rfl⟩ := il_ex (K := 12) (m := m) (by omega)
  refine ⟨il_in e1 (by omega) (by omega), il_in e1 (by omega) (by omega), ?_⟩
  refine ma_loop hf hn5 hch hpt hr (by rw [il_cl e1 (by omega)]; exact (hr f hf).1) (by rw [il_cl e1 (by omega)]; exact (hr f hf).2) hQ f _ σ _ (Nat.le_refl _) (by omega) (off_rf _ _) (fun j h1 h2 => by omega) ?_ e1
  intro i hi hne
  have : insF ch f f i = ch i := by
    unfold insF
    by_cases q : i < f
    · rw [if_pos q]
    · rw [if_neg q, if_neg hne, if_neg (by omega)]
  rw [this]
  exact hr i hi
end TL
