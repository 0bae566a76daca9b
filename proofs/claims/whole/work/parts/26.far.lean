/-! FAR of two WORDS -/
theorem lev_congr {a a' b b' : Nat → Int32} : ∀ (i j : Nat), (∀ z, z < i → a z = a' z) → (∀ z, z < j → b z = b' z) → lev a b i j = lev a' b' i j
  | 0, j, _, _ => by rw [lev_z, lev_z]
  | i + 1, 0, _, _ => by rw [lev_0, lev_0]
  | i + 1, j + 1, h1, h2 => by
    rw [lev_ss, lev_ss, lev_congr i j (fun z hz => h1 z (by omega)) (fun z hz => h2 z (by omega)), lev_congr i (j + 1) (fun z hz => h1 z (by omega)) h2, lev_congr (i + 1) j h1 (fun z hz => h2 z (by omega)), h1 i (by omega), h2 j (by omega)]
def farS (S : SPc) (w v : Nat) : Nat := lev (fun z => nI (S.lt w z)) (fun z => nI (S.lt v z)) (S.ln w) (S.ln v)
theorem farS_le {S : SPc} (hS : vSP S) {w v : Nat} (hw : w < S.nw) (hv : v < S.nw) : farS S w v ≤ 12 := by
  have h1 := hS.2.2.2.2 w hw
  have h2 := hS.2.2.2.2 v hv
  have := lev_le (fun z => nI (S.lt w z)) (fun z => nI (S.lt v z)) (S.ln w) (S.ln v)
  unfold farS
  omega
theorem lev_symm {a b : Nat → Int32} : ∀ (i j : Nat), lev a b i j = lev b a j i
  | 0, j => by rw [lev_z, lev_0]
  | i + 1, 0 => by rw [lev_0, lev_z]
  | i + 1, j + 1 => by
    have h : (if a i = b j then 0 else 1) = (if b j = a i then 0 else 1 : Nat) := by
      by_cases q : a i = b j
      · rw [if_pos q, if_pos q.symm]
      · rw [if_neg q, if_neg (fun z => q z.symm)]
    rw [lev_ss, lev_ss, lev_symm i j, lev_symm i (j + 1), lev_symm (i + 1) j, h]
    omega
theorem lev_self {a : Nat → Int32} : ∀ (i : Nat), lev a a i i = 0
  | 0 => lev_z _ _ _
  | i + 1 => by
    rw [lev_ss, lev_self i, if_pos rfl]
    omega
theorem farS_symm (S : SPc) (w v : Nat) : farS S w v = farS S v w := lev_symm _ _
theorem farS_self (S : SPc) (w : Nat) : farS S w w = 0 := lev_self _
/-- where the pairs of a WORD with those below it begin -/
def trI : Nat → Nat
  | 0 => 0
  | n + 1 => trI n + n
theorem trI_mono {a : Nat} : ∀ {b : Nat}, a ≤ b → trI a ≤ trI b
  | 0, h => by obtain rfl : a = 0 := by omega
               exact Nat.le_refl _
  | b + 1, h => by
    by_cases q : a = b + 1
    · subst q; exact Nat.le_refl _
    · exact Nat.le_trans (trI_mono (by omega)) (Nat.le_add_right _ _)
theorem trI_inj {w v w' v' : Nat} (h : v < w) (h' : v' < w') (q : trI w' + v' = trI w + v) : w' = w ∧ v' = v := by
  rcases Nat.lt_trichotomy w w' with z | z | z
  · have h1 := trI_mono (a := w + 1) (b := w') (by omega)
    have h2 : trI (w + 1) = trI w + w := rfl
    omega
  · subst z
    exact ⟨rfl, by omega⟩
  · have h1 := trI_mono (a := w' + 1) (b := w) (by omega)
    have h2 : trI (w' + 1) = trI w' + w' := rfl
    omega
theorem trI_lt {w v : Nat} (h : v < w) (hw : w < 60) : trI w + v < 1770 := by
  have h1 := trI_mono (a := w + 1) (b := 60) (by omega)
  have h2 : trI (w + 1) = trI w + w := rfl
  have h3 : trI 60 = 1770 := by decide +kernel
  omega
theorem trI_J : ∀ w, w < 60 → nI w * (nI w - Int32.ofInt 1) / Int32.ofInt 2 = nI (trI w) := by decide +kernel
/-- what the class has kept of FARS is right -/
def cFA (σ : ST) (S : SPc) : Prop := ∀ w v, w < S.nw → v < w → σ.1 2 0 3 (trI w + v) = -1 ∨ σ.1 2 0 3 (trI w + v) = nI (farS S w v)
theorem cSP_off {L : List RF} {σ τ : ST} (h : off L σ τ) {k : Nat} {S : SPc} (hL : ∀ r ∈ L, r.1 ≠ 8) (c : cSP σ k S) : cSP τ k S := by
  have q : ∀ j, (8, k, j) ∉ L := fun j hm => hL _ hm rfl
  obtain ⟨c1, c2, c3, c4, c5⟩ := c
  refine ⟨by rw [off_1 h (q _)]; exact c1, by rw [off_1 h (q _)]; exact c2, fun a ha => by rw [off_1 h (q _)]; exact c3 a ha, fun a ha i hi => ?_, fun w hw => ⟨by rw [off_1 h (q _)]; exact (c5 w hw).1, fun j hj => by rw [off_1 h (q _)]; exact (c5 w hw).2 j hj⟩⟩
  rw [off_1 h (q _), off_1 h (q _)]
  exact c4 a ha i hi
theorem cRU_off {L : List RF} {σ τ : ST} (h : off L σ τ) {k : Nat} {S : SPc} {R : RUc} (hL : ∀ r ∈ L, r.1 ≠ 7) (c : cRU σ k S R) : cRU τ k S R := by
  have q : ∀ j, (7, k, j) ∉ L := fun j hm => hL _ hm rfl
  obtain ⟨c1, c2, c3, c4, c5, c6⟩ := c
  exact ⟨by rw [off_1 h (q _)]; exact c1, by rw [off_1 h (q _)]; exact c2, by rw [off_1 h (q _)]; exact c3, by rw [off_1 h (q _)]; exact c4, by rw [off_1 h (q _)]; exact c5, fun a ha => by rw [off_1 h (q _)]; exact c6 a ha⟩
theorem cNE_off {L : List RF} {σ τ : ST} (h : off L σ τ) {k : Nat} {E : NEc} (hL : ∀ r ∈ L, ¬ (r.1 = 3 ∧ r.2.1 = k)) (c : cNE σ k E) : cNE τ k E := by
  have q : ∀ j, (3, k, j) ∉ L := fun j hm => hL _ hm ⟨rfl, rfl⟩
  obtain ⟨c1, c2, c3, c4, c5, c6⟩ := c
  exact ⟨by rw [off_1 h (q _)]; exact c1, by rw [off_1 h (q _)]; exact c2, fun a ha => by rw [off_1 h (q _)]; exact c3 a ha, fun a ha => by rw [off_1 h (q _)]; exact c4 a ha, fun a ha => by rw [off_1 h (q _)]; exact c5 a ha, fun a ha b hb => by rw [off_1 h (q _)]; exact c6 a ha b hb⟩
theorem mSP_off {L : List RF} {σ τ : ST} (h : off L σ τ) {S : SPc} (hL : ∀ r ∈ L, r.1 = 11 → 27 ≤ r.2.2) (c : mSP σ S) : mSP τ S := by
  have q : ∀ j, j < 27 → (11, 0, j) ∉ L := fun j hj hm => by have := hL _ hm rfl; simp only at this; omega
  obtain ⟨c1, c2, c3, c4, c5⟩ := c
  refine ⟨by rw [off_1 h (q _ (by omega))]; exact c1, by rw [off_1 h (q _ (by omega))]; exact c2, fun a ha => by rw [off_1 h (q _ (by omega))]; exact c3 a ha, fun a ha i hi => ?_, fun w hw => by rw [off_2 h (q _ (by omega))]; exact c5 w hw⟩
  rw [off_1 h (q _ (by omega)), off_1 h (q _ (by omega))]
  exact c4 a ha i hi
theorem off_in {L L' : List RF} {σ τ : ST} (h : off L σ τ) (hs : (L.all fun r => L'.contains r) = true) : off L' σ τ := off_mono h fun r hr => by
  have := List.all_eq_true.mp hs r hr
  simpa using this
section FAR
variable {N e m : Nat} {σ : ST} {Q : POST} {S : SPc}
set_option maxRecDepth 100000 in
/-- Fars.apart -/
theorem c_farsApart (hS : vSP S) (cS : cSP σ 0 S) (cF : cFA σ S) {w v : Nat} (hw : w < S.nw) (hv : v < S.nw) {x1 x2 : Int32} (e1 : x1 = nI w) (e2 : x2 = nI v) (hm : 600000 ≤ m)
    (hQ : ∀ τ, off [(6, 0, 1), (2, 0, 3)] σ τ → cFA τ S → Q (some (.inl (nI (farS S w v)))) τ) : wp N m (e + 2, 0) TX2_apart 0 [some (.inr (.inr (2, 0, 0))), some (.inl x1), some (.inl x2), none] [] σ Q := by
  have hnw := hS.2.2.2.1
  have lw := hS.2.2.2.2 w hw
  have lv := hS.2.2.2.2 v hv
  have hf := farS_le hS hw hv
  have at37 : ∀ (x3 : Int32) (n' p q : Nat), 590000 ≤ n' → p < S.nw → q < p → farS S p q = farS S w v → x3 = nI (trI p + q) → wp N n' (e + 2, 0) TX2_apart 37 [some (.inr (.inr (2, 0, 0))), some (.inl x1), some (.inl x2), none] [.inl x3] σ Q := by
    intro x3 n' p q hn' hp hq hpq g3
    have hb := trI_lt hq (show p < 60 by omega)
    obtain ⟨n, rfl⟩ := il_ex (K := 60) (m := n') (by omega)
    have fin : ∀ (τ : ST) (n' : Nat), 10 ≤ n' → τ.1 2 0 3 (trI p + q) = nI (farS S w v) → off [(6, 0, 1), (2, 0, 3)] σ τ → cFA τ S → wp N n' (e + 2, 0) TX2_apart 71 [some (.inr (.inr (2, 0, 0))), some (.inl x1), some (.inl x2), some (.inl x3)] [] τ Q := by
      intro τ n' hn' hv' ho hc
      obtain ⟨n2, rfl⟩ := il_ex hn'
      refine ⟨il_in g3 (by omega) (by omega), Or.inl rfl, ?_⟩
      have := hQ τ ho hc
      rw [← hv', ← il_cl g3 (by omega)] at this
      exact this
    refine ⟨il_in g3 (by omega) (by omega), ?_⟩
    refine ⟨fun qq => ?_, fun qq => ?_⟩
    · have qq : ¬ σ.1 2 0 3 (trI p + q) = -1 := by rw [← il_cl g3 (by omega), ← im1]; exact qq
      exact fin σ _ (by omega) (by rw [← hpq]; exact (cF p q hp hq).resolve_left qq) (off_rf _ _) cF
    · refine ⟨trivial, c_lengthOf e1 (by omega) (by omega) ?_⟩
      rw [(cS.2.2.2.2 w hw).1]
      refine ⟨trivial, c_lengthOf e2 (by omega) (by omega) ?_⟩
      rw [(cS.2.2.2.2 v hv).1]
      refine ⟨trivial, c_changes (L1 := 360) (L2 := 360) rfl rfl (by decide) (by decide) (lf := w * 6) (rg := v * 6) (by omega) (by omega) (by omega) (by omega) (by omega) (by omega) (by rw [e1, i6, pk_mul]) rfl (by rw [e2, i6, pk_mul]) rfl (by omega) ?_⟩
      intro τ ho
      have hl : lev (fun z => σ.1 8 0 9 (w * 6 + z)) (fun z => σ.1 8 0 9 (v * 6 + z)) (S.ln w) (S.ln v) = farS S w v := lev_congr _ _ (fun z hz => by rw [(cS.2.2.2.2 w hw).2 z (by omega), if_pos hz]) (fun z hz => by rw [(cS.2.2.2.2 v hv).2 z (by omega), if_pos hz])
      refine ⟨il_in g3 (by omega) (by omega), ?_⟩
      have ho2 : off [(6, 0, 1), (2, 0, 3)] σ τ := off_in ho (by decide)
      refine fin _ _ (by omega) ?_ (off_uI ho2 (by decide)) ?_
      · rw [il_cl g3 (by omega)]
        exact (uI_at ..).trans (by rw [hl])
      · intro w' v' hw' hv'
        rw [il_cl g3 (by omega)]
        by_cases hk : trI w' + v' = trI p + q
        · right
          obtain ⟨rfl, rfl⟩ := trI_inj hq hv' hk
          exact (uI_at ..).trans (by rw [hl, hpq])
        · show (uI τ 2 0 3 (trI p + q) _).1 2 0 3 (trI w' + v') = -1 ∨ (uI τ 2 0 3 (trI p + q) _).1 2 0 3 (trI w' + v') = nI (farS S w' v')
          rw [uI_ne _ _ _ _ _ _ hk, off_1 ho (by decide)]
          exact cF w' v' hw' hv'
  obtain ⟨n, rfl⟩ := il_ex (K := 40) (m := m) (by omega)
  refine b_lt e1 z0 (by omega) (by omega) (fun q => by omega) (fun _ => ?_)
  refine b_ge e1 i60 (by omega) (by omega) (fun q => by omega) (fun _ => ?_)
  refine b_lt e2 z0 (by omega) (by omega) (fun q => by omega) (fun _ => ?_)
  refine b_ge e2 i60 (by omega) (by omega) (fun q => by omega) (fun _ => ?_)
  refine b_ne e1 e2 (by omega) (by omega) (fun qn => ?_) (fun qe => ?_)
  · refine b_le e1 e2 (by omega) (by omega) (fun ql => ?_) (fun ql => ?_)
    · refine ⟨by decide, adv 2 590000 (by omega) (fun n9 hn9 => at37 _ n9 v w hn9 hv (by omega) (farS_symm S v w) ?_)⟩
      rw [e2, e1, trI_J v (by omega), nI_add]
    · refine ⟨by decide, trivial, ?_⟩
      refine at37 _ _ w v (by omega) hw ql rfl ?_
      rw [e2, e1, trI_J w (by omega), nI_add]
  · subst qe
    have := hQ σ (off_rf _ _) cF
    rw [farS_self, ← oi_0] at this
    exact ⟨Or.inl rfl, this⟩
end FAR
