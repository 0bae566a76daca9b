/-! FAR of two WORDS -/
theorem lev_congr {a a' b b' : Nat → Int32} : ∀ (i j : Nat), (∀ z, z < i → a z = a' z) → (∀ z, z < j → b z = b' z) → lev a b i j = lev a' b' i j
  | 0, j, _, _ => by rw [lev_z, lev_z]
  | i + 1, 0, _, _ => by rw [lev_0, lev_0]
  | i + 1, j + 1, h1, h2 => by
    rw [lev_ss, lev_ss, lev_congr i j (fun z hz => h1 z (by omega)) (fun z hz => h2 z (by omega)), lev_congr i (j + 1) (fun z hz => h1 z (by omega)) h2, lev_congr (i + 1) j h1 (fun z hz => h2 z (by omega)), h1 i (by omega), h2 j (by omega)]
def farS (S : SPc) (w v : Nat) : Nat := lev (fun z => nI (S.lt w z)) (fun z => nI (S.lt v z)) (S.ln w) (S.ln v)
theorem farS_le {S : SPc} (hS : vSP S) {w v : Nat} (hw : w < S.nw) (hv : v < S.nw) : farS S w v ≤ 12 := by
  have h1 := hS.2.2.2.2 w hw
  have h2 := hS.2.2.2.2 v hv
  have := lev_le (fun z => nI (S.lt w z)) (fun z => nI (S.lt v z)) (S.ln w) (S.ln v)
  unfold farS
  omega
/-- what the class has kept of FARS is right -/
def cFA (σ : ST) (S : SPc) : Prop := ∀ w v, w < S.nw → v < S.nw → σ.1 2 0 3 (w * 60 + v) = -1 ∨ σ.1 2 0 3 (w * 60 + v) = nI (farS S w v)
theorem cSP_off {L : List RF} {σ τ : ST} (h : off L σ τ) {k : Nat} {S : SPc} (hL : ∀ r ∈ L, r.1 ≠ 8) (c : cSP σ k S) : cSP τ k S := by
  have q : ∀ j, (8, k, j) ∉ L := fun j hm => hL _ hm rfl
  obtain ⟨c1, c2, c3, c4, c5⟩ := c
  refine ⟨by rw [off_1 h (q _)]; exact c1, by rw [off_1 h (q _)]; exact c2, fun a ha => by rw [off_1 h (q _)]; exact c3 a ha, fun a ha i hi => ?_, fun w hw => ⟨by rw [off_1 h (q _)]; exact (c5 w hw).1, fun j hj => by rw [off_1 h (q _)]; exact (c5 w hw).2 j hj⟩⟩
  rw [off_1 h (q _), off_1 h (q _)]
  exact c4 a ha i hi
theorem cRU_off {L : List RF} {σ τ : ST} (h : off L σ τ) {k : Nat} {S : SPc} {R : RUc} (hL : ∀ r ∈ L, r.1 ≠ 7) (c : cRU σ k S R) : cRU τ k S R := by
  have q : ∀ j, (7, k, j) ∉ L := fun j hm => hL _ hm rfl
  obtain ⟨c1, c2, c3, c4, c5, c6⟩ := c
  exact ⟨by rw [off_1 h (q _)]; exact c1, by rw [off_1 h (q _)]; exact c2, by rw [off_1 h (q _)]; exact c3, by rw [off_1 h (q _)]; exact c4, by rw [off_1 h (q _)]; exact c5, fun a ha => by rw [off_1 h (q _)]; exact c6 a ha⟩
theorem cNE_off {L : List RF} {σ τ : ST} (h : off L σ τ) {k : Nat} {E : NEc} (hL : ∀ r ∈ L, ¬ (r.1 = 3 ∧ r.2.1 = k)) (c : cNE σ k E) : cNE τ k E := by
  have q : ∀ j, (3, k, j) ∉ L := fun j hm => hL _ hm ⟨rfl, rfl⟩
  obtain ⟨c1, c2, c3, c4, c5, c6⟩ := c
  exact ⟨by rw [off_1 h (q _)]; exact c1, by rw [off_1 h (q _)]; exact c2, fun a ha => by rw [off_1 h (q _)]; exact c3 a ha, fun a ha => by rw [off_1 h (q _)]; exact c4 a ha, fun a ha => by rw [off_1 h (q _)]; exact c5 a ha, fun a ha b hb => by rw [off_1 h (q _)]; exact c6 a ha b hb⟩
theorem mSP_off {L : List RF} {σ τ : ST} (h : off L σ τ) {S : SPc} (hL : ∀ r ∈ L, r.1 = 11 → 27 ≤ r.2.2) (c : mSP σ S) : mSP τ S := by
  have q : ∀ j, j < 27 → (11, 0, j) ∉ L := fun j hj hm => by have := hL _ hm rfl; simp only at this; omega
  obtain ⟨c1, c2, c3, c4, c5⟩ := c
  refine ⟨by rw [off_1 h (q _ (by omega))]; exact c1, by rw [off_1 h (q _ (by omega))]; exact c2, fun a ha => by rw [off_1 h (q _ (by omega))]; exact c3 a ha, fun a ha i hi => ?_, fun w hw => by rw [off_2 h (q _ (by omega))]; exact c5 w hw⟩
  rw [off_1 h (q _ (by omega)), off_1 h (q _ (by omega))]
  exact c4 a ha i hi
theorem off_in {L L' : List RF} {σ τ : ST} (h : off L σ τ) (hs : (L.all fun r => L'.contains r) = true) : off L' σ τ := off_mono h fun r hr => by
  have := List.all_eq_true.mp hs r hr
  simpa using this
section FAR
variable {N e m : Nat} {σ : ST} {Q : POST} {S : SPc}
set_option maxRecDepth 100000 in
/-- Fars.apart -/
theorem c_farsApart (hS : vSP S) (cS : cSP σ 0 S) (cF : cFA σ S) {w v : Nat} (hw : w < S.nw) (hv : v < S.nw) {x1 x2 : Int32} (e1 : x1 = nI w) (e2 : x2 = nI v) (hm : 600000 ≤ m)
    (hQ : ∀ τ, off [(6, 0, 1), (2, 0, 3)] σ τ → cFA τ S → Q (some (.inl (nI (farS S w v)))) τ) : wp N m (e + 2, 0) TX2_apart 0 [some (.inr (.inr (2, 0, 0))), some (.inl x1), some (.inl x2), none] [] σ Q := by
  obtain ⟨n, rfl⟩ := il_ex (K := 100) (m := m) (by omega)
  have hnw := hS.2.2.2.1
  have lw := hS.2.2.2.2 w hw
  have lv := hS.2.2.2.2 v hv
  have hf := farS_le hS hw hv
  have g3 : x1 * (Int8.ofInt 60).toInt32 + x2 = nI (w * 60 + v) := by rw [e1, e2, i60, pk_mul, nI_add]
  have fin : ∀ (τ : ST) (n' : Nat), 10 ≤ n' → τ.1 2 0 3 (w * 60 + v) = nI (farS S w v) → off [(6, 0, 1), (2, 0, 3)] σ τ → cFA τ S → wp N n' (e + 2, 0) TX2_apart 51 [some (.inr (.inr (2, 0, 0))), some (.inl x1), some (.inl x2), some (.inl (x1 * (Int8.ofInt 60).toInt32 + x2))] [] τ Q := by
    intro τ n' hn' hv' ho hc
    obtain ⟨n2, rfl⟩ := il_ex hn'
    refine ⟨il_in g3 (by omega) (by omega), Or.inl rfl, ?_⟩
    have := hQ τ ho hc
    rw [← hv', ← il_cl g3 (by omega)] at this
    exact this
  refine b_lt e1 z0 (by omega) (by omega) (fun q => by omega) (fun _ => ?_)
  refine b_ge e1 i60 (by omega) (by omega) (fun q => by omega) (fun _ => ?_)
  refine b_lt e2 z0 (by omega) (by omega) (fun q => by omega) (fun _ => ?_)
  refine b_lt e2 i60 (by omega) (by omega) (fun _ => ?_) (fun q => by omega)
  refine ⟨il_in g3 (by omega) (by omega), ?_⟩
  refine ⟨fun q => ?_, fun q => ?_⟩
  · have q : ¬ σ.1 2 0 3 (w * 60 + v) = -1 := by rw [← il_cl g3 (by omega), ← im1]; exact q
    exact fin σ _ (by omega) ((cF w v hw hv).resolve_left q) (off_rf _ _) cF
  · refine ⟨trivial, c_lengthOf e1 (by omega) (by omega) ?_⟩
    rw [(cS.2.2.2.2 w hw).1]
    refine ⟨trivial, c_lengthOf e2 (by omega) (by omega) ?_⟩
    rw [(cS.2.2.2.2 v hv).1]
    refine ⟨trivial, c_changes (L1 := 360) (L2 := 360) rfl rfl (by decide) (by decide) (lf := w * 6) (rg := v * 6) (by omega) (by omega) (by omega) (by omega) (by omega) (by omega) (by rw [e1, i6, pk_mul]) rfl (by rw [e2, i6, pk_mul]) rfl (by omega) ?_⟩
    intro τ ho
    have hl : lev (fun z => σ.1 8 0 9 (w * 6 + z)) (fun z => σ.1 8 0 9 (v * 6 + z)) (S.ln w) (S.ln v) = farS S w v := lev_congr _ _ (fun z hz => by rw [(cS.2.2.2.2 w hw).2 z (by omega), if_pos hz]) (fun z hz => by rw [(cS.2.2.2.2 v hv).2 z (by omega), if_pos hz])
    refine ⟨il_in g3 (by omega) (by omega), ?_⟩
    have ho2 : off [(6, 0, 1), (2, 0, 3)] σ τ := off_in ho (by decide)
    refine fin _ _ (by omega) ?_ (off_uI ho2 (by decide)) ?_
    · rw [il_cl g3 (by omega)]
      exact (uI_at ..).trans (by rw [hl])
    · intro w' v' hw' hv'
      rw [il_cl g3 (by omega)]
      by_cases hk : w' * 60 + v' = w * 60 + v
      · right
        obtain rfl : w' = w := by omega
        obtain rfl : v' = v := by omega
        exact (uI_at ..).trans (by rw [hl])
      · show (uI τ 2 0 3 (w * 60 + v) _).1 2 0 3 (w' * 60 + v') = -1 ∨ (uI τ 2 0 3 (w * 60 + v) _).1 2 0 3 (w' * 60 + v') = nI (farS S w' v')
        rw [uI_ne _ _ _ _ _ _ hk, off_1 ho (by decide)]
        exact cF w' v' hw' hv'
end FAR
