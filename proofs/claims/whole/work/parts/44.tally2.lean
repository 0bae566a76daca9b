/-! Ballot.tally and what is read of it -/
def cVT (σ : ST) (F : VF) : Prop := σ.1 1 0 1 0 = nI (vtE F).1 ∧ σ.1 1 0 2 0 = nI (toF F 5) ∧ vR (σ.1 1 0 6) (σ.1 1 0 7) nI (vtE F).1 (vtE F).2 (ptF F 5)
theorem i100 : (Int8.ofInt 100).toInt32 = nI 100 := by decide
theorem vR_pt {wr pr wI : Nat → Int32} {n : Nat} {ch pt pt' : Nat → Nat} (h : vR wr pr wI n ch pt) (e : ∀ i, i < n → pt' (ch i) = pt (ch i)) : vR wr pr wI n ch pt' := fun i hi => ⟨(h i hi).1, by rw [e i hi]; exact (h i hi).2⟩
section TY
variable {N e m k : Nat} {σ : ST} {Q : POST} {S : SPc} {R : RUc} {E : NEc}
set_option maxRecDepth 100000 in
theorem ty_srt {F : VF} {n : Nat} {ch : Nat → Nat} (v : vI F 5 n ch) (hb : ∀ c, ptF F 5 c < 2147483648) (hc : ∀ c, vcF F 5 c → c ≤ 60) {x2 : Int32} {o4 : Option AV} (hn : σ.1 1 0 1 0 = nI n) (ht : σ.1 1 0 2 0 = nI (toF F 5))
    (hQ : ∀ τ, off [(1, 0, 6), (1, 0, 7)] σ τ → cVT τ F → Q none τ) :
    ∀ (r f m : Nat) (τ : ST) (x3 : Int32) (ch' : Nat → Nat), (f + r = n ∨ (r = 0 ∧ n = 0 ∧ f = 1)) → 1 ≤ f → 50 * r + 550 ≤ m → off [(1, 0, 6), (1, 0, 7)] σ τ → (∀ c, (∃ i, i < n ∧ ch' i = c) ↔ ∃ i, i < n ∧ ch i = c) → (∀ i j, i < n → j < n → ch' i = ch' j → i = j) → srt (ptF F 5) ch' f → vR (τ.1 1 0 6) (τ.1 1 0 7) nI n ch' (ptF F 5) → x3 = nI f →
      wp N m (e + 1, 0) TX1_tally 51 [some (.inr (.inr (1, 0, 0))), some (.inr (.inr (3, k, 0))), some (.inl x2), some (.inl x3), o4] [] τ Q := by
  have hn5 := v.1
  intro r
  induction r with
  | zero =>
    intro f m τ x3 ch' hr hf hm ho a1 a2 a3 hv e3
    obtain ⟨n1, rfl⟩ := il_ex (K := 10) (m := m) (by omega)
    have hn' : τ.1 1 0 1 0 = nI n := by rw [off_1 ho (by decide)]; exact hn
    refine b_ge e3 hn' (by omega) (by omega) (fun _ => ?_) (fun q => by omega)
    have a3' : srt (ptF F 5) ch' n := fun i j h1 h2 => a3 i j h1 (by omega)
    have rk := vtE_eq (rnk_of v a1 a3')
    refine hQ τ ho ⟨by rw [hn', rk.1], by rw [off_1 ho (by decide)]; exact ht, fun i hi => ?_⟩
    rw [← rk.1] at hi
    rw [← rk.2 i hi]
    exact hv i hi
  | succ r ih =>
    intro f m τ x3 ch' hr hf hm ho a1 a2 a3 hv e3
    obtain ⟨n1, rfl⟩ := il_ex (K := 15) (m := m) (by omega)
    have hfn : f < n := by omega
    have hn' : τ.1 1 0 1 0 = nI n := by rw [off_1 ho (by decide)]; exact hn
    have hch : ∀ i, i < n → ch' i ≤ 60 := by
      intro i hi
      obtain ⟨j, hj, ej⟩ := (a1 (ch' i)).mp ⟨i, hi, rfl⟩
      rw [← ej]
      exact hc _ (v.2.1 j hj)
    refine b_ge e3 hn' (by omega) (by omega) (fun q => by omega) (fun _ => ?_)
    refine ⟨trivial, c_moveAhead hfn hn5 hch hb hv e3 (by omega) ?_⟩
    intro τ2 t ho2 t1 t2 t3 hv2
    refine ⟨trivial, ih (f + 1) _ τ2 _ (insF ch' f t) (by omega) (by omega) (by omega) (off_tr ho ho2) (fun c => (insF_mem t1 hfn c).trans (a1 c)) (insF_inj t1 hfn a2) (insF_srt t1 a3 ?_ t3) hv2 (il_inc e3)⟩
    rcases t2 with t2 | t2
    · exact Or.inl t2
    · exact Or.inr (bef_tot t2 (fun z => by have := a2 f (t - 1) hfn (by omega) z; omega))
set_option maxRecDepth 100000 in
theorem ty_loop (hS : vSP S) (hR : vRU S R) (hE : vNE S E) (cS : cSP σ 0 S) (cR : cRU σ 0 S R) (cE : cNE σ k E) {s : Nat} (hs : s < E.ns) {x2 : Int32} (e2 : x2 = nI s) (hQ : ∀ τ, off bOff σ τ → cVT τ (vcO S R E s) → Q none τ) :
    ∀ (r h m : Nat) (τ : ST) (x3 : Int32) (o4 : Option AV) (n : Nat) (ch : Nat → Nat), h + r = 5 → 200 * r + 1200 ≤ m → off bOff σ τ → vI (vcO S R E s) h n ch → τ.1 1 0 1 0 = nI n → τ.1 1 0 2 0 = nI (toF (vcO S R E s) h) → vR (τ.1 1 0 6) (τ.1 1 0 7) nI n ch (ptF (vcO S R E s) h) → x3 = nI h →
      wp N m (e + 2, 0) TX1_tally 8 [some (.inr (.inr (1, 0, 0))), some (.inr (.inr (3, k, 0))), some (.inl x2), some (.inl x3), o4] [] τ Q := by
  have hns := vNE_ns hS hE
  have hnh := hS.1
  have h60 := hS.2.2.2.1
  have hb : ∀ n c, n ≤ 5 → ptF (vcO S R E s) n c < 2147483648 := by
    intro n c hn
    have := ptF_le (F := vcO S R E s) (M := 19800) (fun h c p q => (vcO_b hS hR hE hs q).2.1) c n
    have : n * 19800 ≤ 5 * 19800 := Nat.mul_le_mul_right _ hn
    omega
  have hc : ∀ h c, vcF (vcO S R E s) h c → c ≤ 60 := by
    intro h c ⟨z, _, p, q⟩
    exact (vcO_b hS hR hE hs q).2.2.2
  intro r
  induction r with
  | zero =>
    intro h m τ x3 o4 n ch hr hm ho v hn ht hv e3
    obtain ⟨n1, rfl⟩ := il_ex (K := 5) (m := m) (by omega)
    obtain rfl : h = 5 := by omega
    refine b_ge e3 i5 (by omega) (by omega) (fun _ => ?_) (fun q => by omega)
    refine adv 2 1000 (by omega) (fun n2 hn2 => ?_)
    have v1 := v.1
    refine ty_srt (e := e + 1) v (fun c => hb 5 c (by omega)) (fun c => hc 5 c) hn ht (fun τ2 ho2 h2 => hQ τ2 (off_tr ho (off_in ho2 (by decide))) h2) (n - 1) 1 n2 τ _ ch (by omega) (by omega) (by omega) (off_rf _ _) (fun c => Iff.rfl) v.2.2.2.1 (fun i j h1 h2 => by omega) hv oi_1
  | succ r ih =>
    intro h m τ x3 o4 n ch hr hm ho v hn ht hv e3
    obtain ⟨n1, rfl⟩ := il_ex (K := 60) (m := m) (by omega)
    have v1 := v.1
    have kS : cSP τ 0 S := cSP_off ho (by decide) cS
    have kR : cRU τ 0 S R := cRU_off ho (by decide) cR
    have kE : cNE τ k E := cNE_off ho (by simp) cE
    have hch : ∀ i, i < n → ch i ≤ 60 := fun i hi => hc h _ (v.2.1 i hi)
    have nxt : ∀ (τ' : ST) (p4 : Option AV) (n' n2 : Nat) (ch2 : Nat → Nat), 200 * r + 1202 ≤ n' → off bOff σ τ' → vI (vcO S R E s) (h + 1) n2 ch2 → τ'.1 1 0 1 0 = nI n2 → τ'.1 1 0 2 0 = nI (toF (vcO S R E s) (h + 1)) → vR (τ'.1 1 0 6) (τ'.1 1 0 7) nI n2 ch2 (ptF (vcO S R E s) (h + 1)) →
        wp N n' (e + 2, 0) TX1_tally 47 [some (.inr (.inr (1, 0, 0))), some (.inr (.inr (3, k, 0))), some (.inl x2), some (.inl x3), p4] [] τ' Q := by
      intro τ' p4 n' n2 ch2 hn' ho' v' a1 a2 a3
      obtain ⟨n3, rfl⟩ := il_ex (K := 2) (m := n') (by omega)
      exact ⟨trivial, ih (h + 1) _ τ' _ _ n2 ch2 (by omega) (by omega) ho' v' a1 a2 a3 (il_inc e3)⟩
    have vot : ∀ {c p : Nat} (τ' : ST) (n2 : Nat) (ch2 : Nat → Nat), vcO S R E s h = some (c, p) → off bOff τ τ' → vst n ch c n2 ch2 → τ'.1 1 0 1 0 = nI n2 → vR (τ'.1 1 0 6) (τ'.1 1 0 7) nI n2 ch2 (fun d => ptF (vcO S R E s) h d + if d = c then p else 0) → τ'.1 1 0 2 0 = nI (toF (vcO S R E s) h + p) → ∀ (p4 : Option AV) (n' : Nat), 200 * r + 1202 ≤ n' →
        wp N n' (e + 2, 0) TX1_tally 47 [some (.inr (.inr (1, 0, 0))), some (.inr (.inr (3, k, 0))), some (.inl x2), some (.inl x3), p4] [] τ' Q := by
      intro c p τ' n2 ch2 q ho' st a1 a2 a3 p4 n' hn'
      refine nxt τ' p4 n' n2 ch2 hn' (off_tr ho ho') (vI_st q v st) a1 ?_ (vR_pt a2 (fun i _ => ptF_st q _))
      rw [a3]
      show _ = nI (sm (vA (vcO S R E s)) h + vA (vcO S R E s) h)
      rw [vA_s q]
      rfl
    have hz : ∀ c, (∀ i, i < n → ch i ≠ c) → ptF (vcO S R E s) h c = 0 := fun c hne => ptF_0 (fun z => by obtain ⟨i, hi, ei⟩ := v.2.2.1 c z; exact hne i hi ei)
    refine b_ge e3 i5 (by omega) (by omega) (fun q => by omega) (fun _ => ?_)
    refine ⟨trivial, c_thereOf e2 e3 (by omega) (by omega) (by omega) ?_⟩
    rw [kE.2.2.2.2.2 s hs h (by omega)]
    have hlt : ∀ i, E.th s h = some i → i < 2147483648 := fun i e' => by
      have h1 := hE.2.2.2.2.1 s h i hs e'
      have h2 := (hS.2.1 h h1.1).2
      omega
    refine b_there ne2 rfl hlt (fun q1 => ?_) (fun i q1 q2 => ?_)
    · refine ⟨trivial, c_holds e3 (by omega) (by omega) ?_⟩
      rw [kE.2.2.2.1 h (by omega)]
      cases hj : plc E h with
      | none =>
        rw [if_pos (show oI (-2) none < 0 from ne2)]
        refine b_eq (a := 0) rfl z0 (by omega) (by omega) (fun _ => ?_) (fun q => absurd rfl q)
        have q := vcO_n (S := S) (R := R) q1 hj
        refine nxt τ _ _ n ch (by omega) ho (vI_none q v) hn ?_ (vR_pt hv (fun i _ => ptF_nn q _))
        rw [ht]
        show _ = nI (sm (vA (vcO S R E s)) h + vA (vcO S R E s) h)
        rw [vA_n q]
        rfl
      | some z =>
        have hz1 := plc_some hj
        have hnj := hE.1
        have hj' : (plc E h).isSome = true := by rw [hj]; rfl
        have hlh := plc_lt hE hj'
        rw [if_neg (show ¬ oI (-2) (some z) < 0 from nI_pos (by omega))]
        refine b_eq (a := 1) rfl z0 (by omega) (by omega) (fun q => by omega) (fun _ => ?_)
        refine ⟨trivial, c_weightOf e3 (by omega) (by omega) ?_⟩
        have q := vcO_g (S := S) (R := R) q1 hj'
        refine ⟨trivial, c_vote i60 (show τ.1 7 0 5 0 * τ.1 7 0 6 h = nI (R.sh * R.wt h) by rw [kR.2.2.2.2.1, kR.2.2.2.2.2 h hlh, pk_mul]) (by omega) (by omega) hch v.2.2.2.1 (hz 60) hn hv ht (by omega) ?_⟩
        intro τ' n2 ch2 ho' st a1 a2 a3
        exact vot τ' n2 ch2 q ho' st a1 a2 a3 _ _ (by omega)
    · have h1 := hE.2.2.2.2.1 s h i hs q1
      have h2 := (hS.2.1 h h1.1).2
      have h3 := kS.2.2.2.1 h h1.1 i h1.2.1
      have h4 := (hS.2.2.1 h h1.1 i h1.2.1).1
      have q := vcO_t (S := S) (R := R) q1
      refine ⟨trivial, c_wordOf e3 q2 (by omega) (by omega) (by omega) ?_⟩
      refine ⟨trivial, c_weightOf e3 (by omega) (by omega) ?_⟩
      refine ⟨trivial, c_vote h3.1 (show (Int8.ofInt 100).toInt32 * τ.1 7 0 6 h = nI (100 * R.wt h) by rw [i100, kR.2.2.2.2.2 h h1.1, pk_mul]) (by omega) (by omega) hch v.2.2.2.1 (hz _) hn hv ht (by omega) ?_⟩
      intro τ' n2 ch2 ho' st a1 a2 a3
      exact ⟨trivial, vot τ' n2 ch2 q ho' st a1 a2 a3 _ _ (by omega)⟩
set_option maxRecDepth 100000 in
/-- Ballot.tally -/
theorem c_tally (hS : vSP S) (hR : vRU S R) (hE : vNE S E) (cS : cSP σ 0 S) (cR : cRU σ 0 S R) (cE : cNE σ k E) {s : Nat} (hs : s < E.ns) {x2 : Int32} (e2 : x2 = nI s) (hm : 2500 ≤ m) (hQ : ∀ τ, off bOff σ τ → cVT τ (vcO S R E s) → Q none τ) :
    wp N m (e + 2, 0) TX1_tally 0 [some (.inr (.inr (1, 0, 0))), some (.inr (.inr (3, k, 0))), some (.inl x2), none, none] [] σ Q := by
  refine adv 8 2400 (by omega) (fun n hn => ?_)
  have ho : off bOff σ (uI (uI σ 1 0 1 0 (Int32.ofInt 0)) 1 0 2 0 (Int32.ofInt 0)) := off_uI (off_uI (off_rf _ _) (by decide)) (by decide)
  refine ty_loop hS hR hE cS cR cE hs e2 hQ 5 0 n _ _ _ 0 (fun _ => 0) (by omega) (by omega) ho (vI_0 _ _) ?_ ?_ (fun i hi => absurd hi (Nat.not_lt_zero _)) oi_0
  · rw [uI_nr _ _ _ _ _ _ (by decide), uI_at]; exact oi_0
  · rw [uI_at]; exact oi_0
/-- the WORD of a choice, NOTHING of the gap -/
def wcI (c : Nat) : Int32 := if c = 60 then -2 else nI c
theorem c_wordOfChoice {F : VF} (c : cVT σ F) (hc : ∀ c, vcF F 5 c → c ≤ 60) {x1 : Int32} {i : Nat} (e1 : x1 = nI i) (hi : i < (vtE F).1) (hm : 40 ≤ m) (hQ : Q (some (.inl (wcI ((vtE F).2 i)))) σ) :
    wp N m (e, 0) TX1_wordOfChoice 0 [some (.inr (.inr (1, 0, 0))), some (.inl x1)] [] σ Q := by
  obtain ⟨n1, rfl⟩ := il_ex hm
  have h5 := (vtE_ok F).1
  have hci := hc _ ((vtE_ok F).2.1 i hi)
  have v := (c.2.2 i hi).1
  have v' : σ.1 1 0 6 x1.toNatClampNeg = nI ((vtE F).2 i) := by rw [il_cl e1 (by omega)]; exact v
  refine b_lt e1 z0 (by omega) (by omega) (fun q => by omega) (fun _ => ?_)
  refine b_ge e1 c.1 (by omega) (by omega) (fun q => by omega) (fun _ => ?_)
  refine ⟨il_in e1 (by omega) (by omega), ?_⟩
  refine b_eq v' i60 (by omega) (by omega) (fun q => ?_) (fun q => ?_)
  · refine ⟨Or.inl rfl, ?_⟩
    unfold wcI at hQ
    rw [if_pos q] at hQ
    rw [im2]; exact hQ
  · refine ⟨il_in e1 (by omega) (by omega), trivial, Or.inl rfl, ?_⟩
    unfold wcI at hQ
    rw [if_neg q] at hQ
    rw [show σ.1 1 0 6 x1.toNatClampNeg = _ from v']
    exact hQ
/-- the points of a choice -/
noncomputable def ptO (F : VF) (i : Nat) : Nat := if i < (vtE F).1 then ptF F 5 ((vtE F).2 i) else 0
theorem c_pointsOfChoice {F : VF} (c : cVT σ F) {x1 : Int32} {i : Nat} (e1 : x1 = nI i) (hi : i < 2147483648) (hm : 40 ≤ m) (hQ : Q (some (.inl (nI (ptO F i)))) σ) :
    wp N m (e, 0) TX1_pointsOfChoice 0 [some (.inr (.inr (1, 0, 0))), some (.inl x1)] [] σ Q := by
  obtain ⟨n1, rfl⟩ := il_ex hm
  have h5 := (vtE_ok F).1
  refine b_lt e1 z0 (by omega) (by omega) (fun q => by omega) (fun _ => ?_)
  refine b_ge e1 c.1 (by omega) (by omega) (fun q => ?_) (fun q => ?_)
  · unfold ptO at hQ
    rw [if_neg (by omega)] at hQ
    refine ⟨Or.inl rfl, ?_⟩
    rw [oi_0]; exact hQ
  · unfold ptO at hQ
    rw [if_pos q] at hQ
    refine ⟨il_in e1 (by omega) (by omega), trivial, Or.inl rfl, ?_⟩
    rw [show σ.1 1 0 7 x1.toNatClampNeg = nI (ptF F 5 ((vtE F).2 i)) by rw [il_cl e1 (by omega)]; exact (c.2.2 i q).2]
    exact hQ
/-- DOUBT times all points -/
noncomputable def dbF (F : VF) : Nat := toF F 5 - ptO F 0 + ptO F 1
theorem ptF_to (F : VF) (c n : Nat) : ptF F n c ≤ toF F n := by
  unfold ptF toF
  induction n with
  | zero => exact Nat.le_refl _
  | succ n ih =>
    rw [sm, sm]
    have : vP F c n ≤ vA F n := by
      cases q : F n with
      | none => rw [vP_n q]; omega
      | some z => obtain ⟨d, p⟩ := z; rw [vP_s q, vA_s q]; split <;> omega
    omega
theorem ptO_to (F : VF) (i : Nat) : ptO F i ≤ toF F 5 := by
  unfold ptO
  split
  · exact ptF_to F _ 5
  · omega
set_option maxRecDepth 100000 in
theorem c_doubtPoints {F : VF} (c : cVT σ F) (hm : 60 ≤ m) (hQ : Q (some (.inl (nI (dbF F)))) σ) :
    wp N m (e + 1, 0) TX1_doubtPoints 0 [some (.inr (.inr (1, 0, 0)))] [] σ Q := by
  obtain ⟨n1, rfl⟩ := il_ex hm
  refine ⟨trivial, c_pointsOfChoice c oi_0 (by omega) (by omega) ?_⟩
  refine ⟨trivial, c_pointsOfChoice c oi_1 (by omega) (by omega) ?_⟩
  refine ⟨Or.inl rfl, ?_⟩
  have h0 := ptO_to F 0
  rw [show σ.1 1 0 2 0 - nI (ptO F 0) + nI (ptO F 1) = nI (dbF F) by rw [c.2.1, pk_sub h0, nI_add]; rfl]
  exact hQ
end TY
