/-! the reference's nextOne -/
section NO
variable {N e m : Nat} {σ : ST} {Q : POST} {S : SPc} {R : RUc} {E : NEc}
set_option maxRecDepth 100000 in
theorem no_loop (hS : vSP S) (hR : vRU S R) (hE : vNE S E) (cS : mSP σ S) (cR : mRU (σ.1 11 0 27) S R) (cE : mNE (σ.1 11 0 27) E) {kd : Nat} (hkd : kd ≤ 2) {x1 : Int32} (e1 : x1 = nI kd) (hQ : ∀ τ, off wOff σ τ → Q (some (.inl (oI (-1) (nfO (nfS S R E kd S.nh))))) τ) :
    ∀ (r h m : Nat) (τ : ST) (x2 x3 x4 : Int32) (o5 : Option AV), h + r = S.nh → 2600000 + 200 * r ≤ m → off wOff σ τ → nfV (nfS S R E kd h) x2 x3 → x4 = nI h →
      wp N m (e + 5, 0) TX11_nextOne 6 [some (.inr (.inr (11, 0, 0))), some (.inl x1), some (.inl x2), some (.inl x3), some (.inl x4), o5] [] τ Q := by
  have hnh := hS.1
  have kS : ∀ τ, off wOff σ τ → mSP τ S := fun τ ho => mSP_off ho (by decide) cS
  have kR : ∀ τ, off wOff σ τ → mRU (τ.1 11 0 27) S R := fun τ ho => mRU_off ho (by decide) cR
  have kE : ∀ τ, off wOff σ τ → mNE (τ.1 11 0 27) E := fun τ ho => mNE_off ho (by decide) cE
  intro r
  induction r with
  | zero =>
    intro h m τ x2 x3 x4 o5 hr hm ho hv e4
    obtain ⟨n, rfl⟩ := il_ex (K := 20) (m := m) (by omega)
    obtain rfl : h = S.nh := by omega
    refine b_ge e4 (kS τ ho).1 (by omega) (by omega) (fun _ => ?_) (fun q => by omega)
    refine ⟨Or.inl rfl, ?_⟩
    have hq := hQ τ ho
    cases hc : nfS S R E kd S.nh with
    | none =>
      rw [hc] at hv hq
      have : x2 = oI (-1) (nfO none) := hv
      rw [this]; exact hq
    | some z =>
      obtain ⟨b, l⟩ := z
      rw [hc] at hv hq
      have : x2 = oI (-1) (nfO (some (b, l))) := hv.1
      rw [this]; exact hq
  | succ r ih =>
    intro h m τ x2 x3 x4 o5 hr hm ho hv e4
    obtain ⟨n, rfl⟩ := il_ex (K := 60) (m := m) (by omega)
    have nxt : ∀ (τ' : ST) (y2 y3 : Int32) (p5 : Option AV) (n' : Nat), 2600000 + 200 * r + 2 ≤ n' → off wOff σ τ' → nfV (nfS S R E kd (h + 1)) y2 y3 → wp N n' (e + 5, 0) TX11_nextOne 49 [some (.inr (.inr (11, 0, 0))), some (.inl x1), some (.inl y2), some (.inl y3), some (.inl x4), p5] [] τ' Q := by
      intro τ' y2 y3 p5 n' hn' ho' hv'
      obtain ⟨n2, rfl⟩ := il_ex (K := 2) (m := n') (by omega)
      exact ⟨trivial, ih (h + 1) _ τ' _ _ _ _ (by omega) (by omega) ho' hv' (il_inc e4)⟩
    refine b_ge e4 (kS τ ho).1 (by omega) (by omega) (fun q => by omega) (fun _ => ?_)
    refine ⟨trivial, c_placeOfM (jv := 27) rfl hS hE (kE τ ho) (by omega) e4 (by omega) ?_⟩
    cases hc : plc E h with
    | some z =>
      have hz := plc_some hc
      have hnj := hE.1
      refine ⟨fun q => absurd (show nI z = (-1 : Int32) by rw [← im1]; exact q) (nI_m1 (by omega)), fun _ => ?_⟩
      exact ⟨trivial, nxt τ _ _ _ _ (by omega) ho (by rw [nfS, if_pos (by rw [hc]; rfl)]; exact hv)⟩
    | none =>
      refine ⟨fun _ => ?_, fun q => absurd (show (-1 : Int32) = Int32.ofInt (-1) by rw [im1]) q⟩
      have hns : nfS S R E kd (h + 1) = match nfS S R E kd h with
          | none => some (h, rkI S R E kd h)
          | some (b, l) => if rkI S R E kd h < l then some (h, rkI S R E kd h) else some (b, l) := by
        rw [nfS, if_neg (by rw [hc]; simp)]
        rfl
      have rk : ∀ (τ' : ST) (y : Int32) (n' : Nat), 2600000 + 200 * r + 30 ≤ n' → off wOff σ τ' → y = rkI S R E kd h → wp N n' (e + 5, 0) TX11_nextOne 37 [some (.inr (.inr (11, 0, 0))), some (.inl x1), some (.inl x2), some (.inl x3), some (.inl x4), o5] [.inl y] τ' Q := by
        intro τ' y n' hn' ho' hy
        obtain ⟨n2, rfl⟩ := il_ex (K := 15) (m := n') (by omega)
        have take : ∀ n3, 2600000 + 200 * r + 10 ≤ n3 → nfS S R E kd (h + 1) = some (h, rkI S R E kd h) → wp N n3 (e + 5, 0) TX11_nextOne 45 [some (.inr (.inr (11, 0, 0))), some (.inl x1), some (.inl x2), some (.inl x3), some (.inl x4), some (.inl y)] [] τ' Q := by
          intro n3 hn3 hs
          refine adv 4 (2600000 + 200 * r + 2) (by omega) (fun n4 hn4 => ?_)
          exact nxt τ' _ _ _ n4 hn4 ho' (by rw [hs]; exact ⟨e4, hy⟩)
        cases hq : nfS S R E kd h with
        | none =>
          rw [hq] at hv hns
          have hv : x2 = -1 := hv
          refine ⟨fun _ => take _ (by omega) hns, fun q => absurd (show x2 = Int32.ofInt (-1) by rw [hv, im1]) q⟩
        | some z =>
          obtain ⟨b, l⟩ := z
          have hb := nfS_lt h b l hq
          rw [hq] at hv hns
          have hv2 : x2 = nI b := hv.1
          have hv3 : x3 = l := hv.2
          simp only at hns
          refine ⟨fun q => absurd (show nI b = (-1 : Int32) by rw [← hv2, ← im1]; exact q) (nI_m1 (by omega)), fun _ => ?_⟩
          refine ⟨fun q => ?_, fun q => ?_⟩
          · have q : rkI S R E kd h < l := by rw [← hv3, ← hy]; exact q
            exact take _ (by omega) (by rw [hns, if_pos q])
          · have q : ¬ rkI S R E kd h < l := by rw [← hv3, ← hy]; exact q
            refine ⟨trivial, nxt τ' _ _ _ _ (by omega) ho' ?_⟩
            rw [hns, if_neg q]
            exact ⟨hv2, hv3⟩
      refine b_ne e1 z0 (by omega) (by omega) (fun q0 => ?_) (fun q0 => ?_)
      · refine b_ne e1 oi_1 (by omega) (by omega) (fun q1 => ?_) (fun q1 => ?_)
        · refine ⟨trivial, c_ways (jv := 27) rfl (by decide) hS hR hE (kS τ ho) (kR τ ho) (kE τ ho) (by omega) e4 (by omega) ?_⟩
          intro τ2 ho2 _
          exact rk τ2 _ _ (by omega) (off_tr ho ho2) (by unfold rkI; rw [if_neg q0, if_neg q1])
        · have g5 : Int32.ofInt 5 + x4 = nI (5 + h) := by rw [e4, i5, nI_add]
          refine ⟨il_in g5 (by omega) (by omega), ?_⟩
          refine ⟨trivial, rk τ _ _ (by omega) ho ?_⟩
          unfold rkI
          rw [if_neg q0, if_pos q1, il_cl g5 (by omega)]
          show -(τ.1 11 0 27 (5 + h)) = _
          rw [(kR τ ho).2.2.2.2.2 h (by omega)]
      · exact ⟨trivial, rk τ _ _ (by omega) ho (by unfold rkI; rw [if_pos q0]; exact e4)⟩
set_option maxRecDepth 100000 in
/-- the reference's nextOne -/
theorem c_nextOne (hS : vSP S) (hR : vRU S R) (hE : vNE S E) (cS : mSP σ S) (cR : mRU (σ.1 11 0 27) S R) (cE : mNE (σ.1 11 0 27) E) {kd : Nat} (hkd : kd ≤ 2) {x1 : Int32} (e1 : x1 = nI kd) (hm : 2700000 ≤ m) (hQ : ∀ τ, off wOff σ τ → Q (some (.inl (oI (-1) (nfO (nfS S R E kd S.nh))))) τ) :
    wp N m (e + 5, 0) TX11_nextOne 0 [some (.inr (.inr (11, 0, 0))), some (.inl x1), none, none, none, none] [] σ Q := by
  have hnh := hS.1
  refine adv 6 2650000 (by omega) (fun n hn => ?_)
  exact no_loop hS hR hE cS cR cE hkd e1 hQ S.nh 0 n σ _ _ _ _ (by omega) (by omega) (off_rf _ _) im1 oi_0
end NO
