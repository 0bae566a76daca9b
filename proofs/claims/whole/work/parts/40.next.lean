/-! which HEARING is joined next, by a kind -/
def rkI (S : SPc) (R : RUc) (E : NEc) (kd h : Nat) : Int32 := if kd = 0 then nI h else if kd = 1 then -(nI (R.wt h)) else nI (dwS S R E h (S.cn h) E.ns).1
def nfS (S : SPc) (R : RUc) (E : NEc) (kd : Nat) : Nat → Option (Nat × Int32)
  | 0 => none
  | h + 1 => if (plc E h).isSome = true then nfS S R E kd h else match nfS S R E kd h with
    | none => some (h, rkI S R E kd h)
    | some (b, l) => if rkI S R E kd h < l then some (h, rkI S R E kd h) else some (b, l)
def nfO (o : Option (Nat × Int32)) : Option Nat := match o with
  | none => none
  | some q => some q.1
theorem nfS_lt {S : SPc} {R : RUc} {E : NEc} {kd : Nat} : ∀ (h b : Nat) (l : Int32), nfS S R E kd h = some (b, l) → b < h ∧ plc E b = none
  | 0, b, l, q => by cases q
  | h + 1, b, l, q => by
    rw [nfS] at q
    by_cases hj : (plc E h).isSome = true
    · rw [if_pos hj] at q
      have := nfS_lt h b l q
      exact ⟨by omega, this.2⟩
    · rw [if_neg hj] at q
      have hn : plc E h = none := by
        cases hc : plc E h with
        | none => rfl
        | some z => rw [hc] at hj; exact absurd rfl hj
      cases hf : nfS S R E kd h with
      | none => rw [hf] at q; simp only at q; cases q; exact ⟨by omega, hn⟩
      | some z =>
        obtain ⟨b0, l0⟩ := z
        rw [hf] at q
        simp only at q
        have := nfS_lt h b0 l0 hf
        split at q
        · cases q; exact ⟨by omega, hn⟩
        · cases q; exact ⟨by omega, this.2⟩
/-- what the two variables hold -/
def nfV (o : Option (Nat × Int32)) (x2 x3 : Int32) : Prop := match o with
  | none => x2 = -1
  | some (b, l) => x2 = nI b ∧ x3 = l
section NX
variable {N e m : Nat} {σ : ST} {Q : POST} {S : SPc} {R : RUc} {E : NEc}
set_option maxRecDepth 100000 in
theorem nx_loop (hS : vSP S) (hR : vRU S R) (hE : vNE S E) (cS : cSP σ 0 S) (cR : cRU σ 0 S R) (cE : cNE σ 0 E) {kd : Nat} (hkd : kd ≤ 2) {x1 : Int32} (e1 : x1 = nI kd) (hQ : ∀ τ, off pOff σ τ → cFA τ S → Q (some (.inl (oI (-1) (nfO (nfS S R E kd S.nh))))) τ) :
    ∀ (r h m : Nat) (τ : ST) (x2 x3 x4 : Int32) (o5 : Option AV), h + r = S.nh → 2100000 + 200 * r ≤ m → off pOff σ τ → cFA τ S → nfV (nfS S R E kd h) x2 x3 → x4 = nI h →
      wp N m (e + 5, 0) TX10_nextToJoin 6 [some (.inr (.inr (10, 0, 0))), some (.inl x1), some (.inl x2), some (.inl x3), some (.inl x4), o5] [] τ Q := by
  have hnh := hS.1
  have kE : ∀ τ, off pOff σ τ → cNE τ 0 E := fun τ ho => cNE_off ho (by decide) cE
  intro r
  induction r with
  | zero =>
    intro h m τ x2 x3 x4 o5 hr hm ho hf hv e4
    obtain ⟨n, rfl⟩ := il_ex (K := 20) (m := m) (by omega)
    obtain rfl : h = S.nh := by omega
    refine b_ge e4 (cSP_off ho (by decide) cS).1 (by omega) (by omega) (fun _ => ?_) (fun q => by omega)
    refine ⟨Or.inl rfl, ?_⟩
    have hq := hQ τ ho hf
    cases hc : nfS S R E kd S.nh with
    | none =>
      rw [hc] at hv hq
      have : x2 = oI (-1) (nfO none) := hv
      rw [this]; exact hq
    | some z =>
      obtain ⟨b, l⟩ := z
      rw [hc] at hv hq
      have : x2 = oI (-1) (nfO (some (b, l))) := hv.1
      rw [this]; exact hq
  | succ r ih =>
    intro h m τ x2 x3 x4 o5 hr hm ho hf hv e4
    obtain ⟨n, rfl⟩ := il_ex (K := 60) (m := m) (by omega)
    have nxt : ∀ (τ' : ST) (y2 y3 : Int32) (p5 : Option AV) (n' : Nat), 2100000 + 200 * r + 2 ≤ n' → off pOff σ τ' → cFA τ' S → nfV (nfS S R E kd (h + 1)) y2 y3 → wp N n' (e + 5, 0) TX10_nextToJoin 46 [some (.inr (.inr (10, 0, 0))), some (.inl x1), some (.inl y2), some (.inl y3), some (.inl x4), p5] [] τ' Q := by
      intro τ' y2 y3 p5 n' hn' ho' hf' hv'
      obtain ⟨n2, rfl⟩ := il_ex (K := 2) (m := n') (by omega)
      exact ⟨trivial, ih (h + 1) _ τ' _ _ _ _ (by omega) (by omega) ho' hf' hv' (il_inc e4)⟩
    refine b_ge e4 (cSP_off ho (by decide) cS).1 (by omega) (by omega) (fun q => by omega) (fun _ => ?_)
    refine ⟨trivial, c_holds e4 (by omega) (by omega) ?_⟩
    rw [(kE τ ho).2.2.2.1 h (by omega)]
    cases hc : plc E h with
    | some z =>
      have hz := plc_some hc
      have hnj := hE.1
      rw [if_neg (show ¬ oI (-2) (some z) < 0 from nI_pos (by omega))]
      refine b_ne (a := 1) rfl z0 (by omega) (by omega) (fun _ => ?_) (fun q => by omega)
      exact nxt τ _ _ _ _ (by omega) ho hf (by rw [nfS, if_pos (by rw [hc]; rfl)]; exact hv)
    | none =>
      rw [if_pos (show oI (-2) none < 0 from ne2)]
      refine b_ne (a := 0) rfl z0 (by omega) (by omega) (fun q => by omega) (fun _ => ?_)
      have hns : nfS S R E kd (h + 1) = match nfS S R E kd h with
          | none => some (h, rkI S R E kd h)
          | some (b, l) => if rkI S R E kd h < l then some (h, rkI S R E kd h) else some (b, l) := by rw [nfS, if_neg (by rw [hc]; simp)]
      have rk : ∀ (τ' : ST) (y : Int32) (n' : Nat), 2100000 + 200 * r + 30 ≤ n' → off pOff σ τ' → cFA τ' S → y = rkI S R E kd h → wp N n' (e + 5, 0) TX10_nextToJoin 35 [some (.inr (.inr (10, 0, 0))), some (.inl x1), some (.inl x2), some (.inl x3), some (.inl x4), o5] [.inl y] τ' Q := by
        intro τ' y n' hn' ho' hf' hy
        obtain ⟨n2, rfl⟩ := il_ex (K := 15) (m := n') (by omega)
        have take : ∀ n3, 2100000 + 200 * r + 10 ≤ n3 → nfS S R E kd (h + 1) = some (h, rkI S R E kd h) → wp N n3 (e + 5, 0) TX10_nextToJoin 42 [some (.inr (.inr (10, 0, 0))), some (.inl x1), some (.inl x2), some (.inl x3), some (.inl x4), some (.inl y)] [] τ' Q := by
          intro n3 hn3 hs
          refine adv 4 (2100000 + 200 * r + 2) (by omega) (fun n4 hn4 => ?_)
          exact nxt τ' _ _ _ n4 hn4 ho' hf' (by rw [hs]; exact ⟨e4, hy⟩)
        cases hq : nfS S R E kd h with
        | none =>
          rw [hq] at hv hns
          have hv : x2 = -1 := hv
          refine ⟨fun _ => take _ (by omega) hns, fun q => absurd (show x2 = Int32.ofInt (-1) by rw [hv, im1]) q⟩
        | some z =>
          obtain ⟨b, l⟩ := z
          have hb := nfS_lt h b l hq
          rw [hq] at hv hns
          have hv2 : x2 = nI b := hv.1
          have hv3 : x3 = l := hv.2
          simp only at hns
          refine ⟨fun q => absurd (show nI b = (-1 : Int32) by rw [← hv2, ← im1]; exact q) (nI_m1 (by omega)), fun _ => ?_⟩
          refine ⟨fun q => ?_, fun q => ?_⟩
          · have q : l ≤ rkI S R E kd h := by rw [← hv3, ← hy]; exact q
            refine nxt τ' _ _ _ _ (by omega) ho' hf' ?_
            rw [hns, if_neg (Int32.not_lt.mpr q)]
            exact ⟨hv2, hv3⟩
          · have q : ¬ l ≤ rkI S R E kd h := by rw [← hv3, ← hy]; exact q
            exact take _ (by omega) (by rw [hns, if_pos (Int32.not_le.mp q)])
      refine b_ne e1 z0 (by omega) (by omega) (fun q0 => ?_) (fun q0 => ?_)
      · refine b_ne e1 oi_1 (by omega) (by omega) (fun q1 => ?_) (fun q1 => ?_)
        · refine ⟨trivial, c_plan hS hR hE (cSP_off ho (by decide) cS) (cRU_off ho (by decide) cR) (kE τ ho) hf (by omega) e4 (by omega) ?_⟩
          intro τ2 ho2 hf2 _ _
          exact rk τ2 _ _ (by omega) (off_tr ho ho2) hf2 (by unfold rkI; rw [if_neg q0, if_neg q1])
        · refine ⟨trivial, c_weightOf e4 (by omega) (by omega) ?_⟩
          rw [(cRU_off ho (by decide) cR).2.2.2.2.2 h (by omega)]
          exact ⟨trivial, rk τ _ _ (by omega) ho hf (by unfold rkI; rw [if_neg q0, if_pos q1])⟩
      · exact ⟨trivial, rk τ _ _ (by omega) ho hf (by unfold rkI; rw [if_pos q0]; exact e4)⟩
set_option maxRecDepth 100000 in
/-- HeardVotes.nextToJoin -/
theorem c_nextToJoin (hS : vSP S) (hR : vRU S R) (hE : vNE S E) (cS : cSP σ 0 S) (cR : cRU σ 0 S R) (cE : cNE σ 0 E) (cF : cFA σ S) {kd : Nat} (hkd : kd ≤ 2) {x1 : Int32} (e1 : x1 = nI kd) (hm : 2200000 ≤ m) (hQ : ∀ τ, off pOff σ τ → cFA τ S → Q (some (.inl (oI (-1) (nfO (nfS S R E kd S.nh))))) τ) :
    wp N m (e + 5, 0) TX10_nextToJoin 0 [some (.inr (.inr (10, 0, 0))), some (.inl x1), none, none, none, none] [] σ Q := by
  have hnh := hS.1
  refine adv 6 2150000 (by omega) (fun n hn => ?_)
  exact nx_loop hS hR hE cS cR cE hkd e1 hQ S.nh 0 n σ _ _ _ _ (by omega) (by omega) (off_rf _ _) cF im1 oi_0
end NX
