/-! a net begun anew with all that are joined but one -/
def wwN (S : SPc) (R : RUc) (E : NEc) (x : Nat) : Nat → NEc
  | 0 => emE
  | p + 1 => if E.od p = x then wwN S R E x p else jnE S R (wwN S R E x p) (E.od p)
theorem wwN_plc {S : SPc} {R : RUc} {E : NEc} {x : Nat} (hE : vNE S E) : ∀ p, p ≤ E.nj → ∀ g, (plc (wwN S R E x p) g).isSome = true → ∃ q, q < p ∧ E.od q = g
  | 0, _, g, h => by rw [wwN, plc_em] at h; simp at h
  | p + 1, hp, g, h => by
    rw [wwN] at h
    by_cases hx : E.od p = x
    · rw [if_pos hx] at h
      obtain ⟨q, h1, h2⟩ := wwN_plc hE p (by omega) g h
      exact ⟨q, by omega, h2⟩
    · rw [if_neg hx] at h
      have hn : plc (wwN S R E x p) (E.od p) = none := by
        cases hc : plc (wwN S R E x p) (E.od p) with
        | none => rfl
        | some z =>
          obtain ⟨q, h1, h2⟩ := wwN_plc hE p (by omega) (E.od p) (by rw [hc]; rfl)
          have := hE.2.2.1 q p (by omega) (by omega) h2
          omega
      rw [plc_jn S R hn] at h
      by_cases hg : g = E.od p
      · exact ⟨p, by omega, hg.symm⟩
      · rw [if_neg hg] at h
        obtain ⟨q, h1, h2⟩ := wwN_plc hE p (by omega) g h
        exact ⟨q, by omega, h2⟩
theorem wwN_none {S : SPc} {R : RUc} {E : NEc} {x : Nat} (hE : vNE S E) {p : Nat} (hp : p < E.nj) : plc (wwN S R E x p) (E.od p) = none := by
  cases hc : plc (wwN S R E x p) (E.od p) with
  | none => rfl
  | some z =>
    obtain ⟨q, h1, h2⟩ := wwN_plc (R := R) (x := x) hE p (by omega) (E.od p) (by rw [hc]; rfl)
    have := hE.2.2.1 q p (by omega) (by omega) h2
    omega
theorem wwN_v {S : SPc} {R : RUc} {E : NEc} {x : Nat} (hS : vSP S) (hR : vRU S R) (hE : vNE S E) : ∀ p, p ≤ E.nj → vNE S (wwN S R E x p)
  | 0, _ => vNE_em S
  | p + 1, hp => by
    have ih := wwN_v (R := R) (x := x) hS hR hE p (by omega)
    rw [wwN]
    by_cases hx : E.od p = x
    · rw [if_pos hx]; exact ih
    · rw [if_neg hx]; exact vNE_jn hS hR ih (hE.2.1 p (by omega)) (wwN_none hE (by omega))
section WW
variable {N e m k k2 : Nat} {σ : ST} {Q : POST} {S : SPc} {R : RUc} {E : NEc}
set_option maxRecDepth 100000 in
theorem ww_loop (hk : k ≠ k2) (hS : vSP S) (hR : vRU S R) (hE : vNE S E) (cS : cSP σ 0 S) (cR : cRU σ 0 S R) (cE : cNE σ k E) {x : Nat} (hx : x < S.nh) {x2 : Int32} (e2 : x2 = nI x) (hQ : ∀ τ, off (vOff k2) σ τ → cFA τ S → cNE τ k2 (wwN S R E x E.nj) → Q none τ) :
    ∀ (r p m : Nat) (τ : ST) (x4 : Int32) (o5 : Option AV), p + r = E.nj → 2200000 + 200 * r ≤ m → off (vOff k2) σ τ → cFA τ S → cNE τ k2 (wwN S R E x p) → x4 = nI p →
      wp N m (e + 6, 0) TX9_weaveWithout 4 [some (.inr (.inr (9, 0, 0))), some (.inr (.inr (3, k, 0))), some (.inl x2), some (.inr (.inr (3, k2, 0))), some (.inl x4), o5] [] τ Q := by
  have hnh := hS.1
  have hnj := hE.1
  have kE : ∀ τ, off (vOff k2) σ τ → cNE τ k E := fun τ ho => cNE_off ho (fun r hr q => by
    simp only [List.mem_cons, List.not_mem_nil, or_false] at hr
    rcases hr with rfl | rfl | rfl | rfl | rfl | rfl | rfl | rfl | rfl | rfl | rfl | rfl | rfl | rfl | rfl <;> simp at q <;> exact hk q.symm) cE
  have k8 : ∀ r ∈ vOff k2, r.1 ≠ 8 := fun r hr => by
    simp only [List.mem_cons, List.not_mem_nil, or_false] at hr
    rcases hr with rfl | rfl | rfl | rfl | rfl | rfl | rfl | rfl | rfl | rfl | rfl | rfl | rfl | rfl | rfl <;> simp
  have k7 : ∀ r ∈ vOff k2, r.1 ≠ 7 := fun r hr => by
    simp only [List.mem_cons, List.not_mem_nil, or_false] at hr
    rcases hr with rfl | rfl | rfl | rfl | rfl | rfl | rfl | rfl | rfl | rfl | rfl | rfl | rfl | rfl | rfl <;> simp
  intro r
  induction r with
  | zero =>
    intro p m τ x4 o5 hr hm ho hf hc e4
    obtain ⟨n, rfl⟩ := il_ex (K := 20) (m := m) (by omega)
    refine b_ge e4 (kE τ ho).2.1 (by omega) (by omega) (fun _ => ?_) (fun q => by omega)
    obtain rfl : p = E.nj := by omega
    exact hQ τ ho hf hc
  | succ r ih =>
    intro p m τ x4 o5 hr hm ho hf hc e4
    obtain ⟨n, rfl⟩ := il_ex (K := 50) (m := m) (by omega)
    have hod := hE.2.1 p (by omega)
    have nxt : ∀ (τ' : ST) (p5 : Option AV) (n' : Nat), 2200000 + 200 * r + 2 ≤ n' → off (vOff k2) σ τ' → cFA τ' S → cNE τ' k2 (wwN S R E x (p + 1)) → wp N n' (e + 6, 0) TX9_weaveWithout 20 [some (.inr (.inr (9, 0, 0))), some (.inr (.inr (3, k, 0))), some (.inl x2), some (.inr (.inr (3, k2, 0))), some (.inl x4), p5] [] τ' Q := by
      intro τ' p5 n' hn' ho' hf' hc'
      obtain ⟨n2, rfl⟩ := il_ex (K := 2) (m := n') (by omega)
      exact ⟨trivial, ih (p + 1) _ τ' _ _ (by omega) (by omega) ho' hf' hc' (il_inc e4)⟩
    refine b_ge e4 (kE τ ho).2.1 (by omega) (by omega) (fun q => by omega) (fun _ => ?_)
    refine ⟨trivial, c_joinedAt e4 (by omega) (by omega) ?_⟩
    rw [(kE τ ho).2.2.1 p (by omega)]
    refine b_eq rfl e2 (by omega) (by omega) (fun z => ?_) (fun z => ?_)
    · exact nxt τ _ _ (by omega) ho hf (by rw [wwN, if_pos z]; exact hc)
    · refine ⟨trivial, c_weave hS hR (wwN_v hS hR hE p (by omega)) (cSP_off ho k8 cS) (cRU_off ho k7 cR) hc hf hod (wwN_none hE (by omega)) rfl (by omega) ?_⟩
      intro τ2 ho2 hf2 hc2
      refine adv 1 (2200000 + 200 * r + 2) (by omega) (fun n3 hn3 => ?_)
      exact nxt τ2 _ n3 hn3 (off_tr ho ho2) hf2 (by rw [wwN, if_neg z]; exact hc2)
set_option maxRecDepth 100000 in
/-- Weaver.weaveWithout -/
theorem c_weaveWithout (hk : k ≠ k2) (hS : vSP S) (hR : vRU S R) (hE : vNE S E) (cS : cSP σ 0 S) (cR : cRU σ 0 S R) (cE : cNE σ k E) (cF : cFA σ S) {x : Nat} (hx : x < S.nh) {x2 : Int32} (e2 : x2 = nI x) (hm : 2300000 ≤ m) (hQ : ∀ τ, off (vOff k2) σ τ → cFA τ S → cNE τ k2 (wwN S R E x E.nj) → Q none τ) :
    wp N m (e + 6, 0) TX9_weaveWithout 0 [some (.inr (.inr (9, 0, 0))), some (.inr (.inr (3, k, 0))), some (.inl x2), some (.inr (.inr (3, k2, 0))), none, none] [] σ Q := by
  have hnh := hS.1
  have hnj := hE.1
  obtain ⟨n, rfl⟩ := il_ex (K := 10) (m := m) (by omega)
  refine ⟨trivial, c_netClear (by omega) ?_⟩
  intro τ ho hc
  refine adv 2 2250000 (by omega) (fun n1 hn1 => ?_)
  have ho' : off (vOff k2) σ τ := off_mono ho (by simp)
  exact ww_loop hk hS hR hE cS cR cE hx e2 hQ E.nj 0 n1 τ _ _ (by omega) (by omega) ho' (fun w v hw hv => by rw [off_1 ho (by simp)]; exact cF w v hw hv) hc oi_0
end WW
