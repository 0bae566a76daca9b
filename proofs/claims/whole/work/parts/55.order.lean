/-! the best of all orders: what both searches find -/
/-- the net of an order's first k, and what it cost -/
def obE (S : SPc) (R : RUc) (o : Nat → Nat) : Nat → NEc
  | 0 => emE
  | k + 1 => jnE S R (obE S R o k) (o k)
def obC (S : SPc) (R : RUc) (o : Nat → Nat) : Nat → Nat
  | 0 => 0
  | k + 1 => obC S R o k + ctS S R (obE S R o k) (o k)
theorem obE_congr {S : SPc} {R : RUc} {o o' : Nat → Nat} : ∀ {k}, (∀ p, p < k → o' p = o p) → obE S R o' k = obE S R o k
  | 0, _ => rfl
  | k + 1, h => by rw [obE, obE, obE_congr (fun p hp => h p (by omega)), h k (by omega)]
theorem obC_congr {S : SPc} {R : RUc} {o o' : Nat → Nat} : ∀ {k}, (∀ p, p < k → o' p = o p) → obC S R o' k = obC S R o k
  | 0, _ => rfl
  | k + 1, h => by rw [obC, obC, obC_congr (fun p hp => h p (by omega)), obE_congr (fun p hp => h p (by omega)), h k (by omega)]
/-- an order of k HEARINGS -/
def vOr (S : SPc) (o : Nat → Nat) (k : Nat) : Prop := (∀ p, p < k → o p < S.nh) ∧ ∀ p q, p < k → q < k → o p = o q → p = q
theorem obE_nj (S : SPc) (R : RUc) (o : Nat → Nat) : ∀ k, (obE S R o k).nj = k ∧ ∀ p, p < k → (obE S R o k).od p = o p
  | 0 => ⟨rfl, fun p hp => absurd hp (Nat.not_lt_zero _)⟩
  | k + 1 => by
    have ih := obE_nj S R o k
    refine ⟨by show (obE S R o k).nj + 1 = _; rw [ih.1], fun p hp => ?_⟩
    show (if p = (obE S R o k).nj then o k else (obE S R o k).od p) = _
    rw [ih.1]
    by_cases e : p = k
    · rw [if_pos e, e]
    · rw [if_neg e]; exact ih.2 p (by omega)
/-- is it among the first k? -/
theorem obE_plc {S : SPc} {R : RUc} {o : Nat → Nat} {k h : Nat} : plc (obE S R o k) h = none ↔ ∀ p, p < k → o p ≠ h := by
  have ob := obE_nj S R o k
  constructor
  · intro q p hp
    have := plc_none q p (by rw [ob.1]; exact hp)
    rw [ob.2 p hp] at this
    exact this
  · intro q
    cases z : plc (obE S R o k) h with
    | none => rfl
    | some p =>
      have := plc_some z
      rw [ob.1] at this
      have h2 := q p this.1
      rw [← ob.2 p this.1] at h2
      exact absurd this.2 h2
theorem obE_v {S : SPc} {R : RUc} {o : Nat → Nat} (hS : vSP S) (hR : vRU S R) : ∀ {k}, vOr S o k → vNE S (obE S R o k)
  | 0, _ => vNE_em S
  | k + 1, h => by
    have ih := obE_v (S := S) (R := R) (o := o) hS hR (k := k) ⟨fun p hp => h.1 p (by omega), fun p q hp hq => h.2 p q (by omega) (by omega)⟩
    exact vNE_jn hS hR ih (h.1 k (by omega)) (obE_plc.mpr (fun p hp z => by have := h.2 p k (by omega) (by omega) z; omega))
/-- one more -/
def exO (o : Nat → Nat) (k h : Nat) : Nat → Nat := fun p => if p = k then h else o p
theorem exO_lt {o : Nat → Nat} {k h p : Nat} (hp : p < k) : exO o k h p = o p := if_neg (by omega)
theorem exO_k {o : Nat → Nat} {k h : Nat} : exO o k h k = h := if_pos rfl
theorem exO_v {S : SPc} {o : Nat → Nat} {k h : Nat} (v : vOr S o k) (hh : h < S.nh) (q : ∀ p, p < k → o p ≠ h) : vOr S (exO o k h) (k + 1) := by
  refine ⟨fun p hp => ?_, fun p p' hp hp' z => ?_⟩
  · by_cases e : p = k
    · rw [e, exO_k]; exact hh
    · rw [exO_lt (by omega)]; exact v.1 p (by omega)
  · by_cases e : p = k
    · by_cases e' : p' = k
      · omega
      · rw [e, exO_k, exO_lt (by omega)] at z
        exact absurd z.symm (q p' (by omega))
    · by_cases e' : p' = k
      · rw [e', exO_k, exO_lt (by omega)] at z
        exact absurd z (q p (by omega))
      · rw [exO_lt (by omega), exO_lt (by omega)] at z
        exact v.2 p p' (by omega) (by omega) z
abbrev BO : Type := Option (Nat × (Nat → Nat))
def upB (c : Nat) (o : Nat → Nat) : BO → BO
  | none => some (c, o)
  | some b => if c < b.1 then some (c, o) else some b
def itB (g : Nat → BO → BO) : Nat → BO → BO
  | 0, b => b
  | n + 1, b => g n (itB g n b)
noncomputable def fsr (S : SPc) (R : RUc) : Nat → (Nat → Nat) → Nat → BO → BO
  | 0, o, k, b => upB (obC S R o k) o b
  | r + 1, o, k, b => itB (fun h b => if (plc (obE S R o k) h).isSome = true then b else fsr S R r (exO o k h) (k + 1) b) S.nh b
theorem fsr_s {S : SPc} {R : RUc} {r k : Nat} {o : Nat → Nat} {b : BO} : fsr S R (r + 1) o k b = itB (fun h b => if (plc (obE S R o k) h).isSome = true then b else fsr S R r (exO o k h) (k + 1) b) S.nh b := rfl
/-- what can't be cheaper changes nothing -/
theorem fsr_dear {S : SPc} {R : RUc} {c0 : Nat} {o0 : Nat → Nat} : ∀ r o k, c0 ≤ obC S R o k → fsr S R r o k (some (c0, o0)) = some (c0, o0)
  | 0, o, k, h => by
    show upB _ _ _ = _
    unfold upB
    simp only
    rw [if_neg (by omega)]
  | r + 1, o, k, h => by
    rw [fsr_s]
    have : ∀ n, itB (fun h b => if (plc (obE S R o k) h).isSome = true then b else fsr S R r (exO o k h) (k + 1) b) n (some (c0, o0)) = some (c0, o0) := by
      intro n
      induction n with
      | zero => rfl
      | succ n ih =>
        rw [itB, ih]
        by_cases q : (plc (obE S R o k) n).isSome = true
        · rw [if_pos q]
        · rw [if_neg q]
          refine fsr_dear r _ _ ?_
          have e : obC S R (exO o k n) (k + 1) = obC S R o k + ctS S R (obE S R (exO o k n) k) (exO o k n k) := by
            rw [obC, obC_congr (o := o) (o' := exO o k n) (fun p hp => exO_lt hp)]
          omega
    exact this S.nh
theorem upB_some (c : Nat) (o : Nat → Nat) (b : BO) : ∃ z, upB c o b = some z := by
  cases b with
  | none => exact ⟨_, rfl⟩
  | some b =>
    unfold upB
    simp only
    by_cases q : c < b.1
    · rw [if_pos q]; exact ⟨_, rfl⟩
    · rw [if_neg q]; exact ⟨_, rfl⟩
theorem fsr_keep {S : SPc} {R : RUc} : ∀ r o k z, ∃ w, fsr S R r o k (some z) = some w
  | 0, o, k, z => upB_some _ _ _
  | r + 1, o, k, z => by
    rw [fsr_s]
    have : ∀ n, ∃ w, itB (fun h b => if (plc (obE S R o k) h).isSome = true then b else fsr S R r (exO o k h) (k + 1) b) n (some z) = some w := by
      intro n
      induction n with
      | zero => exact ⟨z, rfl⟩
      | succ n ih =>
        obtain ⟨w, hw⟩ := ih
        rw [itB, hw]
        by_cases q : (plc (obE S R o k) n).isSome = true
        · rw [if_pos q]; exact ⟨w, rfl⟩
        · rw [if_neg q]; exact fsr_keep r _ _ _
    exact this S.nh
theorem fsr_some {S : SPc} {R : RUc} (hS : vSP S) (hR : vRU S R) : ∀ r o k b, vOr S o k → k + r = S.nh → ∃ w, fsr S R r o k b = some w
  | 0, o, k, b, _, _ => upB_some _ _ _
  | r + 1, o, k, b, v, hk => by
    rw [fsr_s]
    obtain ⟨g, hg, pg⟩ := plc_left hS (obE_v (R := R) hS hR v) (by rw [(obE_nj S R o k).1]; omega)
    have : ∀ n, g < n → ∃ w, itB (fun h b => if (plc (obE S R o k) h).isSome = true then b else fsr S R r (exO o k h) (k + 1) b) n b = some w := by
      intro n
      induction n with
      | zero => intro h; omega
      | succ n ih =>
        intro h
        rw [itB]
        by_cases e : g = n
        · subst e
          rw [if_neg (by rw [pg]; simp)]
          exact fsr_some hS hR r _ _ _ (exO_v v hg (obE_plc.mp pg)) (by omega)
        · obtain ⟨w, hw⟩ := ih (by omega)
          rw [hw]
          by_cases q : (plc (obE S R o k) n).isSome = true
          · rw [if_pos q]; exact ⟨w, rfl⟩
          · rw [if_neg q]; exact fsr_keep r _ _ _
    exact this S.nh hg
theorem obC_le {S : SPc} {R : RUc} {o : Nat → Nat} (hS : vSP S) (hR : vRU S R) : ∀ {k}, vOr S o k → obC S R o k ≤ 2000 * k
  | 0, _ => Nat.le_refl _
  | k + 1, v => by
    have ih := obC_le (o := o) hS hR (k := k) ⟨fun p hp => v.1 p (by omega), fun p q hp hq => v.2 p q (by omega) (by omega)⟩
    have hv := obE_v (R := R) hS hR v
    have ob := obE_nj S R o k
    have h9 := hv.2.2.2.2.2.2.2.2 k (by rw [(obE_nj S R o (k + 1)).1]; omega)
    have : (obE S R o (k + 1)).ct k = ctS S R (obE S R o k) (o k) := by
      show (if k = (obE S R o k).nj then (dwS S R (obE S R o k) (o k) (S.cn (o k)) (obE S R o k).ns).1 else (obE S R o k).ct k) = _
      rw [if_pos ob.1.symm]; rfl
    rw [obC]
    omega
noncomputable def bsO (S : SPc) (R : RUc) : BO := fsr S R S.nh (fun _ => 0) 0 none
noncomputable def bsC (S : SPc) (R : RUc) : Nat := match bsO S R with
  | some b => b.1
  | none => 0
noncomputable def bsW (S : SPc) (R : RUc) : Nat → Nat := match bsO S R with
  | some b => b.2
  | none => fun _ => 0
theorem bsO_ok {S : SPc} {R : RUc} (hS : vSP S) (hR : vRU S R) : bsO S R = some (bsC S R, bsW S R) := by
  obtain ⟨w, hw⟩ := fsr_some hS hR S.nh (fun _ => 0) 0 none ⟨fun p hp => absurd hp (Nat.not_lt_zero _), fun p q hp => absurd hp (Nat.not_lt_zero _)⟩ (by omega)
  unfold bsC bsW
  rw [show bsO S R = some w from hw]
/-- all found are orders of all, at a small cost -/
def vBO (S : SPc) (b : BO) : Prop := ∀ c o, b = some (c, o) → c ≤ 10000 ∧ ∀ p, p < S.nh → o p < S.nh
theorem fsr_v {S : SPc} {R : RUc} (hS : vSP S) (hR : vRU S R) : ∀ r o k b, vOr S o k → k + r = S.nh → vBO S b → vBO S (fsr S R r o k b)
  | 0, o, k, b, v, hk, hb => by
    have hc := obC_le hS hR v
    have hnh := hS.1
    have leaf : vBO S (some (obC S R o k, o)) := fun c o' e => by
      cases e
      exact ⟨by omega, fun p hp => v.1 p (by omega)⟩
    cases b with
    | none => exact leaf
    | some z =>
      show vBO S (if obC S R o k < z.1 then _ else _)
      by_cases q : obC S R o k < z.1
      · rw [if_pos q]; exact leaf
      · rw [if_neg q]; exact hb
  | r + 1, o, k, b, v, hk, hb => by
    rw [fsr_s]
    have : ∀ n, n ≤ S.nh → vBO S (itB (fun h b => if (plc (obE S R o k) h).isSome = true then b else fsr S R r (exO o k h) (k + 1) b) n b) := by
      intro n
      induction n with
      | zero => intro _; exact hb
      | succ n ih =>
        intro hn
        rw [itB]
        by_cases q : (plc (obE S R o k) n).isSome = true
        · rw [if_pos q]; exact ih (by omega)
        · rw [if_neg q]
          have q' : plc (obE S R o k) n = none := by
            cases z : plc (obE S R o k) n with
            | none => rfl
            | some p => rw [z] at q; exact absurd rfl q
          exact fsr_v hS hR r _ _ _ (exO_v v (by omega) (obE_plc.mp q')) (by omega) (ih (by omega))
    exact this S.nh (Nat.le_refl _)
theorem bs_v {S : SPc} {R : RUc} (hS : vSP S) (hR : vRU S R) : bsC S R ≤ 10000 ∧ ∀ p, p < S.nh → bsW S R p < S.nh :=
  fsr_v hS hR S.nh (fun _ => 0) 0 none ⟨fun p hp => absurd hp (Nat.not_lt_zero _), fun p q hp => absurd hp (Nat.not_lt_zero _)⟩ (by omega) (fun c o e => by cases e) _ _ (bsO_ok hS hR)
