/-! what has been made, as IL's world -/
def offOf (r : RF) : Nat := nth 0 offL (idl.idxOf r)
/-- what fields and rows of ints begin with -/
def v0 (c j : Nat) : Int32 := match c, j with
  | 2, 3 => -1
  | 3, 4 => -2
  | 4, 1 => 1000000
  | 10, 20 => -1
  | 11, 3 => -1
  | _, _ => 0
def σ0 (xs : Nat → Int32) : ST := (fun c _ j i => cond (Nat.beq c 13) (xs i) (v0 c j), fun _ _ _ _ => 0)
def adF (b b0 : Nat) (r : RF) : Nat := cond (Nat.beq r.1 13) b (b0 + offOf r)
def ckF (c k j : Nat) (v : AV) : Bool := match (fkd c j).1, v with
  | 0, .inl x => decide (x = v0 c (j + 1))
  | 3, .inl x => decide (x = v0 c (j + 1))
  | 1, .inr (.inl y) => decide (y = 0)
  | 4, .inr (.inr (0, q, 0)) => Nat.beq q (offOf (c, k, j + 1))
  | 2, .inr (.inr (0, q, 0)) => Nat.beq q (offOf (fkd c j).2)
  | _, _ => false
def ckA (c j kd n : Nat) (v : Int32) (rs : List (Option Nat)) : Bool := match (akd c j).1 with
  | 1 => Nat.beq kd 1 && Nat.beq n (akd c j).2 && decide (v = v0 c (j + 1))
  | 2 => Nat.beq kd 2 && Nat.beq n (akd c j).2
  | 3 => Nat.beq kd (cond (Nat.beq (raf c (j + 1) 0).1 7) 4 3) && Nat.beq n (akd c j).2 && (List.range (akd c j).2).all (fun i => decide (rs.getD i none = some (offOf (raf c (j + 1) i))))
  | _ => false
def ckR (cs : List CE) (r : RF) : Bool := match r with
  | (c, k, 0) => objb cs (offOf (c, k, 0)) (fun c' fs => Nat.beq c' c && Nat.beq fs.length (nfs c) && (List.range (nfs c)).all (fun j => ckF c k j (fs.getD j nulA)))
  | (c, k, j + 1) => arrb cs (offOf (c, k, j + 1)) (fun kd n v rs => ckA c j kd n v rs)
def lsF : List (Option AV) := [some (.inr (.inr (13, 0, 1))), some (rC (offOf (10, 0, 0))), some (rC (offOf (11, 0, 0))), some (rC (offOf (12, 0, 1))), some (.inl (Int32.ofInt 0)), none, none]
def FK : KC := fun ls cs sl => decide (ls = lsF) && Nat.beq cs.length 117 && Nat.beq sl 17468 && idl.all (ckR cs)
set_option maxRecDepth 1000000 in
theorem fk_ok : cn 400 (8, 117, 17468) 12 0 (ent 7 [.inr (.inr (13, 0, 1))]) [] [] 0 FK = true := by decide +kernel
theorem off_nd : (idl.map offOf).Nodup := by decide +kernel
theorem nbf {a b : Nat} (h : a ≠ b) : Nat.beq a b = false := by
  cases hz : Nat.beq a b with
  | false => rfl
  | true => exact absurd (Nat.eq_of_beq_eq_true hz) h
section FIN
variable {D : va_G} {cy : Nat × Nat × Nat × Nat} {b b0 : Nat} {xs : Nat → Int32}
theorem adF_i {r : RF} (h : r ∈ idl) : adF b b0 r = b0 + offOf r := by
  have h1 := (idl_c r h).1
  unfold adF
  rw [show Nat.beq r.1 13 = false from nbf (by omega)]
  rfl
theorem s0_i {c k j : Nat} (h : c ≤ 12) : (σ0 xs).1 c k j = fun _ => v0 c j := by
  funext i
  show cond (Nat.beq c 13) (xs i) (v0 c j) = v0 c j
  rw [show Nat.beq c 13 = false from nbf (by omega)]
  rfl
theorem ckF_ok {c k j : Nat} {v : AV} (hm : (c, k, 0) ∈ idl) (hj : j < nfs c) (h : ckF c k j v = true) : trC (adC b b0) v = tr (adF b b0) (fget (σ0 xs) c k j) := by
  have hc : c ≤ 12 := (idl_c _ hm).1
  obtain ⟨i4, i2, i5⟩ := idl_fld _ hm rfl j hj
  simp only at i4 i2 i5
  rw [fget_eq]
  unfold ckF at h
  generalize hq : fkd c j = q at h i4 i2 i5 ⊢
  obtain ⟨q0, q1⟩ := q
  simp only at h i4 i2 i5
  match q0, v, h with
  | 0, .inl x, h =>
    have h := of_decide_eq_true h
    show Value.int x = Value.int ((σ0 xs).1 c k (j + 1) 0)
    rw [s0_i hc, h]
  | 3, .inl x, h =>
    have h := of_decide_eq_true h
    show Value.int x = Value.int ((σ0 xs).1 c k (j + 1) 0)
    rw [s0_i hc, h]
  | 1, .inr (.inl y), h =>
    have h := of_decide_eq_true h
    show Value.long y = Value.long 0
    rw [h]
  | 4, .inr (.inr (0, q, 0)), h =>
    have h := Nat.eq_of_beq_eq_true h
    show Value.ref (b0 + q) = Value.ref (adF b b0 (c, k, j + 1))
    rw [adF_i (i4 rfl), h]
  | 2, .inr (.inr (0, q, 0)), h =>
    have h := Nat.eq_of_beq_eq_true h
    show Value.ref (b0 + q) = Value.ref (adF b b0 q1)
    rw [adF_i (i2 rfl), h]
theorem vp_refs {cA : ClassId} {n : Nat} {f g : Nat → Option Nat} (h : ∀ j, j < n → f j = g j) : vp_cell cA (n, .inr (.inr (.inr (.inr f)))) = vp_cell cA (n, .inr (.inr (.inr (.inr g)))) := by
  rw [vp_cell_q, vp_cell_q]
  unfold arrV
  congr 2
  funext j
  exact congrArg va_rf (h j.val j.isLt)
theorem fin_P {cs : List CE} {H : Heap} (hck : idl.all (ckR cs) = true) (hP : va_P D vwCl (wC cy (adC b b0) b0 cs) H) : va_P D vwCl (wsl cy (adF b b0) (σ0 xs)) H := by
  intro q z hz
  unfold wsl at hz
  rw [List.getElem?_map] at hz
  cases hr : idl[q]? with
  | none => rw [hr] at hz; cases hz
  | some r =>
    rw [hr] at hz
    cases hz
    have hm := List.mem_of_getElem? hr
    have hk := List.all_eq_true.mp hck r hm
    obtain ⟨c, k, j⟩ := r
    have hc : c ≤ 12 := (idl_c _ hm).1
    show va_at D vwCl (adF b b0 (c, k, j), cel cy (adF b b0) (σ0 xs) (c, k, j)) H
    rw [adF_i hm]
    cases j with
    | zero =>
      obtain ⟨c', fs, hcs, h⟩ := objb_inv hk
      simp only [Bool.and_eq_true, Nat.beq_eq] at h
      obtain ⟨⟨rfl, hlen⟩, hall⟩ := h
      have h1 := hP _ _ (wC_at (cy := cy) (ad := adC b b0) (b0 := b0) hcs)
      have e : fs.map (trC (adC b b0)) = (List.range (nfs c')).map (fun j => tr (adF b b0) (fget (σ0 xs) c' k j)) := by
        apply List.ext_getElem?
        intro i
        rw [List.getElem?_map, List.getElem?_map]
        by_cases hi : i < nfs c'
        · have h2 := List.all_eq_true.mp hall i (List.mem_range.mpr hi)
          rw [List.getElem?_range hi, List.getElem?_eq_getElem (show i < fs.length by omega)]
          rw [List.getD_eq_getElem?_getD, List.getElem?_eq_getElem (show i < fs.length by omega)] at h2
          exact congrArg some (ckF_ok (b := b) (b0 := b0) (xs := xs) (v := fs[i]) hm hi h2)
        · rw [List.getElem?_eq_none_iff.mpr (by omega), List.getElem?_eq_none_iff.mpr (by rw [List.length_range]; omega)]
          rfl
      have h1 : va_at D vwCl (b0 + offOf (c', k, 0), .inr (c', fs.map (trC (adC b b0)))) H := h1
      rw [e] at h1
      exact h1
    | succ j =>
      obtain ⟨kd, n, v, rs, hcs, h⟩ := arrb_inv hk
      have h1 := hP _ _ (wC_at (cy := cy) (ad := adC b b0) (b0 := b0) hcs)
      unfold ckA at h
      generalize hq : (akd c j).1 = q0 at h
      match q0, h with
      | 1, h =>
        simp only [Bool.and_eq_true, Nat.beq_eq, decide_eq_true_eq] at h
        obtain ⟨⟨rfl, rfl⟩, rfl⟩ := h
        rw [cel_I hq, s0_i hc]
        exact h1
      | 2, h =>
        simp only [Bool.and_eq_true, Nat.beq_eq] at h
        obtain ⟨rfl, rfl⟩ := h
        rw [cel_J hq]
        exact h1
      | 3, h =>
        simp only [Bool.and_eq_true, Nat.beq_eq] at h
        obtain ⟨⟨hkd, rfl⟩, hall⟩ := h
        rw [cel_R hq]
        have hre : ∀ i, i < (akd c j).2 → rfC (adC b b0) rs i = some (adF b b0 (raf c (j + 1) i)) := by
          intro i hi
          have h2 := of_decide_eq_true (List.all_eq_true.mp hall i (List.mem_range.mpr hi))
          have h3 := (idl_raf _ hm (by simpa using hq) i (by simpa using hi)).1
          unfold rfC
          rw [h2, adF_i h3]
          rfl
        show H[b0 + offOf (c, k, j + 1)]? = some (vp_cell _ _)
        rw [← vp_refs hre]
        cases h7 : Nat.beq (raf c (j + 1) 0).1 7 with
        | true => rw [h7] at hkd; have hkd : kd = 4 := hkd; subst hkd; exact h1
        | false => rw [h7] at hkd; have hkd : kd = 3 := hkd; subst hkd; exact h1
theorem fin_D : va_D (fun q => b0 ≤ q) (wsl cy (adF b b0) (σ0 xs)) := by
  have key : ∀ (i : Nat) (p : Nat × va_E), (wsl cy (adF b b0) (σ0 xs))[i]? = some p → ∃ r, idl[i]? = some r ∧ p.1 = b0 + offOf r := by
    intro i p hp
    unfold wsl at hp
    rw [List.getElem?_map] at hp
    cases hr : idl[i]? with
    | none => rw [hr] at hp; cases hp
    | some r =>
      rw [hr] at hp
      cases hp
      exact ⟨r, rfl, adF_i (List.mem_of_getElem? hr)⟩
  refine ⟨fun i j p q hp hq he => ?_, fun k q hk => ?_⟩
  · obtain ⟨r, h1, e1⟩ := key i p hp
    obtain ⟨r', h2, e2⟩ := key j q hq
    have h3 : (idl.map offOf)[i]? = some (offOf r) := by rw [List.getElem?_map, h1]; rfl
    have h4 : (idl.map offOf)[j]? = some (offOf r') := by rw [List.getElem?_map, h2]; rfl
    have h5 : offOf r = offOf r' := by omega
    rw [h5] at h3
    have g1 := List.getElem?_eq_some_iff.mp h3
    have g2 := List.getElem?_eq_some_iff.mp h4
    have hp := List.pairwise_iff_getElem.mp off_nd
    by_cases hij : i = j
    · exact hij
    · exfalso
      rcases Nat.lt_or_gt_of_ne hij with h6 | h6
      · exact hp i j g1.1 g2.1 h6 (g1.2.trans g2.2.symm)
      · exact hp j i g2.1 g1.1 h6 (g2.2.trans g1.2.symm)
  · obtain ⟨r, h1, e1⟩ := key k q hk
    show b0 ≤ q.1
    omega
end FIN
