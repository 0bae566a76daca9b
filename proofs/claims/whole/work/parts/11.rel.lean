/-! how the machine's heap and locals stand to a state of IL -/
def tr (ad : RF → Nat) : AV → Value
  | .inl x => .int x
  | .inr (.inl x) => .long x
  | .inr (.inr r) => .ref (ad r)
def nfs (c : Nat) : Nat := (nth [] fkT c).length
/-- all cells -/
def idl : List RF := ((List.range 12).flatMap fun c => (List.range (nth 0 cnT c)).flatMap fun k => (c, k, 0) :: ((List.range (nth [] akT c).length).filter (fun j => !(Nat.beq (akd c j).1 0))).map (fun j => (c, k, j + 1))) ++ [(12, 0, 1)]
def celA (cy : Nat × Nat × Nat × Nat) (ad : RF → Nat) (σ : ST) (c k j : Nat) (q : Nat × Nat) : va_E := match q with
  | (1, L) => .inl (cy.1, L, .inl (σ.1 c k (j + 1)))
  | (2, L) => .inl (cy.2.1, L, .inr (.inl (σ.2 c k (j + 1))))
  | (_, L) => .inl (cond (Nat.beq (raf c (j + 1) 0).1 7) cy.2.2.2 cy.2.2.1, L, .inr (.inr (.inr (.inr (fun i => some (ad (raf c (j + 1) i)))))))
def cel (cy : Nat × Nat × Nat × Nat) (ad : RF → Nat) (σ : ST) (r : RF) : va_E := match r with
  | (c, k, 0) => .inr (c, (List.range (nfs c)).map (fun j => tr ad (fget σ c k j)))
  | (c, k, j + 1) => celA cy ad σ c k j (akd c j)
def wsl (cy : Nat × Nat × Nat × Nat) (ad : RF → Nat) (σ : ST) : va_W := idl.map (fun r => (ad r, cel cy ad σ r))
def tyl (cy : Nat × Nat × Nat × Nat) : List (ClassId × FieldType) := [(cy.1, .int), (cy.2.1, .long), (cy.2.2.1, .object RX3), (cy.2.2.2, .object RX3)]
theorem idl_nd : idl.Nodup := by decide +kernel
theorem idl_c : ∀ r ∈ idl, r.1 ≤ 12 ∧ (r.2.2 = 0 → r.1 < 12) := by decide +kernel
theorem idl_arr : ∀ r ∈ idl, r.2.2 ≠ 0 → (akd r.1 (r.2.2 - 1)).1 ≠ 0 ∧ (r.1 < 12 → (fkd r.1 (r.2.2 - 1)).1 = 4) := by decide +kernel
theorem idl_fldB : (idl.all fun r => !(Nat.beq r.2.2 0) || (List.range (nfs r.1)).all fun j => (!(Nat.beq (fkd r.1 j).1 4) || idl.contains (r.1, r.2.1, j + 1)) && (!(Nat.beq (fkd r.1 j).1 2) || idl.contains (fkd r.1 j).2) && Nat.ble (fkd r.1 j).1 4) = true := by decide +kernel
theorem idl_fld : ∀ r ∈ idl, r.2.2 = 0 → ∀ j, j < nfs r.1 → ((fkd r.1 j).1 = 4 → (r.1, r.2.1, j + 1) ∈ idl) ∧ ((fkd r.1 j).1 = 2 → (fkd r.1 j).2 ∈ idl) ∧ (fkd r.1 j).1 ≤ 4 := by
  intro r hr h0 j hj
  have h1 := List.all_eq_true.mp idl_fldB r hr
  rw [h0] at h1
  have h2 := List.all_eq_true.mp h1 j (List.mem_range.mpr hj)
  simp only [Bool.and_eq_true, Bool.or_eq_true, Bool.not_eq_true', List.contains_iff_mem, Nat.ble_eq] at h2
  obtain ⟨⟨h3, h4⟩, h5⟩ := h2
  refine ⟨fun e => h3.resolve_left ?_, fun e => h4.resolve_left ?_, h5⟩
  · rw [e]; decide
  · rw [e]; decide
theorem fget_eq (σ : ST) (c k j : Nat) : fget σ c k j = match fkd c j with
  | (0, _) => .inl (σ.1 c k (j + 1) 0)
  | (3, _) => .inl (σ.1 c k (j + 1) 0)
  | (1, _) => .inr (.inl (σ.2 c k (j + 1) 0))
  | (4, _) => .inr (.inr (c, k, j + 1))
  | (_, r) => .inr (.inr r) := by
  unfold fget fkd
  cases fkO c j with
  | none => rfl
  | some q =>
    obtain ⟨q0, q1⟩ := q
    match q0 with
    | 0 => rfl
    | 1 => rfl
    | 2 => rfl
    | 3 => rfl
    | 4 => rfl
    | n + 5 => rfl
theorem idl_raf : ∀ r ∈ idl, (akd r.1 (r.2.2 - 1)).1 = 3 → ∀ i, i < (akd r.1 (r.2.2 - 1)).2 → raf r.1 r.2.2 i ∈ idl ∧ (raf r.1 r.2.2 i).1 = (raf r.1 r.2.2 0).1 := by decide +kernel
theorem fkd_ty : ∀ c, c < 12 → ∀ j, j < nfs c → ((fkd c j).1 = 0 → (Tf c j).2.2 = ("I", false)) ∧ ((fkd c j).1 = 1 → (Tf c j).2.2 = ("J", false)) ∧ ((fkd c j).1 = 3 → (Tf c j).2.2 = ("Z", false)) := by decide +kernel
theorem wsl_at (cy : Nat × Nat × Nat × Nat) (ad : RF → Nat) (σ : ST) {r : RF} (h : r ∈ idl) : ∃ q : Nat, idl[q]? = some r ∧ (wsl cy ad σ)[q]? = some (ad r, cel cy ad σ r) := by
  obtain ⟨q, hq⟩ := List.getElem?_of_mem h
  exact ⟨q, hq, by unfold wsl; rw [List.getElem?_map, hq]; rfl⟩
theorem wsl_set {cy : Nat × Nat × Nat × Nat} {ad : RF → Nat} {σ σ' : ST} {r : RF} {q : Nat} {e : va_E} (hq : idl[q]? = some r) (he : cel cy ad σ' r = e) (ho : ∀ r' ∈ idl, r' ≠ r → cel cy ad σ' r' = cel cy ad σ r') :
    (wsl cy ad σ).set q (ad r, e) = wsl cy ad σ' := by
  apply List.ext_getElem?
  intro i
  have hl : q < idl.length := (List.getElem?_eq_some_iff.mp hq).1
  rw [List.getElem?_set]
  unfold wsl
  rw [List.length_map, List.getElem?_map, List.getElem?_map]
  by_cases hi : q = i
  · subst hi
    rw [if_pos rfl, if_pos hl, hq, ← he]
    rfl
  · rw [if_neg hi]
    cases hr : idl[i]? with
    | none => rfl
    | some r' =>
      have hne : r' ≠ r := by
        intro h
        subst h
        have h1 := (List.getElem?_eq_some_iff.mp hq)
        have h2 := (List.getElem?_eq_some_iff.mp hr)
        have hp := List.pairwise_iff_getElem.mp idl_nd
        rcases Nat.lt_or_gt_of_ne hi with h3 | h3
        · exact hp q i h1.1 h2.1 h3 (h1.2.trans h2.2.symm)
        · exact hp i q h2.1 h1.1 h3 (h2.2.trans h1.2.symm)
      show some (ad r', cel cy ad σ r') = some (ad r', cel cy ad σ' r')
      rw [ho r' (List.mem_of_getElem? hr) hne]
theorem wsl_D {cy : Nat × Nat × Nat × Nat} {ad : RF → Nat} {σ σ' : ST} {A : Nat → Prop} (h : va_D A (wsl cy ad σ)) : va_D A (wsl cy ad σ') := by
  have key : ∀ (i : Nat) (p : Nat × va_E), (wsl cy ad σ')[i]? = some p → ∃ p' : Nat × va_E, (wsl cy ad σ)[i]? = some p' ∧ p'.1 = p.1 := by
    intro i p hp
    unfold wsl at hp ⊢
    rw [List.getElem?_map] at hp ⊢
    cases hr : idl[i]? with
    | none => rw [hr] at hp; cases hp
    | some r =>
      rw [hr] at hp
      cases hp
      exact ⟨_, rfl, rfl⟩
  refine ⟨fun i j p q hp hq he => ?_, fun k q hk => ?_⟩
  · obtain ⟨p', h1, e1⟩ := key i p hp
    obtain ⟨q', h2, e2⟩ := key j q hq
    exact h.1 i j p' q' h1 h2 (by rw [e1, e2, he])
  · obtain ⟨q', h1, e1⟩ := key k q hk
    rw [← e1]
    exact h.2 k q' h1
/-- two states are alike but for one row -/
def offr (σ σ' : ST) (c k j : Nat) : Prop := ∀ c' k' j', ¬ (c' = c ∧ k' = k ∧ j' = j) → σ'.1 c' k' j' = σ.1 c' k' j' ∧ σ'.2 c' k' j' = σ.2 c' k' j'
theorem uI_off (σ : ST) (c k j i : Nat) (x : Int32) : offr σ (uI σ c k j i x) c k j := by
  intro c' k' j' h
  refine ⟨funext fun i' => ?_, rfl⟩
  show (if c' = c ∧ k' = k ∧ j' = j ∧ i' = i then x else σ.1 c' k' j' i') = σ.1 c' k' j' i'
  rw [if_neg (fun q => h ⟨q.1, q.2.1, q.2.2.1⟩)]
theorem uL_off (σ : ST) (c k j i : Nat) (x : Int64) : offr σ (uL σ c k j i x) c k j := by
  intro c' k' j' h
  refine ⟨rfl, funext fun i' => ?_⟩
  show (if c' = c ∧ k' = k ∧ j' = j ∧ i' = i then x else σ.2 c' k' j' i') = σ.2 c' k' j' i'
  rw [if_neg (fun q => h ⟨q.1, q.2.1, q.2.2.1⟩)]
theorem uR_off (σ : ST) (c k j : Nat) (f : Nat → Int32) : offr σ (uR σ c k j f) c k j := by
  intro c' k' j' h
  refine ⟨funext fun i' => ?_, rfl⟩
  show (if c' = c ∧ k' = k ∧ j' = j then f i' else σ.1 c' k' j' i') = σ.1 c' k' j' i'
  rw [if_neg h]
theorem uI_row (σ : ST) (c k j i : Nat) (x : Int32) : (uI σ c k j i x).1 c k j = upd (σ.1 c k j) i x := by
  funext i'
  show (if c = c ∧ k = k ∧ j = j ∧ i' = i then x else σ.1 c k j i') = upd (σ.1 c k j) i x i'
  unfold upd
  by_cases h : i' = i
  · rw [if_pos ⟨rfl, rfl, rfl, h⟩, if_pos h]
  · rw [if_neg (fun q => h q.2.2.2), if_neg h]
theorem uL_row (σ : ST) (c k j i : Nat) (x : Int64) : (uL σ c k j i x).2 c k j = vp_updL (σ.2 c k j) i x := by
  funext i'
  show (if c = c ∧ k = k ∧ j = j ∧ i' = i then x else σ.2 c k j i') = vp_updL (σ.2 c k j) i x i'
  unfold vp_updL
  by_cases h : i' = i
  · rw [if_pos ⟨rfl, rfl, rfl, h⟩, if_pos h]
  · rw [if_neg (fun q => h q.2.2.2), if_neg h]
theorem uR_row (σ : ST) (c k j : Nat) (f : Nat → Int32) : (uR σ c k j f).1 c k j = f := by
  funext i'
  show (if c = c ∧ k = k ∧ j = j then f i' else σ.1 c k j i') = f i'
  rw [if_pos ⟨rfl, rfl, rfl⟩]
theorem cel_arr {cy : Nat × Nat × Nat × Nat} {ad : RF → Nat} {σ σ' : ST} {c k j : Nat} (hm : (c, k, j + 1) ∈ idl) (h : offr σ σ' c k (j + 1)) : ∀ r' ∈ idl, r' ≠ (c, k, j + 1) → cel cy ad σ' r' = cel cy ad σ r' := by
  intro r' hr' hne
  obtain ⟨c', k', j'⟩ := r'
  cases j' with
  | zero =>
    show Sum.inr (c', (List.range (nfs c')).map (fun j => tr ad (fget σ' c' k' j))) = Sum.inr (c', (List.range (nfs c')).map (fun j => tr ad (fget σ c' k' j)))
    have e : ∀ j'', fget σ' c' k' j'' = fget σ c' k' j'' := by
      intro j''
      by_cases he : c' = c ∧ k' = k ∧ j'' + 1 = j + 1
      · obtain ⟨rfl, rfl, e3⟩ := he
        obtain rfl : j'' = j := by omega
        have h4 := (idl_arr _ hm (by simp)).2 ((idl_c _ hr').2 rfl)
        simp only [Nat.add_sub_cancel] at h4
        rw [fget_eq, fget_eq]
        generalize fkd c' j'' = q at h4
        obtain ⟨q0, q1⟩ := q
        simp only at h4
        subst h4
        rfl
      · obtain ⟨e1, e2⟩ := h c' k' (j'' + 1) he
        unfold fget
        rw [e1, e2]
    simp only [e]
  | succ j'' =>
    have he : ¬ (c' = c ∧ k' = k ∧ j'' + 1 = j + 1) := by
      rintro ⟨rfl, rfl, e3⟩
      exact hne (by rw [e3])
    obtain ⟨e1, e2⟩ := h c' k' (j'' + 1) he
    show celA cy ad σ' c' k' j'' (akd c' j'') = celA cy ad σ c' k' j'' (akd c' j'')
    unfold celA
    simp only [e1, e2]
theorem cel_fld {cy : Nat × Nat × Nat × Nat} {ad : RF → Nat} {σ σ' : ST} {c k b : Nat} (hm : (c, k, 0) ∈ idl) (hb : (fkd c b).1 ≠ 4) (h : offr σ σ' c k (b + 1)) : ∀ r' ∈ idl, r' ≠ (c, k, 0) → cel cy ad σ' r' = cel cy ad σ r' := by
  intro r' hr' hne
  obtain ⟨c', k', j'⟩ := r'
  cases j' with
  | zero =>
    show Sum.inr (c', (List.range (nfs c')).map (fun j => tr ad (fget σ' c' k' j))) = Sum.inr (c', (List.range (nfs c')).map (fun j => tr ad (fget σ c' k' j)))
    have e : ∀ j'', fget σ' c' k' j'' = fget σ c' k' j'' := by
      intro j''
      obtain ⟨e1, e2⟩ := h c' k' (j'' + 1) (by rintro ⟨rfl, rfl, -⟩; exact hne rfl)
      unfold fget
      rw [e1, e2]
    simp only [e]
  | succ j'' =>
    have he : ¬ (c' = c ∧ k' = k ∧ j'' + 1 = b + 1) := by
      rintro ⟨rfl, rfl, e3⟩
      obtain rfl : j'' = b := by omega
      have h4 := (idl_arr _ hr' (by simp)).2 ((idl_c _ hm).2 rfl)
      simp only [Nat.add_sub_cancel] at h4
      exact hb h4
    obtain ⟨e1, e2⟩ := h c' k' (j'' + 1) he
    show celA cy ad σ' c' k' j'' (akd c' j'') = celA cy ad σ c' k' j'' (akd c' j'')
    unfold celA
    simp only [e1, e2]
theorem cel_put {cy : Nat × Nat × Nat × Nat} {ad : RF → Nat} {σ σ' : ST} {c k b : Nat} (h : offr σ σ' c k (b + 1)) (hb : b < nfs c) {v : Value} (hv : tr ad (fget σ' c k b) = v) :
    cel cy ad σ' (c, k, 0) = .inr (c, ((List.range (nfs c)).map (fun j => tr ad (fget σ c k j))).set b v) := by
  show Sum.inr (c, (List.range (nfs c)).map (fun j => tr ad (fget σ' c k j))) = _
  congr 2
  apply List.ext_getElem?
  intro i
  rw [List.getElem?_set, List.length_map, List.length_range, List.getElem?_map, List.getElem?_map]
  by_cases hi : b = i
  · subst hi
    rw [if_pos rfl, if_pos hb, List.getElem?_range hb, ← hv]
    rfl
  · rw [if_neg hi]
    cases hr : (List.range (nfs c))[i]? with
    | none => rfl
    | some i' =>
      have hi' : i' = i := by
        have h1 := List.getElem?_eq_some_iff.mp hr
        obtain ⟨h2, h3⟩ := h1
        rw [List.getElem_range] at h3
        exact h3.symm
      subst hi'
      obtain ⟨e1, e2⟩ := h c k (i' + 1) (by rintro ⟨-, -, e⟩; omega)
      show some (tr ad (fget σ' c k i')) = some (tr ad (fget σ c k i'))
      unfold fget
      rw [e1, e2]
/-! locals -/
def asc (ad : RF → Nat) : Nat → List (Option AV) → List (Nat × Value)
  | _, [] => []
  | i, none :: l => asc ad (i + 1) l
  | i, some v :: l => (i, tr ad v) :: asc ad (i + 1) l
theorem asc_mem {ad : RF → Nat} : ∀ (ls : List (Option AV)) (i : Nat) (q : Nat × Value), q ∈ asc ad i ls ↔ ∃ j v, nth none ls j = some v ∧ q = (i + j, tr ad v)
  | [], i, q => ⟨fun h => absurd h List.not_mem_nil, fun ⟨_, _, h, _⟩ => by cases h⟩
  | none :: l, i, q => by
    rw [asc, asc_mem l (i + 1) q]
    constructor
    · rintro ⟨j, v, h, e⟩
      exact ⟨j + 1, v, h, by rw [e]; congr 1; omega⟩
    · rintro ⟨j, v, h, e⟩
      cases j with
      | zero => cases h
      | succ j => exact ⟨j, v, h, by rw [e]; congr 1; omega⟩
  | some w :: l, i, q => by
    rw [asc, List.mem_cons, asc_mem l (i + 1) q]
    constructor
    · rintro (e | ⟨j, v, h, e⟩)
      · exact ⟨0, w, rfl, e⟩
      · exact ⟨j + 1, v, h, by rw [e]; congr 1; omega⟩
    · rintro ⟨j, v, h, e⟩
      cases j with
      | zero => cases h; exact Or.inl e
      | succ j => exact Or.inr ⟨j, v, h, by rw [e]; congr 1; omega⟩
theorem nth_stl : ∀ (ls : List (Option AV)) (k : Nat) (x : Option AV) (j : Nat), inL ls k = true → nth none (stl ls k x) j = if j = k then x else nth none ls j
  | [], k, x, j, h => by simp [inL] at h
  | y :: l, 0, x, 0, h => by simp [stl, nth]
  | y :: l, 0, x, j + 1, h => by simp [stl, nth]
  | y :: l, k + 1, x, 0, h => by simp [stl, nth]
  | y :: l, k + 1, x, j + 1, h => by
    have := nth_stl l k x j (by simpa [inL] using h)
    simp only [stl, nth, this, Nat.add_right_cancel_iff]
theorem inL_stl : ∀ (ls : List (Option AV)) (k : Nat) (x : Option AV) (j : Nat), inL (stl ls k x) j = inL ls j
  | [], k, x, j => rfl
  | y :: l, 0, x, 0 => rfl
  | y :: l, 0, x, j + 1 => rfl
  | y :: l, k + 1, x, 0 => rfl
  | y :: l, k + 1, x, j + 1 => inL_stl l k x j
theorem tr_cat (ad : RF → Nat) (v : AV) : (tr ad v).category = cat2 v := by
  rcases v with x | x | x <;> rfl
theorem isLg_cat {v : AV} (h : isLg (some v) = false) : cat2 v = 1 := by
  rcases v with x | x | x <;> first | rfl | cases h
theorem lv_get {ad : RF → Nat} {lsM : Array Slot} {n : Nat} {ls : List (Option AV)} (h : lv_has lsM n (asc ad 0 ls)) {k : Nat} {v : AV} (hk : nth none ls k = some v) : lsM[k]? = some (.val (tr ad v)) := by
  have := h.2.2 (k, tr ad v) ((asc_mem ls 0 _).mpr ⟨k, v, hk, by rw [Nat.zero_add]⟩)
  exact this
theorem lv_put1 {ad : RF → Nat} {lsM : Array Slot} {n : Nat} {ls : List (Option AV)} {k : Nat} {v : AV} (hi : inL ls k = true) (hn : noLg ls k = true)
    (h : lv_has lsM n ((k, tr ad v) :: (asc ad 0 ls).filter (fun q => !(q.1 == k) && !(q.1 + 1 == k && q.2.category == 2)))) : lv_has lsM n (asc ad 0 (stl ls k (some v))) := by
  refine ⟨h.1, h.2.1, fun q hq => h.2.2 q ?_⟩
  obtain ⟨j, w, hw, rfl⟩ := (asc_mem _ 0 q).mp hq
  rw [nth_stl ls k (some v) j hi] at hw
  by_cases hj : j = k
  · rw [if_pos hj] at hw
    cases hw
    rw [hj, Nat.zero_add]
    exact List.mem_cons_self
  · rw [if_neg hj] at hw
    refine List.mem_cons_of_mem _ (List.mem_filter.mpr ⟨(asc_mem _ 0 _).mpr ⟨j, w, hw, rfl⟩, ?_⟩)
    rw [Nat.zero_add]
    simp only [Bool.and_eq_true, Bool.not_eq_true', beq_eq_false_iff_ne, Bool.and_eq_false_iff, ne_eq]
    refine ⟨hj, ?_⟩
    by_cases hj2 : j + 1 = k
    · right
      subst hj2
      have h2 : isLg (nth none ls j) = false := by simpa [noLg] using hn
      rw [hw] at h2
      rw [tr_cat, isLg_cat h2]
      decide
    · exact Or.inl hj2
theorem lv_put2 {ad : RF → Nat} {lsM : Array Slot} {n : Nat} {ls : List (Option AV)} {k : Nat} {v : AV} (hi : inL ls (k + 1) = true) (hi0 : inL ls k = true) (hn : noLg ls k = true)
    (h : lv_has lsM n ((k, tr ad v) :: (asc ad 0 ls).filter (fun q => !(q.1 == k) && (!(q.1 == k + 1) && !(q.1 + 1 == k && q.2.category == 2))))) : lv_has lsM n (asc ad 0 (stl (stl ls k (some v)) (k + 1) none)) := by
  refine ⟨h.1, h.2.1, fun q hq => h.2.2 q ?_⟩
  obtain ⟨j, w, hw, rfl⟩ := (asc_mem _ 0 q).mp hq
  rw [nth_stl _ (k + 1) none j (by rw [inL_stl]; exact hi)] at hw
  by_cases hj1 : j = k + 1
  · rw [if_pos hj1] at hw
    cases hw
  rw [if_neg hj1, nth_stl ls k (some v) j hi0] at hw
  by_cases hj : j = k
  · rw [if_pos hj] at hw
    cases hw
    rw [hj, Nat.zero_add]
    exact List.mem_cons_self
  · rw [if_neg hj] at hw
    refine List.mem_cons_of_mem _ (List.mem_filter.mpr ⟨(asc_mem _ 0 _).mpr ⟨j, w, hw, rfl⟩, ?_⟩)
    rw [Nat.zero_add]
    simp only [Bool.and_eq_true, Bool.not_eq_true', beq_eq_false_iff_ne, Bool.and_eq_false_iff, ne_eq]
    refine ⟨hj, hj1, ?_⟩
    by_cases hj2 : j + 1 = k
    · right
      subst hj2
      have h2 : isLg (nth none ls j) = false := by simpa [noLg] using hn
      rw [hw] at h2
      rw [tr_cat, isLg_cat h2]
      decide
    · exact Or.inl hj2
theorem inL_pred : ∀ (ls : List (Option AV)) (k : Nat), inL ls (k + 1) = true → inL ls k = true
  | [], _, h => by simp [inL] at h
  | _ :: _, 0, _ => rfl
  | _ :: l, k + 1, h => inL_pred l k h
theorem ent_sub (ad : RF → Nat) : ∀ (n : Nat) (vs : List AV) (i : Nat) (q : Nat × Value), q ∈ asc ad i (ent n vs) → q ∈ lv_args i (vs.map (tr ad))
  | 0, vs, i, q, h => absurd h (by simp [ent, asc])
  | n + 1, [], i, q, h => by
    simp only [ent, asc] at h
    have := ent_sub ad n [] (i + 1) q h
    simp [lv_args] at this
  | n + 1, .inl x :: vs, i, q, h => by
    simp only [ent, asc, List.mem_cons] at h
    simp only [List.map_cons, lv_args, List.mem_cons]
    rcases h with h | h
    · exact Or.inl h
    · exact Or.inr (ent_sub ad n vs (i + 1) q h)
  | n + 1, .inr (.inr r) :: vs, i, q, h => by
    simp only [ent, asc, List.mem_cons] at h
    simp only [List.map_cons, lv_args, List.mem_cons]
    rcases h with h | h
    · exact Or.inl h
    · exact Or.inr (ent_sub ad n vs (i + 1) q h)
  | n + 2, .inr (.inl x) :: vs, i, q, h => by
    simp only [ent, asc, List.mem_cons] at h
    simp only [List.map_cons, lv_args, List.mem_cons]
    rcases h with h | h
    · exact Or.inl h
    · exact Or.inr (ent_sub ad n vs (i + 1 + 1) q h)
  | 1, .inr (.inl x) :: vs, i, q, h => by simp [ent, asc] at h
theorem lg_len (ad : RF → Nat) : ∀ vs : List AV, (lg_sl (vs.map (tr ad))).length = catS vs
  | [] => rfl
  | v :: vs => by
    have ih := lg_len ad vs
    unfold lg_sl at ih ⊢
    rw [List.map_cons, List.flatMap_cons, List.length_append, ih, tr_cat]
    rcases v with x | x | x <;> rfl
theorem cat_sum (ad : RF → Nat) : ∀ vs : List AV, ((vs.map (tr ad)).map fun v => v.category).sum = catS vs
  | [] => rfl
  | v :: vs => by
    rw [List.map_cons, List.map_cons, List.sum_cons, cat_sum ad vs, tr_cat]
    rfl
/-- a value that may stand in a frame -/
def vOK (v : AV) : Prop := match v with
  | .inr (.inr r) => r ∈ idl ∨ r = (13, 0, 1)
  | _ => True
def lOK (ls : List (Option AV)) : Prop := ∀ k v, nth none ls k = some v → vOK v
def sOK (st : List AV) : Prop := ∀ v ∈ st, vOK v
theorem lOK_stl {ls : List (Option AV)} {k : Nat} {x : Option AV} (h : lOK ls) (hi : inL ls k = true) (hx : ∀ v, x = some v → vOK v) : lOK (stl ls k x) := by
  intro j v hj
  rw [nth_stl ls k x j hi] at hj
  by_cases e : j = k
  · rw [if_pos e] at hj
    exact hx v hj
  · rw [if_neg e] at hj
    exact h j v hj
theorem lOK_ent : ∀ (n : Nat) (vs : List AV), sOK vs → lOK (ent n vs)
  | 0, vs, h, k, v, hk => by simp [ent, nth] at hk
  | n + 1, [], h, k, v, hk => by
    cases k with
    | zero => simp [ent, nth] at hk
    | succ k => exact lOK_ent n [] h k v (by simpa [ent, nth] using hk)
  | n + 1, .inl x :: vs, h, k, v, hk => by
    cases k with
    | zero => simp only [ent, nth, Option.some.injEq] at hk; subst hk; trivial
    | succ k => exact lOK_ent n vs (fun w hw => h w (List.mem_cons_of_mem _ hw)) k v (by simpa [ent, nth] using hk)
  | n + 1, .inr (.inr r) :: vs, h, k, v, hk => by
    cases k with
    | zero => simp only [ent, nth, Option.some.injEq] at hk; subst hk; exact h _ List.mem_cons_self
    | succ k => exact lOK_ent n vs (fun w hw => h w (List.mem_cons_of_mem _ hw)) k v (by simpa [ent, nth] using hk)
  | n + 2, .inr (.inl x) :: vs, h, k, v, hk => by
    match k with
    | 0 => simp only [ent, nth, Option.some.injEq] at hk; subst hk; trivial
    | 1 => simp [ent, nth] at hk
    | k + 2 => exact lOK_ent n vs (fun w hw => h w (List.mem_cons_of_mem _ hw)) k v (by simpa [ent, nth] using hk)
  | 1, .inr (.inl x) :: vs, h, k, v, hk => by
    cases k with
    | zero => simp [ent, nth] at hk
    | succ k => simp [ent, nth] at hk
