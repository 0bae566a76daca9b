/-! a WAY gone: which words and SLOTS it passes; the net that comes out -/
section WK
variable {S : SPc} {R : RUc} {E : NEc} {h : Nat}
theorem wk_inv : ∀ k, k ≤ wayT S R E h → ∃ q, (S.cn h - (wkp (stS S R E h) k).1) + (E.ns - (wkp (stS S R E h) k).2) ≤ q ∧ wayT S R E h = k + wln (stS S R E h) (S.cn h) E.ns q (wkp (stS S R E h) k).1 (wkp (stS S R E h) k).2 ∧ (wkp (stS S R E h) k).1 ≤ S.cn h ∧ (wkp (stS S R E h) k).2 ≤ E.ns := by
  intro k
  induction k with
  | zero => intro _; exact ⟨S.cn h + E.ns, by simp [wkp], by rw [wayT, Nat.zero_add]; rfl, Nat.zero_le _, Nat.zero_le _⟩
  | succ k ih =>
    intro hk
    obtain ⟨q, h1, h2, h3, h4⟩ := ih (by omega)
    by_cases hend : (wkp (stS S R E h) k).1 = S.cn h ∧ (wkp (stS S R E h) k).2 = E.ns
    · rw [hend.1, hend.2, wln_end] at h2; omega
    · cases q with
      | zero => omega
      | succ q =>
        rw [wln, if_neg hend] at h2
        obtain ⟨g1, g2, g3⟩ := stS_nx (R := R) h3 h4 hend
        exact ⟨q, by simp only [wkp]; omega, by simp only [wkp]; omega, by simp only [wkp]; exact g1, by simp only [wkp]; exact g2⟩
theorem wk_end : wkp (stS S R E h) (wayT S R E h) = (S.cn h, E.ns) := by
  obtain ⟨q, h1, h2, h3, h4⟩ := wk_inv (S := S) (R := R) (E := E) (h := h) (wayT S R E h) (Nat.le_refl _)
  by_cases hend : (wkp (stS S R E h) (wayT S R E h)).1 = S.cn h ∧ (wkp (stS S R E h) (wayT S R E h)).2 = E.ns
  · exact Prod.ext hend.1 hend.2
  · exfalso
    cases q with
    | zero => omega
    | succ q => rw [wln, if_neg hend] at h2; omega
theorem wk_ne {k : Nat} (hk : k < wayT S R E h) : ¬ ((wkp (stS S R E h) k).1 = S.cn h ∧ (wkp (stS S R E h) k).2 = E.ns) := by
  intro hend
  obtain ⟨q, h1, h2, h3, h4⟩ := wk_inv (S := S) (R := R) (E := E) (h := h) k (by omega)
  rw [hend.1, hend.2, wln_end] at h2; omega
theorem wk_le {k : Nat} (hk : k ≤ wayT S R E h) : (wkp (stS S R E h) k).1 ≤ S.cn h ∧ (wkp (stS S R E h) k).2 ≤ E.ns := by
  obtain ⟨q, h1, h2, h3, h4⟩ := wk_inv (S := S) (R := R) (E := E) (h := h) k hk
  exact ⟨h3, h4⟩
/-- the step at the k-th place -/
def stK (S : SPc) (R : RUc) (E : NEc) (h k : Nat) : Nat := stS S R E h (wkp (stS S R E h) k).1 (wkp (stS S R E h) k).2
abbrev wkI (S : SPc) (R : RUc) (E : NEc) (h k : Nat) : Nat := (wkp (stS S R E h) k).1
abbrev wkS (S : SPc) (R : RUc) (E : NEc) (h k : Nat) : Nat := (wkp (stS S R E h) k).2
theorem wk_ok {k : Nat} (hk : k < wayT S R E h) : (stK S R E h k = 0 ∧ wkI S R E h k < S.cn h ∧ wkS S R E h k < E.ns) ∨ (stK S R E h k = 1 ∧ wkS S R E h k < E.ns) ∨ (stK S R E h k = 2 ∧ wkI S R E h k < S.cn h) :=
  stS_ok (wk_le (by omega)).1 (wk_le (by omega)).2 (wk_ne hk)
theorem wkI_s (k : Nat) : wkI S R E h (k + 1) = if stK S R E h k = 1 then wkI S R E h k else wkI S R E h k + 1 := rfl
theorem wkS_s (k : Nat) : wkS S R E h (k + 1) = if stK S R E h k = 2 then wkS S R E h k else wkS S R E h k + 1 := rfl
theorem wkS_le : ∀ k, wkS S R E h k ≤ k
  | 0 => Nat.le_refl _
  | k + 1 => by rw [wkS_s]; have := wkS_le k; split <;> omega
theorem wkI_mono : ∀ {a b : Nat}, a ≤ b → wkI S R E h a ≤ wkI S R E h b := by
  intro a b hab
  induction b with
  | zero => obtain rfl : a = 0 := by omega
            exact Nat.le_refl _
  | succ b ih =>
    by_cases e : a = b + 1
    · subst e; exact Nat.le_refl _
    · have := ih (by omega)
      rw [wkI_s]; split <;> omega
theorem wkS_mono : ∀ {a b : Nat}, a ≤ b → wkS S R E h a ≤ wkS S R E h b := by
  intro a b hab
  induction b with
  | zero => obtain rfl : a = 0 := by omega
            exact Nat.le_refl _
  | succ b ih =>
    by_cases e : a = b + 1
    · subst e; exact Nat.le_refl _
    · have := ih (by omega)
      rw [wkS_s]; split <;> omega
theorem wkI_lt {a b : Nat} (hab : a < b) (hs : stK S R E h a ≠ 1) : wkI S R E h a < wkI S R E h b := by
  have h1 : wkI S R E h (a + 1) ≤ wkI S R E h b := wkI_mono (by omega)
  rw [wkI_s, if_neg hs] at h1; omega
theorem wkS_lt {a b : Nat} (hab : a < b) (hs : stK S R E h a ≠ 2) : wkS S R E h a < wkS S R E h b := by
  have h1 : wkS S R E h (a + 1) ≤ wkS S R E h b := wkS_mono (by omega)
  rw [wkS_s, if_neg hs] at h1; omega
theorem wkI_cov : ∀ (t i : Nat), i < wkI S R E h t → ∃ t', t' < t ∧ wkI S R E h t' = i ∧ stK S R E h t' ≠ 1
  | 0, i, hi => absurd hi (Nat.not_lt_zero _)
  | t + 1, i, hi => by
    by_cases hs : stK S R E h t = 1
    · rw [wkI_s, if_pos hs] at hi
      obtain ⟨t', h1, h2, h3⟩ := wkI_cov t i hi
      exact ⟨t', by omega, h2, h3⟩
    · rw [wkI_s, if_neg hs] at hi
      by_cases he : i = wkI S R E h t
      · exact ⟨t, by omega, he.symm, hs⟩
      · obtain ⟨t', h1, h2, h3⟩ := wkI_cov t i (by omega)
        exact ⟨t', by omega, h2, h3⟩
theorem wkS_cov : ∀ (t s : Nat), s < wkS S R E h t → ∃ t', t' < t ∧ wkS S R E h t' = s ∧ stK S R E h t' ≠ 2
  | 0, s, hs => absurd hs (Nat.not_lt_zero _)
  | t + 1, s, hi => by
    by_cases hs : stK S R E h t = 2
    · rw [wkS_s, if_pos hs] at hi
      obtain ⟨t', h1, h2, h3⟩ := wkS_cov t s hi
      exact ⟨t', by omega, h2, h3⟩
    · rw [wkS_s, if_neg hs] at hi
      by_cases he : s = wkS S R E h t
      · exact ⟨t, by omega, he.symm, hs⟩
      · obtain ⟨t', h1, h2, h3⟩ := wkS_cov t s (by omega)
        exact ⟨t', by omega, h2, h3⟩
end WK
/-- what lies at the t-th SLOT of the new net -/
def thJ (S : SPc) (R : RUc) (E : NEc) (h t g : Nat) : Option Nat :=
  if g = h then (if stK S R E h t = 1 then none else some (wkI S R E h t)) else (if stK S R E h t = 2 then none else E.th (wkS S R E h t) g)
/-- the net with a hearing more -/
def jnE (S : SPc) (R : RUc) (E : NEc) (h : Nat) : NEc := (wayT S R E h, E.nj + 1, fun p => if p = E.nj then h else E.od p, fun p => if p = E.nj then (dwS S R E h (S.cn h) E.ns).1 else E.ct p, thJ S R E h)
theorem plc_some {E : NEc} {h p : Nat} (hp : plc E h = some p) : p < E.nj ∧ E.od p = h := by
  unfold plc at hp
  have h1 := List.find?_some hp
  have h2 := List.mem_of_find?_eq_some hp
  exact ⟨List.mem_range.mp h2, by simpa using h1⟩
theorem plc_none {E : NEc} {h : Nat} (hp : plc E h = none) : ∀ p, p < E.nj → E.od p ≠ h := by
  unfold plc at hp
  intro p hlt
  have := List.find?_eq_none.mp hp p (List.mem_range.mpr hlt)
  simpa using this
theorem plc_jn (S : SPc) (R : RUc) {E : NEc} {h : Nat} (hn : plc E h = none) (g : Nat) : plc (jnE S R E h) g = if g = h then some E.nj else plc E g := by
  unfold plc jnE
  simp only [NEc.nj, NEc.od]
  rw [List.range_succ, List.find?_append]
  have e : (List.range E.2.1).find? (fun p => (if p = E.2.1 then h else E.2.2.1 p) == g) = (List.range E.2.1).find? (fun p => E.2.2.1 p == g) := by
    have : ∀ l : List Nat, (∀ p ∈ l, p < E.2.1) → l.find? (fun p => (if p = E.2.1 then h else E.2.2.1 p) == g) = l.find? (fun p => E.2.2.1 p == g) := by
      intro l
      induction l with
      | nil => intro _; rfl
      | cons a l ih =>
        intro hl
        have ha := hl a List.mem_cons_self
        rw [List.find?_cons, List.find?_cons, if_neg (by omega), ih (fun p hp => hl p (List.mem_cons_of_mem _ hp))]
    exact this _ (fun p hp => List.mem_range.mp hp)
  rw [e]
  by_cases hg : g = h
  · subst hg
    rw [if_pos rfl]
    have hn' : (List.range E.2.1).find? (fun p => E.2.2.1 p == g) = none := hn
    rw [hn']
    simp
  · rw [if_neg hg]
    have : ([E.2.1].find? fun p => (if p = E.2.1 then h else E.2.2.1 p) == g) = none := by
      simp
      exact fun z => hg z.symm
    rw [this, Option.or_none]
theorem vNE_jn {S : SPc} {R : RUc} {E : NEc} {h : Nat} (hS : vSP S) (hR : vRU S R) (hE : vNE S E) (hh : h < S.nh) (hn : plc E h = none) : vNE S (jnE S R E h) := by
  have hns := vNE_ns hS hE
  have hcn := hS.2.1 h hh
  have hod := plc_none hn
  have hTe := wk_end (S := S) (R := R) (E := E) (h := h)
  have hthn : ∀ s, s < E.ns → E.th s h = none := by
    intro s hs
    cases q : E.th s h with
    | none => rfl
    | some i => have := (hE.2.2.2.2.1 s h i hs q).2.2; rw [hn] at this; cases this
  have hnj : E.nj + 1 ≤ S.nh := by
    -- the joined and h are different hearings, all below nh
    apply Nat.lt_of_le_of_ne hE.1
    intro he
    have hinj : ∀ n, n ≤ E.nj → ∀ f : Nat → Nat, (∀ p, p < n → f p < n) → (∀ p q, p < n → q < n → f p = f q → p = q) → ∀ y, y < n → ∃ p, p < n ∧ f p = y := by
      intro n
      induction n with
      | zero => intro _ f _ _ y hy; omega
      | succ n ih =>
        intro hn' f hf hi y hy
        -- put f n away
        let g : Nat → Nat := fun p => if f p = n then f n else f p
        have hg : ∀ p, p < n → g p < n := by
          intro p hp
          show (if f p = n then f n else f p) < n
          have h1 := hf p (by omega)
          have h2 := hf n (by omega)
          split
          · rename_i e
            have : f n ≠ n := fun e2 => by have := hi p n (by omega) (by omega) (by rw [e, e2]); omega
            omega
          · omega
        have hgi : ∀ p q, p < n → q < n → g p = g q → p = q := by
          intro p q hp hq hpq
          have hpq : (if f p = n then f n else f p) = (if f q = n then f n else f q) := hpq
          by_cases e1 : f p = n
          · by_cases e2 : f q = n
            · exact hi p q (by omega) (by omega) (by rw [e1, e2])
            · rw [if_pos e1, if_neg e2] at hpq
              have := hi n q (by omega) (by omega) hpq; omega
          · by_cases e2 : f q = n
            · rw [if_neg e1, if_pos e2] at hpq
              have := hi p n (by omega) (by omega) hpq; omega
            · rw [if_neg e1, if_neg e2] at hpq
              exact hi p q (by omega) (by omega) hpq
        by_cases hyn : f n = y
        · exact ⟨n, by omega, hyn⟩
        · by_cases hy2 : y = n
          · -- n itself is met: through f n < n
            subst hy2
            have hfn : f y < y := by have := hf y (by omega); omega
            obtain ⟨p, hp, hgp⟩ := ih (by omega) g hg hgi (f y) hfn
            have hgp : (if f p = y then f y else f p) = f y := hgp
            by_cases e1 : f p = y
            · exact ⟨p, by omega, e1⟩
            · rw [if_neg e1] at hgp
              have := hi p y (by omega) (by omega) hgp; omega
          · obtain ⟨p, hp, hgp⟩ := ih (by omega) g hg hgi y (by omega)
            have hgp : (if f p = n then f n else f p) = y := hgp
            by_cases e1 : f p = n
            · rw [if_pos e1] at hgp; exact absurd hgp hyn
            · rw [if_neg e1] at hgp; exact ⟨p, by omega, hgp⟩
    obtain ⟨p, hp, hpe⟩ := hinj E.nj (Nat.le_refl _) E.od (fun p hp => by have := hE.2.1 p hp; omega) (fun p q hp hq e => hE.2.2.1 p q hp hq e) h (by omega)
    exact hod p hp hpe
  refine ⟨hnj, ?_, ?_, ?_, ?_, ?_, ?_, ?_, ?_⟩
  · intro p hp
    show (if p = E.nj then h else E.od p) < S.nh
    split
    · exact hh
    · exact hE.2.1 p (by have : p < E.nj + 1 := hp; omega)
  · intro p q hp hq
    show (if p = E.nj then h else E.od p) = (if q = E.nj then h else E.od q) → p = q
    have hp : p < E.nj + 1 := hp
    have hq : q < E.nj + 1 := hq
    intro e
    by_cases e1 : p = E.nj
    · by_cases e2 : q = E.nj
      · omega
      · rw [if_pos e1, if_neg e2] at e; exact absurd e.symm (hod q (by omega))
    · by_cases e2 : q = E.nj
      · rw [if_neg e1, if_pos e2] at e; exact absurd e (hod p (by omega))
      · rw [if_neg e1, if_neg e2] at e; exact hE.2.2.1 p q (by omega) (by omega) e
  · show wayT S R E h ≤ sm (fun p => S.cn (if p = E.nj then h else E.od p)) (E.nj + 1)
    rw [sm, if_pos rfl, sm_congr (g := fun p => S.cn (E.od p)) (fun i hi => by show S.cn (if i = E.nj then h else E.od i) = _; rw [if_neg (by omega)])]
    have h1 := wln_le (stS S R E h) (S.cn h) E.ns (S.cn h + E.ns) 0 0
    have h2 := hE.2.2.2.1
    unfold wayT
    omega
  · intro t g i ht hth
    have ht : t < wayT S R E h := ht
    have hth : thJ S R E h t g = some i := hth
    rw [plc_jn S R hn]
    unfold thJ at hth
    by_cases hg : g = h
    · subst hg
      rw [if_pos rfl] at hth
      rw [if_pos rfl]
      by_cases h1 : stK S R E g t = 1
      · rw [if_pos h1] at hth; cases hth
      · rw [if_neg h1] at hth
        cases hth
        rcases wk_ok ht with q | q | q
        · exact ⟨hh, q.2.1, rfl⟩
        · exact absurd q.1 h1
        · exact ⟨hh, q.2, rfl⟩
    · rw [if_neg hg] at hth
      rw [if_neg hg]
      by_cases h1 : stK S R E h t = 2
      · rw [if_pos h1] at hth; cases hth
      · rw [if_neg h1] at hth
        have hs : wkS S R E h t < E.ns := by
          rcases wk_ok ht with q | q | q
          · exact q.2.2
          · exact q.2
          · exact absurd q.1 h1
        exact hE.2.2.2.2.1 _ g i hs hth
  · intro t ht
    have ht : t < wayT S R E h := ht
    by_cases h1 : stK S R E h t = 1
    · have hs : wkS S R E h t < E.ns := by
        rcases wk_ok ht with q | q | q
        · exact q.2.2
        · exact q.2
        · omega
      obtain ⟨g, i, hgi⟩ := hE.2.2.2.2.2.1 _ hs
      refine ⟨g, i, ?_⟩
      show thJ S R E h t g = some i
      unfold thJ
      have hg : g ≠ h := fun e => by subst e; rw [hthn _ hs] at hgi; cases hgi
      rw [if_neg hg, if_neg (by omega)]
      exact hgi
    · refine ⟨h, wkI S R E h t, ?_⟩
      show thJ S R E h t h = _
      unfold thJ
      rw [if_pos rfl, if_neg h1]
  · intro g hg hjo i hi
    rw [plc_jn S R hn] at hjo
    by_cases hgh : g = h
    · subst hgh
      have : wkI S R E g (wayT S R E g) = S.cn g := by show (wkp _ _).1 = _; rw [hTe]
      obtain ⟨t, h1, h2, h3⟩ := wkI_cov (S := S) (R := R) (E := E) (h := g) (wayT S R E g) i (by rw [this]; exact hi)
      refine ⟨t, h1, ?_⟩
      show thJ S R E g t g = some i
      unfold thJ
      rw [if_pos rfl, if_neg h3, h2]
    · rw [if_neg hgh] at hjo
      obtain ⟨s, hs, hse⟩ := hE.2.2.2.2.2.2.1 g hg hjo i hi
      have : wkS S R E h (wayT S R E h) = E.ns := by show (wkp _ _).2 = _; rw [hTe]
      obtain ⟨t, h1, h2, h3⟩ := wkS_cov (S := S) (R := R) (E := E) (h := h) (wayT S R E h) s (by rw [this]; exact hs)
      refine ⟨t, h1, ?_⟩
      show thJ S R E h t g = some i
      unfold thJ
      rw [if_neg hgh, if_neg h3, h2]
      exact hse
  · intro t t' g i i' htt ht' h1 h2
    have ht' : t' < wayT S R E h := ht'
    have h1 : thJ S R E h t g = some i := h1
    have h2 : thJ S R E h t' g = some i' := h2
    unfold thJ at h1 h2
    by_cases hg : g = h
    · rw [if_pos hg] at h1 h2
      by_cases q1 : stK S R E h t = 1
      · rw [if_pos q1] at h1; cases h1
      · by_cases q2 : stK S R E h t' = 1
        · rw [if_pos q2] at h2; cases h2
        · rw [if_neg q1] at h1
          rw [if_neg q2] at h2
          cases h1; cases h2
          exact wkI_lt htt q1
    · rw [if_neg hg] at h1 h2
      by_cases q1 : stK S R E h t = 2
      · rw [if_pos q1] at h1; cases h1
      · by_cases q2 : stK S R E h t' = 2
        · rw [if_pos q2] at h2; cases h2
        · rw [if_neg q1] at h1
          rw [if_neg q2] at h2
          have hs : wkS S R E h t' < E.ns := by
            rcases wk_ok ht' with q | q | q
            · exact q.2.2
            · exact q.2
            · exact absurd q.1 q2
          exact hE.2.2.2.2.2.2.2.1 _ _ g i i' (wkS_lt htt q1) hs h1 h2
  · intro p hp
    show (if p = E.nj then (dwS S R E h (S.cn h) E.ns).1 else E.ct p) ≤ 2000
    split
    · have := dwS_le (E := E) (h := h) hR (S.cn h) E.ns; omega
    · exact hE.2.2.2.2.2.2.2.2 p (by have : p < E.nj + 1 := hp; omega)
