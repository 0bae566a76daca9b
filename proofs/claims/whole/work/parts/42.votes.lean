/-! VOTES in a SLOT: who gives what to which choice (60: the gap); the choices by their points -/
abbrev VF : Type := Nat → Option (Nat × Nat)
def vcO (S : SPc) (R : RUc) (E : NEc) (s : Nat) : VF := fun h => match E.th s h with
  | some i => some (S.wd h i, 100 * R.wt h)
  | none => if (plc E h).isSome = true then some (60, R.sh * R.wt h) else none
def vP (F : VF) (c h : Nat) : Nat := match F h with
  | some q => if q.1 = c then q.2 else 0
  | none => 0
def vA (F : VF) (h : Nat) : Nat := match F h with
  | some q => q.2
  | none => 0
def ptF (F : VF) (n c : Nat) : Nat := sm (vP F c) n
def toF (F : VF) (n : Nat) : Nat := sm (vA F) n
def vcF (F : VF) (n c : Nat) : Prop := ∃ h, h < n ∧ ∃ p, F h = some (c, p)
theorem vP_n {F : VF} {c h : Nat} (q : F h = none) : vP F c h = 0 := by unfold vP; rw [q]
theorem vP_s {F : VF} {c h d p : Nat} (q : F h = some (d, p)) : vP F c h = if d = c then p else 0 := by unfold vP; rw [q]
theorem vA_n {F : VF} {h : Nat} (q : F h = none) : vA F h = 0 := by unfold vA; rw [q]
theorem vA_s {F : VF} {h d p : Nat} (q : F h = some (d, p)) : vA F h = p := by unfold vA; rw [q]
theorem ptF_0 {F : VF} {c : Nat} : ∀ {n : Nat}, ¬ vcF F n c → ptF F n c = 0
  | 0, _ => rfl
  | n + 1, h => by
    have ih : ptF F n c = 0 := ptF_0 (fun ⟨z, hz, q⟩ => h ⟨z, by omega, q⟩)
    have : vP F c n = 0 := by
      cases q : F n with
      | none => exact vP_n q
      | some z =>
        obtain ⟨d, p⟩ := z
        rw [vP_s q, if_neg]
        intro hd
        exact h ⟨n, by omega, p, by rw [q, hd]⟩
    show sm (vP F c) n + vP F c n = 0
    have ih' : sm (vP F c) n = 0 := ih
    omega
theorem sm_add (f g : Nat → Nat) : ∀ n, sm (fun i => f i + g i) n = sm f n + sm g n
  | 0 => rfl
  | n + 1 => by rw [sm, sm, sm, sm_add f g n]; omega
theorem sm_one {c p : Nat} {ch : Nat → Nat} {i0 : Nat} (h0 : ch i0 = c) : ∀ {n : Nat}, (∀ i, i < n → i ≠ i0 → ch i ≠ c) → sm (fun i => if ch i = c then p else 0) n = if i0 < n then p else 0
  | 0, _ => by simp [sm]
  | n + 1, h => by
    have ih := sm_one (p := p) h0 (n := n) (fun i hi hne => h i (by omega) hne)
    rw [sm, ih]
    by_cases q : n = i0
    · subst q
      rw [if_neg (by omega), if_pos h0, if_pos (by omega)]; omega
    · rw [if_neg (h n (by omega) q)]
      by_cases q2 : i0 < n
      · rw [if_pos q2, if_pos (by omega), Nat.add_zero]
      · rw [if_neg q2, if_neg (by omega)]
/-- a list of the choices of the first n -/
def vI (F : VF) (h n : Nat) (ch : Nat → Nat) : Prop := n ≤ h ∧ (∀ i, i < n → vcF F h (ch i)) ∧ (∀ c, vcF F h c → ∃ i, i < n ∧ ch i = c) ∧ (∀ i j, i < n → j < n → ch i = ch j → i = j) ∧ sm (fun i => ptF F h (ch i)) n = toF F h
theorem vI_0 (F : VF) (ch : Nat → Nat) : vI F 0 0 ch := ⟨Nat.le_refl _, fun i hi => absurd hi (Nat.not_lt_zero _), fun c ⟨z, hz, _⟩ => absurd hz (Nat.not_lt_zero _), fun i j hi => absurd hi (Nat.not_lt_zero _), rfl⟩
theorem vcF_s {F : VF} {h c : Nat} (q : vcF F h c) : vcF F (h + 1) c := by
  obtain ⟨z, hz, q⟩ := q
  exact ⟨z, by omega, q⟩
theorem vI_none {F : VF} {h n : Nat} {ch : Nat → Nat} (q : F h = none) (v : vI F h n ch) : vI F (h + 1) n ch := by
  obtain ⟨v1, v2, v3, v4, v5⟩ := v
  refine ⟨by omega, fun i hi => vcF_s (v2 i hi), fun c hc => ?_, v4, ?_⟩
  · obtain ⟨z, hz, p, hp⟩ := hc
    by_cases e : z = h
    · rw [e, q] at hp; cases hp
    · exact v3 c ⟨z, by omega, p, hp⟩
  · rw [toF, sm, vA_n q, Nat.add_zero]
    rw [show sm (vA F) h = toF F h from rfl, ← v5]
    apply sm_congr
    intro i hi
    show sm (vP F (ch i)) h + vP F (ch i) h = sm (vP F (ch i)) h
    rw [vP_n q]; rfl
theorem vI_old {F : VF} {h n c p i0 : Nat} {ch : Nat → Nat} (q : F h = some (c, p)) (hi0 : i0 < n) (e0 : ch i0 = c) (v : vI F h n ch) : vI F (h + 1) n ch := by
  obtain ⟨v1, v2, v3, v4, v5⟩ := v
  refine ⟨by omega, fun i hi => vcF_s (v2 i hi), fun d hd => ?_, v4, ?_⟩
  · obtain ⟨z, hz, p', hp⟩ := hd
    by_cases e : z = h
    · rw [e, q] at hp
      cases hp
      exact ⟨i0, hi0, e0⟩
    · exact v3 d ⟨z, by omega, p', hp⟩
  · rw [toF, sm, vA_s q, show sm (vA F) h = toF F h from rfl, ← v5]
    rw [show sm (fun i => ptF F (h + 1) (ch i)) n = sm (fun i => ptF F h (ch i) + (if ch i = c then p else 0)) n from sm_congr (fun i hi => by
      show sm (vP F (ch i)) h + vP F (ch i) h = _
      rw [vP_s q]
      by_cases e : c = ch i
      · rw [if_pos e, if_pos e.symm]; rfl
      · rw [if_neg e, if_neg (fun z => e z.symm)]; rfl)]
    rw [sm_add, sm_one e0 (fun i hi hne z => hne (v4 i i0 hi hi0 (by rw [z, e0]))), if_pos hi0]
theorem vI_new {F : VF} {h n c p : Nat} {ch : Nat → Nat} (q : F h = some (c, p)) (hn : ∀ i, i < n → ch i ≠ c) (v : vI F h n ch) : vI F (h + 1) (n + 1) (fun i => if i = n then c else ch i) := by
  obtain ⟨v1, v2, v3, v4, v5⟩ := v
  have hz : ptF F h c = 0 := ptF_0 (fun z => by obtain ⟨i, hi, e⟩ := v3 c z; exact hn i hi e)
  refine ⟨by omega, fun i hi => ?_, fun d hd => ?_, fun i j hi hj e => ?_, ?_⟩
  · by_cases e : i = n
    · simp only [if_pos e]; exact ⟨h, by omega, p, q⟩
    · simp only [if_neg e]; exact vcF_s (v2 i (by omega))
  · obtain ⟨z, hz, p', hp⟩ := hd
    by_cases e : z = h
    · rw [e, q] at hp
      cases hp
      exact ⟨n, by omega, if_pos rfl⟩
    · obtain ⟨i, hi, e'⟩ := v3 d ⟨z, by omega, p', hp⟩
      exact ⟨i, by omega, by show (if i = n then c else ch i) = d; rw [if_neg (by omega)]; exact e'⟩
  · by_cases e1 : i = n
    · by_cases e2 : j = n
      · omega
      · simp only [if_pos e1, if_neg e2] at e
        exact absurd e.symm (hn j (by omega))
    · by_cases e2 : j = n
      · simp only [if_neg e1, if_pos e2] at e
        exact absurd e (hn i (by omega))
      · simp only [if_neg e1, if_neg e2] at e
        exact v4 i j (by omega) (by omega) e
  · rw [toF, sm, sm, vA_s q, show sm (vA F) h = toF F h from rfl, ← v5]
    show sm (fun i => ptF F (h + 1) (if i = n then c else ch i)) n + ptF F (h + 1) (if n = n then c else ch n) = _
    rw [if_pos (show n = n from rfl)]
    rw [show sm (fun i => ptF F (h + 1) (if i = n then c else ch i)) n = sm (fun i => ptF F h (ch i)) n from sm_congr (fun i hi => by
      rw [if_neg (by omega)]
      show sm (vP F (ch i)) h + vP F (ch i) h = _
      rw [vP_s q, if_neg (fun z => hn i hi z.symm)]; rfl)]
    show _ + (sm (vP F c) h + vP F c h) = _
    rw [show sm (vP F c) h = 0 from hz, vP_s q, if_pos rfl, Nat.zero_add]
theorem vI_ex (F : VF) : ∀ h, ∃ n ch, vI F h n ch
  | 0 => ⟨0, fun _ => 0, vI_0 F _⟩
  | h + 1 => by
    obtain ⟨n, ch, v⟩ := vI_ex F h
    cases q : F h with
    | none => exact ⟨n, ch, vI_none q v⟩
    | some z =>
      obtain ⟨c, p⟩ := z
      by_cases e : ∃ i, i < n ∧ ch i = c
      · obtain ⟨i, hi, e⟩ := e
        exact ⟨n, ch, vI_old q hi e v⟩
      · exact ⟨_, _, vI_new q (fun i hi z => e ⟨i, hi, z⟩) v⟩
/-- one choice stands ahead of another -/
def bef (pt : Nat → Nat) (c d : Nat) : Prop := pt d < pt c ∨ (pt c = pt d ∧ c < d)
def srt (pt ch : Nat → Nat) (n : Nat) : Prop := ∀ i j, i < j → j < n → bef pt (ch i) (ch j)
theorem bef_tr {pt : Nat → Nat} {a b c : Nat} (h1 : bef pt a b) (h2 : bef pt b c) : bef pt a c := by unfold bef at *; omega
theorem bef_ir {pt : Nat → Nat} {a : Nat} (h : bef pt a a) : False := by unfold bef at h; omega
theorem bef_tot {pt : Nat → Nat} {a b : Nat} (h : ¬ bef pt a b) (hn : a ≠ b) : bef pt b a := by unfold bef at *; omega
/-- one is put ahead -/
def insF (ch : Nat → Nat) (f t : Nat) : Nat → Nat := fun j => if j < t then ch j else if j = t then ch f else if j ≤ f then ch (j - 1) else ch j
theorem insF_mem {ch : Nat → Nat} {f t n : Nat} (ht : t ≤ f) (hf : f < n) (c : Nat) : (∃ i, i < n ∧ insF ch f t i = c) ↔ ∃ i, i < n ∧ ch i = c := by
  constructor
  · rintro ⟨i, hi, e⟩
    unfold insF at e
    split at e
    · exact ⟨i, hi, e⟩
    · split at e
      · exact ⟨f, hf, e⟩
      · split at e
        · exact ⟨i - 1, by omega, e⟩
        · exact ⟨i, hi, e⟩
  · rintro ⟨i, hi, e⟩
    by_cases q1 : i < t
    · exact ⟨i, hi, by unfold insF; rw [if_pos q1]; exact e⟩
    · by_cases q2 : i = f
      · exact ⟨t, by omega, by unfold insF; rw [if_neg (by omega), if_pos rfl, ← q2]; exact e⟩
      · by_cases q3 : i < f
        · exact ⟨i + 1, by omega, by unfold insF; rw [if_neg (by omega), if_neg (by omega), if_pos (by omega)]; exact e⟩
        · exact ⟨i, hi, by unfold insF; rw [if_neg q1, if_neg (by omega), if_neg (by omega)]; exact e⟩
theorem insF_srt {pt ch : Nat → Nat} {f t : Nat} (ht : t ≤ f) (h : srt pt ch f) (h1 : t = 0 ∨ bef pt (ch (t - 1)) (ch f)) (h2 : ∀ j, t ≤ j → j < f → bef pt (ch f) (ch j)) : srt pt (insF ch f t) (f + 1) := by
  have low : ∀ i, i < t → bef pt (ch i) (ch f) := by
    intro i hi
    rcases h1 with h1 | h1
    · omega
    · by_cases q : i = t - 1
      · rw [q]; exact h1
      · exact bef_tr (h i (t - 1) (by omega) (by omega)) h1
  intro i j hij hj
  by_cases a : i < t
  · rw [show insF ch f t i = ch i from if_pos a]
    by_cases b : j < t
    · rw [show insF ch f t j = ch j from if_pos b]; exact h i j hij (by omega)
    · by_cases b2 : j = t
      · rw [show insF ch f t j = ch f by unfold insF; rw [if_neg b, if_pos b2]]; exact low i a
      · rw [show insF ch f t j = ch (j - 1) by unfold insF; rw [if_neg b, if_neg b2, if_pos (by omega)]]
        exact h i (j - 1) (by omega) (by omega)
  · by_cases a2 : i = t
    · rw [show insF ch f t i = ch f by unfold insF; rw [if_neg a, if_pos a2]]
      rw [show insF ch f t j = ch (j - 1) by unfold insF; rw [if_neg (by omega), if_neg (by omega), if_pos (by omega)]]
      exact h2 (j - 1) (by omega) (by omega)
    · rw [show insF ch f t i = ch (i - 1) by unfold insF; rw [if_neg a, if_neg a2, if_pos (by omega)]]
      rw [show insF ch f t j = ch (j - 1) by unfold insF; rw [if_neg (by omega), if_neg (by omega), if_pos (by omega)]]
      exact h (i - 1) (j - 1) (by omega) (by omega)
theorem insF_inj {ch : Nat → Nat} {f t n : Nat} (ht : t ≤ f) (hf : f < n) (h : ∀ i j, i < n → j < n → ch i = ch j → i = j) : ∀ i j, i < n → j < n → insF ch f t i = insF ch f t j → i = j := by
  have g : ∀ i, i < n → ∃ z, z < n ∧ insF ch f t i = ch z ∧ z = if i < t then i else if i = t then f else if i ≤ f then i - 1 else i := by
    intro i hi
    unfold insF
    split
    · exact ⟨i, hi, rfl, rfl⟩
    · split
      · exact ⟨f, hf, rfl, rfl⟩
      · split
        · exact ⟨i - 1, by omega, rfl, rfl⟩
        · exact ⟨i, hi, rfl, rfl⟩
  intro i j hi hj e
  obtain ⟨a, ha, ea, qa⟩ := g i hi
  obtain ⟨b, hb, eb, qb⟩ := g j hj
  have := h a b ha hb (by rw [← ea, ← eb, e])
  rw [qa, qb] at this
  repeat' split at this
  all_goals omega
/-- a list of all choices, in order -/
def rnk (F : VF) (n : Nat) (ch : Nat → Nat) : Prop := (∀ i, i < n → vcF F 5 (ch i)) ∧ (∀ c, vcF F 5 c → ∃ i, i < n ∧ ch i = c) ∧ srt (ptF F 5) ch n
theorem rnk_one {F : VF} {n n' : Nat} {ch ch' : Nat → Nat} (h : rnk F n ch) (h' : rnk F n' ch') : ∀ i, i < n → i < n' ∧ ch i = ch' i := by
  intro i
  induction i using Nat.strongRecOn with
  | ind i ih =>
    intro hi
    obtain ⟨j, hj, ej⟩ := h'.2.1 _ (h.1 i hi)
    have hji : i ≤ j := by
      apply Nat.le_of_not_lt
      intro q
      have := (ih j q (by omega)).2
      have b := h.2.2 j i q hi
      rw [this, ej] at b
      exact bef_ir b
    refine ⟨by omega, ?_⟩
    obtain ⟨k, hk, ek⟩ := h.2.1 _ (h'.1 i (by omega))
    have hki : i ≤ k := by
      apply Nat.le_of_not_lt
      intro q
      have e2 := (ih k q (by omega)).2
      have b := h'.2.2 k i q (by omega)
      rw [← e2, ek] at b
      exact bef_ir b
    by_cases q : j = i
    · rw [← ej, q]
    · have b := h'.2.2 i j (by omega) hj
      rw [ej, ← ek] at b
      by_cases q2 : k = i
      · rw [q2] at b; exact absurd b bef_ir
      · exact absurd (bef_tr b (h.2.2 i k (by omega) hk)) bef_ir
theorem rnk_n {F : VF} {n n' : Nat} {ch ch' : Nat → Nat} (h : rnk F n ch) (h' : rnk F n' ch') : n = n' := by
  have a : n ≤ n' := by
    apply Nat.le_of_not_lt
    intro q
    have := (rnk_one h h' n' q).1
    omega
  have b : n' ≤ n := by
    apply Nat.le_of_not_lt
    intro q
    have := (rnk_one h' h n q).1
    omega
  omega
theorem ins_ex {pt ch : Nat → Nat} {f : Nat} (hd : ∀ i, i < f → ch i ≠ ch f) : ∀ t, t ≤ f → (∀ j, t ≤ j → j < f → bef pt (ch f) (ch j)) → ∃ t', t' ≤ f ∧ (t' = 0 ∨ bef pt (ch (t' - 1)) (ch f)) ∧ ∀ j, t' ≤ j → j < f → bef pt (ch f) (ch j)
  | 0, _, h => ⟨0, Nat.zero_le _, Or.inl rfl, h⟩
  | t + 1, ht, h => by
    by_cases q : bef pt (ch f) (ch t)
    · refine ins_ex hd t (by omega) (fun j h1 h2 => ?_)
      by_cases e : j = t
      · rw [e]; exact q
      · exact h j (by omega) h2
    · exact ⟨t + 1, ht, Or.inr (bef_tot q (fun z => hd t (by omega) z.symm)), h⟩
theorem srt_ex {F : VF} {n : Nat} {ch : Nat → Nat} (v : vI F 5 n ch) : ∀ k, 1 ≤ k → k ≤ n → ∃ ch', (∀ c, (∃ i, i < n ∧ ch' i = c) ↔ ∃ i, i < n ∧ ch i = c) ∧ (∀ i j, i < n → j < n → ch' i = ch' j → i = j) ∧ srt (ptF F 5) ch' k := by
  intro k
  induction k with
  | zero => intro h; omega
  | succ k ih =>
    intro _ hk
    by_cases e : k = 0
    · subst e
      exact ⟨ch, fun c => Iff.rfl, v.2.2.2.1, fun i j h1 h2 => by omega⟩
    · obtain ⟨ch', a1, a2, a3⟩ := ih (by omega) (by omega)
      obtain ⟨t, t1, t2, t3⟩ := ins_ex (pt := ptF F 5) (ch := ch') (f := k) (fun i hi z => by have := a2 i k (by omega) (by omega) z; omega) k (Nat.le_refl _) (fun j h1 h2 => by omega)
      exact ⟨insF ch' k t, fun c => (insF_mem t1 (by omega) c).trans (a1 c), insF_inj t1 (by omega) a2, insF_srt t1 a3 t2 t3⟩
theorem rnk_of {F : VF} {n : Nat} {ch ch' : Nat → Nat} (v : vI F 5 n ch) (a1 : ∀ c, (∃ i, i < n ∧ ch' i = c) ↔ ∃ i, i < n ∧ ch i = c) (a3 : srt (ptF F 5) ch' n) : rnk F n ch' := by
  refine ⟨fun i hi => ?_, fun c hc => (a1 c).mpr (v.2.2.1 c hc), a3⟩
  obtain ⟨j, hj, e⟩ := (a1 (ch' i)).mp ⟨i, hi, rfl⟩
  rw [← e]
  exact v.2.1 j hj
theorem rnk_ex (F : VF) : ∃ p : Nat × (Nat → Nat), p.1 ≤ 5 ∧ rnk F p.1 p.2 := by
  obtain ⟨n, ch, v⟩ := vI_ex F 5
  by_cases e : n = 0
  · subst e
    exact ⟨(0, ch), Nat.zero_le _, rnk_of v (fun c => Iff.rfl) (fun i j h1 h2 => by omega)⟩
  · obtain ⟨ch', a1, a2, a3⟩ := srt_ex v n (by omega) (Nat.le_refl _)
    exact ⟨(n, ch'), v.1, rnk_of v a1 a3⟩
noncomputable def vtE (F : VF) : Nat × (Nat → Nat) := Classical.choose (rnk_ex F)
theorem vtE_ok (F : VF) : (vtE F).1 ≤ 5 ∧ rnk F (vtE F).1 (vtE F).2 := Classical.choose_spec (rnk_ex F)
theorem vtE_eq {F : VF} {n : Nat} {ch : Nat → Nat} (h : rnk F n ch) : n = (vtE F).1 ∧ ∀ i, i < n → ch i = (vtE F).2 i := ⟨rnk_n h (vtE_ok F).2, fun i hi => (rnk_one h (vtE_ok F).2 i hi).2⟩
