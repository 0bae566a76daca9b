/-! words as rows of letters: how class and reference keep them; WORDS by their numbers -/
abbrev WL : Type := List Nat
def vW (l : WL) : Prop := 1 ≤ l.length ∧ l.length ≤ 6 ∧ ∀ k, k < l.length → l.getD k 0 < 26
/-- the class: five bits a letter, the first lowest -/
def spL : WL → Nat
  | [] => 0
  | x :: l => (x + 1) + 32 * spL l
theorem spL_ap (x : Nat) : ∀ l : WL, spL (l ++ [x]) = spL l + (x + 1) * 32 ^ l.length
  | [] => by simp [spL]
  | y :: l => by
    show (y + 1) + 32 * spL (l ++ [x]) = (y + 1) + 32 * spL l + (x + 1) * 32 ^ (l.length + 1)
    rw [spL_ap x l, Nat.pow_succ, Nat.mul_add, ← Nat.mul_assoc]
    rw [show 32 * (x + 1) * 32 ^ l.length = (x + 1) * (32 ^ l.length * 32) by rw [Nat.mul_comm 32 (x + 1), Nat.mul_assoc, Nat.mul_comm 32 (32 ^ l.length)]]
    omega
theorem spL_lt : ∀ l : WL, (∀ k, k < l.length → l.getD k 0 < 26) → spL l < 32 ^ l.length
  | [], _ => by simp [spL]
  | y :: l, h => by
    have h0 : y < 26 := h 0 (by simp)
    have ih := spL_lt l (fun k hk => h (k + 1) (by simp; omega))
    show (y + 1) + 32 * spL l < 32 ^ (l.length + 1)
    rw [Nat.pow_succ]
    omega
theorem spL_b {l : WL} (h : l.length ≤ 6) (hl : ∀ k, k < l.length → l.getD k 0 < 26) : spL l < 1073741824 := by
  have h1 := spL_lt l hl
  have h2 : 32 ^ l.length ≤ 32 ^ 6 := Nat.pow_le_pow_right (by decide) h
  have h3 : (32 : Nat) ^ 6 = 1073741824 := by decide
  omega
theorem spL_dig : ∀ (l : WL) (k : Nat), (∀ k, k < l.length → l.getD k 0 < 26) → spL l / 32 ^ k % 32 = if k < l.length then l.getD k 0 + 1 else 0
  | [], k, _ => by simp [spL]
  | y :: l, 0, h => by
    have h0 : y < 26 := h 0 (by simp)
    show ((y + 1) + 32 * spL l) / 32 ^ 0 % 32 = _
    rw [if_pos (by simp), Nat.pow_zero, Nat.div_one]
    show _ = y + 1
    omega
  | y :: l, k + 1, h => by
    have h0 : y < 26 := h 0 (by simp)
    have ih := spL_dig l k (fun k hk => h (k + 1) (by simp; omega))
    show ((y + 1) + 32 * spL l) / 32 ^ (k + 1) % 32 = if k + 1 < l.length + 1 then l.getD k 0 + 1 else 0
    rw [Nat.pow_succ, Nat.mul_comm (32 ^ k) 32, ← Nat.div_div_eq_div_mul, show ((y + 1) + 32 * spL l) / 32 = spL l by omega, ih]
    by_cases q : k < l.length
    · rw [if_pos q, if_pos (by omega)]
    · rw [if_neg q, if_neg (by omega)]
theorem spL_inj : ∀ {l l' : WL}, (∀ k, k < l.length → l.getD k 0 < 26) → (∀ k, k < l'.length → l'.getD k 0 < 26) → spL l = spL l' → l = l'
  | [], [], _, _, _ => rfl
  | [], y :: l, _, _, h => by have h : 0 = (y + 1) + 32 * spL l := h; omega
  | x :: l, [], _, _, h => by have h : (x + 1) + 32 * spL l = 0 := h; omega
  | x :: l, y :: l', h1, h2, h => by
    have a : x < 26 := h1 0 (by simp)
    have b : y < 26 := h2 0 (by simp)
    have h : (x + 1) + 32 * spL l = (y + 1) + 32 * spL l' := h
    have e1 : x = y := by omega
    have e2 : spL l = spL l' := by omega
    rw [e1, spL_inj (fun k hk => h1 (k + 1) (by simp; omega)) (fun k hk => h2 (k + 1) (by simp; omega)) e2]
/-- the reference: by 32, the first highest -/
def enL (l : WL) : Nat := enc (fun k => l.getD k 0) l.length
theorem enc_congr {f g : Nat → Nat} : ∀ {n}, (∀ k, k < n → f k = g k) → enc f n = enc g n
  | 0, _ => rfl
  | n + 1, h => by rw [enc, enc, enc_congr (fun k hk => h k (by omega)), h n (by omega)]
theorem getD_ap1 {l : WL} {x k : Nat} (hk : k < l.length) : (l ++ [x]).getD k 0 = l.getD k 0 := by
  rw [List.getD_eq_getElem?_getD, List.getD_eq_getElem?_getD, List.getElem?_append_left hk]
theorem getD_ap2 {l : WL} {x : Nat} : (l ++ [x]).getD l.length 0 = x := by
  rw [List.getD_eq_getElem?_getD, List.getElem?_append_right (Nat.le_refl _)]
  simp
theorem enL_ap (l : WL) (x : Nat) : enL (l ++ [x]) = enL l * 32 + x + 1 := by
  unfold enL
  rw [show (l ++ [x]).length = l.length + 1 by simp, enc, enc_congr (fun k hk => getD_ap1 hk), getD_ap2]
theorem enc_inj {f g : Nat → Nat} : ∀ {n m}, (∀ k, k < n → f k < 26) → (∀ k, k < m → g k < 26) → enc f n = enc g m → n = m ∧ ∀ k, k < n → f k = g k
  | 0, 0, _, _, _ => ⟨rfl, fun k hk => absurd hk (Nat.not_lt_zero _)⟩
  | 0, m + 1, _, _, h => by rw [enc, enc] at h; omega
  | n + 1, 0, _, _, h => by rw [enc, enc] at h; omega
  | n + 1, m + 1, h1, h2, h => by
    rw [enc, enc] at h
    have a := h1 n (by omega)
    have b := h2 m (by omega)
    have e1 : f n = g m := by omega
    have ih := enc_inj (f := f) (g := g) (n := n) (m := m) (fun k hk => h1 k (by omega)) (fun k hk => h2 k (by omega)) (by omega)
    have e2 := ih.1
    subst e2
    refine ⟨rfl, fun k hk => ?_⟩
    by_cases q : k = n
    · rw [q]; exact e1
    · exact ih.2 k (by omega)
theorem enL_inj {l l' : WL} (h1 : ∀ k, k < l.length → l.getD k 0 < 26) (h2 : ∀ k, k < l'.length → l'.getD k 0 < 26) (h : enL l = enL l') : l = l' := by
  have := enc_inj h1 h2 h
  refine List.ext_getElem this.1 (fun i a b => ?_)
  have e := this.2 i a
  rw [List.getD_eq_getElem?_getD, List.getD_eq_getElem?_getD, List.getElem?_eq_getElem a, List.getElem?_eq_getElem b] at e
  exact e
theorem enL_b {l : WL} (h : l.length ≤ 6) (hl : ∀ k, k < l.length → l.getD k 0 < 26) : enL l < 1073741824 := enc_b _ h hl
/-- WORDS by their numbers -/
abbrev DC : Type := List WL
def ixD : DC → WL → Nat
  | [], _ => 0
  | d :: D, w => if d = w then 0 else ixD D w + 1
def adD (D : DC) (w : WL) : DC := if w ∈ D then D else D ++ [w]
theorem ixD_lt : ∀ {D : DC} {w : WL}, w ∈ D → ixD D w < D.length
  | d :: D, w, h => by
    show (if d = w then 0 else ixD D w + 1) < D.length + 1
    by_cases q : d = w
    · rw [if_pos q]; omega
    · rw [if_neg q]
      have := ixD_lt (D := D) (w := w) (by rcases List.mem_cons.mp h with z | z; · exact absurd z.symm q
                                           · exact z)
      omega
theorem ixD_no : ∀ {D : DC} {w : WL}, w ∉ D → ixD D w = D.length
  | [], _, _ => rfl
  | d :: D, w, h => by
    show (if d = w then 0 else ixD D w + 1) = D.length + 1
    rw [if_neg (fun q => h (by rw [q]; exact List.mem_cons_self)), ixD_no (fun q => h (List.mem_cons_of_mem _ q))]
theorem ixD_ap : ∀ {D : DC} {w : WL} (v : WL), w ∈ D → ixD (D ++ [v]) w = ixD D w
  | d :: D, w, v, h => by
    show (if d = w then 0 else ixD (D ++ [v]) w + 1) = if d = w then 0 else ixD D w + 1
    by_cases q : d = w
    · rw [if_pos q, if_pos q]
    · rw [if_neg q, if_neg q, ixD_ap v (by rcases List.mem_cons.mp h with z | z; · exact absurd z.symm q
                                           · exact z)]
theorem ixD_new : ∀ {D : DC} {w : WL}, w ∉ D → ixD (D ++ [w]) w = D.length
  | [], w, _ => by show (if w = w then 0 else _) = 0; rw [if_pos rfl]
  | d :: D, w, h => by
    show (if d = w then 0 else ixD (D ++ [w]) w + 1) = D.length + 1
    rw [if_neg (fun q => h (by rw [q]; exact List.mem_cons_self)), ixD_new (fun q => h (List.mem_cons_of_mem _ q))]
theorem ixD_get : ∀ {D : DC} {w : WL}, w ∈ D → D.getD (ixD D w) [] = w
  | d :: D, w, h => by
    show (d :: D).getD (if d = w then 0 else ixD D w + 1) [] = w
    by_cases q : d = w
    · rw [if_pos q]; exact q
    · rw [if_neg q]
      exact ixD_get (by rcases List.mem_cons.mp h with z | z; · exact absurd z.symm q
                        · exact z)
/-- before its place it isn't met -/
theorem ixD_bef : ∀ {D : DC} {w : WL} {k : Nat}, k < ixD D w → D.getD k [] ≠ w
  | [], _, k, h => absurd h (Nat.not_lt_zero _)
  | d :: D, w, 0, h => by
    intro q
    have : (if d = w then 0 else ixD D w + 1) = 0 := if_pos q
    have h : 0 < (if d = w then 0 else ixD D w + 1) := h
    omega
  | d :: D, w, k + 1, h => by
    have h : k + 1 < (if d = w then 0 else ixD D w + 1) := h
    by_cases q : d = w
    · rw [if_pos q] at h; omega
    · rw [if_neg q] at h
      exact ixD_bef (D := D) (w := w) (k := k) (by omega)
theorem adD_mem (D : DC) (w : WL) : w ∈ adD D w := by
  unfold adD
  by_cases q : w ∈ D
  · rw [if_pos q]; exact q
  · rw [if_neg q]; exact List.mem_append_right _ (List.mem_singleton.mpr rfl)
theorem adD_old {D : DC} {w v : WL} (h : v ∈ D) : v ∈ adD D w ∧ ixD (adD D w) v = ixD D v := by
  unfold adD
  by_cases q : w ∈ D
  · rw [if_pos q]; exact ⟨h, rfl⟩
  · rw [if_neg q]; exact ⟨List.mem_append_left _ h, ixD_ap w h⟩
theorem adD_len (D : DC) (w : WL) : D.length ≤ (adD D w).length ∧ (adD D w).length ≤ D.length + 1 := by
  unfold adD
  by_cases q : w ∈ D
  · rw [if_pos q]; omega
  · rw [if_neg q]; simp
theorem adD_ix (D : DC) (w : WL) : ixD (adD D w) w = ixD D w := by
  unfold adD
  by_cases q : w ∈ D
  · rw [if_pos q]
  · rw [if_neg q, ixD_new q, ixD_no q]
theorem getD_adD {D : DC} {w : WL} {k : Nat} (hk : k < D.length) : (adD D w).getD k [] = D.getD k [] := by
  unfold adD
  by_cases q : w ∈ D
  · rw [if_pos q]
  · rw [if_neg q, List.getD_eq_getElem?_getD, List.getD_eq_getElem?_getD, List.getElem?_append_left hk]
def vDC (D : DC) : Prop := ∀ w, w ∈ D → vW w
theorem vDC_ad {D : DC} {w : WL} (h : vDC D) (hw : vW w) : vDC (adD D w) := by
  unfold adD
  by_cases q : w ∈ D
  · rw [if_pos q]; exact h
  · rw [if_neg q]
    intro v hv
    rcases List.mem_append.mp hv with z | z
    · exact h v z
    · rw [List.mem_singleton.mp z]; exact hw
theorem vDC_get {D : DC} (h : vDC D) {k : Nat} (hk : k < D.length) : vW (D.getD k []) := by
  rw [List.getD_eq_getElem?_getD, List.getElem?_eq_getElem hk]
  exact h _ (List.getElem_mem hk)
/-! what was read: HEARINGS, names, WEIGHTS, how many words, words, TIMES -/
abbrev RDc : Type := Nat × (Nat → WL) × (Nat → Nat) × (Nat → Nat) × (Nat → Nat → WL) × (Nat → Nat → Nat)
/-- WORDS behind the first i of a HEARING -/
def dI (D : DC) (f : Nat → WL) : Nat → DC
  | 0 => D
  | i + 1 => adD (dI D f i) (f i)
def dH (A : RDc) : Nat → DC
  | 0 => []
  | h + 1 => dI (dH A h) (A.2.2.2.2.1 h) (A.2.2.2.1 h)
theorem dI_old {D : DC} {f : Nat → WL} {v : WL} (h : v ∈ D) : ∀ i, v ∈ dI D f i ∧ ixD (dI D f i) v = ixD D v
  | 0 => ⟨h, rfl⟩
  | i + 1 => by
    have ih := dI_old (f := f) h i
    have := adD_old (w := f i) ih.1
    exact ⟨this.1, by rw [dI, this.2, ih.2]⟩
theorem dI_in {D : DC} {f : Nat → WL} {n i : Nat} (h : i < n) : f i ∈ dI D f n ∧ ixD (dI D f n) (f i) = ixD (dI D f (i + 1)) (f i) := by
  induction n with
  | zero => omega
  | succ n ih =>
    by_cases e : i = n
    · rw [e]; exact ⟨adD_mem _ _, rfl⟩
    · have := ih (by omega)
      have h2 := adD_old (w := f n) this.1
      exact ⟨h2.1, by rw [dI, h2.2, this.2]⟩
theorem dI_congr {D : DC} {f g : Nat → WL} : ∀ {n}, (∀ i, i < n → f i = g i) → dI D f n = dI D g n
  | 0, _ => rfl
  | n + 1, h => by rw [dI, dI, dI_congr (fun i hi => h i (by omega)), h n (by omega)]
theorem dH_old {A : RDc} {v : WL} {a : Nat} (h : v ∈ dH A a) : ∀ b, a ≤ b → v ∈ dH A b ∧ ixD (dH A b) v = ixD (dH A a) v
  | 0, hab => by obtain rfl : a = 0 := by omega
                 exact ⟨h, rfl⟩
  | b + 1, hab => by
    by_cases e : a = b + 1
    · rw [e] at h ⊢; exact ⟨h, rfl⟩
    · have ih := dH_old h b (by omega)
      have := dI_old (f := A.2.2.2.2.1 b) ih.1 (A.2.2.2.1 b)
      exact ⟨this.1, by rw [dH, this.2, ih.2]⟩
theorem dH_in {A : RDc} {h i n : Nat} (hh : h < n) (hi : i < A.2.2.2.1 h) : A.2.2.2.2.1 h i ∈ dH A n ∧ ixD (dH A n) (A.2.2.2.2.1 h i) = ixD (dI (dH A h) (A.2.2.2.2.1 h) (i + 1)) (A.2.2.2.2.1 h i) := by
  have h1 := dI_in (D := dH A h) (f := A.2.2.2.2.1 h) hi
  have h2 := dH_old (A := A) (a := h + 1) h1.1 n hh
  exact ⟨h2.1, by rw [h2.2]; exact h1.2⟩
theorem dH_congr {A B : RDc} : ∀ {n}, (∀ h, h < n → A.2.2.2.1 h = B.2.2.2.1 h ∧ ∀ i, i < A.2.2.2.1 h → A.2.2.2.2.1 h i = B.2.2.2.2.1 h i) → dH A n = dH B n
  | 0, _ => rfl
  | n + 1, h => by
    rw [dH, dH, dH_congr (fun k hk => h k (by omega)), (h n (by omega)).1.symm]
    exact dI_congr (fun i hi => (h n (by omega)).2 i hi)
theorem dI_len (D : DC) (f : Nat → WL) : ∀ n, (dI D f n).length ≤ D.length + n
  | 0 => Nat.le_refl _
  | n + 1 => by have := dI_len D f n; have := (adD_len (dI D f n) (f n)).2; rw [dI]; omega
theorem dH_len (A : RDc) : ∀ n, (dH A n).length ≤ sm A.2.2.2.1 n
  | 0 => Nat.le_refl _
  | n + 1 => by have := dH_len A n; have := dI_len (dH A n) (A.2.2.2.2.1 n) (A.2.2.2.1 n); rw [dH, sm]; omega
theorem dI_v {D : DC} {f : Nat → WL} (h : vDC D) : ∀ n, (∀ i, i < n → vW (f i)) → vDC (dI D f n)
  | 0, _ => h
  | n + 1, hf => vDC_ad (dI_v h n (fun i hi => hf i (by omega))) (hf n (by omega))
theorem dH_v {A : RDc} : ∀ n, (∀ h, h < n → ∀ i, i < A.2.2.2.1 h → vW (A.2.2.2.2.1 h i)) → vDC (dH A n)
  | 0, _ => fun w hw => by cases hw
  | n + 1, hf => dI_v (dH_v n (fun h hh => hf h (by omega))) (A.2.2.2.1 n) (fun i hi => hf n (by omega) i hi)
/-- what was read, as a speech and its WEIGHTS -/
def rdS (A : RDc) : SPc := (A.1, A.2.2.2.1, fun h i => ixD (dH A A.1) (A.2.2.2.2.1 h i), A.2.2.2.2.2, (dH A A.1).length, fun w => ((dH A A.1).getD w []).length, fun w k => ((dH A A.1).getD w []).getD k 0)
def vRD (A : RDc) : Prop := A.1 ≤ 5 ∧ ∀ h, h < A.1 → (1 ≤ A.2.2.1 h ∧ A.2.2.1 h ≤ 99) ∧ (1 ≤ A.2.2.2.1 h ∧ A.2.2.2.1 h ≤ 12) ∧ ∀ i, i < A.2.2.2.1 h → vW (A.2.2.2.2.1 h i) ∧ A.2.2.2.2.2 h i ≤ 999
theorem rdS_v {A : RDc} (h : vRD A) : vSP (rdS A) := by
  have hv : vDC (dH A A.1) := dH_v A.1 (fun k hk i hi => ((h.2 k hk).2.2 i hi).1)
  refine ⟨h.1, fun k hk => (h.2 k hk).2.1, fun k hk i hi => ⟨?_, ((h.2 k hk).2.2 i hi).2⟩, ?_, fun w hw => ?_⟩
  · exact ixD_lt (dH_in (A := A) hk hi).1
  · show (dH A A.1).length ≤ 60
    have h1 := dH_len A A.1
    have h2 : sm A.2.2.2.1 A.1 ≤ A.1 * 12 := sm_le (fun i hi => (h.2 i hi).2.1.2)
    have := h.1
    omega
  · have := vDC_get hv (k := w) hw
    exact ⟨this.1, this.2.1, this.2.2⟩
