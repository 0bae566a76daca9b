/-! tokens and the text as a machine -/
abbrev TK : Type := Option (Option (WL ⊕ (Nat ⊕ Bool)))
abbrev TK.no : TK := none
abbrev TK.fin : TK := some none
abbrev TK.wd (l : WL) : TK := some (some (.inl l))
abbrev TK.wh (v : Nat) : TK := some (some (.inr (.inl v)))
abbrev TK.pa : TK := some (some (.inr (.inr false)))
abbrev TK.co : TK := some (some (.inr (.inr true)))
theorem TK_el {motive : TK → Prop} (no : motive TK.no) (fin : motive TK.fin) (wd : ∀ l, motive (TK.wd l)) (wh : ∀ v, motive (TK.wh v)) (pa : motive TK.pa) (co : motive TK.co) (t : TK) : motive t :=
  match t with
  | none => no
  | some none => fin
  | some (some (.inl l)) => wd l
  | some (some (.inr (.inl v))) => wh v
  | some (some (.inr (.inr false))) => pa
  | some (some (.inr (.inr true))) => co
def rnE (P : Nat → Bool) : Nat → Nat → Nat
  | 0, p => p
  | r + 1, p => if P p = true then rnE P r (p + 1) else p
theorem rnE_t {P : Nat → Bool} {r p : Nat} (h : P p = true) : rnE P (r + 1) p = rnE P r (p + 1) := if_pos h
theorem rnE_f {P : Nat → Bool} {r p : Nat} (h : ¬ P p = true) : rnE P (r + 1) p = p := if_neg h
theorem rnE_le {P : Nat → Bool} : ∀ r p, p ≤ rnE P r p ∧ rnE P r p ≤ p + r
  | 0, p => ⟨Nat.le_refl _, Nat.le_refl _⟩
  | r + 1, p => by
    have ih := rnE_le (P := P) r (p + 1)
    by_cases q : P p = true
    · rw [rnE_t q]; omega
    · rw [rnE_f q]; omega
theorem rnE_in {P : Nat → Bool} : ∀ r p i, p ≤ i → i < rnE P r p → P i = true
  | 0, p, i, h1, h2 => by have h2 : i < p := h2; omega
  | r + 1, p, i, h1, h2 => by
    by_cases q : P p = true
    · rw [rnE_t q] at h2
      by_cases e : i = p
      · rw [e]; exact q
      · exact rnE_in r (p + 1) i (by omega) h2
    · rw [rnE_f q] at h2; omega
theorem rnE_out {P : Nat → Bool} : ∀ r p, rnE P r p < p + r → ¬ P (rnE P r p) = true
  | 0, p, h => by have h : p < p + 0 := h; omega
  | r + 1, p, h => by
    by_cases q : P p = true
    · rw [rnE_t q] at h ⊢
      exact rnE_out r (p + 1) (by omega)
    · rw [rnE_f q]; exact q
def bkB (tb : Nat → Nat) (p : Nat) : Bool := decide (tb p = 32)
def ltB (tb : Nat → Nat) (p : Nat) : Bool := decide (97 ≤ tb p ∧ tb p ≤ 122)
def dgB (tb : Nat → Nat) (p : Nat) : Bool := decide (48 ≤ tb p ∧ tb p ≤ 57)
def ltL (tb : Nat → Nat) (s k : Nat) : WL := (List.range k).map (fun j => tb (s + j) - 97)
def dgV (tb : Nat → Nat) (s : Nat) : Nat → Nat
  | 0 => 0
  | k + 1 => dgV tb s k * 10 + (tb (s + k) - 48)
theorem ltL_s (tb : Nat → Nat) (s k : Nat) : ltL tb s (k + 1) = ltL tb s k ++ [tb (s + k) - 97] := by unfold ltL; rw [List.range_succ, List.map_append]; rfl
theorem ltL_len (tb : Nat → Nat) (s k : Nat) : (ltL tb s k).length = k := by unfold ltL; simp
theorem ltL_get {tb : Nat → Nat} {s k j : Nat} (h : j < k) : (ltL tb s k).getD j 0 = tb (s + j) - 97 := by
  unfold ltL
  rw [List.getD_eq_getElem?_getD, List.getElem?_map, List.getElem?_range h]
  rfl
theorem dgV_lt {tb : Nat → Nat} {s : Nat} : ∀ k, (∀ j, j < k → tb (s + j) ≤ 57) → dgV tb s k < 10 ^ k
  | 0, _ => by simp [dgV]
  | k + 1, h => by
    have ih := dgV_lt k (fun j hj => h j (by omega))
    have := h k (by omega)
    rw [dgV, Nat.pow_succ]
    omega
def tkS (n : Nat) (tb : Nat → Nat) (p : Nat) : Nat := rnE (bkB tb) (n - p) p
def tkL (n : Nat) (tb : Nat → Nat) (s : Nat) : Nat := rnE (ltB tb) (n - s) s
def tkD (n : Nat) (tb : Nat → Nat) (s : Nat) : Nat := rnE (dgB tb) (n - s) s
/-- at a place that isn't blank: the token and where it ends -/
def tkA (n : Nat) (tb : Nat → Nat) (s : Nat) : TK × Nat :=
  if n ≤ s then (.fin, s) else if ltB tb s = true then (if tkL n tb s - s ≤ 6 then .wd (ltL tb s (tkL n tb s - s)) else .no, tkL n tb s)
  else if dgB tb s = true then (if tkD n tb s - s ≤ 3 then .wh (dgV tb s (tkD n tb s - s)) else .no, tkD n tb s)
  else (if tb s = 59 then .pa else if tb s = 58 then .co else .no, s + 1)
def vTK : TK → Prop
  | some (some (.inl l)) => vW l
  | some (some (.inr (.inl v))) => v ≤ 999
  | _ => True
theorem tkS_le {n : Nat} {tb : Nat → Nat} {p : Nat} (h : p ≤ n) : p ≤ tkS n tb p ∧ tkS n tb p ≤ n := by
  have := rnE_le (P := bkB tb) (n - p) p
  unfold tkS
  omega
theorem tkA_fin {n : Nat} {tb : Nat → Nat} {s : Nat} (h : n ≤ s) : tkA n tb s = (.fin, s) := if_pos h
theorem tkA_wd {n : Nat} {tb : Nat → Nat} {s : Nat} (h : s < n) (l : ltB tb s = true) : tkA n tb s = (if tkL n tb s - s ≤ 6 then .wd (ltL tb s (tkL n tb s - s)) else .no, tkL n tb s) := by unfold tkA; rw [if_neg (by omega), if_pos l]
theorem tkA_wh {n : Nat} {tb : Nat → Nat} {s : Nat} (h : s < n) (l : ¬ ltB tb s = true) (d : dgB tb s = true) : tkA n tb s = (if tkD n tb s - s ≤ 3 then .wh (dgV tb s (tkD n tb s - s)) else .no, tkD n tb s) := by unfold tkA; rw [if_neg (by omega), if_neg l, if_pos d]
theorem tkA_sg {n : Nat} {tb : Nat → Nat} {s : Nat} (h : s < n) (l : ¬ ltB tb s = true) (d : ¬ dgB tb s = true) : tkA n tb s = (if tb s = 59 then .pa else if tb s = 58 then .co else .no, s + 1) := by unfold tkA; rw [if_neg (by omega), if_neg l, if_neg d]
theorem tkL_le {n : Nat} {tb : Nat → Nat} {s : Nat} (h : s < n) (l : ltB tb s = true) : s < tkL n tb s ∧ tkL n tb s ≤ n := by
  unfold tkL
  obtain ⟨r, hr⟩ : ∃ r, n - s = r + 1 := ⟨n - s - 1, by omega⟩
  rw [hr, rnE_t l]
  have := rnE_le (P := ltB tb) r (s + 1)
  omega
theorem tkD_le {n : Nat} {tb : Nat → Nat} {s : Nat} (h : s < n) (l : dgB tb s = true) : s < tkD n tb s ∧ tkD n tb s ≤ n := by
  unfold tkD
  obtain ⟨r, hr⟩ : ∃ r, n - s = r + 1 := ⟨n - s - 1, by omega⟩
  rw [hr, rnE_t l]
  have := rnE_le (P := dgB tb) r (s + 1)
  omega
theorem tkA_le {n : Nat} {tb : Nat → Nat} {s : Nat} (h : s ≤ n) : s ≤ (tkA n tb s).2 ∧ (tkA n tb s).2 ≤ n ∧ (s < n → s < (tkA n tb s).2) := by
  by_cases q : n ≤ s
  · rw [tkA_fin q]; exact ⟨Nat.le_refl _, h, fun z => by omega⟩
  · by_cases l : ltB tb s = true
    · rw [tkA_wd (by omega) l]
      have := tkL_le (n := n) (tb := tb) (s := s) (by omega) l
      exact ⟨by show s ≤ tkL n tb s; omega, this.2, fun _ => this.1⟩
    · by_cases d : dgB tb s = true
      · rw [tkA_wh (by omega) l d]
        have := tkD_le (n := n) (tb := tb) (s := s) (by omega) d
        exact ⟨by show s ≤ tkD n tb s; omega, this.2, fun _ => this.1⟩
      · rw [tkA_sg (by omega) l d]
        exact ⟨by show s ≤ s + 1; omega, by show s + 1 ≤ n; omega, fun _ => by show s < s + 1; omega⟩
theorem tkA_nf {n : Nat} {tb : Nat → Nat} {s : Nat} (h : s < n) : (tkA n tb s).1 ≠ .fin := by
  by_cases l : ltB tb s = true
  · rw [tkA_wd h l]
    show (if _ then _ else _) ≠ _
    split <;> intro z <;> cases z
  · by_cases d : dgB tb s = true
    · rw [tkA_wh h l d]
      show (if _ then _ else _) ≠ _
      split <;> intro z <;> cases z
    · rw [tkA_sg h l d]
      show (if _ then _ else _) ≠ _
      split
      · intro z; cases z
      · split <;> intro z <;> cases z
theorem tkA_v {n : Nat} {tb : Nat → Nat} (s : Nat) : vTK (tkA n tb s).1 := by
  by_cases q : n ≤ s
  · rw [tkA_fin q]; trivial
  · by_cases l : ltB tb s = true
    · rw [tkA_wd (by omega) l]
      have := tkL_le (n := n) (tb := tb) (s := s) (by omega) l
      by_cases c : tkL n tb s - s ≤ 6
      · rw [if_pos c]
        refine ⟨by rw [ltL_len]; omega, by rw [ltL_len]; exact c, fun k hk => ?_⟩
        rw [ltL_len] at hk
        rw [ltL_get hk]
        have := rnE_in (P := ltB tb) (n - s) s (s + k) (by omega) (by show s + k < tkL n tb s; omega)
        have := of_decide_eq_true this
        omega
      · rw [if_neg c]; trivial
    · by_cases d : dgB tb s = true
      · rw [tkA_wh (by omega) l d]
        by_cases c : tkD n tb s - s ≤ 3
        · rw [if_pos c]
          have h1 := dgV_lt (tb := tb) (s := s) (tkD n tb s - s) (fun j hj => by
            have := rnE_in (P := dgB tb) (n - s) s (s + j) (by omega) (by show s + j < tkD n tb s; omega)
            exact (of_decide_eq_true this).2)
          have h2 : 10 ^ (tkD n tb s - s) ≤ 10 ^ 3 := Nat.pow_le_pow_right (by decide) c
          have h3 : (10 : Nat) ^ 3 = 1000 := by decide
          show dgV _ _ _ ≤ 999
          omega
        · rw [if_neg c]; trivial
      · rw [tkA_sg (by omega) l d]
        show vTK (if _ then _ else _)
        split
        · trivial
        · split <;> trivial
/-! the text's machine -/
abbrev PSc : Type := Nat × RDc
def up1 {α : Type} (f : Nat → α) (k : Nat) (x : α) : Nat → α := fun i => if i = k then x else f i
def up2 {α : Type} (f : Nat → Nat → α) (h k : Nat) (x : α) : Nat → Nat → α := fun g i => if g = h ∧ i = k then x else f g i
theorem up1_k {α : Type} {f : Nat → α} {k : Nat} {x : α} : up1 f k x k = x := if_pos rfl
theorem up1_n {α : Type} {f : Nat → α} {k i : Nat} {x : α} (h : i ≠ k) : up1 f k x i = f i := if_neg h
theorem up2_k {α : Type} {f : Nat → Nat → α} {h k : Nat} {x : α} : up2 f h k x h k = x := if_pos ⟨rfl, rfl⟩
theorem up2_n {α : Type} {f : Nat → Nat → α} {h k g i : Nat} {x : α} (q : ¬ (g = h ∧ i = k)) : up2 f h k x g i = f g i := if_neg q
def wgL : WL := [22, 4, 8, 6, 7, 19]
def nmI (A : RDc) (l : WL) : Prop := ∃ h, h < A.1 ∧ A.2.1 h = l
def aHr (A : RDc) (l : WL) : RDc := ⟨A.1 + 1, up1 A.2.1 A.1 l, A.2.2.1, up1 A.2.2.2.1 A.1 0, A.2.2.2.2.1, A.2.2.2.2.2⟩
def aWt (A : RDc) (v : Nat) : RDc := ⟨A.1, A.2.1, up1 A.2.2.1 (A.1 - 1) v, A.2.2.2.1, A.2.2.2.2.1, A.2.2.2.2.2⟩
def aWd (A : RDc) (l : WL) : RDc := ⟨A.1, A.2.1, A.2.2.1, up1 A.2.2.2.1 (A.1 - 1) (A.2.2.2.1 (A.1 - 1) + 1), up2 A.2.2.2.2.1 (A.1 - 1) (A.2.2.2.1 (A.1 - 1)) l, A.2.2.2.2.2⟩
def aTm (A : RDc) (v : Nat) : RDc := ⟨A.1, A.2.1, A.2.2.1, A.2.2.2.1, A.2.2.2.2.1, up2 A.2.2.2.2.2 (A.1 - 1) (A.2.2.2.1 (A.1 - 1) - 1) v⟩
noncomputable def hrd (A : RDc) (l : WL) : Nat ⊕ PSc := if A.2.2.2.1 (A.1 - 1) = 12 then .inl 4 else .inr ⟨5, aWd A l⟩
/-- a TIME that isn't above the one ahead -/
def tmX (A : RDc) (v : Nat) : Prop := 2 ≤ A.2.2.2.1 (A.1 - 1) ∧ v ≤ A.2.2.2.2.2 (A.1 - 1) (A.2.2.2.1 (A.1 - 1) - 2)
noncomputable def stp (p : PSc) (t : TK) : Nat ⊕ PSc :=
  match p.1 with
  | 0 => match t with
    | some (some (.inl l)) => @ite _ (nmI p.2 l) (Classical.propDecidable _) (.inl 3) (if p.2.1 = 5 then .inl 4 else .inr ⟨1, aHr p.2 l⟩)
    | _ => .inl 1
  | 1 => match t with
    | some (some (.inl l)) => if l = wgL then .inr ⟨2, p.2⟩ else .inl 1
    | _ => .inl 1
  | 2 => match t with
    | some (some (.inr (.inl v))) => if 1 ≤ v ∧ v ≤ 99 then .inr ⟨3, aWt p.2 v⟩ else .inl 2
    | _ => .inl 1
  | 3 => match t with
    | some (some (.inr (.inr true))) => .inr ⟨4, p.2⟩
    | _ => .inl 1
  | 4 => match t with
    | some (some (.inl l)) => hrd p.2 l
    | _ => .inl 1
  | 5 => match t with
    | some (some (.inr (.inl v))) => @ite _ (tmX p.2 v) (Classical.propDecidable _) (.inl 2) (.inr ⟨6, aTm p.2 v⟩)
    | _ => .inl 1
  | 6 => match t with
    | some (some (.inl l)) => hrd p.2 l
    | some (some (.inr (.inr false))) => .inr ⟨0, p.2⟩
    | _ => .inl 1
  | _ => .inl 1
def vPS (p : PSc) : Prop := p.1 ≤ 6 ∧ p.2.1 ≤ 5 ∧ (p.1 = 0 ∨ 1 ≤ p.2.1) ∧ ∀ h, h < p.2.1 → vW (p.2.2.1 h) ∧ p.2.2.2.2.1 h ≤ 12 ∧ (∀ i, i < p.2.2.2.2.1 h → vW (p.2.2.2.2.2.1 h i)) ∧ ((h + 1 = p.2.1 ∧ (p.1 = 1 ∨ p.1 = 2)) ∨ (1 ≤ p.2.2.2.1 h ∧ p.2.2.2.1 h ≤ 99)) ∧ ((h + 1 = p.2.1 ∧ 1 ≤ p.1 ∧ p.1 ≤ 4 ∧ p.2.2.2.2.1 h = 0) ∨ (¬ (h + 1 = p.2.1 ∧ 1 ≤ p.1 ∧ p.1 ≤ 4) ∧ 1 ≤ p.2.2.2.2.1 h)) ∧ ∀ i, i < p.2.2.2.2.1 h → (h + 1 = p.2.1 ∧ i + 1 = p.2.2.2.2.1 h ∧ p.1 = 5) ∨ p.2.2.2.2.2.2 h i ≤ 999
theorem vPS_end {p : PSc} (v : vPS p) (h : p.1 = 6) : vRD p.2 ∧ 1 ≤ p.2.1 := by
  obtain ⟨_, v2, v3, v4⟩ := v
  refine ⟨⟨v2, fun k hk => ?_⟩, by omega⟩
  obtain ⟨a, b, c, d, f, g⟩ := v4 k hk
  refine ⟨?_, ⟨?_, b⟩, fun i hi => ⟨c i hi, ?_⟩⟩
  · rcases d with d | d
    · omega
    · exact d
  · rcases f with f | f
    · omega
    · exact f.2
  · rcases g i hi with z | z
    · omega
    · exact z
theorem vPS_0 (A : RDc) (h : A.1 = 0) : vPS ⟨0, A⟩ := ⟨by show 0 ≤ 6; omega, by show A.1 ≤ 5; omega, Or.inl rfl, fun k hk => by have hk : k < A.1 := hk; omega⟩
theorem vPS_hr {A : RDc} {l : WL} (v : vPS ⟨0, A⟩) (hl : vW l) (h5 : A.1 ≠ 5) : vPS ⟨1, aHr A l⟩ := by
  obtain ⟨v1, v2, v3, v4⟩ := v
  simp only at v1 v2 v3 v4
  refine ⟨by show 1 ≤ 6; omega, by show A.1 + 1 ≤ 5; omega, Or.inr (by show 1 ≤ A.1 + 1; omega), fun k hk => ?_⟩
  have hk : k < A.1 + 1 := hk
  show vW (up1 A.2.1 A.1 l k) ∧ up1 A.2.2.2.1 A.1 0 k ≤ 12 ∧ (∀ i, i < up1 A.2.2.2.1 A.1 0 k → vW (A.2.2.2.2.1 k i)) ∧ ((k + 1 = A.1 + 1 ∧ (1 = 1 ∨ 1 = 2)) ∨ (1 ≤ A.2.2.1 k ∧ A.2.2.1 k ≤ 99)) ∧ ((k + 1 = A.1 + 1 ∧ 1 ≤ 1 ∧ 1 ≤ 4 ∧ up1 A.2.2.2.1 A.1 0 k = 0) ∨ (¬ (k + 1 = A.1 + 1 ∧ 1 ≤ 1 ∧ 1 ≤ 4) ∧ 1 ≤ up1 A.2.2.2.1 A.1 0 k)) ∧ ∀ i, i < up1 A.2.2.2.1 A.1 0 k → (k + 1 = A.1 + 1 ∧ i + 1 = up1 A.2.2.2.1 A.1 0 k ∧ 1 = 5) ∨ A.2.2.2.2.2 k i ≤ 999
  by_cases e : k = A.1
  · rw [e, up1_k, up1_k]
    exact ⟨hl, by omega, fun i hi => by omega, Or.inl ⟨rfl, Or.inl rfl⟩, Or.inl ⟨rfl, by omega, by omega, rfl⟩, fun i hi => by omega⟩
  · rw [up1_n e, up1_n e]
    obtain ⟨a, b, c, d, f, g⟩ := v4 k (by omega)
    refine ⟨a, b, c, Or.inr ?_, Or.inr ⟨by omega, ?_⟩, fun i hi => Or.inr ?_⟩
    · rcases d with d | d
      · omega
      · exact d
    · rcases f with f | f
      · omega
      · exact f.2
    · rcases g i hi with z | z
      · omega
      · exact z
theorem vPS_wg {A : RDc} (v : vPS ⟨1, A⟩) : vPS ⟨2, A⟩ := by
  obtain ⟨v1, v2, v3, v4⟩ := v
  simp only at v1 v2 v3 v4
  refine ⟨by show 2 ≤ 6; omega, v2, Or.inr (by show 1 ≤ A.1; omega), fun k hk => ?_⟩
  obtain ⟨a, b, c, d, f, g⟩ := v4 k hk
  refine ⟨a, b, c, ?_, ?_, fun i hi => ?_⟩
  · show (k + 1 = A.1 ∧ (2 = 1 ∨ 2 = 2)) ∨ _
    rcases d with d | d
    · exact Or.inl ⟨d.1, Or.inr rfl⟩
    · exact Or.inr d
  · show (k + 1 = A.1 ∧ 1 ≤ 2 ∧ 2 ≤ 4 ∧ A.2.2.2.1 k = 0) ∨ (¬ (k + 1 = A.1 ∧ 1 ≤ 2 ∧ 2 ≤ 4) ∧ 1 ≤ A.2.2.2.1 k)
    omega
  · rcases g i hi with z | z
    · omega
    · exact Or.inr z
theorem vPS_wt {A : RDc} {w : Nat} (v : vPS ⟨2, A⟩) (hw : 1 ≤ w ∧ w ≤ 99) : vPS ⟨3, aWt A w⟩ := by
  obtain ⟨v1, v2, v3, v4⟩ := v
  simp only at v1 v2 v3 v4
  refine ⟨by show 3 ≤ 6; omega, v2, Or.inr (by show 1 ≤ A.1; omega), fun k hk => ?_⟩
  obtain ⟨a, b, c, d, f, g⟩ := v4 k hk
  refine ⟨a, b, c, Or.inr ?_, ?_, fun i hi => ?_⟩
  · show 1 ≤ up1 A.2.2.1 (A.1 - 1) w k ∧ up1 A.2.2.1 (A.1 - 1) w k ≤ 99
    by_cases e : k = A.1 - 1
    · rw [e, up1_k]; exact hw
    · rw [up1_n e]
      have hk : k < A.1 := hk
      rcases d with d | d
      · omega
      · exact d
  · show (k + 1 = A.1 ∧ 1 ≤ 3 ∧ 3 ≤ 4 ∧ A.2.2.2.1 k = 0) ∨ (¬ (k + 1 = A.1 ∧ 1 ≤ 3 ∧ 3 ≤ 4) ∧ 1 ≤ A.2.2.2.1 k)
    omega
  · rcases g i hi with z | z
    · omega
    · exact Or.inr z
theorem vPS_co {A : RDc} (v : vPS ⟨3, A⟩) : vPS ⟨4, A⟩ := by
  obtain ⟨v1, v2, v3, v4⟩ := v
  simp only at v1 v2 v3 v4
  refine ⟨by show 4 ≤ 6; omega, v2, Or.inr (by show 1 ≤ A.1; omega), fun k hk => ?_⟩
  obtain ⟨a, b, c, d, f, g⟩ := v4 k hk
  refine ⟨a, b, c, Or.inr ?_, ?_, fun i hi => ?_⟩
  · rcases d with d | d
    · omega
    · exact d
  · show (k + 1 = A.1 ∧ 1 ≤ 4 ∧ 4 ≤ 4 ∧ A.2.2.2.1 k = 0) ∨ (¬ (k + 1 = A.1 ∧ 1 ≤ 4 ∧ 4 ≤ 4) ∧ 1 ≤ A.2.2.2.1 k)
    omega
  · rcases g i hi with z | z
    · omega
    · exact Or.inr z
theorem vPS_wd {A : RDc} {l : WL} {a0 : Nat} (v : vPS ⟨a0, A⟩) (h4 : a0 = 4 ∨ a0 = 6) (hl : vW l) (h12 : A.2.2.2.1 (A.1 - 1) ≠ 12) : vPS ⟨5, aWd A l⟩ := by
  obtain ⟨v1, v2, v3, v4⟩ := v
  simp only at v1 v2 v3 v4
  refine ⟨by show 5 ≤ 6; omega, v2, Or.inr (by show 1 ≤ A.1; omega), fun k hk => ?_⟩
  have hk : k < A.1 := hk
  obtain ⟨a, b, c, d, f, g⟩ := v4 k hk
  show vW (A.2.1 k) ∧ up1 A.2.2.2.1 (A.1 - 1) (A.2.2.2.1 (A.1 - 1) + 1) k ≤ 12 ∧ (∀ i, i < up1 A.2.2.2.1 (A.1 - 1) (A.2.2.2.1 (A.1 - 1) + 1) k → vW (up2 A.2.2.2.2.1 (A.1 - 1) (A.2.2.2.1 (A.1 - 1)) l k i)) ∧ ((k + 1 = A.1 ∧ (5 = 1 ∨ 5 = 2)) ∨ (1 ≤ A.2.2.1 k ∧ A.2.2.1 k ≤ 99)) ∧ ((k + 1 = A.1 ∧ 1 ≤ 5 ∧ 5 ≤ 4 ∧ up1 A.2.2.2.1 (A.1 - 1) (A.2.2.2.1 (A.1 - 1) + 1) k = 0) ∨ (¬ (k + 1 = A.1 ∧ 1 ≤ 5 ∧ 5 ≤ 4) ∧ 1 ≤ up1 A.2.2.2.1 (A.1 - 1) (A.2.2.2.1 (A.1 - 1) + 1) k)) ∧ ∀ i, i < up1 A.2.2.2.1 (A.1 - 1) (A.2.2.2.1 (A.1 - 1) + 1) k → (k + 1 = A.1 ∧ i + 1 = up1 A.2.2.2.1 (A.1 - 1) (A.2.2.2.1 (A.1 - 1) + 1) k ∧ 5 = 5) ∨ A.2.2.2.2.2 k i ≤ 999
  have d' : 1 ≤ A.2.2.1 k ∧ A.2.2.1 k ≤ 99 := by
    rcases d with d | d
    · omega
    · exact d
  by_cases e : k = A.1 - 1
  · subst e
    rw [up1_k]
    refine ⟨a, by omega, fun i hi => ?_, Or.inr d', Or.inr ⟨by omega, by omega⟩, fun i hi => ?_⟩
    · by_cases z : i = A.2.2.2.1 (A.1 - 1)
      · rw [z, up2_k]; exact hl
      · rw [up2_n (by omega)]; exact c i (by omega)
    · by_cases z : i = A.2.2.2.1 (A.1 - 1)
      · exact Or.inl ⟨by omega, by omega, rfl⟩
      · rcases g i (by omega) with y | y
        · omega
        · exact Or.inr y
  · rw [up1_n e]
    refine ⟨a, b, fun i hi => ?_, Or.inr d', Or.inr ⟨by omega, by omega⟩, fun i hi => ?_⟩
    · rw [up2_n (by omega)]; exact c i hi
    · rcases g i hi with y | y
      · omega
      · exact Or.inr y
theorem vPS_tm {A : RDc} {t : Nat} (v : vPS ⟨5, A⟩) (ht : t ≤ 999) : vPS ⟨6, aTm A t⟩ := by
  obtain ⟨v1, v2, v3, v4⟩ := v
  simp only at v1 v2 v3 v4
  refine ⟨by show 6 ≤ 6; omega, v2, Or.inr (by show 1 ≤ A.1; omega), fun k hk => ?_⟩
  have hk : k < A.1 := hk
  obtain ⟨a, b, c, d, f, g⟩ := v4 k hk
  refine ⟨a, b, c, Or.inr ?_, Or.inr ⟨by show ¬ (k + 1 = A.1 ∧ 1 ≤ 6 ∧ 6 ≤ 4); omega, by show 1 ≤ A.2.2.2.1 k; omega⟩, fun i hi => Or.inr ?_⟩
  · rcases d with d | d
    · omega
    · exact d
  · show up2 A.2.2.2.2.2 (A.1 - 1) (A.2.2.2.1 (A.1 - 1) - 1) t k i ≤ 999
    by_cases z : k = A.1 - 1 ∧ i = A.2.2.2.1 (A.1 - 1) - 1
    · rw [z.1, z.2, up2_k]; exact ht
    · rw [up2_n z]
      have hi : i < A.2.2.2.1 k := hi
      rcases g i hi with y | y
      · exfalso
        have : k = A.1 - 1 := by omega
        rw [this] at y
        exact z ⟨this, by omega⟩
      · exact y
theorem vPS_pa {A : RDc} (v : vPS ⟨6, A⟩) : vPS ⟨0, A⟩ := by
  obtain ⟨v1, v2, v3, v4⟩ := v
  simp only at v1 v2 v3 v4
  refine ⟨by show 0 ≤ 6; omega, v2, Or.inl rfl, fun k hk => ?_⟩
  obtain ⟨a, b, c, d, f, g⟩ := v4 k hk
  refine ⟨a, b, c, Or.inr ?_, Or.inr ⟨by show ¬ (k + 1 = A.1 ∧ 1 ≤ 0 ∧ 0 ≤ 4); omega, by show 1 ≤ A.2.2.2.1 k; omega⟩, fun i hi => Or.inr ?_⟩
  · rcases d with d | d
    · omega
    · exact d
  · rcases g i hi with y | y
    · omega
    · exact y
abbrev PRc : Type := (Nat × Nat) ⊕ RDc
/-- the rest of a text, from a place on -/
noncomputable def prs (n : Nat) (tb : Nat → Nat) : Nat → PSc → Nat → PRc
  | 0, _, _ => .inl (1, 0)
  | r + 1, P, p => match (tkA n tb (tkS n tb p)).1, P.1 with
    | some none, 6 => .inr P.2
    | t, _ => match stp P t with
      | .inl f => .inl (f, tkS n tb p)
      | .inr P' => prs n tb r P' (tkA n tb (tkS n tb p)).2
theorem prs_ok {n : Nat} {tb : Nat → Nat} {r p : Nat} {P : PSc} (h1 : (tkA n tb (tkS n tb p)).1 = .fin) (h2 : P.1 = 6) : prs n tb (r + 1) P p = .inr P.2 := by rw [prs, h1, h2]; rfl
theorem prs_st {n : Nat} {tb : Nat → Nat} {r p : Nat} {P : PSc} (h : ¬ ((tkA n tb (tkS n tb p)).1 = .fin ∧ P.1 = 6)) : prs n tb (r + 1) P p = match stp P (tkA n tb (tkS n tb p)).1 with
      | .inl f => .inl (f, tkS n tb p)
      | .inr P' => prs n tb r P' (tkA n tb (tkS n tb p)).2 := by
  rw [prs]
  split
  · rename_i a b
    exact absurd ⟨a, b⟩ h
  · rfl
theorem prs_f {n : Nat} {tb : Nat → Nat} {r p f : Nat} {P : PSc} (h : ¬ ((tkA n tb (tkS n tb p)).1 = .fin ∧ P.1 = 6)) (s : stp P (tkA n tb (tkS n tb p)).1 = .inl f) : prs n tb (r + 1) P p = .inl (f, tkS n tb p) := by rw [prs_st h, s]
theorem prs_n {n : Nat} {tb : Nat → Nat} {r p : Nat} {P P' : PSc} (h : ¬ ((tkA n tb (tkS n tb p)).1 = .fin ∧ P.1 = 6)) (s : stp P (tkA n tb (tkS n tb p)).1 = .inr P') : prs n tb (r + 1) P p = prs n tb r P' (tkA n tb (tkS n tb p)).2 := by rw [prs_st h, s]
