/-! what a state is, as plain numbers: a speech, rules, a net; and how class and reference hold it -/
/-- a speech: hearings, how many words of each, WORD and TIME of each, WORDS, how many letters, letters -/
abbrev SPc : Type := Nat × (Nat → Nat) × (Nat → Nat → Nat) × (Nat → Nat → Nat) × Nat × (Nat → Nat) × (Nat → Nat → Nat)
abbrev SPc.nh (S : SPc) : Nat := S.1
abbrev SPc.cn (S : SPc) : Nat → Nat := S.2.1
abbrev SPc.wd (S : SPc) : Nat → Nat → Nat := S.2.2.1
abbrev SPc.tm (S : SPc) : Nat → Nat → Nat := S.2.2.2.1
abbrev SPc.nw (S : SPc) : Nat := S.2.2.2.2.1
abbrev SPc.ln (S : SPc) : Nat → Nat := S.2.2.2.2.2.1
abbrev SPc.lt (S : SPc) : Nat → Nat → Nat := S.2.2.2.2.2.2
/-- rules: NEWCOST, GAPCOST, NEAREST, WINDOW, SHARE, WEIGHTS -/
abbrev RUc : Type := Nat × Nat × Nat × Nat × Nat × (Nat → Nat)
abbrev RUc.fr (R : RUc) : Nat := R.1
abbrev RUc.gp (R : RUc) : Nat := R.2.1
abbrev RUc.nr (R : RUc) : Nat := R.2.2.1
abbrev RUc.wn (R : RUc) : Nat := R.2.2.2.1
abbrev RUc.sh (R : RUc) : Nat := R.2.2.2.2.1
abbrev RUc.wt (R : RUc) : Nat → Nat := R.2.2.2.2.2
/-- a net: SLOTS, how many are joined, which (in order), at which cost, what lies where -/
abbrev NEc : Type := Nat × Nat × (Nat → Nat) × (Nat → Nat) × (Nat → Nat → Option Nat)
abbrev NEc.ns (E : NEc) : Nat := E.1
abbrev NEc.nj (E : NEc) : Nat := E.2.1
abbrev NEc.od (E : NEc) : Nat → Nat := E.2.2.1
abbrev NEc.ct (E : NEc) : Nat → Nat := E.2.2.2.1
abbrev NEc.th (E : NEc) : Nat → Nat → Option Nat := E.2.2.2.2
def vSP (S : SPc) : Prop := S.nh ≤ 5 ∧ (∀ h, h < S.nh → 1 ≤ S.cn h ∧ S.cn h ≤ 12) ∧ (∀ h, h < S.nh → ∀ i, i < S.cn h → S.wd h i < S.nw ∧ S.tm h i ≤ 999) ∧ S.nw ≤ 60 ∧ ∀ w, w < S.nw → 1 ≤ S.ln w ∧ S.ln w ≤ 6 ∧ ∀ k, k < S.ln w → S.lt w k < 26
def vRU (S : SPc) (R : RUc) : Prop := (1 ≤ R.fr ∧ R.fr ≤ 9) ∧ (1 ≤ R.gp ∧ R.gp ≤ 9) ∧ R.nr ≤ 9 ∧ R.wn ≤ 999 ∧ R.sh ≤ 200 ∧ ∀ h, h < S.nh → 1 ≤ R.wt h ∧ R.wt h ≤ 99
/-- which place a hearing has among the joined -/
def plc (E : NEc) (h : Nat) : Option Nat := (List.range E.nj).find? (fun p => E.od p == h)
def sm (f : Nat → Nat) : Nat → Nat
  | 0 => 0
  | n + 1 => sm f n + f n
def vNE (S : SPc) (E : NEc) : Prop := E.nj ≤ S.nh ∧ (∀ p, p < E.nj → E.od p < S.nh) ∧ (∀ p q, p < E.nj → q < E.nj → E.od p = E.od q → p = q) ∧ E.ns ≤ sm (fun p => S.cn (E.od p)) E.nj ∧
  (∀ s h i, s < E.ns → E.th s h = some i → h < S.nh ∧ i < S.cn h ∧ (plc E h).isSome = true) ∧ (∀ s, s < E.ns → ∃ h i, E.th s h = some i) ∧
  (∀ h, h < S.nh → (plc E h).isSome = true → ∀ i, i < S.cn h → ∃ s, s < E.ns ∧ E.th s h = some i) ∧ (∀ s s' h i i', s < s' → s' < E.ns → E.th s h = some i → E.th s' h = some i' → i < i') ∧ ∀ p, p < E.nj → E.ct p ≤ 2000
/-- what is there, or a sign for nothing -/
def oI (z : Int32) : Option Nat → Int32
  | some i => nI i
  | none => z
def cSP (σ : ST) (k : Nat) (S : SPc) : Prop := σ.1 8 k 1 0 = nI S.nh ∧ σ.1 8 k 2 0 = nI S.nw ∧ (∀ h, h < S.nh → σ.1 8 k 7 h = nI (S.cn h)) ∧ (∀ h, h < S.nh → ∀ i, i < S.cn h → σ.1 8 k 3 (h * 12 + i) = nI (S.wd h i) ∧ σ.1 8 k 4 (h * 12 + i) = nI (S.tm h i)) ∧
  ∀ w, w < S.nw → σ.1 8 k 10 w = nI (S.ln w) ∧ ∀ j, j < 6 → σ.1 8 k 9 (w * 6 + j) = if j < S.ln w then nI (S.lt w j) else -2
def cRU (σ : ST) (k : Nat) (S : SPc) (R : RUc) : Prop := σ.1 7 k 1 0 = nI R.fr ∧ σ.1 7 k 2 0 = nI R.gp ∧ σ.1 7 k 3 0 = nI R.nr ∧ σ.1 7 k 4 0 = nI R.wn ∧ σ.1 7 k 5 0 = nI R.sh ∧ ∀ h, h < S.nh → σ.1 7 k 6 h = nI (R.wt h)
def cNE (σ : ST) (k : Nat) (E : NEc) : Prop := σ.1 3 k 1 0 = nI E.ns ∧ σ.1 3 k 2 0 = nI E.nj ∧ (∀ p, p < E.nj → σ.1 3 k 3 p = nI (E.od p)) ∧ (∀ h, h < 5 → σ.1 3 k 4 h = oI (-2) (plc E h)) ∧ (∀ p, p < E.nj → σ.1 3 k 5 (E.od p) = nI (E.ct p)) ∧ ∀ s, s < E.ns → ∀ h, h < 5 → σ.1 3 k 6 (s * 5 + h) = oI (-2) (E.th s h)
/-- letters as the reference keeps them -/
def enc (f : Nat → Nat) : Nat → Nat
  | 0 => 0
  | n + 1 => enc f n * 32 + f n + 1
def mSP (σ : ST) (S : SPc) : Prop := σ.1 11 0 25 0 = nI S.nh ∧ σ.1 11 0 26 0 = nI S.nw ∧ (∀ h, h < S.nh → σ.1 11 0 21 h = nI (S.cn h)) ∧ (∀ h, h < S.nh → ∀ i, i < S.cn h → σ.1 11 0 22 (12 * h + i) = nI (S.wd h i) ∧ σ.1 11 0 23 (12 * h + i) = nI (S.tm h i)) ∧
  ∀ w, w < S.nw → σ.2 11 0 17 w = lN (enc (S.lt w) (S.ln w))
/-- rules and net in a row of the reference -/
def mRU (v : Nat → Int32) (S : SPc) (R : RUc) : Prop := v 0 = nI R.fr ∧ v 1 = nI R.gp ∧ v 2 = nI R.nr ∧ v 3 = nI R.wn ∧ v 4 = nI R.sh ∧ ∀ h, h < S.nh → v (5 + h) = nI (R.wt h)
def mNE (v : Nat → Int32) (E : NEc) : Prop := v 10 = nI E.nj ∧ v 21 = nI E.ns ∧ (∀ p, p < E.nj → v (11 + p) = nI (E.od p) ∧ v (16 + p) = nI (E.ct p)) ∧ ∀ s, s < E.ns → ∀ h, h < 5 → v (22 + 5 * s + h) = oI (-1) (E.th s h)
theorem oI_neg {z : Int32} (hz : z < 0) {o : Option Nat} (h : ∀ i, o = some i → i < 2147483648) : (oI z o < 0) ↔ o = none := by
  cases o with
  | none => exact ⟨fun _ => rfl, fun _ => hz⟩
  | some i => exact ⟨fun q => absurd q (nI_pos (h i rfl)), fun q => by cases q⟩
theorem ne2 : (-2 : Int32) < 0 := by decide
theorem ne1 : (-1 : Int32) < 0 := by decide
/-- a branch on what is there -/
theorem b_there {z : Int32} (hz : z < 0) {x : Int32} {o : Option Nat} (hx : x = oI z o) (h : ∀ i, o = some i → i < 2147483648) {A B : Prop} (t : o = none → A) (f : ∀ i, o = some i → x = nI i → B) : (brI .lt x 0 → A) ∧ (¬ brI .lt x 0 → B) := by
  subst hx
  refine ⟨fun q => t ((oI_neg hz h).mp q), fun q => ?_⟩
  cases o with
  | none => exact absurd hz q
  | some i => exact f i rfl rfl
theorem b_thereG {z : Int32} (hz : z < 0) {x : Int32} {o : Option Nat} (hx : x = oI z o) (h : ∀ i, o = some i → i < 2147483648) {A B : Prop} (t : ∀ i, o = some i → x = nI i → A) (f : o = none → B) : (brI .ge x 0 → A) ∧ (¬ brI .ge x 0 → B) := by
  subst hx
  cases o with
  | none => exact ⟨fun q => absurd q (by show ¬ (0 : Int32) ≤ z; exact Int32.not_le.mpr hz), fun _ => f rfl⟩
  | some i => exact ⟨fun _ => t i rfl rfl, fun q => absurd (nI_pos' (h i rfl)) q⟩
theorem sm_mono (f : Nat → Nat) : ∀ {a b : Nat}, a ≤ b → sm f a ≤ sm f b := by
  intro a b h
  induction b with
  | zero => obtain rfl : a = 0 := by omega
            exact Nat.le_refl _
  | succ b ih =>
    by_cases e : a = b + 1
    · subst e; exact Nat.le_refl _
    · exact Nat.le_trans (ih (by omega)) (Nat.le_add_right _ _)
theorem sm_congr {f g : Nat → Nat} : ∀ {n : Nat}, (∀ i, i < n → f i = g i) → sm f n = sm g n
  | 0, _ => rfl
  | n + 1, h => by rw [sm, sm, sm_congr (fun i hi => h i (by omega)), h n (by omega)]
theorem sm_tail {f : Nat → Nat} {a : Nat} : ∀ {b : Nat}, a ≤ b → (∀ i, a ≤ i → i < b → f i = 0) → sm f b = sm f a
  | 0, h, _ => by obtain rfl : a = 0 := by omega
                  rfl
  | b + 1, h, hz => by
    by_cases e : a = b + 1
    · subst e; rfl
    · rw [sm, sm_tail (b := b) (by omega) (fun i h1 h2 => hz i h1 (by omega)), hz b (by omega) (by omega), Nat.add_zero]
theorem sm_le {f : Nat → Nat} {M : Nat} : ∀ {n : Nat}, (∀ i, i < n → f i ≤ M) → sm f n ≤ n * M
  | 0, _ => by simp [sm]
  | n + 1, h => by
    have h1 := sm_le (f := f) (n := n) (fun i hi => h i (by omega))
    have h2 := h n (by omega)
    rw [sm, Nat.add_mul]
    omega
theorem vNE_ns {S : SPc} {E : NEc} (hS : vSP S) (h : vNE S E) : E.ns ≤ 60 := by
  have h1 := h.2.2.2.1
  have h2 : sm (fun p => S.cn (E.od p)) E.nj ≤ E.nj * 12 := sm_le (fun i hi => (hS.2.1 _ (h.2.1 i hi)).2)
  have := hS.1
  have := h.1
  omega
