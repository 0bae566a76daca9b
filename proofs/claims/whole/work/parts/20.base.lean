/-! words for the methods' own contracts -/
theorem il_ex {m K : Nat} (h : K ≤ m) : ∃ n, m = n + K := ⟨m - K, by omega⟩
theorem cnd {c : Bool} {P : Prop} (h : c = true) (p : P) : cond c P False := by rw [h]; exact p
theorem oi_1 : Int32.ofInt 1 = nI 1 := by decide
theorem oi_0 : Int32.ofInt 0 = nI 0 := by decide
theorem il_inc {x : Int32} {k : Nat} (h : x = nI k) : x + Int32.ofInt 1 = nI (k + 1) := by rw [h, oi_1, nI_add]
theorem il_dec {x : Int32} {k : Nat} (h : x = nI (k + 1)) : x + Int32.ofInt (-1) = nI k := by
  rw [h, show Int32.ofInt (-1) = -1 from by decide]
  exact pk_m1 k
theorem b_lt {x y : Int32} {a b : Nat} {A B : Prop} (hx : x = nI a) (hy : y = nI b) (ha : a < 2147483648) (hb : b < 2147483648) (t : a < b → A) (f : b ≤ a → B) : (brI .lt x y → A) ∧ (¬ brI .lt x y → B) := by
  subst hx; subst hy
  exact ⟨fun h => t ((nI_ltI ha hb).mp h), fun h => f (Nat.le_of_not_lt fun q => h ((nI_ltI ha hb).mpr q))⟩
theorem b_ge {x y : Int32} {a b : Nat} {A B : Prop} (hx : x = nI a) (hy : y = nI b) (ha : a < 2147483648) (hb : b < 2147483648) (t : b ≤ a → A) (f : a < b → B) : (brI .ge x y → A) ∧ (¬ brI .ge x y → B) := by
  subst hx; subst hy
  exact ⟨fun h => t ((nI_leI hb ha).mp h), fun h => f (Nat.lt_of_not_le fun q => h ((nI_leI hb ha).mpr q))⟩
theorem b_gt {x y : Int32} {a b : Nat} {A B : Prop} (hx : x = nI a) (hy : y = nI b) (ha : a < 2147483648) (hb : b < 2147483648) (t : b < a → A) (f : a ≤ b → B) : (brI .gt x y → A) ∧ (¬ brI .gt x y → B) := by
  subst hx; subst hy
  exact ⟨fun h => t ((nI_ltI hb ha).mp h), fun h => f (Nat.le_of_not_lt fun q => h ((nI_ltI hb ha).mpr q))⟩
theorem b_le {x y : Int32} {a b : Nat} {A B : Prop} (hx : x = nI a) (hy : y = nI b) (ha : a < 2147483648) (hb : b < 2147483648) (t : a ≤ b → A) (f : b < a → B) : (brI .le x y → A) ∧ (¬ brI .le x y → B) := by
  subst hx; subst hy
  exact ⟨fun h => t ((nI_leI ha hb).mp h), fun h => f (Nat.lt_of_not_le fun q => h ((nI_leI ha hb).mpr q))⟩
theorem b_eq {x y : Int32} {a b : Nat} {A B : Prop} (hx : x = nI a) (hy : y = nI b) (ha : a < 2147483648) (hb : b < 2147483648) (t : a = b → A) (f : ¬ a = b → B) : (brI .eq x y → A) ∧ (¬ brI .eq x y → B) := by
  subst hx; subst hy
  exact ⟨fun h => t ((nI_eq ha hb).mp h), fun h => f fun q => h ((nI_eq ha hb).mpr q)⟩
theorem b_ne {x y : Int32} {a b : Nat} {A B : Prop} (hx : x = nI a) (hy : y = nI b) (ha : a < 2147483648) (hb : b < 2147483648) (t : ¬ a = b → A) (f : a = b → B) : (brI .ne x y → A) ∧ (¬ brI .ne x y → B) := by
  subst hx; subst hy
  exact ⟨fun h => t fun q => h ((nI_eq ha hb).mpr q), fun h => f (Classical.byContradiction fun q => h fun z => q ((nI_eq ha hb).mp z))⟩
/-- a branch that only picks a value: both ways meet -/
theorem b_pick {c : Prop} [Decidable c] {A B : Prop} {K : Int32 → Prop} {x y : Int32} (h : K (if c then x else y)) (t : K x → A) (f : K y → B) : (c → A) ∧ (¬ c → B) :=
  ⟨fun q => t (by rw [if_pos q] at h; exact h), fun q => f (by rw [if_neg q] at h; exact h)⟩
theorem il_in {x : Int32} {k n : Nat} (hx : x = nI k) (h : k < n) (hn : n < 2147483648) : vp_in x n := by rw [hx]; exact vp_in_nI h hn
theorem il_cl {x : Int32} {k : Nat} (hx : x = nI k) (h : k < 2147483648) : x.toNatClampNeg = k := by rw [hx]; exact nI_clamp h
/-- states alike but for some rows -/
def off (L : List RF) (σ τ : ST) : Prop := ∀ c k j, (c, k, j) ∉ L → τ.1 c k j = σ.1 c k j ∧ τ.2 c k j = σ.2 c k j
theorem off_rf (L : List RF) (σ : ST) : off L σ σ := fun _ _ _ _ => ⟨rfl, rfl⟩
theorem off_tr {L : List RF} {σ τ υ : ST} (h : off L σ τ) (h2 : off L τ υ) : off L σ υ := fun c k j hn => ⟨(h2 c k j hn).1.trans (h c k j hn).1, (h2 c k j hn).2.trans (h c k j hn).2⟩
theorem off_mono {L L' : List RF} {σ τ : ST} (h : off L σ τ) (hs : ∀ r ∈ L, r ∈ L') : off L' σ τ := fun c k j hn => h c k j (fun q => hn (hs _ q))
theorem off_uI {L : List RF} {σ τ : ST} (h : off L σ τ) {c k j i : Nat} {x : Int32} (hm : (c, k, j) ∈ L) : off L σ (uI τ c k j i x) := by
  intro c' k' j' hn
  have := uI_off τ c k j i x c' k' j' (by rintro ⟨rfl, rfl, rfl⟩; exact hn hm)
  exact ⟨this.1.trans (h c' k' j' hn).1, this.2.trans (h c' k' j' hn).2⟩
theorem off_uL {L : List RF} {σ τ : ST} (h : off L σ τ) {c k j i : Nat} {x : Int64} (hm : (c, k, j) ∈ L) : off L σ (uL τ c k j i x) := by
  intro c' k' j' hn
  have := uL_off τ c k j i x c' k' j' (by rintro ⟨rfl, rfl, rfl⟩; exact hn hm)
  exact ⟨this.1.trans (h c' k' j' hn).1, this.2.trans (h c' k' j' hn).2⟩
theorem off_1 {L : List RF} {σ τ : ST} (h : off L σ τ) {c k j : Nat} (hn : (c, k, j) ∉ L) (i : Nat) : τ.1 c k j i = σ.1 c k j i := by rw [(h c k j hn).1]
theorem off_2 {L : List RF} {σ τ : ST} (h : off L σ τ) {c k j : Nat} (hn : (c, k, j) ∉ L) (i : Nat) : τ.2 c k j i = σ.2 c k j i := by rw [(h c k j hn).2]
theorem uI_at (σ : ST) (c k j i : Nat) (x : Int32) : (uI σ c k j i x).1 c k j i = x := by rw [uI_row]; exact pk_us
theorem uI_ne (σ : ST) (c k j i : Nat) (x : Int32) {i' : Nat} (h : i' ≠ i) : (uI σ c k j i x).1 c k j i' = σ.1 c k j i' := by rw [uI_row]; exact pk_un h
theorem uI_nr (σ : ST) (c k j i : Nat) (x : Int32) {c' k' j' : Nat} (h : ¬ (c' = c ∧ k' = k ∧ j' = j)) (i' : Nat) : (uI σ c k j i x).1 c' k' j' i' = σ.1 c' k' j' i' := by rw [(uI_off σ c k j i x c' k' j' h).1]
/-! how far two rows are apart -/
def lev (a b : Nat → Int32) : Nat → Nat → Nat
  | 0, j => j
  | i + 1, 0 => i + 1
  | i + 1, j + 1 => min (lev a b i j + (if a i = b j then 0 else 1)) (min (lev a b i (j + 1)) (lev a b (i + 1) j) + 1)
theorem lev_0 (a b : Nat → Int32) (i : Nat) : lev a b i 0 = i := by cases i <;> simp [lev]
theorem lev_ss (a b : Nat → Int32) (i j : Nat) : lev a b (i + 1) (j + 1) = min (lev a b i j + (if a i = b j then 0 else 1)) (min (lev a b i (j + 1)) (lev a b (i + 1) j) + 1) := by simp only [lev]
theorem lev_le (a b : Nat → Int32) : ∀ i j, lev a b i j ≤ i + j
  | 0, j => by simp [lev]
  | i + 1, 0 => by simp [lev]
  | i + 1, j + 1 => by
    have h1 := lev_le a b i (j + 1)
    rw [lev_ss]
    omega
theorem lev_z (a b : Nat → Int32) (j : Nat) : lev a b 0 j = j := by simp [lev]
/-- the fuel anew: s steps to the next place, k behind it -/
theorem adv {N m : Nat} {d : Nat × Nat} {M : TB} {i : Nat} {ls : List (Option AV)} {st : List AV} {σ : ST} {Q : POST} (s k : Nat) (hk : k + s ≤ m) (h : ∀ n, k ≤ n → wp N (n + s) d M i ls st σ Q) : wp N m d M i ls st σ Q := by
  obtain ⟨n, rfl⟩ := il_ex (K := s) (m := m) (by omega)
  exact h n (by omega)
