/-! SLOTS by their DOUBT -/
theorem fr_ll {a b c d p q : Nat} (hb : 0 < b) (hd : 0 < d) (hq : 0 < q) (h1 : c * b < a * d) (h2 : p * d < c * q) : p * b < a * q := by
  have e1 : p * d * b < c * q * b := Nat.mul_lt_mul_of_pos_right h2 hb
  have e2 : c * b * q < a * d * q := Nat.mul_lt_mul_of_pos_right h1 hq
  have e3 : p * b * d < a * q * d := by
    rw [show p * b * d = p * d * b from Nat.mul_right_comm p b d, show a * q * d = a * d * q from Nat.mul_right_comm a q d]
    exact Nat.lt_trans e1 (by rw [Nat.mul_right_comm c q b]; exact e2)
  exact Nat.lt_of_mul_lt_mul_right e3
theorem fr_el {a b c d p q : Nat} (hb : 0 < b) (hd : 0 < d) (h1 : c * b = a * d) (h2 : p * d < c * q) : p * b < a * q := by
  have e1 : p * d * b < c * q * b := Nat.mul_lt_mul_of_pos_right h2 hb
  have e3 : p * b * d < a * q * d := by
    rw [show p * b * d = p * d * b from Nat.mul_right_comm p b d, show a * q * d = a * d * q from Nat.mul_right_comm a q d, ← h1, show c * b * q = c * q * b from Nat.mul_right_comm c b q]
    exact e1
  exact Nat.lt_of_mul_lt_mul_right e3
theorem fr_le {a b c d p q : Nat} (hd : 0 < d) (hq : 0 < q) (h1 : c * b < a * d) (h2 : p * d = c * q) : p * b < a * q := by
  have e2 : c * b * q < a * d * q := Nat.mul_lt_mul_of_pos_right h1 hq
  have e3 : p * b * d < a * q * d := by
    rw [show p * b * d = p * d * b from Nat.mul_right_comm p b d, show a * q * d = a * d * q from Nat.mul_right_comm a q d, h2, show c * q * b = c * b * q from Nat.mul_right_comm c q b]
    exact e2
  exact Nat.lt_of_mul_lt_mul_right e3
theorem fr_ee {a b c d p q : Nat} (hd : 0 < d) (h1 : c * b = a * d) (h2 : p * d = c * q) : p * b = a * q := by
  have e3 : p * b * d = a * q * d := by
    rw [show p * b * d = p * d * b from Nat.mul_right_comm p b d, show a * q * d = a * d * q from Nat.mul_right_comm a q d, h2, ← h1, show c * q * b = c * b * q from Nat.mul_right_comm c q b]
  exact Nat.eq_of_mul_eq_mul_right hd e3
/-- one stands ahead of another by its doubt -/
abbrev dl (A B : Nat → Nat) (k s : Nat) : Prop := A s * B k < A k * B s ∨ (A k * B s = A s * B k ∧ k < s)
theorem dl_tr {A B : Nat → Nat} {k s t : Nat} (hk : 0 < B k) (hs : 0 < B s) (ht : 0 < B t) (h1 : dl A B k s) (h2 : dl A B s t) : dl A B k t := by
  rcases h1 with h1 | ⟨h1, h1'⟩
  · rcases h2 with h2 | ⟨h2, _⟩
    · exact Or.inl (fr_ll hk hs ht h1 h2)
    · exact Or.inl (fr_le hs ht h1 h2.symm)
  · rcases h2 with h2 | ⟨h2, h2'⟩
    · exact Or.inl (fr_el hk hs h1.symm h2)
    · exact Or.inr ⟨(fr_ee hs h1.symm h2.symm).symm, by omega⟩
theorem dl_ir {A B : Nat → Nat} {k : Nat} (h : dl A B k k) : False := by
  rcases h with h | ⟨_, h⟩
  · exact Nat.lt_irrefl _ h
  · exact Nat.lt_irrefl _ h
theorem dl_to {A B : Nat → Nat} {k s : Nat} (h : ¬ dl A B k s) (hn : k ≠ s) : dl A B s k := by
  unfold dl at *
  by_cases q : A k * B s < A s * B k
  · exact Or.inl q
  · right
    have q2 : ¬ A s * B k < A k * B s := fun z => h (Or.inl z)
    have e : A k * B s = A s * B k := by omega
    have q3 : ¬ k < s := fun z => h (Or.inr ⟨e, z⟩)
    exact ⟨e.symm, by omega⟩
def ahF (A B : Nat → Nat) (n s : Nat) : Nat := sm (fun k => if dl A B k s then 1 else 0) n
theorem sm_lt {f g : Nat → Nat} {n i : Nat} (hi : i < n) (h : ∀ k, k < n → f k ≤ g k) (h2 : f i < g i) : sm f n < sm g n := by
  induction n with
  | zero => omega
  | succ n ih =>
    rw [sm, sm]
    have le : ∀ m, m ≤ n → sm f m ≤ sm g m := by
      intro m
      induction m with
      | zero => intro _; exact Nat.le_refl _
      | succ m ihm => intro hm; rw [sm, sm]; have := ihm (by omega); have := h m (by omega); omega
    by_cases e : i = n
    · subst e
      have := le i (Nat.le_refl _)
      omega
    · have := ih (by omega) (fun k hk => h k (by omega))
      have := h n (by omega)
      omega
theorem ahF_lt {A B : Nat → Nat} {n a b : Nat} (hB : ∀ k, k < n → 0 < B k) (ha : a < n) (hb : b < n) (h : dl A B a b) : ahF A B n a < ahF A B n b := by
  refine sm_lt ha (fun k hk => ?_) ?_
  · by_cases q : dl A B k a
    · rw [if_pos q, if_pos (dl_tr (hB k hk) (hB a ha) (hB b hb) q h)]; exact Nat.le_refl _
    · rw [if_neg q]; exact Nat.zero_le _
  · rw [if_neg dl_ir, if_pos h]; omega
theorem ahF_inj {A B : Nat → Nat} {n a b : Nat} (hB : ∀ k, k < n → 0 < B k) (ha : a < n) (hb : b < n) (h : ahF A B n a = ahF A B n b) : a = b := by
  apply Classical.byContradiction
  intro q
  by_cases z : dl A B a b
  · have := ahF_lt hB ha hb z; omega
  · have := ahF_lt hB hb ha (dl_to z q); omega
/-- a row of the first n in order -/
def drk (A B : Nat → Nat) (n : Nat) (rk : Nat → Nat) : Prop := (∀ i, i < n → rk i < n) ∧ (∀ g : Nat → Nat, sm (fun i => g (rk i)) n = sm g n) ∧ ∀ i j, i < j → j < n → dl A B (rk i) (rk j)
theorem sm_low {i : Nat} : ∀ {n}, i ≤ n → sm (fun j => if j < i then 1 else 0) n = i
  | 0, h => by obtain rfl : i = 0 := by omega
               rfl
  | n + 1, h => by
    rw [sm]
    by_cases e : i = n + 1
    · rw [if_pos (by omega), sm_congr (g := fun _ => 1) (fun j hj => if_pos (by omega))]
      have : ∀ m, sm (fun _ => 1) m = m := by
        intro m
        induction m with
        | zero => rfl
        | succ m ih => rw [sm, ih]
      rw [this, e]
    · rw [sm_low (by omega), if_neg (by omega), Nat.add_zero]
theorem drk_ah {A B : Nat → Nat} {n : Nat} {rk : Nat → Nat} (h : drk A B n rk) {i : Nat} (hi : i < n) (hB : ∀ k, k < n → 0 < B k) : ahF A B n (rk i) = i := by
  unfold ahF
  rw [← h.2.1 (fun k => if dl A B k (rk i) then 1 else 0)]
  refine (sm_congr (g := fun j => if j < i then 1 else 0) (fun j hj => ?_)).trans (sm_low (by omega))
  by_cases q : j < i
  · rw [if_pos (h.2.2 j i q hi), if_pos q]
  · by_cases q2 : j = i
    · rw [q2, if_neg dl_ir, if_neg (by omega)]
    · rw [if_neg (fun z => dl_ir (dl_tr (hB _ (h.1 i hi)) (hB _ (h.1 j hj)) (hB _ (h.1 i hi)) (h.2.2 i j (by omega) hj) z)), if_neg q]
theorem ins_sm (g rk : Nat → Nat) {s t : Nat} (ht : t ≤ s) : ∀ m, m ≤ s + 1 → sm (fun i => g (insF rk s t i)) m = if m ≤ t then sm (fun i => g (rk i)) m else sm (fun i => g (rk i)) (m - 1) + g (rk s)
  | 0, _ => by rw [if_pos (Nat.zero_le _)]; rfl
  | m + 1, hm => by
    rw [sm, ins_sm g rk ht m (by omega)]
    by_cases a : m < t
    · rw [if_pos (by omega), if_pos (by omega), show insF rk s t m = rk m from if_pos a]; rfl
    · by_cases b : m = t
      · rw [if_pos (by omega), if_neg (by omega), show insF rk s t m = rk s by unfold insF; rw [if_neg a, if_pos b]]; rfl
      · rw [if_neg (by omega), if_neg (by omega), show insF rk s t m = rk (m - 1) by unfold insF; rw [if_neg a, if_neg b, if_pos (by omega)]]
        obtain ⟨k, rfl⟩ : ∃ k, m = k + 1 := ⟨m - 1, by omega⟩
        show sm (fun i => g (rk i)) k + g (rk s) + g (rk k) = sm (fun i => g (rk i)) (k + 1) + g (rk s)
        rw [sm]; omega
theorem drk_ins {A B : Nat → Nat} {s t : Nat} {rk : Nat → Nat} (hB : ∀ k, k ≤ s → 0 < B k) (h : drk A B s rk) (hs : rk s = s) (ht : t ≤ s) (h1 : t = 0 ∨ ¬ A (rk (t - 1)) * B s < A s * B (rk (t - 1))) (h2 : ∀ j, t ≤ j → j < s → A (rk j) * B s < A s * B (rk j)) : drk A B (s + 1) (insF rk s t) := by
  have lo : ∀ j, j < t → dl A B (rk j) s := by
    intro j hj
    have hl : t ≠ 0 := by omega
    have h1 : ¬ A (rk (t - 1)) * B s < A s * B (rk (t - 1)) := h1.resolve_left hl
    have ht1 : rk (t - 1) < s := h.1 (t - 1) (by omega)
    have d1 : dl A B (rk (t - 1)) s := dl_to (fun z => by
      rcases z with z | ⟨_, z⟩
      · exact h1 z
      · omega) (by omega)
    by_cases e : j = t - 1
    · rw [e]; exact d1
    · exact dl_tr (hB _ (Nat.le_of_lt (h.1 j (by omega)))) (hB _ (Nat.le_of_lt ht1)) (hB s (Nat.le_refl _)) (h.2.2 j (t - 1) (by omega) (by omega)) d1
  have hi : ∀ j, t ≤ j → j < s → dl A B s (rk j) := fun j h3 h4 => Or.inl (h2 j h3 h4)
  refine ⟨fun i hi' => ?_, fun g => ?_, fun i j hij hj => ?_⟩
  · unfold insF
    split
    · have := h.1 i (by omega); omega
    · split
      · omega
      · split
        · have := h.1 (i - 1) (by omega); omega
        · omega
  · rw [ins_sm g rk ht (s + 1) (Nat.le_refl _), if_neg (by omega), Nat.add_sub_cancel, h.2.1 g, hs]; rfl
  · by_cases a : i < t
    · rw [show insF rk s t i = rk i from if_pos a]
      by_cases b : j < t
      · rw [show insF rk s t j = rk j from if_pos b]; exact h.2.2 i j hij (by omega)
      · by_cases b2 : j = t
        · rw [show insF rk s t j = rk s by unfold insF; rw [if_neg b, if_pos b2], hs]; exact lo i a
        · rw [show insF rk s t j = rk (j - 1) by unfold insF; rw [if_neg b, if_neg b2, if_pos (by omega)]]
          exact h.2.2 i (j - 1) (by omega) (by omega)
    · by_cases a2 : i = t
      · rw [show insF rk s t i = rk s by unfold insF; rw [if_neg a, if_pos a2], hs]
        rw [show insF rk s t j = rk (j - 1) by unfold insF; rw [if_neg (by omega), if_neg (by omega), if_pos (by omega)]]
        exact hi (j - 1) (by omega) (by omega)
      · rw [show insF rk s t i = rk (i - 1) by unfold insF; rw [if_neg a, if_neg a2, if_pos (by omega)]]
        rw [show insF rk s t j = rk (j - 1) by unfold insF; rw [if_neg (by omega), if_neg (by omega), if_pos (by omega)]]
        exact h.2.2 (i - 1) (j - 1) (by omega) (by omega)
noncomputable def dA (S : SPc) (R : RUc) (E : NEc) (s : Nat) : Nat := dbF (vcO S R E s)
def dB (S : SPc) (R : RUc) (E : NEc) (s : Nat) : Nat := toF (vcO S R E s) 5
theorem dB_le {S : SPc} {R : RUc} {E : NEc} {s : Nat} (hS : vSP S) (hR : vRU S R) (hE : vNE S E) (hs : s < E.ns) : dB S R E s ≤ 99000 := toF_le (F := vcO S R E s) (M := 19800) (fun h c p q => (vcO_b hS hR hE hs q).2.1) 5
theorem dA_le {S : SPc} {R : RUc} {E : NEc} {s : Nat} (hS : vSP S) (hR : vRU S R) (hE : vNE S E) (hs : s < E.ns) : dA S R E s ≤ 198000 := by
  have h1 := dB_le hS hR hE hs
  have h2 := ptO_to (vcO S R E s) 1
  unfold dA dbF
  unfold dB at h1
  omega
theorem dB_pos {S : SPc} {R : RUc} {E : NEc} {s : Nat} (hS : vSP S) (hR : vRU S R) (hE : vNE S E) (hs : s < E.ns) : 0 < dB S R E s := by
  obtain ⟨h, i, q⟩ := hE.2.2.2.2.2.1 s hs
  have h1 := hE.2.2.2.2.1 s h i hs q
  have hnh := hS.1
  have hw := (hR.2.2.2.2.2 h h1.1).1
  unfold dB toF
  have : sm (fun _ => 0) 5 < sm (vA (vcO S R E s)) 5 := sm_lt (i := h) (by omega) (fun k _ => Nat.zero_le _) (by rw [vA_s (vcO_t q)]; omega)
  omega
def cDB (σ : ST) (S : SPc) (R : RUc) (E : NEc) (n : Nat) : Prop := (∀ s, s < n → σ.1 1 0 8 s = nI (dA S R E s) ∧ σ.1 1 0 9 s = nI (dB S R E s)) ∧ ∃ rk, drk (dA S R E) (dB S R E) n rk ∧ ∀ i, i < n → σ.1 1 0 10 i = nI (rk i)
abbrev dOff : List RF := [(1, 0, 1), (1, 0, 2), (1, 0, 6), (1, 0, 7), (1, 0, 8), (1, 0, 9), (1, 0, 10)]
theorem b_lcm {a b : Nat} (ha : a < 2 ^ 63) (hb : b < 2 ^ 63) : lg_cmp (lN a) (lN b) = if b < a then 1 else if a = b then 0 else -1 := by
  unfold lg_cmp
  by_cases h : b < a
  · rw [if_pos h]; exact if_pos ((pk_lLT hb ha).mpr h)
  · rw [if_neg h, if_neg (show ¬ lN a > lN b from fun z => h ((pk_lLT hb ha).mp z))]
    by_cases h2 : a = b
    · rw [if_pos h2, if_pos (by rw [h2])]
    · rw [if_neg h2, if_neg (fun z => h2 ((pk_lEQ ha hb).mp z))]
section DB
variable {N e m k jv : Nat} {σ : ST} {Q : POST} {S : SPc} {R : RUc} {E : NEc}
theorem pr_lt {a b : Nat} (ha : a ≤ 198000) (hb : b ≤ 99000) : a * b < 2 ^ 63 := by
  have : a * b ≤ 198000 * 99000 := Nat.mul_le_mul ha hb
  omega
set_option maxRecDepth 100000 in
theorem c_isMoreDoubtful {s t as bs at' bt : Nat} {x1 x2 : Int32} (e1 : x1 = nI s) (e2 : x2 = nI t) (hs : s < 60) (ht : t < 60) (v1 : σ.1 1 0 8 s = nI as) (v2 : σ.1 1 0 9 s = nI bs) (v3 : σ.1 1 0 8 t = nI at') (v4 : σ.1 1 0 9 t = nI bt) (b1 : as ≤ 198000) (b2 : bs ≤ 99000) (b3 : at' ≤ 198000) (b4 : bt ≤ 99000) (hm : 60 ≤ m)
    (h1 : at' * bs < as * bt → Q (some (.inl (nI 1))) σ) (h0 : ¬ at' * bs < as * bt → Q (some (.inl (nI 0))) σ) :
    wp N m (e, 0) TX1_isMoreDoubtful 0 [some (.inr (.inr (1, 0, 0))), some (.inl x1), some (.inl x2), none, none, none, none] [] σ Q := by
  obtain ⟨n, rfl⟩ := il_ex hm
  have i1 := il_in e1 hs (n := 60) (by omega)
  have i2 := il_in e2 ht (n := 60) (by omega)
  have w1 : σ.1 1 0 8 x1.toNatClampNeg = nI as := by rw [il_cl e1 (by omega)]; exact v1
  have w2 : σ.1 1 0 9 x1.toNatClampNeg = nI bs := by rw [il_cl e1 (by omega)]; exact v2
  have w3 : σ.1 1 0 8 x2.toNatClampNeg = nI at' := by rw [il_cl e2 (by omega)]; exact v3
  have w4 : σ.1 1 0 9 x2.toNatClampNeg = nI bt := by rw [il_cl e2 (by omega)]; exact v4
  refine ⟨i1, i2, i2, i1, ?_⟩
  have c : lg_cmp ((σ.1 1 0 8 x1.toNatClampNeg).toInt64 * (σ.1 1 0 9 x2.toNatClampNeg).toInt64) ((σ.1 1 0 8 x2.toNatClampNeg).toInt64 * (σ.1 1 0 9 x1.toNatClampNeg).toInt64) = if at' * bs < as * bt then 1 else if as * bt = at' * bs then 0 else -1 := by
    rw [w1, w2, w3, w4, nI_l (by omega), nI_l (by omega), nI_l (by omega), nI_l (by omega), lN_mul, lN_mul, b_lcm (pr_lt b1 b4) (pr_lt b3 b2)]
  show (brI .le (lg_cmp _ _) 0 → _) ∧ (¬ brI .le (lg_cmp _ _) 0 → _)
  rw [c]
  by_cases q : at' * bs < as * bt
  · rw [if_pos q]
    exact ⟨fun z => absurd z (show ¬ (1 : Int32) ≤ 0 by decide), fun _ => ⟨trivial, Or.inr (Or.inr rfl), h1 q⟩⟩
  · rw [if_neg q]
    refine ⟨fun _ => ⟨Or.inr (Or.inl rfl), h0 q⟩, fun z => absurd (show (if as * bt = at' * bs then (0 : Int32) else -1) ≤ 0 by split <;> decide) z⟩
set_option maxRecDepth 100000 in
theorem ld_in (hS : vSP S) (hR : vRU S R) (hE : vNE S E) {s M : Nat} {rk : Nat → Nat} (hM : 100 ≤ M) (hs : s < E.ns) (h89 : ∀ z, z ≤ s → σ.1 1 0 8 z = nI (dA S R E z) ∧ σ.1 1 0 9 z = nI (dB S R E z)) (hrk : drk (dA S R E) (dB S R E) s rk) {x2 : Int32} (e2 : x2 = nI s)
    (K : ∀ (m t : Nat) (τ : ST) (x3 : Int32), M ≤ m → off [(1, 0, 10)] σ τ → t ≤ s → (t = 0 ∨ ¬ dA S R E (rk (t - 1)) * dB S R E s < dA S R E s * dB S R E (rk (t - 1))) → (∀ j, t ≤ j → j < s → dA S R E (rk j) * dB S R E s < dA S R E s * dB S R E (rk j)) → (∀ j, j < t → τ.1 1 0 10 j = nI (rk j)) → (∀ j, t < j → j ≤ s → τ.1 1 0 10 j = nI (rk (j - 1))) → x3 = nI t → wp N m (e + 1, 0) TX1_listDoubts 51 [some (.inr (.inr (1, 0, 0))), some (.inr (.inr (3, k, 0))), some (.inl x2), some (.inl x3)] [] τ Q) :
    ∀ (t m : Nat) (τ : ST) (x3 : Int32), t ≤ s → 30 * t + 30 + M ≤ m → off [(1, 0, 10)] σ τ → (∀ j, t ≤ j → j < s → dA S R E (rk j) * dB S R E s < dA S R E s * dB S R E (rk j)) → (∀ j, j < t → τ.1 1 0 10 j = nI (rk j)) → (∀ j, t < j → j ≤ s → τ.1 1 0 10 j = nI (rk (j - 1))) → x3 = nI t →
      wp N m (e + 1, 0) TX1_listDoubts 27 [some (.inr (.inr (1, 0, 0))), some (.inr (.inr (3, k, 0))), some (.inl x2), some (.inl x3)] [] τ Q := by
  have hns := vNE_ns hS hE
  intro t
  induction t with
  | zero =>
    intro m τ x3 ht hm ho h1 h2 h3 e3
    obtain ⟨n, rfl⟩ := il_ex (K := 2) (m := m) (by omega)
    refine b_le e3 z0 (by omega) (by omega) (fun _ => ?_) (fun q => by omega)
    exact K _ 0 τ _ (by omega) ho (by omega) (Or.inl rfl) h1 h2 h3 e3
  | succ t ih =>
    intro m τ x3 ht hm ho h1 h2 h3 e3
    obtain ⟨n, rfl⟩ := il_ex (K := 26) (m := m) (by omega)
    have g : x3 - Int32.ofInt 1 = nI t := il_sub1 e3
    have hrt := hrk.1 t (by omega)
    have w : τ.1 1 0 10 (x3 - Int32.ofInt 1).toNatClampNeg = nI (rk t) := by rw [il_cl g (by omega)]; exact h2 t (by omega)
    have r1 := h89 s (Nat.le_refl _)
    have r2 := h89 (rk t) (by omega)
    refine b_le e3 z0 (by omega) (by omega) (fun q => by omega) (fun _ => ?_)
    refine ⟨il_in g (by omega) (by omega), ?_⟩
    refine ⟨trivial, c_isMoreDoubtful e2 w (by omega) (by omega) (by rw [off_1 ho (by decide)]; exact r1.1) (by rw [off_1 ho (by decide)]; exact r1.2) (by rw [off_1 ho (by decide)]; exact r2.1) (by rw [off_1 ho (by decide)]; exact r2.2) (dA_le hS hR hE hs) (dB_le hS hR hE hs) (dA_le hS hR hE (by omega)) (dB_le hS hR hE (by omega)) (by omega) (fun q => ?_) (fun q => ?_)⟩
    · refine b_eq (a := 1) rfl z0 (by omega) (by omega) (fun q => by omega) (fun _ => ?_)
      refine ⟨il_in g (by omega) (by omega), il_in e3 (by omega) (by omega), ?_⟩
      refine ⟨trivial, ih _ _ _ (by omega) (by omega) (off_uI ho (by decide)) (fun j h4 h5 => ?_) (fun j hj => ?_) (fun j h4 h5 => ?_) (il_dec e3)⟩
      · by_cases z : j = t
        · rw [z]; exact q
        · exact h1 j (by omega) h5
      · rw [il_cl e3 (by omega), uI_ne _ _ _ _ _ _ (by omega)]; exact h2 j (by omega)
      · rw [il_cl e3 (by omega), uI_if]
        by_cases z : j = t + 1
        · rw [if_pos z, z, Nat.add_sub_cancel]; exact w
        · rw [if_neg z]; exact h3 j (by omega) h5
    · refine b_eq (a := 0) rfl z0 (by omega) (by omega) (fun _ => ?_) (fun q => absurd rfl q)
      exact K _ (t + 1) τ _ (by omega) ho ht (Or.inr q) h1 h2 h3 e3
theorem drk_congr {A B : Nat → Nat} {n : Nat} {rk rk' : Nat → Nat} (h : drk A B n rk) (e : ∀ i, i < n → rk' i = rk i) : drk A B n rk' :=
  ⟨fun i hi => by rw [e i hi]; exact h.1 i hi, fun g => by rw [← h.2.1 g]; exact sm_congr (fun i hi => by rw [e i hi]), fun i j hij hj => by rw [e i (by omega), e j hj]; exact h.2.2 i j hij hj⟩
set_option maxRecDepth 100000 in
theorem ld_loop (hS : vSP S) (hR : vRU S R) (hE : vNE S E) (cS : cSP σ 0 S) (cR : cRU σ 0 S R) (cE : cNE σ k E) (hQ : ∀ τ, off dOff σ τ → cDB τ S R E E.ns → Q none τ) :
    ∀ (r s m : Nat) (τ : ST) (x2 : Int32) (o3 : Option AV), s + r = E.ns → 2000 * r + 6000 ≤ m → off dOff σ τ → cDB τ S R E s → x2 = nI s →
      wp N m (e + 3, 0) TX1_listDoubts 2 [some (.inr (.inr (1, 0, 0))), some (.inr (.inr (3, k, 0))), some (.inl x2), o3] [] τ Q := by
  have hns := vNE_ns hS hE
  intro r
  induction r with
  | zero =>
    intro s m τ x2 o3 hr hm ho hd e2
    obtain ⟨n, rfl⟩ := il_ex (K := 10) (m := m) (by omega)
    obtain rfl : s = E.ns := by omega
    have kE : cNE τ k E := cNE_off ho (by simp) cE
    refine b_ge e2 kE.1 (by omega) (by omega) (fun _ => ?_) (fun q => by omega)
    exact hQ τ ho hd
  | succ r ih =>
    intro s m τ x2 o3 hr hm ho hd e2
    obtain ⟨n, rfl⟩ := il_ex (K := 30) (m := m) (by omega)
    have kS : cSP τ 0 S := cSP_off ho (by decide) cS
    have kR : cRU τ 0 S R := cRU_off ho (by decide) cR
    have kE : cNE τ k E := cNE_off ho (by simp) cE
    have hs : s < E.ns := by omega
    refine b_ge e2 kE.1 (by omega) (by omega) (fun q => by omega) (fun _ => ?_)
    refine b_ge e2 i60 (by omega) (by omega) (fun q => by omega) (fun _ => ?_)
    refine ⟨trivial, c_tally (e := e) hS hR hE kS kR kE hs e2 (by omega) ?_⟩
    intro τ1 ho1 v1
    refine ⟨trivial, c_doubtPoints (e := e + 1) v1 (by omega) ?_⟩
    have g8 : ∀ z, τ1.1 1 0 8 z = τ.1 1 0 8 z := fun z => off_1 ho1 (by decide) z
    have g9 : ∀ z, τ1.1 1 0 9 z = τ.1 1 0 9 z := fun z => off_1 ho1 (by decide) z
    have g10 : ∀ z, τ1.1 1 0 10 z = τ.1 1 0 10 z := fun z => off_1 ho1 (by decide) z
    have i2 := il_in e2 (show s < 60 by omega) (by omega)
    refine ⟨i2, i2, ?_⟩
    have cl := il_cl e2 (by omega)
    rw [cl]
    obtain ⟨h89, rk0, hrk0, h10⟩ := hd
    have hrk : drk (dA S R E) (dB S R E) s (fun i => if i = s then s else rk0 i) := drk_congr hrk0 (fun i hi => if_neg (by omega))
    have hsv : (fun i => if i = s then s else rk0 i) s = s := if_pos rfl
    refine adv 2 (2000 * r + 7900) (by omega) (fun n2 hn2 => ?_)
    have ho2 : off dOff σ (uI (uI τ1 1 0 8 s (nI (dbF (vcO S R E s)))) 1 0 9 s ((uI τ1 1 0 8 s (nI (dbF (vcO S R E s)))).1 1 0 2 0)) := off_uI (off_uI (off_tr ho (off_in ho1 (by decide))) (by decide)) (by decide)
    refine ld_in (e := e + 2) (M := 2000 * r + 6020) (rk := fun i => if i = s then s else rk0 i) hS hR hE (by omega) hs (fun z hz => ?_) hrk e2 ?_ s n2 _ _ (Nat.le_refl _) (by omega) (off_rf _ _) (fun j h1 h2 => by omega) (fun j hj => ?_) (fun j h1 h2 => by omega) e2
    · refine ⟨?_, ?_⟩
      · rw [uI_nr _ _ _ _ _ _ (by decide), uI_if]
        by_cases q : z = s
        · rw [if_pos q, q]; rfl
        · rw [if_neg q, g8]; exact (h89 z (by omega)).1
      · rw [uI_if]
        by_cases q : z = s
        · rw [if_pos q, q, uI_nr _ _ _ _ _ _ (by decide)]; exact v1.2.1
        · rw [if_neg q, uI_nr _ _ _ _ _ _ (by decide), g9]; exact (h89 z (by omega)).2
    · intro m3 t τ3 x3 hm3 ho3 ht t1 t2 t3 t4 e3
      obtain ⟨n3, rfl⟩ := il_ex (K := 8) (m := m3) (by omega)
      refine ⟨il_in e3 (by omega) (by omega), ?_⟩
      rw [il_cl e3 (by omega)]
      have ho3' : off dOff σ τ3 := off_tr ho2 (off_in ho3 (by decide))
      refine ⟨trivial, ih (s + 1) _ _ _ _ (by omega) (by omega) (off_uI ho3' (by decide)) ⟨fun z hz => ?_, insF (fun i => if i = s then s else rk0 i) s t, drk_ins (fun z hz => dB_pos hS hR hE (by omega)) hrk hsv ht t1 t2, fun i hi => ?_⟩ (il_inc e2)⟩
      · rw [uI_nr _ _ _ _ _ _ (by decide), uI_nr _ _ _ _ _ _ (by decide), off_1 ho3 (by decide), off_1 ho3 (by decide)]
        refine ⟨?_, ?_⟩
        · rw [uI_nr _ _ _ _ _ _ (by decide), uI_if]
          by_cases q : z = s
          · rw [if_pos q, q]; rfl
          · rw [if_neg q, g8]; exact (h89 z (by omega)).1
        · rw [uI_if]
          by_cases q : z = s
          · rw [if_pos q, q, uI_nr _ _ _ _ _ _ (by decide)]; exact v1.2.1
          · rw [if_neg q, uI_nr _ _ _ _ _ _ (by decide), g9]; exact (h89 z (by omega)).2
      · rw [uI_if]
        by_cases a : i = t
        · rw [if_pos a, show insF (fun i => if i = s then s else rk0 i) s t i = s by unfold insF; rw [if_neg (by omega), if_pos a]; exact hsv]
          exact e2
        · rw [if_neg a]
          by_cases b : i < t
          · rw [t3 i b]; congr 1; unfold insF; rw [if_pos b]
          · rw [t4 i (by omega) (by omega)]; congr 1; unfold insF; rw [if_neg b, if_neg a, if_pos (show i ≤ s by omega)]
    · rw [uI_nr _ _ _ _ _ _ (by decide), uI_nr _ _ _ _ _ _ (by decide), g10, h10 j hj]
      congr 1
      exact (if_neg (by omega)).symm
set_option maxRecDepth 100000 in
/-- Ballot.listDoubts -/
theorem c_listDoubts (hS : vSP S) (hR : vRU S R) (hE : vNE S E) (cS : cSP σ 0 S) (cR : cRU σ 0 S R) (cE : cNE σ k E) (hm : 130000 ≤ m) (hQ : ∀ τ, off dOff σ τ → cDB τ S R E E.ns → Q none τ) :
    wp N m (e + 3, 0) TX1_listDoubts 0 [some (.inr (.inr (1, 0, 0))), some (.inr (.inr (3, k, 0))), none, none] [] σ Q := by
  have hns := vNE_ns hS hE
  refine adv 2 129000 (by omega) (fun n hn => ?_)
  exact ld_loop hS hR hE cS cR cE hQ E.ns 0 n _ _ _ (by omega) (by omega) (off_rf _ _) ⟨fun s hs => absurd hs (Nat.not_lt_zero _), fun i => i, ⟨fun i hi => absurd hi (Nat.not_lt_zero _), fun g => rfl, fun i j _ hj => absurd hj (Nat.not_lt_zero _)⟩, fun i hi => absurd hi (Nat.not_lt_zero _)⟩ oi_0
/-- which SLOT is the i-th by its DOUBT -/
def dSl (S : SPc) (R : RUc) (E : NEc) (i s : Nat) : Prop := s < E.ns ∧ ahF (dA S R E) (dB S R E) E.ns s = i
theorem dSl_one (hS : vSP S) (hR : vRU S R) (hE : vNE S E) {i s t : Nat} (h1 : dSl S R E i s) (h2 : dSl S R E i t) : s = t := ahF_inj (fun k hk => dB_pos hS hR hE hk) h1.1 h2.1 (by rw [h1.2, h2.2])
theorem c_mostDoubtful (hS : vSP S) (hR : vRU S R) (hE : vNE S E) (c : cDB σ S R E E.ns) {i : Nat} (hi : i < E.ns) {x1 : Int32} (e1 : x1 = nI i) (hm : 30 ≤ m) (hQ : ∀ s, dSl S R E i s → Q (some (.inl (nI s))) σ) :
    wp N m (e, 0) TX1_mostDoubtful 0 [some (.inr (.inr (1, 0, 0))), some (.inl x1)] [] σ Q := by
  obtain ⟨n, rfl⟩ := il_ex hm
  have hns := vNE_ns hS hE
  obtain ⟨_, rk, hrk, h10⟩ := c
  refine b_lt e1 z0 (by omega) (by omega) (fun q => by omega) (fun _ => ?_)
  refine b_ge e1 i60 (by omega) (by omega) (fun q => by omega) (fun _ => ?_)
  refine ⟨il_in e1 (by omega) (by omega), trivial, Or.inl rfl, ?_⟩
  rw [il_cl e1 (by omega)]
  have := hQ (rk i) ⟨hrk.1 i hi, drk_ah hrk hi (fun k hk => dB_pos hS hR hE hk)⟩
  rw [← h10 i hi] at this
  exact this
theorem c_isAboveHalf (hS : vSP S) (hR : vRU S R) (hE : vNE S E) (c : cDB σ S R E E.ns) {s : Nat} (hs : s < E.ns) {x1 : Int32} (e1 : x1 = nI s) (hm : 40 ≤ m) (h1 : dB S R E s < 2 * dA S R E s → Q (some (.inl (nI 1))) σ) (h0 : 2 * dA S R E s ≤ dB S R E s → Q (some (.inl (nI 0))) σ) :
    wp N m (e, 0) TX1_isAboveHalf 0 [some (.inr (.inr (1, 0, 0))), some (.inl x1)] [] σ Q := by
  obtain ⟨n, rfl⟩ := il_ex hm
  have hns := vNE_ns hS hE
  have r := c.1 s hs
  have ba := dA_le hS hR hE hs
  have bb := dB_le hS hR hE hs
  have w1 : Int32.ofInt 2 * σ.1 1 0 8 x1.toNatClampNeg = nI (2 * dA S R E s) := by rw [il_cl e1 (by omega), r.1, i2, pk_mul]
  have w2 : σ.1 1 0 9 x1.toNatClampNeg = nI (dB S R E s) := by rw [il_cl e1 (by omega), r.2]
  have ii := il_in e1 (show s < 60 by omega) (by omega)
  refine b_lt e1 z0 (by omega) (by omega) (fun q => by omega) (fun _ => ?_)
  refine b_ge e1 i60 (by omega) (by omega) (fun q => by omega) (fun _ => ?_)
  refine ⟨ii, ii, ?_⟩
  refine b_le w1 w2 (by omega) (by omega) (fun q => ?_) (fun q => ?_)
  · exact ⟨Or.inr (Or.inl rfl), h0 q⟩
  · exact ⟨trivial, Or.inr (Or.inr rfl), h1 q⟩
end DB
