/-! what a step asked, taken apart -/
theorem ldR_inv {ls : List (Option AV)} {k : Nat} {K : AV → Prop} (h : ldR ls k K) : ∃ r, nth none ls k = some (.inr (.inr r)) ∧ K (.inr (.inr r)) := by
  unfold ldR at h
  split at h
  · exact ⟨_, by assumption, h⟩
  · exact h.elim
theorem ldI_inv {ls : List (Option AV)} {k : Nat} {K : AV → Prop} (h : ldI ls k K) : ∃ r, nth none ls k = some (.inl r) ∧ K (.inl r) := by
  unfold ldI at h
  split at h
  · exact ⟨_, by assumption, h⟩
  · exact h.elim
theorem ldJ_inv {ls : List (Option AV)} {k : Nat} {K : AV → Prop} (h : ldJ ls k K) : ∃ r, nth none ls k = some (.inr (.inl r)) ∧ K (.inr (.inl r)) := by
  unfold ldJ at h
  split at h
  · exact ⟨_, by assumption, h⟩
  · exact h.elim
theorem cond_inv {c : Bool} {P : Prop} (h : cond c P False) : c = true ∧ P := by
  cases c
  · exact h.elim
  · exact ⟨rfl, h⟩
theorem s1_inv {ls : List (Option AV)} {k : Nat} {v : AV} {K : List (Option AV) → Prop} (h : s1 ls k v K) : inL ls k = true ∧ noLg ls k = true ∧ K (stl ls k (some v)) := by
  obtain ⟨h1, h2⟩ := cond_inv h
  simp only [Bool.and_eq_true] at h1
  exact ⟨h1.1, h1.2, h2⟩
theorem stI_inv {ls : List (Option AV)} {k : Nat} {st : List AV} {K : List (Option AV) → List AV → Prop} (h : stI ls k st K) : ∃ x st', st = .inl x :: st' ∧ inL ls k = true ∧ noLg ls k = true ∧ K (stl ls k (some (.inl x))) st' := by
  unfold stI at h
  split at h
  · exact ⟨_, _, rfl, s1_inv h⟩
  · exact h.elim
theorem stR_inv {ls : List (Option AV)} {k : Nat} {st : List AV} {K : List (Option AV) → List AV → Prop} (h : stR ls k st K) : ∃ x st', st = .inr (.inr x) :: st' ∧ inL ls k = true ∧ noLg ls k = true ∧ K (stl ls k (some (.inr (.inr x)))) st' := by
  unfold stR at h
  split at h
  · exact ⟨_, _, rfl, s1_inv h⟩
  · exact h.elim
theorem stJ_inv {ls : List (Option AV)} {k : Nat} {st : List AV} {K : List (Option AV) → List AV → Prop} (h : stJ ls k st K) : ∃ x st', st = .inr (.inl x) :: st' ∧ inL ls (k + 1) = true ∧ noLg ls k = true ∧ K (stl (stl ls k (some (.inr (.inl x)))) (k + 1) none) st' := by
  unfold stJ at h
  split at h
  · obtain ⟨h1, h2⟩ := cond_inv h
    simp only [Bool.and_eq_true] at h1
    exact ⟨_, _, rfl, h1.1, h1.2, h2⟩
  · exact h.elim
theorem iinc_inv {ls : List (Option AV)} {k : Nat} {n : Int} {K : List (Option AV) → Prop} (h : ldX ls k (fun x => s1 ls k (.inl (x + Int32.ofInt n)) K)) : ∃ x, nth none ls k = some (.inl x) ∧ inL ls k = true ∧ noLg ls k = true ∧ K (stl ls k (some (.inl (x + Int32.ofInt n)))) := by
  unfold ldX at h
  split at h
  · exact ⟨_, by assumption, s1_inv h⟩
  · exact h.elim
theorem un_inv {st : List AV} {K : Int32 → List AV → Prop} (h : un st K) : ∃ x st', st = .inl x :: st' ∧ K x st' := by
  unfold un at h
  split at h
  · exact ⟨_, _, rfl, h⟩
  · exact h.elim
theorem bn_inv {st : List AV} {K : Int32 → Int32 → List AV → Prop} (h : bn st K) : ∃ x y st', st = .inl y :: .inl x :: st' ∧ K x y st' := by
  unfold bn at h
  split at h
  · exact ⟨_, _, _, rfl, h⟩
  · exact h.elim
theorem unJ_inv {st : List AV} {K : Int64 → List AV → Prop} (h : unJ st K) : ∃ x st', st = .inr (.inl x) :: st' ∧ K x st' := by
  unfold unJ at h
  split at h
  · exact ⟨_, _, rfl, h⟩
  · exact h.elim
theorem bnJ_inv {st : List AV} {K : Int64 → Int64 → List AV → Prop} (h : bnJ st K) : ∃ x y st', st = .inr (.inl y) :: .inr (.inl x) :: st' ∧ K x y st' := by
  unfold bnJ at h
  split at h
  · exact ⟨_, _, _, rfl, h⟩
  · exact h.elim
theorem rf_inv {st : List AV} {K : Nat → Nat → Nat → List AV → Prop} (h : rf st K) : ∃ c k j st', st = .inr (.inr (c, k, j)) :: st' ∧ K c k j st' := by
  unfold rf at h
  split at h
  · exact ⟨_, _, _, _, rfl, h⟩
  · exact h.elim
theorem dup_inv {st : List AV} {K : AV → List AV → Prop} (h : d1 st K) : ∃ v st', st = v :: st' ∧ cat2 v = 1 ∧ K v st' := by
  unfold d1 at h
  split at h
  · obtain ⟨h1, h2⟩ := cond_inv h
    exact ⟨_, _, rfl, Nat.eq_of_beq_eq_true h1, h2⟩
  · exact h.elim
theorem dup2_inv {st : List AV} {K : AV → AV → List AV → Prop} (h : d2 st K) : ∃ v w st', st = v :: w :: st' ∧ cat2 v = 1 ∧ cat2 w = 1 ∧ K v w st' := by
  unfold d2 at h
  split at h
  · obtain ⟨h1, h2⟩ := cond_inv h
    simp only [Bool.and_eq_true, Nat.beq_eq] at h1
    exact ⟨_, _, _, rfl, h1.1, h1.2, h2⟩
  · exact h.elim
theorem ret_inv {st : List AV} {a : Nat} {K : Int32 → Prop} (h : rtI a st K) : ∃ x, st = [.inl x] ∧ (a = 0 ∨ x = 0 ∨ x = 1) ∧ K x := by
  unfold rtI at h
  split at h
  · exact ⟨_, rfl, h⟩
  · exact h.elim
theorem rev_inv {st : List AV} {K : Prop} (h : rtV st K) : st = [] ∧ K := by
  unfold rtV at h
  split at h
  · exact ⟨rfl, h⟩
  · exact h.elim
theorem ldc_inv {a d : Nat} {st : List AV} {P P2 : Prop} (h : ldcK a d st P P2) : (Nat.beq a 0 = true ∧ P) ∨ (Nat.beq a 0 = false ∧ 4 ≤ d ∧ catS st ≤ 8 ∧ P2) := by
  unfold ldcK at h
  cases ha : Nat.beq a 0
  · rw [ha] at h
    right
    refine ⟨rfl, ?_⟩
    match d, h with
    | e + 4, h =>
      obtain ⟨h1, h2⟩ := cond_inv h
      exact ⟨by simp, Nat.le_of_ble_eq_true h1, h2⟩
  · rw [ha] at h
    exact Or.inl ⟨rfl, h⟩
theorem put_inv {a b : Nat} {st : List AV} {K1 : Nat → Int32 → List AV → Prop} {K2 : Nat → Int64 → List AV → Prop} (h : ptf a b st K1 K2) :
    (∃ x k st', st = .inl x :: .inr (.inr (a, k, 0)) :: st' ∧ (fkd a b).1 = 0 ∧ K1 k x st') ∨ (∃ x k st', st = .inl x :: .inr (.inr (a, k, 0)) :: st' ∧ (fkd a b).1 = 3 ∧ (x = 0 ∨ x = 1) ∧ K1 k x st') ∨ (∃ x k st', st = .inr (.inl x) :: .inr (.inr (a, k, 0)) :: st' ∧ (fkd a b).1 = 1 ∧ K2 k x st') := by
  unfold ptf at h
  split at h
  · obtain ⟨h1, h2⟩ := cond_inv h
    have h1 := Nat.eq_of_beq_eq_true h1
    subst h1
    split at h2
    · exact Or.inl ⟨_, _, _, rfl, by assumption, h2⟩
    · exact Or.inr (Or.inl ⟨_, _, _, rfl, by assumption, h2⟩)
    · exact h2.elim
  · obtain ⟨h1, h2⟩ := cond_inv h
    simp only [Bool.and_eq_true, Nat.beq_eq] at h1
    obtain ⟨rfl, h1⟩ := h1
    exact Or.inr (Or.inr ⟨_, _, _, rfl, h1, h2⟩)
  · exact h.elim
theorem stat_inv {a : Nat} {P1 P2 P3 : Prop} (h : cond (Nat.beq a 900) P1 (cond (Nat.beq a 901) P2 P3)) : (a = 900 ∧ P1) ∨ (a = 901 ∧ P2) ∨ (a ≠ 900 ∧ a ≠ 901 ∧ P3) := by
  cases h1 : Nat.beq a 900
  · rw [h1] at h
    cases h2 : Nat.beq a 901
    · rw [h2] at h
      exact Or.inr (Or.inr ⟨fun q => by subst q; exact absurd h1 (by decide), fun q => by subst q; exact absurd h2 (by decide), h⟩)
    · rw [h2] at h
      exact Or.inr (Or.inl ⟨Nat.eq_of_beq_eq_true h2, h⟩)
  · rw [h1] at h
    exact Or.inl ⟨Nat.eq_of_beq_eq_true h1, h⟩
theorem calV_inv {ih : FR} {d : Nat × Nat} {a b : Nat} {st : List AV} {σ : ST} {K : Option AV → List AV → ST → Prop} (h : cal ih d true a b st σ K) :
    ∃ e c k rest, d.1 = e + 1 ∧ st.drop b = .inr (.inr (c, k, 0)) :: rest ∧ c = (inf a).1 ∧ catS rest ≤ 8 ∧ catS (st.take b) + 1 ≤ (inf a).2 ∧ (st.take b).length = b ∧ ih (e, 0) (tab a) 0 (ent (inf a).2 (.inr (.inr (c, k, 0)) :: (st.take b).reverse)) [] σ (fun v σ' => K v rest σ') := by
  unfold cal at h
  obtain ⟨d1, d2⟩ := d
  match d1, h with
  | e + 1, h =>
    simp only at h
    split at h
    · obtain ⟨h1, h2⟩ := cond_inv h
      simp only [Bool.and_eq_true, Nat.beq_eq, Nat.ble_eq] at h1
      exact ⟨e, _, _, _, rfl, by assumption, h1.1.1.1, h1.1.1.2, h1.1.2, h1.2, h2.2⟩
    · contradiction
    · exact h.elim
theorem calS_inv {ih : FR} {d : Nat × Nat} {a b : Nat} {st : List AV} {σ : ST} {K : Option AV → List AV → ST → Prop} (h : cal ih d false a b st σ K) :
    ∃ e, d.1 = e + 1 ∧ catS (st.drop b) ≤ 8 ∧ catS (st.take b) ≤ (inf a).2 ∧ (st.take b).length = b ∧ ih (e, 0) (tab a) 0 (ent (inf a).2 (st.take b).reverse) [] σ (fun v σ' => K v (st.drop b) σ') := by
  unfold cal at h
  obtain ⟨d1, d2⟩ := d
  match d1, h with
  | e + 1, h =>
    obtain ⟨h1, h2⟩ := cond_inv h
    simp only [Bool.and_eq_true, Nat.beq_eq, Nat.ble_eq] at h1
    exact ⟨e, rfl, h1.1.1, h1.1.2, h1.2, h2.2⟩
theorem arr_inv {N c j kd : Nat} {K : Nat → Prop} (h : arr N c j kd K) : ∃ L, arO N c j = some (kd, L) ∧ K L := by
  unfold arr at h
  split at h
  · obtain ⟨h1, h2⟩ := cond_inv h
    have h1 := Nat.eq_of_beq_eq_true h1
    subst h1
    exact ⟨_, by assumption, h2⟩
  · exact h.elim
theorem arl_inv {N c j : Nat} {K : Nat → Prop} (h : arl N c j K) : ∃ kd L, arO N c j = some (kd, L) ∧ ¬ kd = 0 ∧ K L := by
  unfold arl at h
  split at h
  · rename_i q L e
    refine ⟨q, L, e, ?_⟩
    cases hq : Nat.beq q 0
    · rw [hq] at h
      exact ⟨fun z => by subst z; exact absurd hq (by decide), h⟩
    · rw [hq] at h
      exact h.elim
  · exact h.elim
theorem rfo_inv {c j i : Nat} {K : AV → Prop} (h : rfo c j i K) : K (.inr (.inr (raf c j i))) := by
  unfold rfo at h
  unfold raf
  split at h
  · rename_i e
    rw [e]
    exact h
  · exact h.elim
theorem cndF_inv {c : Bool} {P : Prop} (h : cond c False P) : c = false ∧ P := by
  cases c
  · exact ⟨rfl, h⟩
  · exact h.elim
theorem swi_inv {M : TB} {i : Nat} {x : Int32} {K : Nat → Prop} (h : swi M i x K) : ∃ l dt, swl M.2.1 i = some (l, dt) ∧ swK K x dt l := by
  unfold swi at h
  split at h
  · exact ⟨_, _, by assumption, h⟩
  · exact h.elim
theorem cpy_inv {d : Nat × Nat} {N : Nat} {st : List AV} {σ : ST} {K : List AV → ST → Prop} (h : cpy d N st σ K) :
    ∃ (e : Nat) (n dp : Int32) (c' k' j' : Nat) (sp : Int32) (c k j : Nat) (rest : List AV) (L L' : Nat), d.1 = e + 1 ∧ st = .inl n :: .inl dp :: .inr (.inr (c', k', j')) :: .inl sp :: .inr (.inr (c, k, j)) :: rest ∧ arO N c j = some (1, L) ∧ arO N c' j' = some (1, L') ∧ ¬ c' = 13 ∧ ¬ c = 13 ∧ catS rest ≤ 8 ∧
      ¬ sp < 0 ∧ ¬ dp < 0 ∧ ¬ n < 0 ∧ sp.toNatClampNeg + n.toNatClampNeg ≤ L ∧ dp.toNatClampNeg + n.toNatClampNeg ≤ L' ∧ K rest (cpI σ c k j c' k' j' sp.toNatClampNeg dp.toNatClampNeg n.toNatClampNeg) := by
  unfold cpy at h
  obtain ⟨d1, d2⟩ := d
  match d1, h with
  | e + 1, h =>
    simp only at h
    split at h
    · obtain ⟨h1, h2⟩ := cond_inv h
      simp only [Bool.and_eq_true, Nat.beq_eq, Nat.ble_eq, Bool.not_eq_true'] at h1
      obtain ⟨L, h3, h4⟩ := arr_inv h2
      obtain ⟨L', h5, h6⟩ := arr_inv h4
      refine ⟨e, _, _, _, _, _, _, _, _, _, _, L, L', rfl, rfl, h3, h5, fun q => ?_, fun q => ?_, h1.2, h6⟩
      · rw [q] at h1; exact absurd h1.1.1 (by decide)
      · rw [q] at h1; exact absurd h1.1.2 (by decide)
    · exact h.elim
theorem oct_inv {d : Nat × Nat} {st : List AV} {σ : ST} {K : Nat × Nat → List AV → ST → Prop} (h : oct d st σ K) :
    ∃ (e g : Nat) (q : Int32) (rest : List AV), d = (e + 10, g + 1) ∧ st = .inr (.inr (12, 0, 1)) :: .inl q :: .inr (.inr (10, 0, 0)) :: rest ∧ catS rest ≤ 8 ∧
      (¬ (q < 0 ∨ σ.1 10 0 17 0 ≤ q ∨ 480 ≤ q) → K (e + 10, g) (.inl 0 :: rest) (uL σ 12 0 1 0 (σ.1 10 0 2 q.toNatClampNeg).toInt64)) ∧ ((q < 0 ∨ σ.1 10 0 17 0 ≤ q ∨ 480 ≤ q) → K (e + 10, g) (.inl 1 :: rest) σ) := by
  unfold oct at h
  split at h
  · split at h
    · obtain ⟨h1, h2⟩ := cond_inv h
      exact ⟨_, _, _, _, rfl, rfl, Nat.le_of_ble_eq_true h1, h2⟩
    · exact h.elim
  · exact h.elim
theorem isI_inv {r : Except DecodeError (Instr × Nat)} {x : Instr} (h : isI r x = true) : ∃ n, r = .ok (x, n) := by
  unfold isI at h
  split at h
  · simp only [decide_eq_true_eq] at h
    subst h
    exact ⟨_, rfl⟩
  · cases h
theorem swT_aux {M : TB} {rp : Nat} {lo : Int} {K : Nat → Prop} {x : Int32} {dt : Nat} : ∀ (l : List (Int32 × Nat)) (os : List Int) (k : Nat), swC M rp lo k l os = true → swK K x dt l →
    (∃ t off j, x.toInt = lo + (k + j : Nat) ∧ os[j]? = some off ∧ (rp : Int) + off = (rpc M t : Int) ∧ K t) ∨ ((∀ j : Nat, j < os.length → x.toInt ≠ lo + (k + j : Nat)) ∧ K dt)
  | [], [], k, _, h => Or.inr ⟨fun j hj => absurd hj (by simp), h⟩
  | [], o :: os, k, hc, h => by simp [swC] at hc
  | (v, t) :: l, [], k, hc, h => by simp [swC] at hc
  | (v, t) :: l, o :: os, k, hc, h => by
    simp only [swC, Bool.and_eq_true, decide_eq_true_eq] at hc
    obtain ⟨⟨h1, h2⟩, h3⟩ := hc
    obtain ⟨k1, k2⟩ := h
    by_cases hx : x = v
    · exact Or.inl ⟨t, o, 0, by rw [hx, h1]; simp, rfl, h2, k1 hx⟩
    · rcases swT_aux l os (k + 1) h3 (k2 hx) with ⟨t', off, j, e1, e2, e3, e4⟩ | ⟨e1, e2⟩
      · exact Or.inl ⟨t', off, j + 1, by rw [e1]; congr 1; omega, e2, e3, e4⟩
      · refine Or.inr ⟨fun j hj => ?_, e2⟩
        cases j with
        | zero => intro q; exact hx (Int32.toInt_inj.mp (by rw [q, h1]; simp))
        | succ j => intro q; exact e1 j (by simpa using hj) (by rw [q]; congr 1; omega)
theorem swT_inv {M : TB} {rp : Nat} {lo : Int} {K : Nat → Prop} {x : Int32} {dt : Nat} {l : List (Int32 × Nat)} {offs : Array Int} (hc : swC M rp lo 0 l offs.toList = true) (h : swK K x dt l) :
    (∃ t off, lo ≤ x.toInt ∧ offs[(x.toInt - lo).toNat]? = some off ∧ (rp : Int) + off = (rpc M t : Int) ∧ K t) ∨ ((x.toInt < lo ∨ lo + (offs.toList.length : Int) ≤ x.toInt) ∧ K dt) := by
  rcases swT_aux l offs.toList 0 hc h with ⟨t, off, j, e1, e2, e3, e4⟩ | ⟨e1, e2⟩
  · refine Or.inl ⟨t, off, by omega, ?_, e3, e4⟩
    have : (x.toInt - lo).toNat = j := by omega
    rw [this, ← Array.getElem?_toList]
    exact e2
  · refine Or.inr ⟨?_, e2⟩
    by_cases hlo : x.toInt < lo
    · exact Or.inl hlo
    · right
      apply Int.not_lt.mp
      intro hq
      exact e1 (x.toInt - lo).toNat (by omega) (by omega)
theorem swL_inv {M : TB} {rp : Nat} {df : Int} {K : Nat → Prop} {x : Int32} {dt : Nat} (hdf : (rp : Int) + df = (rpc M dt : Int)) : ∀ {l : List (Int32 × Nat)} {os : List (Int × Int)}, swD M rp l os = true → swK K x dt l →
    ∃ t off, Op.lookupswitch.offset os df x.toInt = off ∧ (rp : Int) + off = (rpc M t : Int) ∧ K t
  | [], [], _, h => ⟨dt, df, rfl, hdf, h⟩
  | [], o :: os, hc, h => by simp [swD] at hc
  | (v, t) :: l, [], hc, h => by simp [swD] at hc
  | (v, t) :: l, (w, o) :: os, hc, h => by
    simp only [swD, Bool.and_eq_true, decide_eq_true_eq] at hc
    obtain ⟨⟨h1, h2⟩, h3⟩ := hc
    obtain ⟨k1, k2⟩ := h
    by_cases hx : x = v
    · exact ⟨t, o, by rw [Op.lookupswitch.offset_cons, if_pos (by rw [hx, h1])], h2, k1 hx⟩
    · obtain ⟨t', off, e1, e2, e3⟩ := swL_inv hdf h3 (k2 hx)
      exact ⟨t', off, by rw [Op.lookupswitch.offset_cons, if_neg (fun q => hx (Int32.toInt_inj.mp (by rw [← q, h1])))]; exact e1, e2, e3⟩
