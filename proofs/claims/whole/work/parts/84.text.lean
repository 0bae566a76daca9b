/-! text, octet -/
theorem i999s : (Int16.ofInt 999).toInt32 = nI 999 := by decide
theorem i100b : (Int8.ofInt 100).toInt32 = nI 100 := by decide
section TXT
variable {N e m : Nat} {σ : ST} {Q : POST} {A : AS}
abbrev txO6 : List RF := [(2, 0, 3), (4, 0, 2)]
abbrev txO5 : List RF := [(0, 0, 1), (0, 0, 2), (2, 0, 3), (4, 0, 2)]
abbrev txO4 : List RF := [(3, 0, 1), (3, 0, 2), (3, 0, 4), (0, 0, 1), (0, 0, 2), (2, 0, 3), (4, 0, 2)]
abbrev txO7 : List RF := [(7, 0, 1), (7, 0, 2), (7, 0, 3), (7, 0, 4), (7, 0, 5), (7, 0, 6), (3, 0, 1), (3, 0, 2), (3, 0, 4), (0, 0, 1), (0, 0, 2), (2, 0, 3), (4, 0, 2)]
abbrev txO3 : List RF := [(8, 0, 1), (8, 0, 2), (8, 0, 3), (8, 0, 4), (8, 0, 5), (8, 0, 6), (8, 0, 7), (8, 0, 8), (8, 0, 9), (8, 0, 10), (7, 0, 1), (7, 0, 2), (7, 0, 3), (7, 0, 4), (7, 0, 5), (7, 0, 6), (3, 0, 1), (3, 0, 2), (3, 0, 4), (0, 0, 1), (0, 0, 2), (2, 0, 3), (4, 0, 2)]
abbrev bgOff : List RF := [(7, 0, 1), (7, 0, 2), (7, 0, 3), (7, 0, 4), (7, 0, 5), (7, 0, 6)]
set_option maxRecDepth 100000 in
theorem bg_loop (hQ : ∀ τ, off [(7, 0, 6)] σ τ → (∀ g, g < 5 → τ.1 7 0 6 g = σ.1 8 0 6 g) → Q none τ) :
    ∀ (r h m : Nat) (τ : ST) (x2 : Int32), h + r = 5 → 30 * r + 30 ≤ m → off [(7, 0, 6)] σ τ → (∀ g, g < h → τ.1 7 0 6 g = σ.1 8 0 6 g) → x2 = nI h →
      wp N m (e + 1, 0) TX7_begin 17 [some (.inr (.inr (7, 0, 0))), some (.inr (.inr (8, 0, 0))), iA x2] [] τ Q := by
  intro r
  induction r with
  | zero =>
    intro h m τ x2 hr hm ho hw e2
    obtain ⟨n, rfl⟩ := il_ex (K := 10) (m := m) (by omega)
    obtain rfl : h = 5 := by omega
    refine b_ge e2 i5 (by omega) (by omega) (fun _ => ?_) (fun q => by omega)
    exact hQ τ ho hw
  | succ r ih =>
    intro h m τ x2 hr hm ho hw e2
    obtain ⟨n, rfl⟩ := il_ex (K := 20) (m := m) (by omega)
    refine b_ge e2 i5 (by omega) (by omega) (fun q => by omega) (fun _ => ?_)
    refine ⟨trivial, c_weightTold e2 (by omega) (by omega) ?_⟩
    refine ⟨il_in e2 (by omega) (by omega), ?_⟩
    rw [il_cl e2 (by omega)]
    refine ⟨trivial, ih (h + 1) _ _ _ (by omega) (by omega) (off_uI ho (by decide)) (fun g hg => ?_) (il_inc e2)⟩
    rw [uI_if]
    by_cases z : g = h
    · rw [if_pos z, z, off_1 ho (by decide)]
    · rw [if_neg z]; exact hw g (by omega)
set_option maxRecDepth 100000 in
/-- Rules.begin -/
theorem c_begin {D : RDc} (v : vRD D) (hw : ∀ h, h < D.1 → σ.1 8 0 6 h = nI (D.2.2.1 h)) (hm : 300 ≤ m) (hQ : ∀ τ, off bgOff σ τ → cRU τ 0 (rdS D) (rdR D) → Q none τ) :
    wp N m (e + 1, 0) TX7_begin 0 [some (.inr (.inr (7, 0, 0))), some (.inr (.inr (8, 0, 0))), none] [] σ Q := by
  have hnh := v.1
  refine adv 17 250 (by omega) (fun n hn => ?_)
  have o0 : off bgOff σ (uI (uI (uI (uI (uI σ 7 0 1 0 (Int32.ofInt 3)) 7 0 2 0 (Int32.ofInt 3)) 7 0 3 0 (Int32.ofInt 4)) 7 0 4 0 (Int16.ofInt 999).toInt32) 7 0 5 0 (Int8.ofInt 100).toInt32) := off_uI (off_uI (off_uI (off_uI (off_uI (off_rf _ _) (by decide)) (by decide)) (by decide)) (by decide)) (by decide)
  refine bg_loop (σ := uI (uI (uI (uI (uI σ 7 0 1 0 (Int32.ofInt 3)) 7 0 2 0 (Int32.ofInt 3)) 7 0 3 0 (Int32.ofInt 4)) 7 0 4 0 (Int16.ofInt 999).toInt32) 7 0 5 0 (Int8.ofInt 100).toInt32) ?_ 5 0 n _ _ (by omega) (by omega) (off_rf _ _) (fun g hg => absurd hg (Nat.not_lt_zero _)) oi_0
  intro τ o1 w1
  refine hQ τ (off_tr o0 (off_mono o1 (by decide))) ⟨?_, ?_, ?_, ?_, ?_, fun h hh => ?_⟩
  · rw [off_1 o1 (by decide), uI_nr _ _ _ _ _ _ (by decide), uI_nr _ _ _ _ _ _ (by decide), uI_nr _ _ _ _ _ _ (by decide), uI_nr _ _ _ _ _ _ (by decide), uI_at]; rfl
  · rw [off_1 o1 (by decide), uI_nr _ _ _ _ _ _ (by decide), uI_nr _ _ _ _ _ _ (by decide), uI_nr _ _ _ _ _ _ (by decide), uI_at]; rfl
  · rw [off_1 o1 (by decide), uI_nr _ _ _ _ _ _ (by decide), uI_nr _ _ _ _ _ _ (by decide), uI_at]; rfl
  · rw [off_1 o1 (by decide), uI_nr _ _ _ _ _ _ (by decide), uI_at]; exact i999s
  · rw [off_1 o1 (by decide), uI_at]; exact i100b
  · have hh : h < D.1 := hh
    rw [w1 h (by omega), off_1 o0 (by decide)]; exact hw h hh
noncomputable def st_text (A : AS) (x : Int32) : Int32 × AS := match inB x 0 A.2.2.2.2.2.1 with
  | none => reA A 2
  | some n => match prs n A.2.2.2.2.2.2.1 (n + 1) ⟨0, rd0⟩ 0 with
    | .inl (f, s) => (-1, ⟨A.1, A.2.1, A.2.2.1, A.2.2.2.1, A.2.2.2.2.1, 0, A.2.2.2.2.2.2.1, A.2.2.2.2.2.2.2.1, Int32.ofInt 4, nI f, nI s⟩)
    | .inr D => (nI D.1, ⟨rdS D, rdR D, emE, 0, A.2.2.2.2.1, 0, A.2.2.2.2.2.2.1, A.2.2.2.2.2.2.2.1, 0, nI 0, -1⟩)
theorem CC_tn (h : CC σ A) : CC (uI σ 10 0 16 0 (Int32.ofInt 0)) ⟨A.1, A.2.1, A.2.2.1, A.2.2.2.1, A.2.2.2.2.1, 0, A.2.2.2.2.2.2.1, A.2.2.2.2.2.2.2.1, A.2.2.2.2.2.2.2.2.1, A.2.2.2.2.2.2.2.2.2.1, A.2.2.2.2.2.2.2.2.2.2⟩ := by
  have k : ∀ c' k' j', ¬ (c' = 10 ∧ k' = 0 ∧ j' = 16) → (uI σ 10 0 16 0 (Int32.ofInt 0)).1 c' k' j' = σ.1 c' k' j' := fun c' k' j' q => (uI_off σ 10 0 16 0 (Int32.ofInt 0) c' k' j' q).1
  refine ⟨cSP_eq (fun j => k 8 0 j (by omega)) h.s, fun q => cRU_eq (fun j => k 7 0 j (by omega)) (h.r q), cNE_eq (fun j => k 3 0 j (by omega)) h.e, cAC_eq (fun j => k 0 0 j (by omega)) h.p, cFA_eq (k 2 0 3 (by omega)) h.f, cNE_eq (fun j => k 3 2 j (by omega)) h.o, ?_, ⟨by rw [uI_at]; rfl, fun i hi => absurd hi (Nat.not_lt_zero _)⟩, cWR_eq (k 10 0 2 (by omega)) (k 10 0 17 (by omega)) h.w, ?_⟩
  · rw [k 4 0 2 (by omega)]
    rcases h.k with z | z
    · exact Or.inl z
    · exact Or.inr ⟨z.1, z.2.1, cKN_eq (fun j => k 4 0 j (by omega)) z.2.2⟩
  · rw [k 10 0 18 (by omega), k 10 0 19 (by omega), k 10 0 20 (by omega)]; exact h.m
theorem CC_fa (h : CC σ A) (y : Int32) : CC (uI σ 10 0 19 0 y) ⟨A.1, A.2.1, A.2.2.1, A.2.2.2.1, A.2.2.2.2.1, A.2.2.2.2.2.1, A.2.2.2.2.2.2.1, A.2.2.2.2.2.2.2.1, A.2.2.2.2.2.2.2.2.1, y, A.2.2.2.2.2.2.2.2.2.2⟩ := by
  have k : ∀ c' k' j', ¬ (c' = 10 ∧ k' = 0 ∧ j' = 19) → (uI σ 10 0 19 0 y).1 c' k' j' = σ.1 c' k' j' := fun c' k' j' q => (uI_off σ 10 0 19 0 y c' k' j' q).1
  refine ⟨cSP_eq (fun j => k 8 0 j (by omega)) h.s, fun q => cRU_eq (fun j => k 7 0 j (by omega)) (h.r q), cNE_eq (fun j => k 3 0 j (by omega)) h.e, cAC_eq (fun j => k 0 0 j (by omega)) h.p, cFA_eq (k 2 0 3 (by omega)) h.f, cNE_eq (fun j => k 3 2 j (by omega)) h.o, ?_, ?_, cWR_eq (k 10 0 2 (by omega)) (k 10 0 17 (by omega)) h.w, ?_⟩
  · rw [k 4 0 2 (by omega)]
    rcases h.k with z | z
    · exact Or.inl z
    · exact Or.inr ⟨z.1, z.2.1, cKN_eq (fun j => k 4 0 j (by omega)) z.2.2⟩
  · rw [k 10 0 16 (by omega), k 10 0 1 (by omega)]; exact h.t
  · rw [k 10 0 18 (by omega), k 10 0 20 (by omega), uI_at]; exact ⟨h.m.1, rfl, h.m.2.2⟩
theorem V_text (v : VV A) (x : Int32) (hd : ∀ n D, inB x 0 A.2.2.2.2.2.1 = some n → prs n A.2.2.2.2.2.2.1 (n + 1) ⟨0, rd0⟩ 0 = .inr D → vRD D ∧ 1 ≤ D.1) : VV (st_text A x).2 := by
  unfold st_text
  cases hx : inB x 0 A.2.2.2.2.2.1 with
  | none => exact V_re v _
  | some n =>
    simp only
    cases hp : prs n A.2.2.2.2.2.2.1 (n + 1) ⟨0, rd0⟩ 0 with
    | inl fs => exact ⟨v.s, v.r, v.e, v.z, v.p, ⟨Nat.zero_le _, fun i hi => absurd hi (Nat.not_lt_zero _)⟩, v.w⟩
    | inr D =>
      have hD := hd n D hx hp
      refine ⟨rdS_v hD.1, fun _ => rdR_v hD.1, vNE_em _, fun q => ?_, ⟨Nat.zero_le _, fun i hi => absurd hi (Nat.not_lt_zero _)⟩, ⟨Nat.zero_le _, fun i hi => absurd hi (Nat.not_lt_zero _)⟩, v.w⟩
      have q : D.1 = 0 := q
      omega
set_option maxRecDepth 100000 in
theorem C_text (v : VV A) (h : CC σ A) {x : Int32} (hm : 110000 ≤ m) (hQ : ∀ τ, frC σ τ → VV (st_text A x).2 → CC τ (st_text A x).2 → Q (some (.inl (st_text A x).1)) τ) :
    wp N m (e + 6, 0) TX10_text 0 [H10, iA x] [] σ Q := by
  have ht := v.t.1
  obtain ⟨n, rfl⟩ := il_ex (K := 80) (m := m) (by omega)
  have ref : ∀ m', 30 ≤ m' → inB x 0 A.2.2.2.2.2.1 = none → wp N m' (e + 6, 0) TX10_text 6 [H10, iA x] [] σ Q := by
    intro m' hm' q
    have vx := V_text v x (fun n D z => by rw [q] at z; cases z)
    unfold st_text at hQ vx
    rw [q] at hQ vx
    obtain ⟨n2, rfl⟩ := il_ex (K := 5) (m := m') (by omega)
    refine ⟨trivial, c_refused (by omega) ⟨Or.inl rfl, ?_⟩⟩
    exact hQ _ frC_tp vx (CC_tp h _ _)
  rcases inB_c x (a := 0) (b := A.2.2.2.2.2.1) (by omega) (by omega) with ⟨j, _, hj, ej, qj⟩ | ⟨qj, w⟩
  · refine b_lt ej z0 (by omega) (by omega) (fun q => by omega) (fun _ => ?_)
    refine b_le ej h.t.1 (by omega) (by omega) (fun _ => ?_) (fun q => by omega)
    have h1 := CC_tn h
    have o0 : off [(10, 0, 16)] σ (uI σ 10 0 16 0 (Int32.ofInt 0)) := off_uI (off_rf _ _) (by decide)
    refine ⟨trivial, c_read (e := e) (n := j) (tb := A.2.2.2.2.2.2.1) (by omega) (fun i hi => ⟨by rw [off_1 o0 (by decide)]; exact h.t.2 i (by omega), v.t.2 i (by omega)⟩) ej (by omega) (fun f s τ hp f1 f4 hs o1 st => ?_) (fun D τ hp vD hD o1 cD => ?_)⟩
    · have vx := V_text v x (fun n D z1 z2 => by rw [qj] at z1; cases z1; rw [hp] at z2; cases z2)
      unfold st_text at hQ vx
      rw [qj] at hQ vx
      simp only at hQ vx
      rw [hp] at hQ vx
      simp only at hQ vx
      have h2 := CC_fa (CC_o2 o1 (by decide) (by decide) h1) (nI f)
      refine b_eq (a := f) (by rw [uI_at]) z0 (by omega) (by omega) (fun q => by omega) (fun _ => ?_)
      refine ⟨Or.inl rfl, ?_⟩
      rw [im1]
      have e20 : (uI (uI τ 10 0 19 0 (nI f)) 10 0 18 0 (Int32.ofInt 4)).1 5 0 (1 + 1) 0 = nI s := by
        rw [uI_nr _ _ _ _ _ _ (by decide), uI_nr _ _ _ _ _ _ (by decide)]; exact st
      rw [e20]
      exact hQ _ (frC_tr (frC_off o0 (by decide)) (frC_tr (frC_off o1 (by decide)) (frC_tr (frC_uI (by omega)) frC_tp))) vx (CC_tp h2 (Int32.ofInt 4) (nI s))
    · have vx := V_text v x (fun n D z1 z2 => by rw [qj] at z1; cases z1; rw [hp] at z2; cases z2; exact ⟨vD, hD⟩)
      unfold st_text at hQ vx
      rw [qj] at hQ vx
      simp only at hQ vx
      rw [hp] at hQ vx
      simp only at hQ vx
      have h2 := CC_fa (CC_o2 o1 (by decide) (by decide) h1) (nI 0)
      have o2 : off [(10, 0, 19)] τ (uI τ 10 0 19 0 (nI 0)) := off_uI (off_rf _ _) (by decide)
      have cD2 : cRD (uI τ 10 0 19 0 (nI 0)) ⟨6, D⟩ := by
        have k : ∀ j, (uI τ 10 0 19 0 (nI 0)).1 8 1 j = τ.1 8 1 j := fun j => (o2 8 1 j (by simp)).1
        unfold cRD cDC at *
        simp only [k]
        exact cD
      refine b_eq (a := 0) (by rw [uI_at]) z0 (by omega) (by omega) (fun _ => ?_) (fun q => absurd rfl q)
      refine ⟨trivial, c_speechCopy (e := e + 4) vD cD2 (by omega) (fun τ3 o3 s3 w3 => ?_)⟩
      refine ⟨trivial, c_begin (e := e + 4) vD w3 (by omega) (fun τ4 o4 r4 => ?_)⟩
      refine ⟨trivial, c_netClear (k := 0) (e := e + 4) (by omega) (fun τ5 o5 e5 => ?_)⟩
      refine ⟨trivial, ?_⟩
      refine ⟨trivial, trivial, c_fill (L := 1770) rfl rfl (by omega) (by omega) (fun τ6 o6 f6 => ?_)⟩
      refine ⟨trivial, ?_⟩
      refine ⟨Or.inl (by decide), trivial, c_answered (by omega) ⟨Or.inl rfl, ?_⟩⟩
      have vS := rdS_v vD
      have p3 : off txO3 (uI τ 10 0 19 0 (nI 0)) τ3 := off_mono o3 (by decide)
      have p4 : off txO3 τ3 τ4 := off_mono o4 (by decide)
      have p5 : off txO3 τ4 τ5 := off_mono o5 (by decide)
      have q6 : off txO6 (uI (uI τ5 0 0 1 0 (Int32.ofInt 0)) 0 0 2 0 (Int32.ofInt 0)) (uI τ6 4 0 2 0 (Int32.ofInt 0)) := off_uI (off_mono o6 (by decide)) (by decide)
      have q5 : off txO5 τ5 (uI τ6 4 0 2 0 (Int32.ofInt 0)) := off_tr (off_uI (off_uI (off_rf _ _) (by decide)) (by decide)) (off_mono q6 (by decide))
      have q4 : off txO4 τ4 (uI τ6 4 0 2 0 (Int32.ofInt 0)) := off_tr (off_mono o5 (by decide)) (off_mono q5 (by decide))
      have q3 : off txO7 τ3 (uI τ6 4 0 2 0 (Int32.ofInt 0)) := off_tr (off_mono o4 (by decide)) (off_mono q4 (by decide))
      have q2 : off txO3 (uI τ 10 0 19 0 (nI 0)) (uI τ6 4 0 2 0 (Int32.ofInt 0)) := off_tr p3 (off_mono q3 (by decide))
      have e1 : (uI τ6 4 0 2 0 (Int32.ofInt 0)).1 8 0 (0 + 1) 0 = nI D.1 := (cSP_off q3 (by decide) s3).1
      rw [e1]
      have h3 : CC (uI τ6 4 0 2 0 (Int32.ofInt 0)) ⟨rdS D, rdR D, emE, 0, A.2.2.2.2.1, 0, A.2.2.2.2.2.2.1, A.2.2.2.2.2.2.2.1, A.2.2.2.2.2.2.2.2.1, nI 0, A.2.2.2.2.2.2.2.2.2.2⟩ := by
        refine CC.mk ?_ ?_ ?_ ?_ ?_ ?_ ?_ ?_ ?_ ?_
        · exact cSP_off q3 (by decide) s3
        · exact fun _ => cRU_off q4 (by decide) r4
        · exact cNE_off q5 (by decide) e5
        · refine ⟨0, by omega, ?_, ?_, fun i hi => absurd hi (Nat.not_lt_zero _)⟩
          · rw [off_1 q6 (by decide), uI_nr _ _ _ _ _ _ (by decide), uI_at]; rfl
          · rw [off_1 q6 (by decide), uI_at]; rfl
        · intro w v hw hv
          have hn : (rdS D).nw ≤ 60 := vS.2.2.2.1
          have hw : w < (rdS D).nw := hw
          have hv : v < w := hv
          refine Or.inl ?_
          rw [(uI_off τ6 4 0 2 0 (Int32.ofInt 0) 2 0 3 (by omega)).1, f6 (trI w + v) (trI_lt hv (by omega))]; exact im1
        · exact cNE_off q2 (by decide) h2.o
        · exact Or.inl (by rw [uI_at]; rfl)
        · refine ⟨?_, fun i hi => absurd hi (Nat.not_lt_zero _)⟩
          rw [off_1 q2 (by decide)]; exact h2.t.1
        · exact cWR_eq (q2 10 0 2 (by decide)).1 (q2 10 0 17 (by decide)).1 h2.w
        · rw [off_1 q2 (by decide), off_1 q2 (by decide), off_1 q2 (by decide)]; exact h2.m
      exact hQ _ (frC_tr (frC_off o0 (by decide)) (frC_tr (frC_off o1 (by decide)) (frC_tr (frC_off o2 (by decide)) (frC_tr (frC_off q2 (by decide)) frC_tp)))) vx (CC_tp h3 0 (-1))
  · refine ⟨fun _ => ref _ (by omega) qj, fun q => ?_⟩
    rcases w with w | w
    · exact absurd (show x < 0 by rw [← nI_0]; exact w) q
    · refine ⟨fun z => ?_, fun _ => ref _ (by omega) qj⟩
      have z : x ≤ σ.1 10 0 16 0 := z
      rw [h.t.1] at z
      exact absurd w (Int32.not_lt.mpr z)
end TXT
