/-! Reader.takeIn, Reader.read -/
section RI
variable {N e m : Nat} {σ : ST} {Q : POST} {P : PSc} {A : RDc}
theorem c_goOnR {x1 : Int32} (hm : 10 ≤ m) (hQ : Q (some (.inl (nI 0))) (uI σ 5 0 8 0 x1)) : wp N m (e, 0) TX5_goOn 0 [some (.inr (.inr (5, 0, 0))), some (.inl x1)] [] σ Q := by
  obtain ⟨n, rfl⟩ := il_ex hm
  exact ⟨Or.inl rfl, hQ⟩
theorem cRD_aw {x : Int32} (c : cRD σ P) : cRD (uI σ 5 0 8 0 x) P := by
  have ho : ∀ j, (uI σ 5 0 8 0 x).1 8 1 j = σ.1 8 1 j := fun j => (uI_off σ 5 0 8 0 x 8 1 j (by omega)).1
  unfold cRD cDC at *
  simp only [ho]
  exact c
theorem i99 : (Int8.ofInt 99).toInt32 = nI 99 := by decide
set_option maxRecDepth 100000 in
theorem c_takeName {l : WL} (hl : vW l) (v : vPS ⟨0, A⟩) (c : cRD σ ⟨0, A⟩) (e7 : σ.1 5 0 7 0 = nI (spL l)) (hm : 400 ≤ m) (h3 : nmI A l → Q (some (.inl (nI 3))) σ) (h4 : ¬ nmI A l → A.1 = 5 → Q (some (.inl (nI 4))) σ) (h0 : ∀ τ, ¬ nmI A l → A.1 ≠ 5 → off sOff σ τ → cRD τ ⟨1, aHr A l⟩ → τ.1 5 0 8 0 = nI 1 → Q (some (.inl (nI 0))) τ) :
    wp N m (e + 1, 0) TX5_takeName 0 [some (.inr (.inr (5, 0, 0)))] [] σ Q := by
  obtain ⟨n, rfl⟩ := il_ex (K := 40) (m := m) (by omega)
  refine ⟨trivial, c_hasName v c hl e7 (by omega) (fun q => ?_) (fun q => ?_)⟩
  · refine b_eq (a := 1) rfl z0 (by omega) (by omega) (fun z => by omega) (fun _ => ⟨Or.inl rfl, h3 q⟩)
  · refine b_eq (a := 0) rfl z0 (by omega) (by omega) (fun _ => ?_) (fun z => absurd rfl z)
    refine ⟨trivial, c_addHearing v c e7 (by omega) (fun q5 => ?_) (fun τ q5 o1 c1 => ?_)⟩
    · refine b_eq (a := 0) rfl z0 (by omega) (by omega) (fun _ => ⟨Or.inl rfl, h4 q q5⟩) (fun z => absurd rfl z)
    · refine b_eq (a := 1) rfl z0 (by omega) (by omega) (fun z => by omega) (fun _ => ?_)
      refine ⟨trivial, c_goOnR (by omega) ?_⟩
      exact ⟨trivial, Or.inl rfl, h0 _ q q5 (off_uI (off_in o1 (by decide)) (by decide)) (cRD_aw c1) (by rw [uI_at]; exact oi_1)⟩
set_option maxRecDepth 100000 in
theorem c_takeWeight {w : Nat} (hw : w ≤ 999) (v : vPS ⟨2, A⟩) (c : cRD σ ⟨2, A⟩) (e7 : σ.1 5 0 7 0 = nI w) (hm : 100 ≤ m) (h2 : ¬ (1 ≤ w ∧ w ≤ 99) → Q (some (.inl (nI 2))) σ) (h0 : ∀ τ, 1 ≤ w ∧ w ≤ 99 → off sOff σ τ → cRD τ ⟨3, aWt A w⟩ → τ.1 5 0 8 0 = nI 3 → Q (some (.inl (nI 0))) τ) :
    wp N m (e + 1, 0) TX5_takeWeight 0 [some (.inr (.inr (5, 0, 0)))] [] σ Q := by
  obtain ⟨n, rfl⟩ := il_ex (K := 40) (m := m) (by omega)
  refine b_lt e7 oi_1 (by omega) (by omega) (fun q => ⟨Or.inl rfl, h2 (by omega)⟩) (fun q => ?_)
  refine b_le e7 i99 (by omega) (by omega) (fun q2 => ?_) (fun q2 => ⟨Or.inl rfl, h2 (by omega)⟩)
  refine ⟨trivial, c_setWeight8 v c e7 (by omega) (fun τ o1 c1 => ?_)⟩
  refine ⟨trivial, c_goOnR (by omega) ?_⟩
  exact ⟨Or.inl rfl, h0 _ ⟨q, q2⟩ (off_uI (off_in o1 (by decide)) (by decide)) (cRD_aw c1) (by rw [uI_at]; exact i3)⟩
set_option maxRecDepth 100000 in
theorem c_takeHeard {a0 : Nat} (ha : a0 = 4 ∨ a0 = 6) {l : WL} (hl : vW l) (v : vPS ⟨a0, A⟩) (c : cRD σ ⟨a0, A⟩) (e7 : σ.1 5 0 7 0 = nI (spL l)) (hm : 4100 ≤ m) (h4 : A.2.2.2.1 (A.1 - 1) = 12 → Q (some (.inl (nI 4))) σ) (h0 : ∀ τ, A.2.2.2.1 (A.1 - 1) ≠ 12 → off sOff σ τ → cRD τ ⟨5, aWd A l⟩ → τ.1 5 0 8 0 = nI 5 → Q (some (.inl (nI 0))) τ) :
    wp N m (e + 3, 0) TX5_takeHeard 0 [some (.inr (.inr (5, 0, 0)))] [] σ Q := by
  obtain ⟨n, rfl⟩ := il_ex (K := 40) (m := m) (by omega)
  refine ⟨trivial, c_addWord (e := e) ha v c hl e7 (by omega) (fun q => ?_) (fun τ q o1 c1 => ?_)⟩
  · refine b_eq (a := 0) rfl z0 (by omega) (by omega) (fun _ => ⟨Or.inl rfl, h4 q⟩) (fun z => absurd rfl z)
  · refine b_eq (a := 1) rfl z0 (by omega) (by omega) (fun z => by omega) (fun _ => ?_)
    refine ⟨trivial, c_goOnR (by omega) ?_⟩
    exact ⟨trivial, Or.inl rfl, h0 _ q (off_uI (off_in o1 (by decide)) (by decide)) (cRD_aw c1) (by rw [uI_at]; exact i5)⟩
set_option maxRecDepth 100000 in
theorem c_takeTime {t : Nat} (ht : t ≤ 999) (v : vPS ⟨5, A⟩) (c : cRD σ ⟨5, A⟩) (e7 : σ.1 5 0 7 0 = nI t) (hm : 300 ≤ m) (h2 : tmX A t → Q (some (.inl (nI 2))) σ) (h0 : ∀ τ, ¬ tmX A t → off sOff σ τ → cRD τ ⟨6, aTm A t⟩ → τ.1 5 0 8 0 = nI 6 → Q (some (.inl (nI 0))) τ) :
    wp N m (e + 2, 0) TX5_takeTime 0 [some (.inr (.inr (5, 0, 0)))] [] σ Q := by
  obtain ⟨n, rfl⟩ := il_ex (K := 40) (m := m) (by omega)
  refine ⟨trivial, c_setTime (e := e) v c ht e7 (by omega) (fun q => ?_) (fun τ q o1 c1 => ?_)⟩
  · refine b_eq (a := 0) rfl z0 (by omega) (by omega) (fun _ => ⟨Or.inl rfl, h2 q⟩) (fun z => absurd rfl z)
  · refine b_eq (a := 1) rfl z0 (by omega) (by omega) (fun z => by omega) (fun _ => ?_)
    refine ⟨trivial, c_goOnR (by omega) ?_⟩
    exact ⟨trivial, Or.inl rfl, h0 _ q (off_uI (off_in o1 (by decide)) (by decide)) (cRD_aw c1) (by rw [uI_at]; exact i6)⟩
/-- the kind of a token -/
def kdC : TK → Nat
  | none => 0
  | some none => 1
  | some (some (.inl _)) => 2
  | some (some (.inr (.inl _))) => 3
  | some (some (.inr (.inr false))) => 4
  | some (some (.inr (.inr true))) => 5
theorem cTK_k {t : TK} (c : cTK σ t) : σ.1 5 0 6 0 = nI (kdC t) := by
  cases t using TK_el with
  | no => exact c
  | fin => exact c
  | wd l => exact c.1
  | wh v => exact c.1
  | pa => exact c
  | co => exact c
theorem kdC_le (t : TK) : kdC t ≤ 5 := by cases t using TK_el <;> simp [kdC]
theorem wg_sp : spL wgL = 679716023 := by decide
theorem wg_v : vW wgL := ⟨by decide, by decide, by decide⟩
theorem ldwg : Int32.ofInt 679716023 = nI 679716023 := by decide
set_option maxRecDepth 100000 in
/-- Reader.takeIn -/
theorem c_takeIn {t : TK} (v : vPS P) (c : cRD σ P) (ct : cTK σ t) (vt : vTK t) (e8 : σ.1 5 0 8 0 = nI P.1) (hm : 4300 ≤ m) (hF : ∀ f, stp P t = .inl f → 1 ≤ f → f ≤ 4 → Q (some (.inl (nI f))) σ) (hO : ∀ P' τ, stp P t = .inr P' → vPS P' → off sOff σ τ → cRD τ P' → τ.1 5 0 8 0 = nI P'.1 → Q (some (.inl (nI 0))) τ) :
    wp N m (e + 4, 0) TX5_takeIn 0 [some (.inr (.inr (5, 0, 0)))] [] σ Q := by
  obtain ⟨n, rfl⟩ := il_ex (K := 60) (m := m) (by omega)
  obtain ⟨aw, A⟩ := P
  have ck := cTK_k ct
  have kl := kdC_le t
  have v1 : aw ≤ 6 := v.1
  simp only at e8
  have form : (∀ f, stp ⟨aw, A⟩ t = .inl f → 1 ≤ f → f ≤ 4 → Q (some (.inl (nI f))) σ) → stp ⟨aw, A⟩ t = .inl 1 → Q (some (.inl (nI 1))) σ := fun h z => h 1 z (by omega) (by omega)
  obtain rfl | rfl | rfl | rfl | rfl | rfl | rfl : aw = 0 ∨ aw = 1 ∨ aw = 2 ∨ aw = 3 ∨ aw = 4 ∨ aw = 5 ∨ aw = 6 := by omega
  · refine ⟨fun _ => ?_, fun q => absurd (e8.trans (by decide)) q⟩
    refine b_ne ck i2 (by omega) (by omega) (fun q => ⟨Or.inl rfl, form hF (by cases t using TK_el <;> first | rfl | exact absurd rfl q)⟩) (fun q => ?_)
    cases t using TK_el with
    | wd l =>
      refine ⟨trivial, c_takeName (e := e + 2) vt v c ct.2 (by omega) (fun z => ?_) (fun z z5 => ?_) (fun τ z z5 o1 c1 k8 => ?_)⟩
      · exact ⟨trivial, Or.inl rfl, hF 3 (if_pos z) (by omega) (by omega)⟩
      · exact ⟨trivial, Or.inl rfl, hF 4 ((if_neg z).trans (if_pos z5)) (by omega) (by omega)⟩
      · exact ⟨trivial, Or.inl rfl, hO _ τ ((if_neg z).trans (if_neg z5)) (vPS_hr v vt z5) o1 c1 k8⟩
    | no => cases q
    | fin => cases q
    | wh v => cases q
    | pa => cases q
    | co => cases q
  · refine ⟨fun q => absurd (e8.symm.trans q) (by decide), fun _ => ⟨fun _ => ?_, fun q => absurd (e8.trans (by decide)) q⟩⟩
    refine b_ne ck i2 (by omega) (by omega) (fun q => ⟨Or.inl rfl, form hF (by cases t using TK_el <;> first | rfl | exact absurd rfl q)⟩) (fun q => ?_)
    cases t using TK_el with
    | wd l =>
      have hb := vW_b vt
      refine b_ne ct.2 ldwg (by omega) (by omega) (fun z => ?_) (fun z => ?_)
      · exact ⟨Or.inl rfl, form hF (by show (if _ then _ else _) = _; rw [if_neg (fun y => z (by rw [y]; exact wg_sp))])⟩
      · have : l = wgL := spL_inj vt.2.2 wg_v.2.2 (by rw [z, wg_sp])
        refine ⟨trivial, c_goOnR (by omega) ?_⟩
        exact ⟨trivial, Or.inl rfl, hO ⟨2, A⟩ _ (by show (if _ then _ else _) = _; rw [if_pos this]) (vPS_wg v) (off_uI (off_rf _ _) (by decide)) (cRD_aw (P := ⟨2, A⟩) ⟨c.1, c.2.1, fun h hh => by
          obtain ⟨a1, a2, a3, a4⟩ := c.2.2 h hh
          refine ⟨a1, a2, ?_, fun i hi => ⟨(a4 i hi).1, ?_⟩⟩
          · rcases a3 with y | y
            · exact Or.inl ⟨y.1, Or.inr rfl⟩
            · exact Or.inr y
          · rcases (a4 i hi).2 with y | y
            · exact absurd y.2.2 (by show ¬ 1 = 5; omega)
            · exact Or.inr y⟩) (by rw [uI_at]; exact i2)⟩
    | no => cases q
    | fin => cases q
    | wh v => cases q
    | pa => cases q
    | co => cases q
  · refine ⟨fun q => absurd (e8.symm.trans q) (by decide), fun _ => ⟨fun q => absurd (e8.symm.trans q) (by decide), fun _ => ⟨fun _ => ?_, fun q => absurd (e8.trans (by decide)) q⟩⟩⟩
    refine b_ne ck i3 (by omega) (by omega) (fun q => ⟨Or.inl rfl, form hF (by cases t using TK_el <;> first | rfl | exact absurd rfl q)⟩) (fun q => ?_)
    cases t using TK_el with
    | wh w =>
      refine ⟨trivial, c_takeWeight (e := e + 2) vt v c ct.2 (by omega) (fun z => ?_) (fun τ z o1 c1 k8 => ?_)⟩
      · exact ⟨trivial, Or.inl rfl, hF 2 (if_neg z) (by omega) (by omega)⟩
      · exact ⟨trivial, Or.inl rfl, hO _ τ (if_pos z) (vPS_wt v z) o1 c1 k8⟩
    | no => cases q
    | fin => cases q
    | wd v => cases q
    | pa => cases q
    | co => cases q
  · refine ⟨fun q => absurd (e8.symm.trans q) (by decide), fun _ => ⟨fun q => absurd (e8.symm.trans q) (by decide), fun _ => ⟨fun q => absurd (e8.symm.trans q) (by decide), fun _ => ⟨fun _ => ?_, fun q => absurd (e8.trans (by decide)) q⟩⟩⟩⟩
    refine b_ne ck i5 (by omega) (by omega) (fun q => ⟨Or.inl rfl, form hF (by cases t using TK_el <;> first | rfl | exact absurd rfl q)⟩) (fun q => ?_)
    cases t using TK_el with
    | co =>
      refine ⟨trivial, c_goOnR (by omega) ?_⟩
      exact ⟨trivial, Or.inl rfl, hO ⟨4, A⟩ _ rfl (vPS_co v) (off_uI (off_rf _ _) (by decide)) (cRD_aw (P := ⟨4, A⟩) ⟨c.1, c.2.1, fun h hh => by
          obtain ⟨a1, a2, a3, a4⟩ := c.2.2 h hh
          refine ⟨a1, a2, ?_, fun i hi => ⟨(a4 i hi).1, ?_⟩⟩
          · rcases a3 with y | y
            · exact absurd y.2 (by show ¬ (3 = 1 ∨ 3 = 2); omega)
            · exact Or.inr y
          · rcases (a4 i hi).2 with y | y
            · exact absurd y.2.2 (by show ¬ 3 = 5; omega)
            · exact Or.inr y⟩) (by rw [uI_at]; exact i4)⟩
    | no => cases q
    | fin => cases q
    | wd v => cases q
    | wh v => cases q
    | pa => cases q
  · refine ⟨fun q => absurd (e8.symm.trans q) (by decide), fun _ => ⟨fun q => absurd (e8.symm.trans q) (by decide), fun _ => ⟨fun q => absurd (e8.symm.trans q) (by decide), fun _ => ⟨fun q => absurd (e8.symm.trans q) (by decide), fun _ => ⟨fun _ => ?_, fun q => absurd (e8.trans (by decide)) q⟩⟩⟩⟩⟩
    refine b_ne ck i2 (by omega) (by omega) (fun q => ⟨Or.inl rfl, form hF (by cases t using TK_el <;> first | rfl | exact absurd rfl q)⟩) (fun q => ?_)
    cases t using TK_el with
    | wd l =>
      refine ⟨trivial, c_takeHeard (e := e) (Or.inl rfl) vt v c ct.2 (by omega) (fun z => ?_) (fun τ z o1 c1 k8 => ?_)⟩
      · exact ⟨trivial, Or.inl rfl, hF 4 (if_pos z) (by omega) (by omega)⟩
      · exact ⟨trivial, Or.inl rfl, hO _ τ (if_neg z) (vPS_wd v (Or.inl rfl) vt z) o1 c1 k8⟩
    | no => cases q
    | fin => cases q
    | wh v => cases q
    | pa => cases q
    | co => cases q
  · refine ⟨fun q => absurd (e8.symm.trans q) (by decide), fun _ => ⟨fun q => absurd (e8.symm.trans q) (by decide), fun _ => ⟨fun q => absurd (e8.symm.trans q) (by decide), fun _ => ⟨fun q => absurd (e8.symm.trans q) (by decide), fun _ => ⟨fun q => absurd (e8.symm.trans q) (by decide), fun _ => ⟨fun _ => ?_, fun q => absurd (e8.trans (by decide)) q⟩⟩⟩⟩⟩⟩
    refine b_ne ck i3 (by omega) (by omega) (fun q => ⟨Or.inl rfl, form hF (by cases t using TK_el <;> first | rfl | exact absurd rfl q)⟩) (fun q => ?_)
    cases t using TK_el with
    | wh w =>
      refine ⟨trivial, c_takeTime (e := e + 1) vt v c ct.2 (by omega) (fun z => ?_) (fun τ z o1 c1 k8 => ?_)⟩
      · exact ⟨trivial, Or.inl rfl, hF 2 (if_pos z) (by omega) (by omega)⟩
      · exact ⟨trivial, Or.inl rfl, hO _ τ (if_neg z) (vPS_tm v vt) o1 c1 k8⟩
    | no => cases q
    | fin => cases q
    | wd v => cases q
    | pa => cases q
    | co => cases q
  · refine ⟨fun q => absurd (e8.symm.trans q) (by decide), fun _ => ⟨fun q => absurd (e8.symm.trans q) (by decide), fun _ => ⟨fun q => absurd (e8.symm.trans q) (by decide), fun _ => ⟨fun q => absurd (e8.symm.trans q) (by decide), fun _ => ⟨fun q => absurd (e8.symm.trans q) (by decide), fun _ => ⟨fun q => absurd (e8.symm.trans q) (by decide), fun _ => ⟨fun _ => ?_, fun q => absurd (e8.trans (by decide)) q⟩⟩⟩⟩⟩⟩⟩
    refine b_ne ck i2 (by omega) (by omega) (fun q => ?_) (fun q => ?_)
    · refine b_ne ck i4 (by omega) (by omega) (fun q4 => ⟨Or.inl rfl, form hF (by cases t using TK_el <;> first | rfl | exact absurd rfl q | exact absurd rfl q4)⟩) (fun q4 => ?_)
      cases t using TK_el with
      | pa =>
        refine ⟨trivial, c_goOnR (by omega) ?_⟩
        exact ⟨trivial, Or.inl rfl, hO ⟨0, A⟩ _ rfl (vPS_pa v) (off_uI (off_rf _ _) (by decide)) (cRD_aw (P := ⟨0, A⟩) ⟨c.1, c.2.1, fun h hh => by
          obtain ⟨a1, a2, a3, a4⟩ := c.2.2 h hh
          refine ⟨a1, a2, ?_, fun i hi => ⟨(a4 i hi).1, ?_⟩⟩
          · rcases a3 with y | y
            · exact absurd y.2 (by show ¬ (6 = 1 ∨ 6 = 2); omega)
            · exact Or.inr y
          · rcases (a4 i hi).2 with y | y
            · exact absurd y.2.2 (by show ¬ 6 = 5; omega)
            · exact Or.inr y⟩) (by rw [uI_at]; exact oi_0)⟩
      | no => cases q4
      | fin => cases q4
      | wd v => cases q4
      | wh v => cases q4
      | co => cases q4
    · cases t using TK_el with
      | wd l =>
        refine ⟨trivial, c_takeHeard (e := e) (Or.inr rfl) vt v c ct.2 (by omega) (fun z => ?_) (fun τ z o1 c1 k8 => ?_)⟩
        · exact ⟨trivial, Or.inl rfl, hF 4 (if_pos z) (by omega) (by omega)⟩
        · exact ⟨trivial, Or.inl rfl, hO _ τ (if_neg z) (vPS_wd v (Or.inr rfl) vt z) o1 c1 k8⟩
      | no => cases q
      | fin => cases q
      | wh v => cases q
      | pa => cases q
      | co => cases q
abbrev lOff : List RF := [(5, 0, 2), (5, 0, 5), (5, 0, 6), (5, 0, 7), (5, 0, 8), (8, 1, 1), (8, 1, 2), (8, 1, 3), (8, 1, 4), (8, 1, 5), (8, 1, 6), (8, 1, 7), (8, 1, 8), (8, 1, 9), (8, 1, 10)]
theorem cRD_off {L : List RF} {τ : ST} (h : off L σ τ) (hL : ∀ r ∈ L, r.1 ≠ 8) (c : cRD σ P) : cRD τ P := by
  have ho : ∀ j, τ.1 8 1 j = σ.1 8 1 j := fun j => (h 8 1 j (fun z => hL _ z rfl)).1
  unfold cRD cDC at *
  simp only [ho]
  exact c
theorem nI_1k {t : TK} (h : kdC t = 1) : t = .fin := by cases t using TK_el <;> first | rfl | cases h
set_option maxRecDepth 100000 in
theorem rd_loop {n : Nat} {tb : Nat → Nat} {x1 : Int32} {R0 : PRc} (hF : ∀ f s τ, R0 = .inl (f, s) → 1 ≤ f → f ≤ 4 → s ≤ n → off lOff σ τ → τ.1 5 0 2 0 = nI s → Q (some (.inl (nI f))) τ) (hO : ∀ A τ, R0 = .inr A → vRD A → 1 ≤ A.1 → off lOff σ τ → cRD τ ⟨6, A⟩ → Q (some (.inl (nI 0))) τ) :
    ∀ (r p k m : Nat) (P : PSc) (τ : ST) (x2 : Int32) (o3 : Option AV), cTP τ n tb → p ≤ n → n + 1 ≤ p + r → k + r = n + 1 → 60000 + 50 * r ≤ m → off lOff σ τ → vPS P → cRD τ P → τ.1 5 0 5 0 = nI p → τ.1 5 0 8 0 = nI P.1 → prs n tb r P p = R0 → x2 = nI k →
      wp N m (e + 5, 0) TX5_read 14 [some (.inr (.inr (5, 0, 0))), some (.inl x1), some (.inl x2), o3] [] τ Q := by
  intro r
  induction r with
  | zero => intro p k m P τ x2 o3 c hp hr; omega
  | succ r ih =>
    intro p k m P τ x2 o3 c hp hr hk hm ho v cr h5 h8 hR e2
    have hn := c.2.1
    obtain ⟨n1, rfl⟩ := il_ex (K := 30) (m := m) (by omega)
    refine b_gt e2 c.1 (by omega) (by omega) (fun q => by omega) (fun _ => ?_)
    refine ⟨trivial, c_takeToken (e := e + 2) (n - p) p _ τ _ c (by omega) h5 (by omega) ?_⟩
    intro τ1 o1 g2 g5 gk
    have hs := tkS_le (tb := tb) hp
    have ha := tkA_le (tb := tb) hs.2
    have vt := tkA_v (n := n) (tb := tb) (tkS n tb p)
    have ck := cTK_k gk
    have kl := kdC_le (tkA n tb (tkS n tb p)).1
    have c1 : cRD τ1 P := cRD_off o1 (by decide) cr
    have o1' : off lOff σ τ1 := off_tr ho (off_in o1 (by decide))
    have k8 : τ1.1 5 0 8 0 = nI P.1 := by rw [off_1 o1 (by decide)]; exact h8
    have va := v.1
    have go : ¬ ((tkA n tb (tkS n tb p)).1 = .fin ∧ P.1 = 6) → ∀ m', 60000 + 50 * r + 12 ≤ m' → wp N m' (e + 5, 0) TX5_read 30 [some (.inr (.inr (5, 0, 0))), some (.inl x1), some (.inl x2), o3] [] τ1 Q := by
      intro hne m' hm'
      obtain ⟨n2, rfl⟩ := il_ex (K := 9) (m := m') (by omega)
      refine ⟨trivial, c_takeIn (e := e) v c1 gk vt k8 (by omega) (fun f hf f1 f4 => ?_) (fun P' τ2 hs' v' o2 c2 g8 => ?_)⟩
      · refine b_eq (a := f) rfl z0 (by omega) (by omega) (fun z => by omega) (fun _ => ?_)
        rw [prs_f hne hf] at hR
        exact ⟨Or.inl rfl, hF f _ τ1 hR.symm f1 f4 (by omega) o1' g2⟩
      · refine b_eq (a := 0) rfl z0 (by omega) (by omega) (fun _ => ?_) (fun z => absurd rfl z)
        rw [prs_n hne hs'] at hR
        have adv1 : tkS n tb p < n := by
          apply Classical.byContradiction
          intro z
          have : (tkA n tb (tkS n tb p)).1 = .fin := by rw [tkA_fin (by omega)]
          rw [this] at hs'
          obtain ⟨aw, A⟩ := P
          have va : aw ≤ 6 := va
          obtain rfl | rfl | rfl | rfl | rfl | rfl | rfl : aw = 0 ∨ aw = 1 ∨ aw = 2 ∨ aw = 3 ∨ aw = 4 ∨ aw = 5 ∨ aw = 6 := by omega
          all_goals cases hs'
        have := ha.2.2 adv1
        refine ⟨trivial, ih (tkA n tb (tkS n tb p)).2 (k + 1) _ P' τ2 _ _ (cTP_off o2 (by decide) (by decide) (cTP_off o1 (by decide) (by decide) c)) ha.2.1 (by omega) (by omega) (by omega) (off_tr o1' (off_in o2 (by decide))) v' c2 (by rw [off_1 o2 (by decide)]; exact g5) g8 hR (il_inc e2)⟩
    refine b_ne ck oi_1 (by omega) (by omega) (fun q => go (fun z => q (by rw [z.1]; rfl)) _ (by omega)) (fun q => ?_)
    refine b_ne k8 i6 (by omega) (by omega) (fun q6 => go (fun z => q6 z.2) _ (by omega)) (fun q6 => ?_)
    have ee := vPS_end v q6
    rw [prs_ok (nI_1k q) q6] at hR
    refine ⟨Or.inl rfl, hO P.2 τ1 hR.symm ee.1 ee.2 o1' ?_⟩
    obtain ⟨aw, A⟩ := P
    have q6 : aw = 6 := q6
    subst q6
    exact c1
theorem c_spClear {k : Nat} (hm : 20 ≤ m) (hQ : Q none (uI (uI σ 8 k 1 0 (Int32.ofInt 0)) 8 k 2 0 (Int32.ofInt 0))) : wp N m (e, 0) TX8_clear 0 [some (.inr (.inr (8, k, 0)))] [] σ Q := by
  obtain ⟨n, rfl⟩ := il_ex hm
  exact hQ
def rd0 : RDc := ⟨0, fun _ => [], fun _ => 0, fun _ => 0, fun _ _ => [], fun _ _ => 0⟩
abbrev rdOf : List RF := [(5, 0, 2), (5, 0, 4), (5, 0, 5), (5, 0, 6), (5, 0, 7), (5, 0, 8), (8, 1, 1), (8, 1, 2), (8, 1, 3), (8, 1, 4), (8, 1, 5), (8, 1, 6), (8, 1, 7), (8, 1, 8), (8, 1, 9), (8, 1, 10)]
set_option maxRecDepth 100000 in
/-- Reader.read -/
theorem c_read {n : Nat} {tb : Nat → Nat} (hn : n ≤ 600) (ht : ∀ i, i < n → σ.1 10 0 1 i = nI (tb i) ∧ tb i < 256) {x1 : Int32} (e1 : x1 = nI n) (hm : 100000 ≤ m) (hF : ∀ f s τ, prs n tb (n + 1) ⟨0, rd0⟩ 0 = .inl (f, s) → 1 ≤ f → f ≤ 4 → s ≤ n → off rdOf σ τ → τ.1 5 0 2 0 = nI s → Q (some (.inl (nI f))) τ) (hO : ∀ A τ, prs n tb (n + 1) ⟨0, rd0⟩ 0 = .inr A → vRD A → 1 ≤ A.1 → off rdOf σ τ → cRD τ ⟨6, A⟩ → Q (some (.inl (nI 0))) τ) :
    wp N m (e + 5, 0) TX5_read 0 [some (.inr (.inr (5, 0, 0))), some (.inl x1), none, none] [] σ Q := by
  obtain ⟨n1, rfl⟩ := il_ex (K := 10) (m := m) (by omega)
  refine ⟨trivial, c_spClear (by omega) ?_⟩
  refine adv 11 99000 (by omega) (fun n3 hn3 => ?_)
  have ho : off rdOf σ (uI (uI (uI (uI (uI σ 8 1 1 0 (Int32.ofInt 0)) 8 1 2 0 (Int32.ofInt 0)) 5 0 4 0 x1) 5 0 5 0 (Int32.ofInt 0)) 5 0 8 0 (Int32.ofInt 0)) := off_uI (off_uI (off_uI (off_uI (off_uI (off_rf _ _) (by decide)) (by decide)) (by decide)) (by decide)) (by decide)
  refine rd_loop (σ := uI (uI (uI (uI (uI σ 8 1 1 0 (Int32.ofInt 0)) 8 1 2 0 (Int32.ofInt 0)) 5 0 4 0 x1) 5 0 5 0 (Int32.ofInt 0)) 5 0 8 0 (Int32.ofInt 0)) (n := n) (tb := tb) (R0 := prs n tb (n + 1) ⟨0, rd0⟩ 0) (fun f s τ a b b2 d w g => hF f s τ a b b2 d (off_tr ho (off_in w (by decide))) g) (fun A τ a b b2 d f => hO A τ a b b2 (off_tr ho (off_in d (by decide))) f) (n + 1) 0 0 n3 ⟨0, rd0⟩ _ _ _ ⟨?_, hn, fun i hi => ?_⟩ (by omega) (by omega) (by omega) (by omega) (off_rf _ _) (vPS_0 _ rfl) ⟨?_, ⟨?_, fun w hw => absurd hw (Nat.not_lt_zero _)⟩, fun h hh => absurd hh (Nat.not_lt_zero _)⟩ ?_ ?_ rfl oi_0
  · rw [uI_nr _ _ _ _ _ _ (by decide), uI_nr _ _ _ _ _ _ (by decide), uI_at]; exact e1
  · rw [off_1 ho (by decide)]; exact ht i hi
  · rw [uI_nr _ _ _ _ _ _ (by decide), uI_nr _ _ _ _ _ _ (by decide), uI_nr _ _ _ _ _ _ (by decide), uI_nr _ _ _ _ _ _ (by decide), uI_at]; exact oi_0
  · rw [uI_nr _ _ _ _ _ _ (by decide), uI_nr _ _ _ _ _ _ (by decide), uI_nr _ _ _ _ _ _ (by decide), uI_at]; exact oi_0
  · rw [uI_nr _ _ _ _ _ _ (by decide), uI_at]; exact oi_0
  · rw [uI_at]; exact oi_0
end RI
