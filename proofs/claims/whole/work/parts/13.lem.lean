/-! words, rows, calls: what the walk stands on -/
def TS : List Cond := lw_tbl.filter goodWord
theorem TS_in {w : Cond} {p : Nat} (h : lw_tbl[p]? = some w) (hg : goodWord w = true) : w ∈ TS := List.mem_filter.mpr ⟨List.mem_of_getElem? h, hg⟩
theorem TS_good {w : Cond} (h : w ∈ TS) : w ∈ TS ∧ ((w.onTables && w.keeps) = true ∨ ∃ ty, w = .arrayClass ty) := ⟨h, good_of_word (List.mem_filter.mp h).2⟩
def wsM (a : Nat) : List Cond := Cond.code (mi a).1 (mi a).2.1 (inf a).2 (mi a).2.2 :: TS
theorem wsM_good {a : Nat} (ha : a + 1 ≤ 227) (h : Cond.code (mi a).1 (mi a).2.1 (inf a).2 (mi a).2.2 ∈ TS) : GoodIn TS (wsM a) := by
  intro w hw
  rcases List.mem_cons.mp hw with rfl | hw
  · exact TS_good h
  · exact TS_good hw
def rmD (d : Nat) : Room := { frames := d + 1, cells := 0, slots := 0, locals := 64 * (d + 1) }
theorem cm_spec {a : Nat} (ha : a < 227) : cwW a = true ∧ (mi a).1.cls = clsN (inf a).1 ∧ ((mi a).1.cls ≠ "java/lang/invoke/MethodHandle" ∧ (mi a).1.cls ≠ "java/lang/invoke/VarHandle") ∧ plainName (mi a).1.cls = true ∧ (parseMethodDescriptor (mi a).1.desc).map (fun d => d.parameters.length) = some (nrg a) ∧ (inf a).2 ≤ 40 := by
  have h := cm_all a ha
  unfold cwM at h
  simp only [Bool.and_eq_true, decide_eq_true_eq, Nat.ble_eq] at h
  obtain ⟨⟨⟨⟨⟨⟨⟨h1, h2⟩, h3⟩, h4⟩, h5⟩, h6⟩, h7⟩, h8⟩ := h
  exact ⟨h1, h2, ⟨h3, h4⟩, h5, h6, h7⟩
theorem cm_cls {a : Nat} (ha : a + 1 ≤ 227) : (mi a).1.cls = clsN (inf a).1 := (cm_spec ha).2.1
theorem cm_d {a : Nat} (ha : a + 1 ≤ 227) : (mi a).1.cls ≠ "java/lang/invoke/MethodHandle" ∧ (mi a).1.cls ≠ "java/lang/invoke/VarHandle" ∧ (parseMethodDescriptor (mi a).1.desc).map (fun d => d.parameters.length) = some (nrg a) := ⟨(cm_spec ha).2.2.1.1, (cm_spec ha).2.2.1.2, (cm_spec ha).2.2.2.2.1⟩
theorem rmD_ok {a d : Nat} {R : Room} (ha : a + 1 ≤ 227) (h1 : d + 2 ≤ R.frames) (h2 : 64 * (d + 2) ≤ R.locals) : (rmD d).frames + 1 ≤ R.frames ∧ 8 + ((inf a).2 + 11) + (rmD d).locals ≤ R.locals := by
  have := (cm_spec ha).2.2.2.2.2
  refine ⟨h1, ?_⟩
  show 8 + ((inf a).2 + 11) + 64 * (d + 1) ≤ R.locals
  omega
theorem cw_words {a : Nat} (ha : a + 1 ≤ 227) (hk : (cwd a).2.2.2.2 = 0) : Cond.code (mi a).1 (mi a).2.1 (inf a).2 (mi a).2.2 ∈ TS ∧ Cond.initialized (mi a).1.cls ∈ TS ∧ Cond.instanceMethod (mi a).1 ∈ TS ∧ Cond.selects (mi a).1.cls (mi a).1 (mi a).1 ∈ TS := by
  have h := (cm_spec ha).1
  unfold cwW at h
  split at h
  · simp only [Bool.and_eq_true, decide_eq_true_eq] at h
    exact ⟨TS_in h.1.1.1 rfl, TS_in h.1.1.2 rfl, TS_in h.1.2 rfl, TS_in h.2 rfl⟩
  · rename_i e; rw [e] at hk; cases hk
  · rename_i e; rw [e] at hk; cases hk
  · cases h
theorem cw_wordsS {a : Nat} (ha : a + 1 ≤ 227) (hk : (cwd a).2.2.2.2 = 1) : Cond.code (mi a).1 (mi a).2.1 (inf a).2 (mi a).2.2 ∈ TS ∧ Cond.initialized (mi a).1.cls ∈ TS ∧ Cond.static (mi a).1 ∈ TS := by
  have h := (cm_spec ha).1
  unfold cwW at h
  split at h
  · rename_i e; rw [e] at hk; cases hk
  · simp only [Bool.and_eq_true, decide_eq_true_eq] at h
    exact ⟨TS_in h.1.1 rfl, TS_in h.1.2 rfl, TS_in h.2 rfl⟩
  · rename_i e; rw [e] at hk; cases hk
  · cases h
theorem lk_mem {α : Type} : ∀ (l : List (Nat × α)) (i : Nat) (x : α), lk l i = some x → (i, x) ∈ l
  | [], i, x, h => by cases h
  | (j, y) :: l, i, x, h => by
    unfold lk at h
    cases hj : Nat.beq j i
    · rw [hj] at h
      exact List.mem_cons_of_mem _ (lk_mem l i x h)
    · rw [hj] at h
      cases h
      rw [Nat.eq_of_beq_eq_true hj]
      exact List.mem_cons_self
theorem nth_big {α : Type} {l : List (List α)} {o : Nat} {q : α} (h : q ∈ nth [] l o) : o < l.length := by
  apply Nat.not_le.mp
  intro hl
  rw [nth_out [] l o hl] at h
  cases h
theorem fl_word {o ix a b : Nat} (h : chF o ix a b = true) : Cond.fieldLink (clsN o) ix (Tf a b).1 (Tf a b).2.1 (Tf a b).2.2.1 ∈ TS ∧ b < nfs a ∧ a < 12 := by
  unfold chF at h
  split at h
  · rename_i c j p e
    simp only [Bool.and_eq_true, Nat.beq_eq] at h
    obtain ⟨rfl, rfl⟩ := h
    have hm := lk_mem _ _ _ e
    have ho : o < 14 := nth_big hm
    have h1 := List.all_eq_true.mp (List.all_eq_true.mp flT_ok o (List.mem_range.mpr ho)) _ hm
    unfold flW at h1
    simp only [Bool.and_eq_true, decide_eq_true_eq, Nat.ble_eq] at h1
    exact ⟨TS_in h1.1.1 rfl, h1.1.2, h1.2⟩
  · cases h
theorem ml_word {o ix a : Nat} (h : chL o ix a = true) (ha : a < 227 ∨ a = 900 ∨ a = 901 ∨ a = 902) : Cond.methodLink (clsN o) ix (mlY a) ∈ TS := by
  unfold chL at h
  split at h
  · rename_i t p e
    have h := Nat.eq_of_beq_eq_true h
    subst h
    have hm := lk_mem _ _ _ e
    have ho : o < 14 := nth_big hm
    have h1 := List.all_eq_true.mp (List.all_eq_true.mp mlT_ok o (List.mem_range.mpr ho)) _ hm
    unfold mlW at h1
    simp only [decide_eq_true_eq] at h1
    exact TS_in h1 rfl
  · cases h
theorem mlY_lt {a : Nat} (h : a < 227) : mlY a = (mi a).1 := by
  unfold mlY
  rw [show Nat.beq a 900 = false from Bool.eq_false_iff.mpr fun q => by have := Nat.eq_of_beq_eq_true q; omega, show Nat.beq a 901 = false from Bool.eq_false_iff.mpr fun q => by have := Nat.eq_of_beq_eq_true q; omega, show Nat.beq a 902 = false from Bool.eq_false_iff.mpr fun q => by have := Nat.eq_of_beq_eq_true q; omega]
  rfl
/-! classes -/
def tyf (c : Nat) : Nat → FieldType := nth tyX0 [tyX0, tyX1, tyX2, tyX3, tyX4, tyX5, tyX6, tyX7, tyX8, tyX9, tyX10, tyX11] c
theorem cl_at {c : Nat} (h : c < 12) : ∃ (C : String) (T : u_T) (n : Nat), vwCl[c]? = some (C, T, n) ∧ Tf c = T ∧ nfs c = n := by
  match c, h with
  | 0, _ => exact ⟨_, _, _, rfl, rfl, rfl⟩
  | 1, _ => exact ⟨_, _, _, rfl, rfl, rfl⟩
  | 2, _ => exact ⟨_, _, _, rfl, rfl, rfl⟩
  | 3, _ => exact ⟨_, _, _, rfl, rfl, rfl⟩
  | 4, _ => exact ⟨_, _, _, rfl, rfl, rfl⟩
  | 5, _ => exact ⟨_, _, _, rfl, rfl, rfl⟩
  | 6, _ => exact ⟨_, _, _, rfl, rfl, rfl⟩
  | 7, _ => exact ⟨_, _, _, rfl, rfl, rfl⟩
  | 8, _ => exact ⟨_, _, _, rfl, rfl, rfl⟩
  | 9, _ => exact ⟨_, _, _, rfl, rfl, rfl⟩
  | 10, _ => exact ⟨_, _, _, rfl, rfl, rfl⟩
  | 11, _ => exact ⟨_, _, _, rfl, rfl, rfl⟩
theorem cl_cases {P : Nat → String → u_T → Nat → Prop} (h0 : P 0 RX0 TX0 3) (h1 : P 1 RX1 TX1 12) (h2 : P 2 RX2 TX2 3) (h3 : P 3 RX3 TX3 6) (h4 : P 4 RX4 TX4 6) (h5 : P 5 RX5 TX5 8) (h6 : P 6 RX6 TX6 1) (h7 : P 7 RX7 TX7 6) (h8 : P 8 RX8 TX8 10) (h9 : P 9 RX9 TX9 11) (h10 : P 10 RX10 TX10 20) (h11 : P 11 RX11 TX11 48) :
    ∀ {c : Nat} {C : String} {T : u_T} {n : Nat}, vwCl[c]? = some (C, T, n) → P c C T n := by
  intro c C T n h
  match c, h with
  | 0, h => cases h; exact h0
  | 1, h => cases h; exact h1
  | 2, h => cases h; exact h2
  | 3, h => cases h; exact h3
  | 4, h => cases h; exact h4
  | 5, h => cases h; exact h5
  | 6, h => cases h; exact h6
  | 7, h => cases h; exact h7
  | 8, h => cases h; exact h8
  | 9, h => cases h; exact h9
  | 10, h => cases h; exact h10
  | 11, h => cases h; exact h11
  | c + 12, h => simp [vwCl] at h
theorem in_places {ws : List Cond} (ps : List Nat) (hp : ws = ps.filterMap (fun i => lw_tbl[i]?)) (h : ws.all goodWord = true) : ∀ w ∈ ws, w ∈ TS := by
  intro w hw
  have h1 := List.all_eq_true.mp h w hw
  rw [hp] at hw
  obtain ⟨i, -, hi⟩ := List.mem_filterMap.mp hw
  exact TS_in hi h1
theorem ci_0 : ∀ w ∈ u_ws RX0 TX0 3, w ∈ TS := in_places [237, 239, 241] (by decide +kernel) (by decide +kernel)
theorem ci_1 : ∀ w ∈ u_ws RX1 TX1 12, w ∈ TS := in_places [328, 330, 332, 334, 336, 338, 340, 342, 344, 346, 348, 350] (by decide +kernel) (by decide +kernel)
theorem ci_2 : ∀ w ∈ u_ws RX2 TX2 3, w ∈ TS := in_places [299, 301, 303] (by decide +kernel) (by decide +kernel)
theorem ci_3 : ∀ w ∈ u_ws RX3 TX3 6, w ∈ TS := in_places [214, 216, 218, 220, 222, 224] (by decide +kernel) (by decide +kernel)
theorem ci_4 : ∀ w ∈ u_ws RX4 TX4 6, w ∈ TS := in_places [410, 412, 414, 416, 418, 420] (by decide +kernel) (by decide +kernel)
theorem ci_5 : ∀ w ∈ u_ws RX5 TX5 8, w ∈ TS := in_places [272, 274, 276, 278, 280, 282, 284, 286] (by decide +kernel) (by decide +kernel)
theorem ci_6 : ∀ w ∈ u_ws RX6 TX6 1, w ∈ TS := in_places [251] (by decide +kernel) (by decide +kernel)
theorem ci_7 : ∀ w ∈ u_ws RX7 TX7 6, w ∈ TS := in_places [181, 183, 185, 187, 189, 191] (by decide +kernel) (by decide +kernel)
theorem ci_8 : ∀ w ∈ u_ws RX8 TX8 10, w ∈ TS := in_places [137, 139, 141, 143, 145, 147, 149, 151, 153, 155] (by decide +kernel) (by decide +kernel)
theorem ci_9 : ∀ w ∈ u_ws RX9 TX9 11, w ∈ TS := in_places [370, 372, 374, 376, 378, 380, 382, 384, 386, 388, 390] (by decide +kernel) (by decide +kernel)
theorem ci_10 : ∀ w ∈ u_ws RX10 TX10 20, w ∈ TS := in_places [443, 445, 447, 449, 451, 453, 455, 457, 459, 461, 463, 465, 467, 469, 471, 473, 475, 477, 479, 481] (by decide +kernel) (by decide +kernel)
theorem ci_11 : ∀ w ∈ u_ws RX11 TX11 48, w ∈ TS := in_places [1190, 1192, 1194, 1196, 1198, 1200, 1202, 1204, 1206, 1208, 1210, 1212, 1214, 1216, 1218, 1220, 1222, 1224, 1226, 1228, 1230, 1232, 1234, 1236, 1238, 1240, 1242, 1244, 1246, 1248, 1250, 1252, 1254, 1256, 1258, 1260, 1262, 1264, 1266, 1268, 1270, 1272, 1274, 1276, 1278, 1280, 1282, 1284] (by decide +kernel) (by decide +kernel)
theorem cl_in : ∀ {c : Nat} {C : String} {T : u_T} {n : Nat}, vwCl[c]? = some (C, T, n) → ∀ w ∈ u_ws C T n, w ∈ TS := cl_cases (P := fun _ C T n => ∀ w ∈ u_ws C T n, w ∈ TS) ci_0 ci_1 ci_2 ci_3 ci_4 ci_5 ci_6 ci_7 ci_8 ci_9 ci_10 ci_11
theorem cl_ty : ∀ {c : Nat} {C : String} {T : u_T} {n : Nat}, vwCl[c]? = some (C, T, n) → ∀ k, k < n → parseFieldDescriptor (T k).2.2.1 = some (tyf c k) := cl_cases (P := fun c C T n => ∀ k, k < n → parseFieldDescriptor (T k).2.2.1 = some (tyf c k)) tyX0_ok tyX1_ok tyX2_ok tyX3_ok tyX4_ok tyX5_ok tyX6_ok tyX7_ok tyX8_ok tyX9_ok tyX10_ok tyX11_ok
theorem cl_nm : ∀ {c : Nat} {C : String} {T : u_T} {n : Nat}, vwCl[c]? = some (C, T, n) → ∀ a, a < n → ∀ b, b < n → a ≠ b → (T a).2.1 ≠ (T b).2.1 := cl_cases (P := fun c C T n => ∀ a, a < n → ∀ b, b < n → a ≠ b → (T a).2.1 ≠ (T b).2.1) nmX0 nmX1 nmX2 nmX3 nmX4 nmX5 nmX6 nmX7 nmX8 nmX9 nmX10 nmX11
theorem cl_name : ∀ {c : Nat} {C : String} {T : u_T} {n : Nat}, vwCl[c]? = some (C, T, n) → C = clsN c := cl_cases (P := fun c C _ _ => C = clsN c) rfl rfl rfl rfl rfl rfl rfl rfl rfl rfl rfl rfl
/-! rows -/
theorem row13 {k j : Nat} (h : vOK (.inr (.inr (13, k, j)))) : k = 0 ∧ j = 1 := by
  rcases h with h | h
  · exact absurd (idl_c _ h).1 (by simp)
  · cases h
    exact ⟨rfl, rfl⟩
theorem not13 {N k j q L : Nat} (h : vOK (.inr (.inr (13, k, j)))) (hq : ¬ q = 1) (hk : arO N 13 j = some (q, L)) : False := by
  obtain ⟨rfl, rfl⟩ := row13 h
  cases hk
  exact hq rfl
theorem rowI {N c k j q L : Nat} (h : vOK (.inr (.inr (c, k, j)))) (h13 : ¬ c = 13) (hk : arO N c j = some (q, L)) : ∃ j2, j = j2 + 1 ∧ (c, k, j2 + 1) ∈ idl ∧ (akd c j2).1 = q ∧ L = (akd c j2).2 := by
  have hm : (c, k, j) ∈ idl := h.resolve_right (fun e => by cases e; exact h13 rfl)
  cases j with
  | zero => cases hk
  | succ j2 =>
    have hb : Nat.beq c 13 = false := Bool.eq_false_iff.mpr fun e => h13 (Nat.eq_of_beq_eq_true e)
    unfold arO at hk
    rw [hb] at hk
    have hk : akO c j2 = some (q, L) := hk
    refine ⟨j2, rfl, hm, ?_, ?_⟩
    · unfold akd; rw [hk]
    · unfold akd; rw [hk]
theorem cel_I {cy : Nat × Nat × Nat × Nat} {ad : RF → Nat} {σ : ST} {c k j : Nat} (h : (akd c j).1 = 1) : cel cy ad σ (c, k, j + 1) = .inl (cy.1, (akd c j).2, .inl (σ.1 c k (j + 1))) := by
  show celA cy ad σ c k j (akd c j) = _
  generalize akd c j = q at h
  obtain ⟨q0, q1⟩ := q
  simp only at h
  subst h
  rfl
theorem cel_J {cy : Nat × Nat × Nat × Nat} {ad : RF → Nat} {σ : ST} {c k j : Nat} (h : (akd c j).1 = 2) : cel cy ad σ (c, k, j + 1) = .inl (cy.2.1, (akd c j).2, .inr (.inl (σ.2 c k (j + 1)))) := by
  show celA cy ad σ c k j (akd c j) = _
  generalize akd c j = q at h
  obtain ⟨q0, q1⟩ := q
  simp only at h
  subst h
  rfl
theorem cel_R {cy : Nat × Nat × Nat × Nat} {ad : RF → Nat} {σ : ST} {c k j : Nat} (h : (akd c j).1 = 3) : cel cy ad σ (c, k, j + 1) = .inl (cond (Nat.beq (raf c (j + 1) 0).1 7) cy.2.2.2 cy.2.2.1, (akd c j).2, .inr (.inr (.inr (.inr (fun i => some (ad (raf c (j + 1) i))))))) := by
  show celA cy ad σ c k j (akd c j) = _
  generalize akd c j = q at h
  obtain ⟨q0, q1⟩ := q
  simp only at h
  subst h
  rfl
theorem cel_any (cy : Nat × Nat × Nat × Nat) (ad : RF → Nat) (σ : ST) {c k j : Nat} (hm : (c, k, j + 1) ∈ idl) : ∃ (cA : ClassId) (ar : vp_A) (t0 : Nat) (ty : FieldType), cel cy ad σ (c, k, j + 1) = .inl (cA, ar) ∧ (tyl cy)[t0]? = some (cA, ty) ∧ ar.1 = (akd c j).2 := by
  show ∃ (cA : ClassId) (ar : vp_A) (t0 : Nat) (ty : FieldType), celA cy ad σ c k j (akd c j) = .inl (cA, ar) ∧ (tyl cy)[t0]? = some (cA, ty) ∧ ar.1 = (akd c j).2
  generalize akd c j = q
  obtain ⟨q0, q1⟩ := q
  match q0 with
  | 0 =>
    show ∃ (cA : ClassId) (ar : vp_A) (t0 : Nat) (ty : FieldType), Sum.inl (cond (Nat.beq (raf c (j + 1) 0).1 7) cy.2.2.2 cy.2.2.1, q1, .inr (.inr (.inr (.inr (fun i => some (ad (raf c (j + 1) i))))))) = .inl (cA, ar) ∧ (tyl cy)[t0]? = some (cA, ty) ∧ ar.1 = q1
    cases Nat.beq (raf c (j + 1) 0).1 7
    · exact ⟨_, _, 2, _, rfl, rfl, rfl⟩
    · exact ⟨_, _, 3, _, rfl, rfl, rfl⟩
  | 1 => exact ⟨_, _, 0, _, rfl, rfl, rfl⟩
  | 2 => exact ⟨_, _, 1, _, rfl, rfl, rfl⟩
  | n + 3 =>
    show ∃ (cA : ClassId) (ar : vp_A) (t0 : Nat) (ty : FieldType), Sum.inl (cond (Nat.beq (raf c (j + 1) 0).1 7) cy.2.2.2 cy.2.2.1, q1, .inr (.inr (.inr (.inr (fun i => some (ad (raf c (j + 1) i))))))) = .inl (cA, ar) ∧ (tyl cy)[t0]? = some (cA, ty) ∧ ar.1 = q1
    cases Nat.beq (raf c (j + 1) 0).1 7
    · exact ⟨_, _, 2, _, rfl, rfl, rfl⟩
    · exact ⟨_, _, 3, _, rfl, rfl, rfl⟩
theorem vOK_fget {σ : ST} {c k j : Nat} (hm : (c, k, 0) ∈ idl) (hj : j < nfs c) : vOK (fget σ c k j) := by
  have h := idl_fld _ hm rfl j hj
  rw [fget_eq]
  revert h
  simp only
  generalize fkd c j = q
  obtain ⟨q0, q1⟩ := q
  intro h
  match q0, h with
  | 0, _ => trivial
  | 1, _ => trivial
  | 2, h => exact Or.inl (h.2.1 rfl)
  | 3, _ => trivial
  | 4, h => exact Or.inl (h.1 rfl)
  | n + 5, h => exact absurd h.2.2 (by simp)
theorem fget_I0 {ad : RF → Nat} {σ : ST} {c k b : Nat} {x : Int32} (h : (fkd c b).1 = 0) : tr ad (fget (uI σ c k (b + 1) 0 x) c k b) = .int x := by
  rw [fget_eq]
  generalize fkd c b = q at h
  obtain ⟨q0, q1⟩ := q
  simp only at h
  subst h
  show Value.int ((uI σ c k (b + 1) 0 x).1 c k (b + 1) 0) = .int x
  rw [uI_row]
  unfold upd
  rw [if_pos rfl]
theorem fget_I3 {ad : RF → Nat} {σ : ST} {c k b : Nat} {x : Int32} (h : (fkd c b).1 = 3) : tr ad (fget (uI σ c k (b + 1) 0 x) c k b) = .int x := by
  rw [fget_eq]
  generalize fkd c b = q at h
  obtain ⟨q0, q1⟩ := q
  simp only at h
  subst h
  show Value.int ((uI σ c k (b + 1) 0 x).1 c k (b + 1) 0) = .int x
  rw [uI_row]
  unfold upd
  rw [if_pos rfl]
theorem fget_J1 {ad : RF → Nat} {σ : ST} {c k b : Nat} {x : Int64} (h : (fkd c b).1 = 1) : tr ad (fget (uL σ c k (b + 1) 0 x) c k b) = .long x := by
  rw [fget_eq]
  generalize fkd c b = q at h
  obtain ⟨q0, q1⟩ := q
  simp only at h
  subst h
  show Value.long ((uL σ c k (b + 1) 0 x).2 c k (b + 1) 0) = .long x
  rw [uL_row]
  unfold vp_updL
  rw [if_pos rfl]
theorem ldc_word {o ix : Nat} {z : Int} (h : chK o ix z = true) : Cond.constant (clsN o) ix (Int32.ofInt z) ∈ TS := by
  unfold chK at h
  split at h
  · simp only [decide_eq_true_eq] at h
    subst h
    exact TS_in (p := 399) (by decide +kernel) rfl
  · simp only [decide_eq_true_eq] at h
    subst h
    exact TS_in (p := 822) (by decide +kernel) rfl
  · simp only [decide_eq_true_eq] at h
    subst h
    exact TS_in (p := 550) (by decide +kernel) rfl
  · cases h
theorem ldc2_word {o ix : Nat} {z : Int} (h : chJ o ix z = true) : Cond.constantLong (clsN o) ix (Int64.ofInt z) ∈ TS := by
  unfold chJ at h
  split at h
  · simp only [decide_eq_true_eq] at h
    subst h
    exact TS_in (p := 1323) (by decide +kernel) rfl
  · simp only [decide_eq_true_eq] at h
    subst h
    exact TS_in (p := 1324) (by decide +kernel) rfl
  · cases h
theorem copy_words : Cond.native arraycopyName ∈ TS ∧ Cond.static arraycopyName ∈ TS ∧ Cond.initialized "java/lang/System" ∈ TS := ⟨TS_in (p := 597) (by decide +kernel) rfl, TS_in (p := 596) (by decide +kernel) rfl, TS_in (p := 98) (by decide +kernel) rfl⟩
theorem copy_words9 : nativeFrameWords "java/lang/System" "arraycopy" 5 ≤ 40 := by decide +kernel
theorem ret_ty {a : Nat} {r : Option FieldType} {x : Int32} (h : chR a r = true) (hz : a = 0 ∨ x = 0 ∨ x = 1) : r = some .int ∨ (r = some .boolean ∧ (x = 0 ∨ x = 1)) := by
  unfold chR at h
  cases a with
  | zero => exact Or.inl (by simpa using h)
  | succ a => exact Or.inr ⟨by simpa using h, hz.resolve_left (by omega)⟩
theorem sOK_cons {v : AV} {st : List AV} (h : vOK v) (hs : sOK st) : sOK (v :: st) := fun w hw => (List.mem_cons.mp hw).elim (fun e => e ▸ h) (hs w)
theorem sOK_tail {v : AV} {st : List AV} (hs : sOK (v :: st)) : sOK st := fun w hw => hs w (List.mem_cons_of_mem _ hw)
theorem sOK_psh {v : Option Int32} {st : List AV} (hs : sOK st) : sOK (psh (v.map Sum.inl) st) := by
  cases v with
  | none => exact hs
  | some x => exact sOK_cons trivial hs
theorem catS_app : ∀ (a b : List AV), catS (a ++ b) = catS a + catS b
  | [], b => by rw [List.nil_append, catS, Nat.zero_add]
  | v :: a, b => by rw [List.cons_append, catS, catS, catS_app a b, Nat.add_assoc]
theorem catS_rev : ∀ (a : List AV), catS a.reverse = catS a
  | [] => rfl
  | v :: a => by rw [List.reverse_cons, catS_app, catS_rev a, catS, catS, catS, Nat.add_zero, Nat.add_comm]
theorem wp_far {N n : Nat} {d : Nat × Nat} {a : Nat} {ls : List (Option AV)} {st : List AV} {σ : ST} {Q : POST} (h : 900 ≤ a) : ¬ wp N n d (tab a) 0 ls st σ Q := by
  have e : tab a = ([], [], 999) := by
    unfold tab
    rw [nth_out [] tabL (a / 16) (by have : tabL.length = 15 := by decide +kernel
                                     omega)]
    rfl
  rw [e]
  cases n with
  | zero => exact fun h => h
  | succ n => exact fun h => h
/-- the locals -/
def LOC (ad : RF → Nat) (lsM : Array Slot) (n : Nat) (ls : List (Option AV)) : Prop := lv_has lsM n (asc ad 0 ls) ∧ lOK ls ∧ ∀ k, inL ls k = true → k < n
theorem LOC_put1 {ad : RF → Nat} {lsM lsM' : Array Slot} {n : Nat} {ls : List (Option AV)} {k : Nat} {v : AV} (h0 : LOC ad lsM n ls) (hi : inL ls k = true) (hn : noLg ls k = true) (hv : vOK v)
    (h : lv_has lsM' n ((k, tr ad v) :: (asc ad 0 ls).filter (fun q => !(q.1 == k) && !(q.1 + 1 == k && q.2.category == 2)))) : LOC ad lsM' n (stl ls k (some v)) :=
  ⟨lv_put1 hi hn h, lOK_stl h0.2.1 hi (fun w e => by cases e; exact hv), fun j hj => h0.2.2 j (by rwa [inL_stl] at hj)⟩
theorem LOC_put2 {ad : RF → Nat} {lsM lsM' : Array Slot} {n : Nat} {ls : List (Option AV)} {k : Nat} {v : AV} (h0 : LOC ad lsM n ls) (hi : inL ls (k + 1) = true) (hn : noLg ls k = true) (hv : vOK v)
    (h : lv_has lsM' n ((k, tr ad v) :: (asc ad 0 ls).filter (fun q => !(q.1 == k) && (!(q.1 == k + 1) && !(q.1 + 1 == k && q.2.category == 2))))) : LOC ad lsM' n (stl (stl ls k (some v)) (k + 1) none) :=
  ⟨lv_put2 hi (inL_pred ls k hi) hn h, lOK_stl (lOK_stl h0.2.1 (inL_pred ls k hi) (fun w e => by cases e; exact hv)) (by rw [inL_stl]; exact hi) (fun w e => by cases e), fun j hj => h0.2.2 j (by rwa [inL_stl, inL_stl] at hj)⟩
theorem inL_ent : ∀ (n : Nat) (vs : List AV) (k : Nat), inL (ent n vs) k = true → k < n
  | 0, vs, k, h => by simp [ent, inL] at h
  | n + 1, [], 0, h => by omega
  | n + 1, [], k + 1, h => by have := inL_ent n [] k (by simpa [ent, inL] using h); omega
  | n + 1, .inl x :: vs, 0, h => by omega
  | n + 1, .inl x :: vs, k + 1, h => by have := inL_ent n vs k (by simpa [ent, inL] using h); omega
  | n + 1, .inr (.inr r) :: vs, 0, h => by omega
  | n + 1, .inr (.inr r) :: vs, k + 1, h => by have := inL_ent n vs k (by simpa [ent, inL] using h); omega
  | n + 2, .inr (.inl x) :: vs, 0, h => by omega
  | n + 2, .inr (.inl x) :: vs, 1, h => by omega
  | n + 2, .inr (.inl x) :: vs, k + 2, h => by have := inL_ent n vs k (by simpa [ent, inL] using h); omega
  | 1, .inr (.inl x) :: vs, 0, h => by omega
  | 1, .inr (.inl x) :: vs, k + 1, h => by simp [ent, inL] at h
