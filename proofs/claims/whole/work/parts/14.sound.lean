/-! THE WALK: what IL's wp promises, the machine does -/
/-- what stands through a method: the machine, its code, the words, the classes, the script, and what else of the start is needed (SX) -/
def CX (D : va_G) (cy : Nat × Nat × Nat × Nat) (b N : Nat) (xs : Nat → Int32) (SX : State → Prop) (a : Nat) (p : Program) (s : State) (m : MethodId) (args : Array Value) (meth : Method) (c : Code) : Prop :=
  p.tables.exec = Jvm.exec ∧ c.code = (mi a).2.1 ∧ c.maxLocals = (inf a).2 ∧ s.vm.findClass (mi a).1.cls = some m.cls ∧ (∀ w ∈ TS, w.before args s = true) ∧ va_K D vwCl (tyl cy) s ∧ va_X b N xs s s.heap ∧ b < s.heap.size ∧ SX s ∧ meth.locks = false
/-- what is needed stays, where the walk's own cells alone change -/
def SXk (A : Nat → Prop) (SX : State → Prop) : Prop := ∀ s U : State, SX s → s.heap.size ≤ U.heap.size → (∀ q : Nat, q < s.heap.size → ¬ A q → U.heap[q]? = s.heap[q]?) → s.WarmedH U.vm → SX U
def RM (R : Room) (d : Nat × Nat) (cells slots cm sm : Nat) : Prop := d.1 + 1 ≤ R.frames ∧ 64 * (d.1 + 1) ≤ R.locals ∧ cells + 1000 * d.2 ≤ cm ∧ slots + 10000 * d.2 ≤ sm ∧ cm ≤ R.cells ∧ sm ≤ R.slots
def rtD (a : Nat) (v : Option Int32) (pc : Nat) : Prop := match v with
  | some x => decode (mi a).2.1 pc = .ok (.ireturn, 1) ∧ ((mi a).2.2 = some .int ∨ ((mi a).2.2 = some .boolean ∧ (x = 0 ∨ x = 1)))
  | none => decode (mi a).2.1 pc = .ok (.return_, 1) ∧ (mi a).2.2 = none
def RT (l : Launch) (D : va_G) (cy : Nat × Nat × Nat × Nat) (ad : RF → Nat) (xs : Nat → Int32) (A : Nat → Prop) (a : Nat) (Q : POST) (p : Program) (e : Env) (R : Room) (s : State) (m : MethodId) (args : Array Value) (below : List Frame) (meth : Method) (c : Code) (cm sm : Nat) (Qm : State → Prop) : Prop :=
  ∀ (v : Option Int32) (σ' : ST) (H' : Heap) (locs' : List Loc) (cells' slots' pc' : Nat) (lsM' : Array Slot), Q (v.map Sum.inl) σ' → va_P D vwCl (wsl cy ad σ') H' → va_S A s.heap H' locs' → σ'.1 13 0 1 = xs → cells' ≤ cm → slots' ≤ sm → rtD a v pc' →
    W p l e R s m args below meth c H' locs' cells' slots' Qm (F0 m pc' lsM' (v.toList.map Value.int))
def SND (l : Launch) (D : va_G) (cy : Nat × Nat × Nat × Nat) (ad : RF → Nat) (b N : Nat) (xs : Nat → Int32) (A : Nat → Prop) (SX : State → Prop) (d : Nat × Nat) (a i : Nat) (ls : List (Option AV)) (st : List AV) (σ : ST) (Q : POST) : Prop :=
  ∀ (p : Program) (e : Env) (R : Room) (s : State) (m : MethodId) (args : Array Value) (below : List Frame) (meth : Method) (c : Code) (H : Heap) (locs : List Loc) (cells slots cm sm : Nat) (Qm : State → Prop) (lsM : Array Slot),
    CX D cy b N xs SX a p s m args meth c → va_P D vwCl (wsl cy ad σ) H → va_D A (wsl cy ad σ) → va_S A s.heap H locs → σ.1 13 0 1 = xs → LOC ad lsM (inf a).2 ls → sOK st → RM R d cells slots cm sm → RT l D cy ad xs A a Q p e R s m args below meth c cm sm Qm →
    W p l e R s m args below meth c H locs cells slots Qm (F0 m (rpc (tab a) i) lsM (st.map (tr ad)))
/-- the text "weight" and the call of wordOf behind it -/
def HWd (l : Launch) (D : va_G) (cy : Nat × Nat × Nat × Nat) (b N : Nat) (xs : Nat → Int32) (A : Nat → Prop) (SX : State → Prop) : Prop :=
  ∀ (p : Program) (e : Env) (R : Room) (s : State) (m : MethodId) (args : Array Value) (below : List Frame) (meth : Method) (c : Code) (H : Heap) (locs : List Loc) (cells slots : Nat) (Qm : State → Prop) (a pc : Nat) (lsM : Array Slot) (st : List Value),
    CX D cy b N xs SX a p s m args meth c → (inf a).1 = 11 → decode (mi a).2.1 pc = .ok (.ldc 172, 2) → decode (mi a).2.1 (pc + 2) = .ok (.invokestatic 174, 3) → lsM.size = (inf a).2 → (st.map fun v => v.category).sum ≤ 8 → 5 ≤ R.frames → 320 ≤ R.locals → cells ≤ R.cells → slots ≤ R.slots → va_S A s.heap H locs →
    (∀ (H1 : Heap) (locs1 : List Loc), H1 = H → va_S A s.heap H1 locs1 → W p l e R s m args below meth c H1 locs1 cells slots Qm (F0 m (pc + 5) lsM (.long 777297172 :: st))) → W p l e R s m args below meth c H locs cells slots Qm (F0 m pc lsM st)
/-- the law's octet -/
def HOd (l : Launch) (D : va_G) (cy : Nat × Nat × Nat × Nat) (ad : RF → Nat) (b N : Nat) (xs : Nat → Int32) (A : Nat → Prop) (SX : State → Prop) : Prop :=
  ∀ (p : Program) (e : Env) (R : Room) (s : State) (m : MethodId) (args : Array Value) (below : List Frame) (meth : Method) (c : Code) (H : Heap) (locs : List Loc) (cells slots : Nat) (Qm : State → Prop) (a pc ix : Nat) (lsM : Array Slot) (st : List Value) (σ : ST) (q : Int32),
    CX D cy b N xs SX a p s m args meth c → Cond.methodLink (clsN (inf a).1) ix yL_octet ∈ TS → decode (mi a).2.1 pc = .ok (.invokestatic ix, 3) → lsM.size = (inf a).2 → (st.map fun v => v.category).sum ≤ 8 → 11 ≤ R.frames → 704 ≤ R.locals → cells + 1000 ≤ R.cells → slots + 10000 ≤ R.slots → va_P D vwCl (wsl cy ad σ) H → va_D A (wsl cy ad σ) → va_S A s.heap H locs →
    (¬ (q < 0 ∨ σ.1 10 0 17 0 ≤ q ∨ 480 ≤ q) → ∀ (H1 : Heap) (locs1 : List Loc) (cells1 slots1 : Nat), va_P D vwCl (wsl cy ad (uL σ 12 0 1 0 (σ.1 10 0 2 q.toNatClampNeg).toInt64)) H1 → va_S A s.heap H1 locs1 → cells1 ≤ cells + 1000 → slots1 ≤ slots + 10000 → W p l e R s m args below meth c H1 locs1 cells1 slots1 Qm (F0 m (pc + 3) lsM (.int 0 :: st))) →
    ((q < 0 ∨ σ.1 10 0 17 0 ≤ q ∨ 480 ≤ q) → ∀ (H1 : Heap) (locs1 : List Loc) (cells1 slots1 : Nat), va_P D vwCl (wsl cy ad σ) H1 → va_S A s.heap H1 locs1 → cells1 ≤ cells + 1000 → slots1 ≤ slots + 10000 → W p l e R s m args below meth c H1 locs1 cells1 slots1 Qm (F0 m (pc + 3) lsM (.int 1 :: st))) →
    W p l e R s m args below meth c H locs cells slots Qm (F0 m pc lsM (.ref (ad (12, 0, 1)) :: .int q :: .ref (ad (10, 0, 0)) :: st))
section CALL
variable {p : Program} {l : Launch} {e : Env} {R : Room} {s : State} {m : MethodId} {args : Array Value} {below : List Frame} {meth : Method} {c : Code} {H : Heap} {locs : List Loc} {cells slots : Nat} {Q : State → Prop} {pc : Nat} {ls : Array Slot} {rest st0 : List Value} {A : Nat → Prop} {H0 : Heap} {free : Addr → Prop} {Qa : State → Outcome → State → Prop}
theorem il_call (hr : va_Run p l e R s m args below meth c H locs cells slots 0 0 (F0 m pc ls st0) rest Qa free) (hS : va_S A H0 H locs) (hf : ∀ q, free q → A q) (hF : ∀ st v t, Qa st (.returned v) t → va_F A st t)
    (kk : ∀ (v : Option Value) (t st : State), st.heap = H → Qa st (.returned v) t → s.vm.Alike t.vm → ∀ (H1 : Heap) (locs1 : List Loc), t.heap = H1 → va_S A H0 H1 locs1 → W p l e R s m args below meth c H1 locs1 cells slots Q (F0 m (pc + 3) ls (v.toList ++ rest))) : W p l e R s m args below meth c H locs cells slots Q (F0 m pc ls st0) := by
  intro T hT X
  obtain ⟨v, st₀, t, T', L, h0, X', hL, e1, e2, hq, st⟩ := hr T hT X
  obtain ⟨hz, hk⟩ := hF _ _ _ hq
  rw [h0] at hz hk
  obtain ⟨t2, a1, b1⟩ := kk v t st₀ h0 hq (by rw [← e2]; exact X'.warmed.alike) T'.heap (locs ++ L) e1.symm
    ⟨Nat.le_trans hS.1 (by rw [e1]; exact hz), fun q h1 h2 => by rw [e1, hk q (Nat.lt_of_lt_of_le h1 hS.1) h2]; exact hS.2.1 q h1 h2, fun q hq => by
      rcases List.mem_append.mp hq with h | h
      · exact hS.2.2 q h
      · exact hf _ (hL q h)⟩ T' rfl X'
  exact ⟨t2, st t2 a1, b1⟩
end CALL
/-- what holds at a method's entry -/
def pcM (D : va_G) (cy : Nat × Nat × Nat × Nat) (ad : RF → Nat) (b N : Nat) (xs : Nat → Int32) (SX : State → Prop) (σ : ST) (U : State) : Prop := va_P D vwCl (wsl cy ad σ) U.heap ∧ va_K D vwCl (tyl cy) U ∧ va_X b N xs U U.heap ∧ b < U.heap.size ∧ SX U
def qcM (D : va_G) (cy : Nat × Nat × Nat × Nat) (ad : RF → Nat) (xs : Nat → Int32) (A : Nat → Prop) (Q : POST) : Array Value → State → Outcome → State → Prop := fun _ st oc t =>
  (∃ (v : Option Int32) (σ' : ST), oc = .returned (v.map Value.int) ∧ Q (v.map Sum.inl) σ' ∧ va_P D vwCl (wsl cy ad σ') t.heap ∧ σ'.1 13 0 1 = xs) ∧ va_F A st t
section MET
variable {l : Launch} {D : va_G} {cy : Nat × Nat × Nat × Nat} {ad : RF → Nat} {b N : Nat} {xs : Nat → Int32} {A : Nat → Prop} {SX : State → Prop}
theorem pcM_blind {avs : List Value} {σ : ST} (hSX : SXk A SX) : FrameBlind (va_Pc avs (pcM D cy ad b N xs SX σ)) := by
  intro a U g mk h
  obtain ⟨h0, h1, h2, h3, h4, h5⟩ := h
  have hal : U.vm.Alike (U.calling g mk a).vm := Vm.Alike.refl U.vm
  exact ⟨h0, h1, va_K.moved hal h2, va_X.moved hal h3, h4, hSX U (U.calling g mk a) h5 (Nat.le_refl _) (fun _ _ _ => rfl) (State.WarmedH.refl U)⟩
theorem pcM_of {σ : ST} {s U : State} {H : Heap} {locs : List Loc} (hSX : SXk A SX) (hP : va_P D vwCl (wsl cy ad σ) H) (hS : va_S A s.heap H locs) (hK : va_K D vwCl (tyl cy) s) (hX : va_X b N xs s s.heap) (hbl : b < s.heap.size) (hbA : ¬ A b) (hsx : SX s) (hU : U.heap = H) (hW : s.WarmedH U.vm) : pcM D cy ad b N xs SX σ U := by
  have hal : s.vm.Alike U.vm := hW.alike
  refine ⟨by rw [hU]; exact hP, va_K.moved hal hK, ?_, by rw [hU]; exact Nat.lt_of_lt_of_le hbl hS.1, hSX s U hsx (by rw [hU]; exact hS.1) (fun q h1 h2 => by rw [hU]; exact hS.2.1 q h1 h2) hW⟩
  rw [hU]
  exact va_X.moved hal (va_X.kept hX (hS.2.1 b hbl hbA))
theorem met_of {d a : Nat} {avs : List AV} {σ : ST} {Q : POST} (h : SND l D cy ad b N xs A SX (d, 0) a 0 (ent (inf a).2 avs) [] σ Q) (ha : a + 1 ≤ 227) (hD : va_D A (wsl cy ad σ)) (hxs : σ.1 13 0 1 = xs) (hargs : sOK avs) (hcat : catS avs ≤ (inf a).2) :
    Met l (mi a).1 (wsM a) (rmD d) (va_Pc (avs.map (tr ad)) (pcM D cy ad b N xs SX σ)) (qcM D cy ad xs A Q) 0 0 A := by
  refine Met.ofW (cc := (mi a).2.1) (maxL := (inf a).2) (ret := (mi a).2.2) (cm_spec ha).2.2.2.1 rfl ?_
  intro p e s m args below meth c s₁ B hml hv
  obtain ⟨rfl, hP, hK, hX, hbl, hsx⟩ := hv
  have hts := atoms_spec (ws := wsM a) B.pre
  have hown : s.vm.findClass (mi a).1.cls = some m.cls := findClass_of_methodNamed B.named
  have hl := lv_entry (avs.map (tr ad)) (n := (inf a).2) (by rw [lg_len]; exact hcat)
  have hlocks := B.notSynchronized
  have hr := B.returns
  rw [lg_entry_eq]
  generalize (lg_sl (avs.map (tr ad)) ++ List.replicate ((inf a).2 - (lg_sl (avs.map (tr ad))).length) Slot.unset).toArray = ls at hl ⊢
  have hL : LOC ad ls (inf a).2 (ent (inf a).2 avs) := ⟨⟨hl.1, hl.2.1, fun q hq => hl.2.2 q (ent_sub ad _ _ _ _ hq)⟩, lOK_ent _ _ hargs, inL_ent _ _⟩
  have g := h p e (rmD d) s m _ below meth c s.heap [] 0 0 0 0 (MQ below (qcM D cy ad xs A Q) (avs.map (tr ad)).toArray s 0 0 A) ls
    ⟨B.exec, B.bytes, hml, hown, fun w hw => hts w (List.mem_cons_of_mem _ hw), hK, hX, hbl, hsx, hlocks⟩ hP hD va_S.rf hxs hL (fun v hv => absurd hv List.not_mem_nil) ⟨Nat.le_refl _, Nat.le_refl _, Nat.le_refl _, Nat.le_refl _, Nat.le_refl _, Nat.le_refl _⟩ ?_
  · rw [c0_all a ha] at g
    exact g
  · intro v σ' H' locs' cells' slots' pc' lsM' hQ hP' hS' hx' hc' hs' hrt
    obtain rfl : cells' = 0 := Nat.le_zero.mp hc'
    obtain rfl : slots' = 0 := Nat.le_zero.mp hs'
    cases v with
    | none => exact W.vret B.exec B.bytes (by rw [hr]; exact hrt.2) (fun t ht hw => ⟨⟨none, σ', rfl, hQ, by rw [ht]; exact hP', hx'⟩, hS'.F ht⟩) hS'.2.2 hrt.1 hlocks
    | some x =>
      obtain ⟨h1, h2⟩ := hrt
      rcases h2 with h2 | ⟨h2, h3⟩
      · exact W.zret B.exec B.bytes (by rw [hr]; exact h2) rfl (fun t ht hw => ⟨⟨some x, σ', rfl, hQ, by rw [ht]; exact hP', hx'⟩, hS'.F ht⟩) hS'.2.2 h1 hlocks
      · exact W.zret B.exec B.bytes (by rw [hr]; exact h2) (by rcases h3 with rfl | rfl <;> rfl) (fun t ht hw => ⟨⟨some x, σ', rfl, hQ, by rw [ht]; exact hP', hx'⟩, hS'.F ht⟩) hS'.2.2 h1 hlocks
end MET
set_option maxHeartbeats 4000000 in
set_option maxRecDepth 100000 in
theorem sound {l : Launch} {D : va_G} {cy : Nat × Nat × Nat × Nat} {ad : RF → Nat} {b N : Nat} {xs : Nat → Int32} {A : Nat → Prop} {SX : State → Prop} (hHW : HWd l D cy b N xs A SX) (hHO : HOd l D cy ad b N xs A SX) (hb13 : ad (13, 0, 1) = b) (hbA : ¬ A b) (hSX : SXk A SX) :
    ∀ (n : Nat) (d : Nat × Nat) (a i : Nat) (ls : List (Option AV)) (st : List AV) (σ : ST) (Q : POST), a + 1 ≤ 227 → wp N n d (tab a) i ls st σ Q → SND l D cy ad b N xs A SX d a i ls st σ Q := by
  subst hb13
  intro n
  induction n with
  | zero =>
    intro d a i ls st σ Q ha h
    exact h.elim
  | succ n ih =>
  intro d a i ls st σ Q ha h p e R s m args below meth c H locs cells slots cm sm Qm lsM hC hP hD hS hxs hl hst hR hret
  obtain ⟨hx, hb, hml, hown, hts, hK, hX, hbl, hsx, hlocks⟩ := id hC
  have hcls := cm_cls ha
  have h : step N (wp N n) d (tab a) i ls st σ Q := h
  have go : ∀ (i' : Nat) (ls' : List (Option AV)) (lsM' : Array Slot) (st' : List AV), wp N n d (tab a) i' ls' st' σ Q → LOC ad lsM' (inf a).2 ls' → sOK st' → W p l e R s m args below meth c H locs cells slots Qm (F0 m (rpc (tab a) i') lsM' (st'.map (tr ad))) :=
    fun i' ls' lsM' st' hw hl' hst' => ih d a i' ls' st' σ Q ha hw p e R s m args below meth c H locs cells slots cm sm Qm lsM' hC hP hD hS hxs hl' hst' hR hret
  have goS : ∀ (σ' : ST) (H' : Heap) (locs' : List Loc) (i' : Nat) (st' : List AV), wp N n d (tab a) i' ls st' σ' Q → va_P D vwCl (wsl cy ad σ') H' → va_S A s.heap H' locs' → σ'.1 13 0 1 = xs → sOK st' → W p l e R s m args below meth c H' locs' cells slots Qm (F0 m (rpc (tab a) i') lsM (st'.map (tr ad))) :=
    fun σ' H' locs' i' st' hw hP' hS' hx' hst' => ih d a i' ls st' σ' Q ha hw p e R s m args below meth c H' locs' cells slots cm sm Qm lsM hC hP' (wsl_D hD) hS' hx' hl hst' hR hret
  have hch := ck_all a ha i
  unfold step at h
  unfold chX at hch
  generalize he : (tab a).at i = en at h hch
  cases en with
  | none => exact h.elim
  | some en =>
  obtain ⟨ins, rp, nx, a1, b1, z⟩ := en
  have hrp : rpc (tab a) i = rp := by unfold rpc; rw [he]
  rw [hrp]
  have hchk : chE (inf a).1 (mi a).2.2 (mi a).2.1 (tab a) i (ins, rp, nx, a1, b1, z) = true := hch
  dsimp only at h
  clear hch
  cases ins
  case aload k =>
    have hc : (decide (decode (mi a).2.1 rp = .ok (.aload k, 2)) && Nat.beq (rpc (tab a) nx) (rp + 2)) = true := hchk
    simp only [Bool.and_eq_true, decide_eq_true_eq, Nat.beq_eq] at hc
    obtain ⟨hd, hn⟩ := hc
    obtain ⟨r, hr, hw⟩ := ldR_inv h
    have g := go nx ls lsM _ hw hl (sOK_cons (hl.2.1 _ _ hr) hst)
    rw [hn] at g
    exact lv_aload hx hb hd (lv_get hl.1 hr) g
  case aload_n k =>
    have hc : (decide (decode (mi a).2.1 rp = .ok (.aload_n k, 1)) && Nat.beq (rpc (tab a) nx) (rp + 1)) = true := hchk
    simp only [Bool.and_eq_true, decide_eq_true_eq, Nat.beq_eq] at hc
    obtain ⟨hd, hn⟩ := hc
    obtain ⟨r, hr, hw⟩ := ldR_inv h
    have g := go nx ls lsM _ hw hl (sOK_cons (hl.2.1 _ _ hr) hst)
    rw [hn] at g
    exact lv_aload_n hx hb hd rfl (lv_get hl.1 hr) g
  case iload k =>
    have hc : (decide (decode (mi a).2.1 rp = .ok (.iload k, 2)) && Nat.beq (rpc (tab a) nx) (rp + 2)) = true := hchk
    simp only [Bool.and_eq_true, decide_eq_true_eq, Nat.beq_eq] at hc
    obtain ⟨hd, hn⟩ := hc
    obtain ⟨r, hr, hw⟩ := ldI_inv h
    have g := go nx ls lsM _ hw hl (sOK_cons (hl.2.1 _ _ hr) hst)
    rw [hn] at g
    exact lv_iload hx hb hd (lv_get hl.1 hr) g
  case iload_n k =>
    have hc : (decide (decode (mi a).2.1 rp = .ok (.iload_n k, 1)) && Nat.beq (rpc (tab a) nx) (rp + 1)) = true := hchk
    simp only [Bool.and_eq_true, decide_eq_true_eq, Nat.beq_eq] at hc
    obtain ⟨hd, hn⟩ := hc
    obtain ⟨r, hr, hw⟩ := ldI_inv h
    have g := go nx ls lsM _ hw hl (sOK_cons (hl.2.1 _ _ hr) hst)
    rw [hn] at g
    exact lv_iload_n hx hb hd rfl (lv_get hl.1 hr) g
  case lload k =>
    have hc : (decide (decode (mi a).2.1 rp = .ok (.lload k, 2)) && Nat.beq (rpc (tab a) nx) (rp + 2)) = true := hchk
    simp only [Bool.and_eq_true, decide_eq_true_eq, Nat.beq_eq] at hc
    obtain ⟨hd, hn⟩ := hc
    obtain ⟨r, hr, hw⟩ := ldJ_inv h
    have g := go nx ls lsM _ hw hl (sOK_cons (hl.2.1 _ _ hr) hst)
    rw [hn] at g
    exact lv_lload hx hb hd (lv_get hl.1 hr) g
  case lload_n k =>
    have hc : (decide (decode (mi a).2.1 rp = .ok (.lload_n k, 1)) && Nat.beq (rpc (tab a) nx) (rp + 1)) = true := hchk
    simp only [Bool.and_eq_true, decide_eq_true_eq, Nat.beq_eq] at hc
    obtain ⟨hd, hn⟩ := hc
    obtain ⟨r, hr, hw⟩ := ldJ_inv h
    have g := go nx ls lsM _ hw hl (sOK_cons (hl.2.1 _ _ hr) hst)
    rw [hn] at g
    exact lv_lload_n hx hb hd rfl (lv_get hl.1 hr) g
  case istore k =>
    have hc : (decide (decode (mi a).2.1 rp = .ok (.istore k, 2)) && Nat.beq (rpc (tab a) nx) (rp + 2)) = true := hchk
    simp only [Bool.and_eq_true, decide_eq_true_eq, Nat.beq_eq] at hc
    obtain ⟨hd, hn⟩ := hc
    obtain ⟨x, st', rfl, hi, hno, hw⟩ := stI_inv h
    refine lv_istore hx hb hd hl.1 (hl.2.2 _ hi) rfl (fun ls' hl' => ?_)
    have g := go nx (stl ls k (some (.inl x))) ls' st' hw (LOC_put1 hl hi hno (hst _ List.mem_cons_self) hl') (sOK_tail hst)
    rw [hn] at g
    exact g
  case istore_n k =>
    have hc : (decide (decode (mi a).2.1 rp = .ok (.istore_n k, 1)) && Nat.beq (rpc (tab a) nx) (rp + 1)) = true := hchk
    simp only [Bool.and_eq_true, decide_eq_true_eq, Nat.beq_eq] at hc
    obtain ⟨hd, hn⟩ := hc
    obtain ⟨x, st', rfl, hi, hno, hw⟩ := stI_inv h
    refine lv_istore_n hx hb hd rfl hl.1 (hl.2.2 _ hi) rfl (fun ls' hl' => ?_)
    have g := go nx (stl ls k.val (some (.inl x))) ls' st' hw (LOC_put1 hl hi hno (hst _ List.mem_cons_self) hl') (sOK_tail hst)
    rw [hn] at g
    exact g
  case astore k =>
    have hc : (decide (decode (mi a).2.1 rp = .ok (.astore k, 2)) && Nat.beq (rpc (tab a) nx) (rp + 2)) = true := hchk
    simp only [Bool.and_eq_true, decide_eq_true_eq, Nat.beq_eq] at hc
    obtain ⟨hd, hn⟩ := hc
    obtain ⟨x, st', rfl, hi, hno, hw⟩ := stR_inv h
    refine lv_astore hx hb hd hl.1 (hl.2.2 _ hi) rfl (fun ls' hl' => ?_)
    have g := go nx (stl ls k (some (.inr (.inr x)))) ls' st' hw (LOC_put1 hl hi hno (hst _ List.mem_cons_self) hl') (sOK_tail hst)
    rw [hn] at g
    exact g
  case astore_n k =>
    have hc : (decide (decode (mi a).2.1 rp = .ok (.astore_n k, 1)) && Nat.beq (rpc (tab a) nx) (rp + 1)) = true := hchk
    simp only [Bool.and_eq_true, decide_eq_true_eq, Nat.beq_eq] at hc
    obtain ⟨hd, hn⟩ := hc
    obtain ⟨x, st', rfl, hi, hno, hw⟩ := stR_inv h
    refine lv_astore_n hx hb hd rfl hl.1 (hl.2.2 _ hi) rfl (fun ls' hl' => ?_)
    have g := go nx (stl ls k.val (some (.inr (.inr x)))) ls' st' hw (LOC_put1 hl hi hno (hst _ List.mem_cons_self) hl') (sOK_tail hst)
    rw [hn] at g
    exact g
  case lstore k =>
    have hc : (decide (decode (mi a).2.1 rp = .ok (.lstore k, 2)) && Nat.beq (rpc (tab a) nx) (rp + 2)) = true := hchk
    simp only [Bool.and_eq_true, decide_eq_true_eq, Nat.beq_eq] at hc
    obtain ⟨hd, hn⟩ := hc
    obtain ⟨x, st', rfl, hi, hno, hw⟩ := stJ_inv h
    refine lv_lstore hx hb hd hl.1 (hl.2.2 _ hi) rfl (fun ls' hl' => ?_)
    have g := go nx (stl (stl ls k (some (.inr (.inl x)))) (k + 1) none) ls' st' hw (LOC_put2 hl hi hno (hst _ List.mem_cons_self) hl') (sOK_tail hst)
    rw [hn] at g
    exact g
  case lstore_n k =>
    have hc : (decide (decode (mi a).2.1 rp = .ok (.lstore_n k, 1)) && Nat.beq (rpc (tab a) nx) (rp + 1)) = true := hchk
    simp only [Bool.and_eq_true, decide_eq_true_eq, Nat.beq_eq] at hc
    obtain ⟨hd, hn⟩ := hc
    obtain ⟨x, st', rfl, hi, hno, hw⟩ := stJ_inv h
    refine lv_lstore_n hx hb hd rfl hl.1 (hl.2.2 _ hi) rfl (fun ls' hl' => ?_)
    have g := go nx (stl (stl ls k.val (some (.inr (.inl x)))) (k.val + 1) none) ls' st' hw (LOC_put2 hl hi hno (hst _ List.mem_cons_self) hl') (sOK_tail hst)
    rw [hn] at g
    exact g
  case iinc k n =>
    have hc : (decide (decode (mi a).2.1 rp = .ok (.iinc k n, 3)) && Nat.beq (rpc (tab a) nx) (rp + 3)) = true := hchk
    simp only [Bool.and_eq_true, decide_eq_true_eq, Nat.beq_eq] at hc
    obtain ⟨hd, hn⟩ := hc
    obtain ⟨x, hr, hi, hno, hw⟩ := iinc_inv h
    obtain ⟨q, hq⟩ := List.getElem?_of_mem ((asc_mem (ad := ad) ls 0 _).mpr ⟨k, .inl x, hr, rfl⟩)
    rw [Nat.zero_add] at hq
    refine lv_iinc hx hb hd hl.1 hq rfl (hl.2.2 _ hi) rfl (fun ls' hl' => ?_)
    have g := go nx (stl ls k (some (.inl (x + Int32.ofInt n)))) ls' st hw (LOC_put1 (v := .inl (x + Int32.ofInt n)) hl hi hno trivial hl') hst
    rw [hn] at g
    exact g
  case iconst n =>
    have hc : (decide (decode (mi a).2.1 rp = .ok (.iconst n, 1)) && Nat.beq (rpc (tab a) nx) (rp + 1)) = true := hchk
    simp only [Bool.and_eq_true, decide_eq_true_eq, Nat.beq_eq] at hc
    obtain ⟨hd, hn⟩ := hc
    have g := go nx ls lsM _ h hl (sOK_cons trivial hst)
    rw [hn] at g
    exact lv_iconst hx hb hd rfl g
  case bipush n =>
    have hc : (decide (decode (mi a).2.1 rp = .ok (.bipush n, 2)) && Nat.beq (rpc (tab a) nx) (rp + 2)) = true := hchk
    simp only [Bool.and_eq_true, decide_eq_true_eq, Nat.beq_eq] at hc
    obtain ⟨hd, hn⟩ := hc
    have g := go nx ls lsM _ h hl (sOK_cons trivial hst)
    rw [hn] at g
    exact lv_bipush hx hb hd rfl g
  case sipush n =>
    have hc : (decide (decode (mi a).2.1 rp = .ok (.sipush n, 3)) && Nat.beq (rpc (tab a) nx) (rp + 3)) = true := hchk
    simp only [Bool.and_eq_true, decide_eq_true_eq, Nat.beq_eq] at hc
    obtain ⟨hd, hn⟩ := hc
    have g := go nx ls lsM _ h hl (sOK_cons trivial hst)
    rw [hn] at g
    exact lv_sipush hx hb hd rfl g
  case lconst n =>
    have hc : (decide (decode (mi a).2.1 rp = .ok (.lconst n, 1)) && Nat.beq (rpc (tab a) nx) (rp + 1)) = true := hchk
    simp only [Bool.and_eq_true, decide_eq_true_eq, Nat.beq_eq] at hc
    obtain ⟨hd, hn⟩ := hc
    have g := go nx ls lsM _ h hl (sOK_cons trivial hst)
    rw [hn] at g
    exact lv_lconst hx hb hd rfl g
  case iadd =>
    have hc : (decide (decode (mi a).2.1 rp = .ok (.iadd, 1)) && Nat.beq (rpc (tab a) nx) (rp + 1)) = true := hchk
    simp only [Bool.and_eq_true, decide_eq_true_eq, Nat.beq_eq] at hc
    obtain ⟨hd, hn⟩ := hc
    obtain ⟨x, y, st', rfl, hw⟩ := bn_inv h
    have g := go nx ls lsM _ hw hl (sOK_cons trivial (sOK_tail (sOK_tail hst)))
    rw [hn] at g
    exact lv_iadd hx hb hd g
  case isub =>
    have hc : (decide (decode (mi a).2.1 rp = .ok (.isub, 1)) && Nat.beq (rpc (tab a) nx) (rp + 1)) = true := hchk
    simp only [Bool.and_eq_true, decide_eq_true_eq, Nat.beq_eq] at hc
    obtain ⟨hd, hn⟩ := hc
    obtain ⟨x, y, st', rfl, hw⟩ := bn_inv h
    have g := go nx ls lsM _ hw hl (sOK_cons trivial (sOK_tail (sOK_tail hst)))
    rw [hn] at g
    exact lv_isub hx hb hd g
  case imul =>
    have hc : (decide (decode (mi a).2.1 rp = .ok (.imul, 1)) && Nat.beq (rpc (tab a) nx) (rp + 1)) = true := hchk
    simp only [Bool.and_eq_true, decide_eq_true_eq, Nat.beq_eq] at hc
    obtain ⟨hd, hn⟩ := hc
    obtain ⟨x, y, st', rfl, hw⟩ := bn_inv h
    have g := go nx ls lsM _ hw hl (sOK_cons trivial (sOK_tail (sOK_tail hst)))
    rw [hn] at g
    exact lv_imul hx hb hd g
  case iand =>
    have hc : (decide (decode (mi a).2.1 rp = .ok (.iand, 1)) && Nat.beq (rpc (tab a) nx) (rp + 1)) = true := hchk
    simp only [Bool.and_eq_true, decide_eq_true_eq, Nat.beq_eq] at hc
    obtain ⟨hd, hn⟩ := hc
    obtain ⟨x, y, st', rfl, hw⟩ := bn_inv h
    have g := go nx ls lsM _ hw hl (sOK_cons trivial (sOK_tail (sOK_tail hst)))
    rw [hn] at g
    exact lv_iand hx hb hd g
  case ior =>
    have hc : (decide (decode (mi a).2.1 rp = .ok (.ior, 1)) && Nat.beq (rpc (tab a) nx) (rp + 1)) = true := hchk
    simp only [Bool.and_eq_true, decide_eq_true_eq, Nat.beq_eq] at hc
    obtain ⟨hd, hn⟩ := hc
    obtain ⟨x, y, st', rfl, hw⟩ := bn_inv h
    have g := go nx ls lsM _ hw hl (sOK_cons trivial (sOK_tail (sOK_tail hst)))
    rw [hn] at g
    exact lv_ior hx hb hd g
  case ishl =>
    have hc : (decide (decode (mi a).2.1 rp = .ok (.ishl, 1)) && Nat.beq (rpc (tab a) nx) (rp + 1)) = true := hchk
    simp only [Bool.and_eq_true, decide_eq_true_eq, Nat.beq_eq] at hc
    obtain ⟨hd, hn⟩ := hc
    obtain ⟨x, y, st', rfl, hw⟩ := bn_inv h
    have g := go nx ls lsM _ hw hl (sOK_cons trivial (sOK_tail (sOK_tail hst)))
    rw [hn] at g
    exact lv_ishl hx hb hd g
  case ishr =>
    have hc : (decide (decode (mi a).2.1 rp = .ok (.ishr, 1)) && Nat.beq (rpc (tab a) nx) (rp + 1)) = true := hchk
    simp only [Bool.and_eq_true, decide_eq_true_eq, Nat.beq_eq] at hc
    obtain ⟨hd, hn⟩ := hc
    obtain ⟨x, y, st', rfl, hw⟩ := bn_inv h
    have g := go nx ls lsM _ hw hl (sOK_cons trivial (sOK_tail (sOK_tail hst)))
    rw [hn] at g
    exact lv_ishr hx hb hd g
  case iushr =>
    have hc : (decide (decode (mi a).2.1 rp = .ok (.iushr, 1)) && Nat.beq (rpc (tab a) nx) (rp + 1)) = true := hchk
    simp only [Bool.and_eq_true, decide_eq_true_eq, Nat.beq_eq] at hc
    obtain ⟨hd, hn⟩ := hc
    obtain ⟨x, y, st', rfl, hw⟩ := bn_inv h
    have g := go nx ls lsM _ hw hl (sOK_cons trivial (sOK_tail (sOK_tail hst)))
    rw [hn] at g
    exact lv_iushr hx hb hd rfl g
  case idiv =>
    have hc : (decide (decode (mi a).2.1 rp = .ok (.idiv, 1)) && Nat.beq (rpc (tab a) nx) (rp + 1)) = true := hchk
    simp only [Bool.and_eq_true, decide_eq_true_eq, Nat.beq_eq] at hc
    obtain ⟨hd, hn⟩ := hc
    obtain ⟨x, y, st', rfl, h0, hw⟩ := bn_inv h
    have g := go nx ls lsM _ hw hl (sOK_cons trivial (sOK_tail (sOK_tail hst)))
    rw [hn] at g
    exact lv_idiv hx hb hd h0 g
  case irem =>
    have hc : (decide (decode (mi a).2.1 rp = .ok (.irem, 1)) && Nat.beq (rpc (tab a) nx) (rp + 1)) = true := hchk
    simp only [Bool.and_eq_true, decide_eq_true_eq, Nat.beq_eq] at hc
    obtain ⟨hd, hn⟩ := hc
    obtain ⟨x, y, st', rfl, h0, hw⟩ := bn_inv h
    have g := go nx ls lsM _ hw hl (sOK_cons trivial (sOK_tail (sOK_tail hst)))
    rw [hn] at g
    exact lv_irem hx hb hd h0 g
  case ineg =>
    have hc : (decide (decode (mi a).2.1 rp = .ok (.ineg, 1)) && Nat.beq (rpc (tab a) nx) (rp + 1)) = true := hchk
    simp only [Bool.and_eq_true, decide_eq_true_eq, Nat.beq_eq] at hc
    obtain ⟨hd, hn⟩ := hc
    obtain ⟨x, st', rfl, hw⟩ := un_inv h
    have g := go nx ls lsM _ hw hl (sOK_cons trivial (sOK_tail hst))
    rw [hn] at g
    exact lv_ineg hx hb hd g
  case i2l =>
    have hc : (decide (decode (mi a).2.1 rp = .ok (.i2l, 1)) && Nat.beq (rpc (tab a) nx) (rp + 1)) = true := hchk
    simp only [Bool.and_eq_true, decide_eq_true_eq, Nat.beq_eq] at hc
    obtain ⟨hd, hn⟩ := hc
    obtain ⟨x, st', rfl, hw⟩ := un_inv h
    have g := go nx ls lsM _ hw hl (sOK_cons trivial (sOK_tail hst))
    rw [hn] at g
    exact lv_i2l hx hb hd rfl g
  case l2i =>
    have hc : (decide (decode (mi a).2.1 rp = .ok (.l2i, 1)) && Nat.beq (rpc (tab a) nx) (rp + 1)) = true := hchk
    simp only [Bool.and_eq_true, decide_eq_true_eq, Nat.beq_eq] at hc
    obtain ⟨hd, hn⟩ := hc
    obtain ⟨x, st', rfl, hw⟩ := unJ_inv h
    have g := go nx ls lsM _ hw hl (sOK_cons trivial (sOK_tail hst))
    rw [hn] at g
    exact lv_l2i hx hb hd rfl g
  case ladd =>
    have hc : (decide (decode (mi a).2.1 rp = .ok (.ladd, 1)) && Nat.beq (rpc (tab a) nx) (rp + 1)) = true := hchk
    simp only [Bool.and_eq_true, decide_eq_true_eq, Nat.beq_eq] at hc
    obtain ⟨hd, hn⟩ := hc
    obtain ⟨x, y, st', rfl, hw⟩ := bnJ_inv h
    have g := go nx ls lsM _ hw hl (sOK_cons trivial (sOK_tail (sOK_tail hst)))
    rw [hn] at g
    exact lv_ladd hx hb hd g
  case lsub =>
    have hc : (decide (decode (mi a).2.1 rp = .ok (.lsub, 1)) && Nat.beq (rpc (tab a) nx) (rp + 1)) = true := hchk
    simp only [Bool.and_eq_true, decide_eq_true_eq, Nat.beq_eq] at hc
    obtain ⟨hd, hn⟩ := hc
    obtain ⟨x, y, st', rfl, hw⟩ := bnJ_inv h
    have g := go nx ls lsM _ hw hl (sOK_cons trivial (sOK_tail (sOK_tail hst)))
    rw [hn] at g
    exact lv_lsub hx hb hd g
  case lmul =>
    have hc : (decide (decode (mi a).2.1 rp = .ok (.lmul, 1)) && Nat.beq (rpc (tab a) nx) (rp + 1)) = true := hchk
    simp only [Bool.and_eq_true, decide_eq_true_eq, Nat.beq_eq] at hc
    obtain ⟨hd, hn⟩ := hc
    obtain ⟨x, y, st', rfl, hw⟩ := bnJ_inv h
    have g := go nx ls lsM _ hw hl (sOK_cons trivial (sOK_tail (sOK_tail hst)))
    rw [hn] at g
    exact lv_lmul hx hb hd g
  case ldiv =>
    have hc : (decide (decode (mi a).2.1 rp = .ok (.ldiv, 1)) && Nat.beq (rpc (tab a) nx) (rp + 1)) = true := hchk
    simp only [Bool.and_eq_true, decide_eq_true_eq, Nat.beq_eq] at hc
    obtain ⟨hd, hn⟩ := hc
    obtain ⟨x, y, st', rfl, h0, hw⟩ := bnJ_inv h
    have g := go nx ls lsM _ hw hl (sOK_cons trivial (sOK_tail (sOK_tail hst)))
    rw [hn] at g
    exact lv_ldiv hx hb hd h0 g
  case lrem =>
    have hc : (decide (decode (mi a).2.1 rp = .ok (.lrem, 1)) && Nat.beq (rpc (tab a) nx) (rp + 1)) = true := hchk
    simp only [Bool.and_eq_true, decide_eq_true_eq, Nat.beq_eq] at hc
    obtain ⟨hd, hn⟩ := hc
    obtain ⟨x, y, st', rfl, h0, hw⟩ := bnJ_inv h
    have g := go nx ls lsM _ hw hl (sOK_cons trivial (sOK_tail (sOK_tail hst)))
    rw [hn] at g
    exact lv_lrem hx hb hd h0 g
  case lcmp =>
    have hc : (decide (decode (mi a).2.1 rp = .ok (.lcmp, 1)) && Nat.beq (rpc (tab a) nx) (rp + 1)) = true := hchk
    simp only [Bool.and_eq_true, decide_eq_true_eq, Nat.beq_eq] at hc
    obtain ⟨hd, hn⟩ := hc
    obtain ⟨x, y, st', rfl, hw⟩ := bnJ_inv h
    have g := go nx ls lsM _ hw hl (sOK_cons trivial (sOK_tail (sOK_tail hst)))
    rw [hn] at g
    exact W.lcmp hx hb hd g
  case dup =>
    have hc : (decide (decode (mi a).2.1 rp = .ok (.dup, 1)) && Nat.beq (rpc (tab a) nx) (rp + 1)) = true := hchk
    simp only [Bool.and_eq_true, decide_eq_true_eq, Nat.beq_eq] at hc
    obtain ⟨hd, hn⟩ := hc
    obtain ⟨v, st', rfl, hv, hw⟩ := dup_inv h
    have g := go nx ls lsM _ hw hl (sOK_cons (hst _ List.mem_cons_self) hst)
    rw [hn] at g
    exact lv_dup hx hb hd (by rw [tr_cat]; exact hv) g
  case pop =>
    have hc : (decide (decode (mi a).2.1 rp = .ok (.pop, 1)) && Nat.beq (rpc (tab a) nx) (rp + 1)) = true := hchk
    simp only [Bool.and_eq_true, decide_eq_true_eq, Nat.beq_eq] at hc
    obtain ⟨hd, hn⟩ := hc
    obtain ⟨v, st', rfl, hv, hw⟩ := dup_inv h
    have g := go nx ls lsM _ hw hl (sOK_tail hst)
    rw [hn] at g
    exact lv_pop hx hb hd (by rw [tr_cat]; exact hv) g
  case dup2 =>
    have hc : (decide (decode (mi a).2.1 rp = .ok (.dup2, 1)) && Nat.beq (rpc (tab a) nx) (rp + 1)) = true := hchk
    simp only [Bool.and_eq_true, decide_eq_true_eq, Nat.beq_eq] at hc
    obtain ⟨hd, hn⟩ := hc
    obtain ⟨v, w, st', rfl, hv, hv2, hw⟩ := dup2_inv h
    have g := go nx ls lsM _ hw hl (sOK_cons (hst _ List.mem_cons_self) (sOK_cons (hst _ (List.mem_cons_of_mem _ List.mem_cons_self)) hst))
    rw [hn] at g
    exact lv_dup2_11 hx hb hd (by rw [tr_cat]; exact hv) (by rw [tr_cat]; exact hv2) g
  case if_icmp cd off =>
    have hc : (decide (decode (mi a).2.1 rp = .ok (.if_icmp cd off, 3)) && decide ((rp : Int) + off = (rpc (tab a) a1 : Int)) && Nat.beq (rpc (tab a) nx) (rp + 3)) = true := hchk
    simp only [Bool.and_eq_true, decide_eq_true_eq, Nat.beq_eq] at hc
    obtain ⟨⟨hd, ht⟩, hn⟩ := hc
    obtain ⟨x, y, st', rfl, k1, k2⟩ := bn_inv h
    have hs := sOK_tail (sOK_tail hst)
    have g1 := fun q => go a1 ls lsM st' (k1 q) hl hs
    have g2 := fun q => go nx ls lsM st' (k2 q) hl hs
    rw [hn] at g2
    cases cd
    case eq => exact lv_icmp_eq hx hb hd ht g1 g2
    case ne => exact lv_icmp_ne hx hb hd ht g1 (fun q => g2 (fun z => z q))
    case lt => exact lv_icmp_lt hx hb hd ht g1 g2
    case ge => exact lv_icmp_ge hx hb hd ht g1 g2
    case gt => exact lv_icmp_gt hx hb hd ht g1 g2
    case le => exact lv_icmp_le hx hb hd ht g1 g2
  case ifCond cd off =>
    have hc : (decide (decode (mi a).2.1 rp = .ok (.ifCond cd off, 3)) && decide ((rp : Int) + off = (rpc (tab a) a1 : Int)) && Nat.beq (rpc (tab a) nx) (rp + 3)) = true := hchk
    simp only [Bool.and_eq_true, decide_eq_true_eq, Nat.beq_eq] at hc
    obtain ⟨⟨hd, ht⟩, hn⟩ := hc
    obtain ⟨x, st', rfl, k1, k2⟩ := un_inv h
    have hs := sOK_tail hst
    have g1 := fun q => go a1 ls lsM st' (k1 q) hl hs
    have g2 := fun q => go nx ls lsM st' (k2 q) hl hs
    rw [hn] at g2
    cases cd
    case eq => exact lv_if_eq hx hb hd ht g1 g2
    case ne => exact lv_if_ne hx hb hd ht g1 (fun q => g2 (fun z => z q))
    case lt => exact lv_if_lt hx hb hd ht g1 g2
    case ge => exact lv_if_ge hx hb hd ht g1 g2
    case gt => exact lv_if_gt hx hb hd ht g1 g2
    case le => exact lv_if_le hx hb hd ht g1 g2
  case goto off =>
    have hc : (decide (decode (mi a).2.1 rp = .ok (.goto off, 3)) && decide ((rp : Int) + off = (rpc (tab a) a1 : Int))) = true := hchk
    simp only [Bool.and_eq_true, decide_eq_true_eq] at hc
    exact lv_goto hx hb hc.1 hc.2 (go a1 ls lsM st h.2 hl hst)
  case ifnonnull off =>
    have hc : (decide (decode (mi a).2.1 rp = .ok (.ifnonnull off, 3)) && decide ((rp : Int) + off = (rpc (tab a) a1 : Int))) = true := hchk
    simp only [Bool.and_eq_true, decide_eq_true_eq] at hc
    obtain ⟨c1, k1, j1, st', rfl, hw⟩ := rf_inv h
    exact lv_ifnonnull hx hb hc.1 hc.2 (go a1 ls lsM st' hw hl (sOK_tail hst))
  case ifnull off =>
    have hc : (decide (decode (mi a).2.1 rp = .ok (.ifnull off, 3)) && Nat.beq (rpc (tab a) nx) (rp + 3)) = true := hchk
    simp only [Bool.and_eq_true, decide_eq_true_eq, Nat.beq_eq] at hc
    obtain ⟨hd, hn⟩ := hc
    obtain ⟨c1, k1, j1, st', rfl, hw⟩ := rf_inv h
    have g := go nx ls lsM st' hw hl (sOK_tail hst)
    rw [hn] at g
    exact lv_ifnull hx hb hd g
  case iaload =>
    have hc : (decide (decode (mi a).2.1 rp = .ok (.iaload, 1)) && Nat.beq (rpc (tab a) nx) (rp + 1)) = true := hchk
    simp only [Bool.and_eq_true, decide_eq_true_eq, Nat.beq_eq] at hc
    obtain ⟨hd, hn⟩ := hc
    obtain ⟨x, st1, rfl, h⟩ := un_inv h
    obtain ⟨c1, k1, j1, st', rfl, h⟩ := rf_inv h
    obtain ⟨L, hk, hin, hw⟩ := arr_inv h
    have hv := hst _ (List.mem_cons_of_mem _ List.mem_cons_self)
    have g := go nx ls lsM _ hw hl (sOK_cons trivial (sOK_tail (sOK_tail hst)))
    rw [hn] at g
    by_cases h13 : c1 = 13
    · subst h13
      obtain ⟨e1, e2⟩ := row13 hv
      subst e1; subst e2
      cases hk
      refine va_sld (xs := xs) hx hb hX hbl hbA hS hin hd ?_
      rw [← hxs]
      exact g
    · obtain ⟨j2, rfl, hm, hak, rfl⟩ := rowI hv h13 hk
      obtain ⟨q, hq, hw2⟩ := wsl_at cy ad σ hm
      rw [cel_I hak] at hw2
      exact va_iald hx hb hK hP q 0 hw2 rfl hin hd g
  case laload =>
    have hc : (decide (decode (mi a).2.1 rp = .ok (.laload, 1)) && Nat.beq (rpc (tab a) nx) (rp + 1)) = true := hchk
    simp only [Bool.and_eq_true, decide_eq_true_eq, Nat.beq_eq] at hc
    obtain ⟨hd, hn⟩ := hc
    obtain ⟨x, st1, rfl, h⟩ := un_inv h
    obtain ⟨c1, k1, j1, st', rfl, h⟩ := rf_inv h
    obtain ⟨L, hk, hin, hw⟩ := arr_inv h
    have hv := hst _ (List.mem_cons_of_mem _ List.mem_cons_self)
    have g := go nx ls lsM _ hw hl (sOK_cons trivial (sOK_tail (sOK_tail hst)))
    rw [hn] at g
    have h13 : ¬ c1 = 13 := fun q => by subst q; exact not13 hv (by decide) hk
    obtain ⟨j2, rfl, hm, hak, rfl⟩ := rowI hv h13 hk
    obtain ⟨q, hq, hw2⟩ := wsl_at cy ad σ hm
    rw [cel_J hak] at hw2
    exact va_lald hx hb hK hP q 1 hw2 rfl hin hd g
  case aaload =>
    have hc : (decide (decode (mi a).2.1 rp = .ok (.aaload, 1)) && Nat.beq (rpc (tab a) nx) (rp + 1)) = true := hchk
    simp only [Bool.and_eq_true, decide_eq_true_eq, Nat.beq_eq] at hc
    obtain ⟨hd, hn⟩ := hc
    obtain ⟨x, st1, rfl, h⟩ := un_inv h
    obtain ⟨c1, k1, j1, st', rfl, h⟩ := rf_inv h
    obtain ⟨L, hk, hin, hw⟩ := arr_inv h
    have hv := hst _ (List.mem_cons_of_mem _ List.mem_cons_self)
    have h13 : ¬ c1 = 13 := fun q => by subst q; exact not13 hv (by decide) hk
    obtain ⟨j2, rfl, hm, hak, rfl⟩ := rowI hv h13 hk
    have hlt : x.toNatClampNeg < (akd c1 j2).2 := by
      exact Nat.not_le.mp fun q => hin (Or.inr q)
    have hra := idl_raf _ hm hak x.toNatClampNeg hlt
    have hw := rfo_inv hw
    have g := go nx ls lsM _ hw hl (sOK_cons (Or.inl hra.1) (sOK_tail (sOK_tail hst)))
    rw [hn] at g
    obtain ⟨q, hq, hw2⟩ := wsl_at cy ad σ hm
    rw [cel_R hak] at hw2
    cases h7 : Nat.beq (raf c1 (j2 + 1) 0).1 7
    · rw [h7] at hw2
      exact va_aldq hx hb hK hP q 2 hw2 rfl hin hd g
    · rw [h7] at hw2
      exact va_aldq hx hb hK hP q 3 hw2 rfl hin hd g
  case iastore =>
    have hc : (decide (decode (mi a).2.1 rp = .ok (.iastore, 1)) && Nat.beq (rpc (tab a) nx) (rp + 1)) = true := hchk
    simp only [Bool.and_eq_true, decide_eq_true_eq, Nat.beq_eq] at hc
    obtain ⟨hd, hn⟩ := hc
    obtain ⟨x, y, st1, rfl, h⟩ := bn_inv h
    obtain ⟨c1, k1, j1, st', rfl, h⟩ := rf_inv h
    obtain ⟨hz13, h⟩ := cndF_inv h
    obtain ⟨L, hk, hin, hw⟩ := arr_inv h
    have hv := hst _ (List.mem_cons_of_mem _ (List.mem_cons_of_mem _ List.mem_cons_self))
    have h13 : ¬ c1 = 13 := fun q => by rw [q] at hz13; exact absurd hz13 (by decide)
    obtain ⟨j2, rfl, hm, hak, rfl⟩ := rowI hv h13 hk
    obtain ⟨q, hq, hw2⟩ := wsl_at cy ad σ hm
    rw [cel_I hak] at hw2
    refine va_iast hx hb hK hP hD hS q 0 hw2 rfl hin hd (fun H1 locs1 hP1 hD1 hS1 => ?_)
    have e := wsl_set (cy := cy) (ad := ad) (σ := σ) (σ' := uI σ c1 k1 (j2 + 1) x.toNatClampNeg y) hq (by rw [cel_I hak, uI_row]) (cel_arr hm (uI_off _ _ _ _ _ _))
    rw [e] at hP1
    have g := goS _ H1 locs1 nx st' hw hP1 hS1 (by rw [(uI_off σ c1 k1 (j2 + 1) x.toNatClampNeg y 13 0 1 (fun q => h13 q.1.symm)).1]; exact hxs) (sOK_tail (sOK_tail (sOK_tail hst)))
    rw [hn] at g
    exact g
  case lastore =>
    have hc : (decide (decode (mi a).2.1 rp = .ok (.lastore, 1)) && Nat.beq (rpc (tab a) nx) (rp + 1)) = true := hchk
    simp only [Bool.and_eq_true, decide_eq_true_eq, Nat.beq_eq] at hc
    obtain ⟨hd, hn⟩ := hc
    obtain ⟨y, st1, rfl, h⟩ := unJ_inv h
    obtain ⟨x, st2, rfl, h⟩ := un_inv h
    obtain ⟨c1, k1, j1, st', rfl, h⟩ := rf_inv h
    obtain ⟨L, hk, hin, hw⟩ := arr_inv h
    have hv := hst _ (List.mem_cons_of_mem _ (List.mem_cons_of_mem _ List.mem_cons_self))
    have h13 : ¬ c1 = 13 := fun q => by subst q; exact not13 hv (by decide) hk
    obtain ⟨j2, rfl, hm, hak, rfl⟩ := rowI hv h13 hk
    obtain ⟨q, hq, hw2⟩ := wsl_at cy ad σ hm
    rw [cel_J hak] at hw2
    refine va_last hx hb hK hP hD hS q 1 hw2 rfl hin hd (fun H1 locs1 hP1 hD1 hS1 => ?_)
    have e := wsl_set (cy := cy) (ad := ad) (σ := σ) (σ' := uL σ c1 k1 (j2 + 1) x.toNatClampNeg y) hq (by rw [cel_J hak, uL_row]) (cel_arr hm (uL_off _ _ _ _ _ _))
    rw [e] at hP1
    have g := goS _ H1 locs1 nx st' hw hP1 hS1 hxs (sOK_tail (sOK_tail (sOK_tail hst)))
    rw [hn] at g
    exact g
  case arraylength =>
    have hc : (decide (decode (mi a).2.1 rp = .ok (.arraylength, 1)) && Nat.beq (rpc (tab a) nx) (rp + 1)) = true := hchk
    simp only [Bool.and_eq_true, decide_eq_true_eq, Nat.beq_eq] at hc
    obtain ⟨hd, hn⟩ := hc
    obtain ⟨c1, k1, j1, st', rfl, h⟩ := rf_inv h
    obtain ⟨kd, L, hk, hk0, hw⟩ := arl_inv h
    have hv := hst _ List.mem_cons_self
    have g := go nx ls lsM _ hw hl (sOK_cons trivial (sOK_tail hst))
    rw [hn] at g
    by_cases h13 : c1 = 13
    · subst h13
      obtain ⟨e1, e2⟩ := row13 hv
      subst e1; subst e2
      cases hk
      exact va_slen (xs := xs) hx hb hX hbl hbA hS hd g
    · obtain ⟨j2, rfl, hm, -, rfl⟩ := rowI hv h13 hk
      obtain ⟨q, hq, hw2⟩ := wsl_at cy ad σ hm
      obtain ⟨cA, ar, t0, ty, e1, e2, e3⟩ := cel_any cy ad σ hm
      rw [e1] at hw2
      exact va_alen hx hb hK hP q t0 hw2 e2 (by rw [e3]) hd g
  case getfield ix =>
    have hc : (decide (decode (mi a).2.1 rp = .ok (.getfield ix, 3)) && Nat.beq (rpc (tab a) nx) (rp + 3) && chF (inf a).1 ix a1 b1) = true := hchk
    simp only [Bool.and_eq_true, decide_eq_true_eq, Nat.beq_eq] at hc
    obtain ⟨⟨hd, hn⟩, hfl⟩ := hc
    obtain ⟨c1, k1, j1, st', rfl, h⟩ := rf_inv h
    obtain ⟨hk, hw⟩ := cond_inv h
    simp only [Bool.and_eq_true, Nat.beq_eq] at hk
    obtain ⟨rfl, rfl⟩ := hk
    obtain ⟨hlk, hj, hc12⟩ := fl_word hfl
    have hm : (c1, k1, 0) ∈ idl := (hst _ List.mem_cons_self).resolve_right (fun q => by cases q)
    have g := go nx ls lsM _ hw hl (sOK_cons (vOK_fget hm hj) (sOK_tail hst))
    rw [hn] at g
    obtain ⟨q, hq, hw2⟩ := wsl_at cy ad σ hm
    have hlink := hts _ hlk
    rw [← hcls] at hlink
    obtain ⟨C, T, n0, hcl, hT, hn0⟩ := cl_at hc12
    rw [hT] at hlink
    exact va_get hx hb hts (cl_in hcl) hown hK hP q hw2 hcl b1 (hn0 ▸ hj) hlink (fun _ h => h) (by rw [List.getElem?_map, List.getElem?_range hj]; rfl) hd g
  case putfield ix =>
    have hc : (decide (decode (mi a).2.1 rp = .ok (.putfield ix, 3)) && Nat.beq (rpc (tab a) nx) (rp + 3) && chF (inf a).1 ix a1 b1) = true := hchk
    simp only [Bool.and_eq_true, decide_eq_true_eq, Nat.beq_eq] at hc
    obtain ⟨⟨hd, hn⟩, hfl⟩ := hc
    obtain ⟨hlk, hj, hc12⟩ := fl_word hfl
    have hlink := hts _ hlk
    rw [← hcls] at hlink
    obtain ⟨C, T, n0, hcl, hT, hn0⟩ := cl_at hc12
    have hfk := fkd_ty a1 hc12 b1 hj
    rw [hT] at hlink hfk
    rcases put_inv h with ⟨x, k1, st', rfl, hk0, hw⟩ | ⟨x, k1, st', rfl, hk0, hx01, hw⟩ | ⟨x, k1, st', rfl, hk0, hw⟩
    · have hm : (a1, k1, 0) ∈ idl := (hst _ (List.mem_cons_of_mem _ List.mem_cons_self)).resolve_right (fun q => by cases q)
      obtain ⟨q, hq, hw2⟩ := wsl_at cy ad σ hm
      have hfk : (T b1).2.2 = ("I", false) := hfk.1 hk0
      refine va_put hx hb hts (cl_in hcl) (tyf a1) (cl_ty hcl) (cl_nm hcl) hown hK hP hD hS q hw2 hcl b1 (hn0 ▸ hj) hlink (fun _ h => h) (by rw [hfk]) (ty := .int) (v := .int x) (by rw [hfk]; decide +kernel) (rfl) (rfl) (by rw [List.length_map, List.length_range]; exact hj) hd (fun H1 locs1 hP1 hD1 hS1 => ?_)
      have e := wsl_set (cy := cy) (ad := ad) (σ := σ) (σ' := uI σ a1 k1 (b1 + 1) 0 x) hq (cel_put (uI_off _ _ _ _ _ _) hj (by rw [fget_I0 hk0])) (cel_fld hm (by rw [hk0]; decide) (uI_off _ _ _ _ _ _))
      rw [e] at hP1
      have g := goS _ H1 locs1 nx st' hw hP1 hS1 (by rw [(uI_off σ a1 k1 (b1 + 1) 0 x 13 0 1 (fun q => by have := q.1; omega)).1]; exact hxs) (sOK_tail (sOK_tail hst))
      rw [hn] at g
      exact g
    · have hm : (a1, k1, 0) ∈ idl := (hst _ (List.mem_cons_of_mem _ List.mem_cons_self)).resolve_right (fun q => by cases q)
      obtain ⟨q, hq, hw2⟩ := wsl_at cy ad σ hm
      have hfk : (T b1).2.2 = ("Z", false) := hfk.2.2 hk0
      refine va_put hx hb hts (cl_in hcl) (tyf a1) (cl_ty hcl) (cl_nm hcl) hown hK hP hD hS q hw2 hcl b1 (hn0 ▸ hj) hlink (fun _ h => h) (by rw [hfk]) (ty := .boolean) (v := .int x) (by rw [hfk]; decide +kernel) (by rcases hx01 with rfl | rfl <;> rfl) (by rcases hx01 with rfl | rfl <;> rfl) (by rw [List.length_map, List.length_range]; exact hj) hd (fun H1 locs1 hP1 hD1 hS1 => ?_)
      have e := wsl_set (cy := cy) (ad := ad) (σ := σ) (σ' := uI σ a1 k1 (b1 + 1) 0 x) hq (cel_put (uI_off _ _ _ _ _ _) hj (by rw [fget_I3 hk0])) (cel_fld hm (by rw [hk0]; decide) (uI_off _ _ _ _ _ _))
      rw [e] at hP1
      have g := goS _ H1 locs1 nx st' hw hP1 hS1 (by rw [(uI_off σ a1 k1 (b1 + 1) 0 x 13 0 1 (fun q => by have := q.1; omega)).1]; exact hxs) (sOK_tail (sOK_tail hst))
      rw [hn] at g
      exact g
    · have hm : (a1, k1, 0) ∈ idl := (hst _ (List.mem_cons_of_mem _ List.mem_cons_self)).resolve_right (fun q => by cases q)
      obtain ⟨q, hq, hw2⟩ := wsl_at cy ad σ hm
      have hfk : (T b1).2.2 = ("J", false) := hfk.2.1 hk0
      refine va_put hx hb hts (cl_in hcl) (tyf a1) (cl_ty hcl) (cl_nm hcl) hown hK hP hD hS q hw2 hcl b1 (hn0 ▸ hj) hlink (fun _ h => h) (by rw [hfk]) (ty := .long) (v := .long x) (by rw [hfk]; decide +kernel) (rfl) (rfl) (by rw [List.length_map, List.length_range]; exact hj) hd (fun H1 locs1 hP1 hD1 hS1 => ?_)
      have e := wsl_set (cy := cy) (ad := ad) (σ := σ) (σ' := uL σ a1 k1 (b1 + 1) 0 x) hq (cel_put (uL_off _ _ _ _ _ _) hj (by rw [fget_J1 hk0])) (cel_fld hm (by rw [hk0]; decide) (uL_off _ _ _ _ _ _))
      rw [e] at hP1
      have g := goS _ H1 locs1 nx st' hw hP1 hS1 (hxs) (sOK_tail (sOK_tail hst))
      rw [hn] at g
      exact g
  case ldc ix =>
    obtain ⟨ha0, hw⟩ | ⟨ha0, h4, hcs, hw⟩ := ldc_inv h
    · have hc : (decide (decode (mi a).2.1 rp = .ok (.ldc ix, 2)) && Nat.beq (rpc (tab a) nx) (rp + 2) && chK (inf a).1 ix z) = true := by
        have q := hchk
        unfold chE at q
        simp only [ha0, cond_true] at q
        exact q
      simp only [Bool.and_eq_true, decide_eq_true_eq, Nat.beq_eq] at hc
      obtain ⟨⟨hd, hn⟩, hz⟩ := hc
      have g := go nx ls lsM _ hw hl (sOK_cons trivial hst)
      rw [hn] at g
      exact lv_ldc hx hb hown (hcls ▸ hts _ (ldc_word hz)) hd g
    · have hc : (decide (decode (mi a).2.1 rp = .ok (.ldc ix, 2)) && decide (decode (mi a).2.1 (rp + 2) = .ok (.invokestatic 174, 3)) && Nat.beq ix 172 && Nat.beq (inf a).1 11 && Nat.beq (rpc (tab a) nx) (rp + 5) && decide (z = 777297172)) = true := by
        have q := hchk
        unfold chE at q
        simp only [ha0, cond_false] at q
        exact q
      simp only [Bool.and_eq_true, decide_eq_true_eq, Nat.beq_eq] at hc
      obtain ⟨⟨⟨⟨⟨hd, hd2⟩, rfl⟩, h11⟩, hn⟩, rfl⟩ := hc
      exact hHW p e R s m args below meth c H locs cells slots Qm a rp lsM _ hC h11 hd hd2 hl.1.1 (by rw [cat_sum]; exact hcs) (by have := hR.1; omega) (by have := hR.2.1; omega) (by have := hR.2.2.1; have := hR.2.2.2.2.1; omega) (by have := hR.2.2.2.1; have := hR.2.2.2.2.2; omega) hS (fun H1 locs1 e1 hS1 => by
        subst e1
        have g := ih d a nx ls _ σ Q ha hw p e R s m args below meth c H1 locs1 cells slots cm sm Qm lsM hC hP hD hS1 hxs hl (sOK_cons trivial hst) hR hret
        rw [hn] at g
        exact g)
  case ldc2_w ix =>
    have hc : (decide (decode (mi a).2.1 rp = .ok (.ldc2_w ix, 3)) && Nat.beq (rpc (tab a) nx) (rp + 3) && chJ (inf a).1 ix z) = true := hchk
    simp only [Bool.and_eq_true, decide_eq_true_eq, Nat.beq_eq] at hc
    obtain ⟨⟨hd, hn⟩, hz⟩ := hc
    have g := go nx ls lsM _ h hl (sOK_cons trivial hst)
    rw [hn] at g
    exact lv_ldc2 hx hb hown (hcls ▸ hts _ (ldc2_word hz)) hd g
  case tableswitch df lo hi offs =>
    have hc : (isI (decode (mi a).2.1 rp) (.tableswitch df lo hi offs) && chT (tab a) rp df lo hi offs (swl (tab a).2.1 i)) = true := hchk
    simp only [Bool.and_eq_true] at hc
    obtain ⟨hd, hc⟩ := hc
    obtain ⟨len, hd⟩ := isI_inv hd
    obtain ⟨x, st', rfl, hw⟩ := un_inv h
    obtain ⟨l, dt, hsl, hw⟩ := swi_inv hw
    rw [hsl] at hc
    unfold chT at hc
    simp only [Bool.and_eq_true, decide_eq_true_eq] at hc
    obtain ⟨⟨hdf, hhi⟩, hsw⟩ := hc
    have hs := sOK_tail hst
    rcases swT_inv hsw hw with ⟨t, off, h1, h2, h3, hk⟩ | ⟨h1, hk⟩
    · exact lv_tableIn hx hb hd (by omega) (by have := (Array.getElem?_eq_some_iff.mp h2).1; omega) h2 h3 (go t ls lsM st' hk hl hs)
    · exact lv_tableOut hx hb hd (by rw [Array.length_toList] at h1; omega) hdf (go _ ls lsM st' hk hl hs)
  case lookupswitch df ps =>
    have hc : (isI (decode (mi a).2.1 rp) (.lookupswitch df ps) && chU (tab a) rp df ps (swl (tab a).2.1 i)) = true := hchk
    simp only [Bool.and_eq_true] at hc
    obtain ⟨hd, hc⟩ := hc
    obtain ⟨len, hd⟩ := isI_inv hd
    obtain ⟨x, st', rfl, hw⟩ := un_inv h
    obtain ⟨l, dt, hsl, hw⟩ := swi_inv hw
    rw [hsl] at hc
    unfold chU at hc
    simp only [Bool.and_eq_true, decide_eq_true_eq] at hc
    obtain ⟨⟨hdf, hso⟩, hsw⟩ := hc
    have hs := sOK_tail hst
    obtain ⟨t, off, h1, h3, hk⟩ := swL_inv hdf hsw hw
    exact lv_lookup hx hb hd hso h1 h3 (go t ls lsM st' hk hl hs)
  case ireturn =>
    have hc : (decide (decode (mi a).2.1 rp = .ok (.ireturn, 1)) && chR a1 (mi a).2.2) = true := hchk
    simp only [Bool.and_eq_true, decide_eq_true_eq] at hc
    obtain ⟨x, rfl, hz, hQ⟩ := ret_inv h
    exact hret (some x) σ H locs cells slots rp lsM hQ hP hS hxs (by have := hR.2.2.1; omega) (by have := hR.2.2.2.1; omega) ⟨hc.1, ret_ty hc.2 hz⟩
  case return_ =>
    have hc : (decide (decode (mi a).2.1 rp = .ok (.return_, 1)) && decide ((mi a).2.2 = none)) = true := hchk
    simp only [Bool.and_eq_true, decide_eq_true_eq] at hc
    obtain ⟨rfl, hQ⟩ := rev_inv h
    exact hret none σ H locs cells slots rp lsM hQ hP hS hxs (by have := hR.2.2.1; omega) (by have := hR.2.2.2.1; omega) ⟨hc.1, hc.2⟩
  case invokevirtual ix =>
    have hc : (decide (decode (mi a).2.1 rp = .ok (.invokevirtual ix, 3)) && Nat.beq (rpc (tab a) nx) (rp + 3) && chL (inf a).1 ix a1 && Nat.beq b1 (nrg a1) && Nat.beq (cwd a1).2.2.2.2 0 && Nat.ble (a1 + 1) 227) = true := hchk
    simp only [Bool.and_eq_true, decide_eq_true_eq, Nat.beq_eq, Nat.ble_eq] at hc
    obtain ⟨⟨⟨⟨⟨hd, hn⟩, hml1⟩, hb1⟩, hkd⟩, ha1⟩ := hc
    obtain ⟨d1, c1, k1, rest, hd1, hst1, hcc, hcs, hmx, htl, hw⟩ := calV_inv h
    subst hcc
    have hsp : st = st.take b1 ++ .inr (.inr ((inf a1).1, k1, 0)) :: rest := by rw [← hst1, List.take_append_drop]
    have hargs : sOK (.inr (.inr ((inf a1).1, k1, 0)) :: (st.take b1).reverse) := by
      intro v hv
      rcases List.mem_cons.mp hv with rfl | hv
      · exact hst _ (by rw [hsp]; exact List.mem_append_right _ List.mem_cons_self)
      · exact hst _ (List.mem_of_mem_take (List.mem_reverse.mp hv))
    have hrest : sOK rest := fun v hv => hst v (by rw [hsp]; exact List.mem_append_right _ (List.mem_cons_of_mem _ hv))
    have hm : ((inf a1).1, k1, 0) ∈ idl := (hargs _ List.mem_cons_self).resolve_right (fun q => by injection q with _ q2; injection q2 with _ q3; cases q3)
    have hM := met_of (A := A) (SX := SX) (ih (d1, 0) a1 0 _ [] σ _ ha1 hw) ha1 hD hxs hargs (by show cat2 _ + catS _ ≤ _; rw [catS_rev, Nat.add_comm]; exact hmx)
    obtain ⟨w1, w2, w3, w4⟩ := cw_words ha1 hkd
    have hln := ml_word hml1 (Or.inl ha1)
    rw [mlY_lt ha1] at hln
    have hcw : CallW R s args (mi a).1.cls (mi a1).1.cls ix (mi a1).1 (mi a1).2.1 (inf a1).2 (mi a1).2.2 (wsM a1) (rmD d1) 0 0 (nrg a1) := ⟨callB_of (nrg a1) hts (wsM_good ha1 w1) rfl rfl rfl (hts _ w2) (by rw [hcls]; exact hts _ hln) (cm_d ha1) (rmD_ok ha1 (by have := hR.1; omega) (by have := hR.2.1; omega)), hts _ w3, hts _ w4⟩
    obtain ⟨q, hq, hw2⟩ := wsl_at cy ad σ hm
    obtain ⟨C, T, n0, hcl, hT, hn0⟩ := cl_at ((idl_c _ hm).2 rfl)
    have hrec := va_recv hK hP hcl hw2
    have hCn : C = (mi a1).1.cls := by rw [cl_name hcl, cm_cls ha1]
    have hrun := va_runV (e := e) (below := below) (meth := meth) (locs := locs) (cells := cells) (slots := slots) (H := H) (rest := rest.map (tr ad)) (g := F0 m rp lsM (st.map (tr ad))) (As := ((st.take b1).reverse).map (tr ad)) (b := ad ((inf a1).1, k1, 0)) ⟨hx, hb, hml, hown, hts⟩ hM hcw ⟨pcM_blind hSX, (by rw [← hCn]; exact hrec), fun U hU hW => ⟨rfl, pcM_of hSX hP hS hK hX hbl hbA hsx hU hW⟩⟩ rfl (by rw [List.length_map, List.length_reverse, htl, hb1]) hl.1.1 (by rw [List.map_reverse, List.reverse_reverse]; show st.map (tr ad) = (st.take b1).map (tr ad) ++ (Sum.inr (Sum.inr ((inf a1).1, k1, 0)) :: rest).map (tr ad); rw [← List.map_append, ← hsp]) (lv_room (by rw [cat_sum]; exact hcs)) hd (by have := hR.2.2.1; have := hR.2.2.2.1; have := hR.2.2.2.2; omega)
    refine il_call hrun hS (fun _ h => h) (fun st0 v t h => h.2) (fun v t st0 hst0 hq2 hvm H1 locs1 ht hS1 => ?_)
    obtain ⟨⟨v1, σ1, hv1, hQ1, hP1, hx1⟩, -⟩ := hq2
    cases hv1
    rw [ht] at hP1
    have g := ih d a nx ls (psh (v1.map Sum.inl) rest) σ1 Q ha hQ1 p e R s m args below meth c H1 locs1 cells slots cm sm Qm lsM hC hP1 (wsl_D hD) hS1 hx1 hl (sOK_psh hrest) hR hret
    rw [hn] at g
    cases v1 <;> exact g
  case invokestatic ix =>
    have hc : (decide (decode (mi a).2.1 rp = .ok (.invokestatic ix, 3)) && Nat.beq (rpc (tab a) nx) (rp + 3) && chL (inf a).1 ix a1 && (Nat.ble 900 a1 || Nat.beq b1 (nrg a1) && Nat.beq (cwd a1).2.2.2.2 1 && Nat.ble (a1 + 1) 227)) = true := hchk
    simp only [Bool.and_eq_true, Bool.or_eq_true, decide_eq_true_eq, Nat.beq_eq, Nat.ble_eq] at hc
    obtain ⟨⟨⟨hd, hn⟩, hml1⟩, hkd⟩ := hc
    rcases stat_inv h with ⟨h900, hz0⟩ | ⟨h901, hz0⟩ | ⟨h900, h901, hz0⟩
    · subst h900
      obtain ⟨d1, n1, dp, c2, k2, j2, sp, c1, k1, j1, rest, L1, L2, hd1, rfl, hk1, hk2, hc2, hc1, hcs, q1, q2, q3, q4, q5, hw⟩ := cpy_inv hz0
      have hs5 := sOK_tail (sOK_tail (sOK_tail (sOK_tail (sOK_tail hst))))
      have v2 := hst (.inr (.inr (c2, k2, j2))) (by simp)
      have v1 := hst (.inr (.inr (c1, k1, j1))) (by simp)
      obtain ⟨i1, rfl, m1, a1', rfl⟩ := rowI v1 hc1 hk1
      obtain ⟨i2, rfl, m2, a2', rfl⟩ := rowI v2 hc2 hk2
      obtain ⟨p1, e1, w1⟩ := wsl_at cy ad σ m1
      obtain ⟨p2, e2, w2⟩ := wsl_at cy ad σ m2
      rw [cel_I a1'] at w1
      rw [cel_I a2'] at w2
      obtain ⟨y1, y2, y3⟩ := copy_words
      refine va_copyi (ty := .int) hx hb (hml.trans hl.1.1.symm) hown (by rw [hcls]; exact hts _ (ml_word hml1 (Or.inr (Or.inl rfl)))) (hts _ y1) (hts _ y2) (hts _ y3) hK hP hD hS p1 p2 0 0 w1 w2 rfl rfl rfl q1 q2 q3 q4 q5 (fun _ _ => rfl) (by have := hR.1; omega) (by rw [cat_sum]; have := hR.2.1; have := copy_words9; omega) hd (fun H1 locs1 hP1 hD1 hS1 => ?_)
      have e := wsl_set (cy := cy) (ad := ad) (σ := σ) (σ' := cpI σ c1 k1 (i1 + 1) c2 k2 (i2 + 1) sp.toNatClampNeg dp.toNatClampNeg n1.toNatClampNeg) e2 (by rw [cel_I a2', cpI, uR_row]) (cel_arr m2 (uR_off _ _ _ _ _))
      rw [e] at hP1
      have g := goS _ H1 locs1 nx rest hw hP1 hS1 (by rw [cpI, (uR_off σ c2 k2 (i2 + 1) _ 13 0 1 (fun q => hc2 q.1.symm)).1]; exact hxs) hs5
      rw [hn] at g
      exact g
    · subst h901
      obtain ⟨e1, g1, q1, rest, rfl, rfl, hcs, k1, k2⟩ := oct_inv hz0
      have hs3 := sOK_tail (sOK_tail (sOK_tail hst))
      refine hHO p e R s m args below meth c H locs cells slots Qm a rp ix lsM (rest.map (tr ad)) σ q1 hC (ml_word hml1 (Or.inr (Or.inr (Or.inl rfl)))) hd hl.1.1 (by rw [cat_sum]; exact hcs) (by have := hR.1; omega) (by have := hR.2.1; omega) (by have := hR.2.2.1; have := hR.2.2.2.2.1; omega) (by have := hR.2.2.2.1; have := hR.2.2.2.2.2; omega) hP hD hS ?_ ?_
      · intro hq H1 locs1 cells1 slots1 hP1 hS1 hc1 hs1
        have g := ih (e1 + 10, g1) a nx ls _ _ Q ha (k1 hq) p e R s m args below meth c H1 locs1 cells1 slots1 cm sm Qm lsM hC hP1 (wsl_D hD) hS1 hxs hl (sOK_cons trivial hs3) ⟨hR.1, hR.2.1, by have := hR.2.2.1; simp only at this ⊢; omega, by have := hR.2.2.2.1; simp only at this ⊢; omega, hR.2.2.2.2⟩ hret
        rw [hn] at g
        exact g
      · intro hq H1 locs1 cells1 slots1 hP1 hS1 hc1 hs1
        have g := ih (e1 + 10, g1) a nx ls _ _ Q ha (k2 hq) p e R s m args below meth c H1 locs1 cells1 slots1 cm sm Qm lsM hC hP1 (wsl_D hD) hS1 hxs hl (sOK_cons trivial hs3) ⟨hR.1, hR.2.1, by have := hR.2.2.1; simp only at this ⊢; omega, by have := hR.2.2.2.1; simp only at this ⊢; omega, hR.2.2.2.2⟩ hret
        rw [hn] at g
        exact g
    · obtain ⟨d1, hd1, hcs, hmx, htl, hw⟩ := calS_inv hz0
      have hkd : (b1 = nrg a1 ∧ (cwd a1).2.2.2.2 = 1) ∧ a1 + 1 ≤ 227 := by
        rcases hkd with q | q
        · exact absurd hw (wp_far q)
        · exact q
      obtain ⟨⟨hb1, hkd⟩, ha1⟩ := hkd
      have hsp : st = st.take b1 ++ st.drop b1 := (List.take_append_drop ..).symm
      have hargs : sOK (st.take b1).reverse := fun v hv => hst _ (List.mem_of_mem_take (List.mem_reverse.mp hv))
      have hrest : sOK (st.drop b1) := fun v hv => hst v (List.mem_of_mem_drop hv)
      have hM := met_of (A := A) (SX := SX) (ih (d1, 0) a1 0 _ [] σ _ ha1 hw) ha1 hD hxs hargs (by rw [catS_rev]; exact hmx)
      obtain ⟨w1, w2, w3⟩ := cw_wordsS ha1 hkd
      have hln := ml_word hml1 (Or.inl ha1)
      rw [mlY_lt ha1] at hln
      have hcw : CallB R s args (mi a).1.cls ix (mi a1).1 (mi a1).2.1 (inf a1).2 (mi a1).2.2 (wsM a1) (rmD d1) 0 0 (nrg a1) ∧ (Cond.static (mi a1).1).before args s = true := ⟨callB_of (nrg a1) hts (wsM_good ha1 w1) rfl rfl rfl (hts _ w2) (by rw [hcls]; exact hts _ hln) (cm_d ha1) (rmD_ok ha1 (by have := hR.1; omega) (by have := hR.2.1; omega)), hts _ w3⟩
      have hrun := va_runS (e := e) (below := below) (meth := meth) (locs := locs) (cells := cells) (slots := slots) (H := H) (rest := (st.drop b1).map (tr ad)) (g := F0 m rp lsM (st.map (tr ad))) (As := ((st.take b1).reverse).map (tr ad)) ⟨hx, hb, hml, hown, hts⟩ hM hcw ⟨pcM_blind hSX, fun U hU hW => ⟨rfl, pcM_of hSX hP hS hK hX hbl hbA hsx hU hW⟩⟩ rfl (by rw [List.length_map, List.length_reverse, htl, hb1]) hl.1.1 (by rw [List.map_reverse, List.reverse_reverse]; show st.map (tr ad) = (st.take b1).map (tr ad) ++ (st.drop b1).map (tr ad); rw [← List.map_append, ← hsp]) (lv_room (by rw [cat_sum]; exact hcs)) hd (by have := hR.2.2.1; have := hR.2.2.2.1; have := hR.2.2.2.2; omega)
      refine il_call hrun hS (fun _ h => h) (fun st0 v t h => h.2) (fun v t st0 hst0 hq2 hvm H1 locs1 ht hS1 => ?_)
      obtain ⟨⟨v1, σ1, hv1, hQ1, hP1, hx1⟩, -⟩ := hq2
      cases hv1
      rw [ht] at hP1
      have g := ih d a nx ls (psh (v1.map Sum.inl) (st.drop b1)) σ1 Q ha hQ1 p e R s m args below meth c H1 locs1 cells slots cm sm Qm lsM hC hP1 (wsl_D hD) hS1 hx1 hl (sOK_psh hrest) hR hret
      rw [hn] at g
      cases v1 <;> exact g
  all_goals exact h.elim
