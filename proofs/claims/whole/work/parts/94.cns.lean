/-! CN: what it promises, the machine does -/
def CXC (D : va_G) (cy : Nat × Nat × Nat × Nat) (b0 n0 k : Nat) (p : Program) (s : State) (m : MethodId) (args : Array Value) (meth : Method) (c : Code) : Prop :=
  p.tables.exec = Jvm.exec ∧ c.code = (miC k).2 ∧ c.maxLocals = mxC k ∧ s.vm.findClass (clsN k) = some m.cls ∧ (∀ w ∈ TS, w.before args s = true) ∧ va_K D vwCl (tyl cy) s ∧ NWs s ∧ s.heap.size = b0 + n0 ∧ meth.locks = false ∧ (k < 12 → meth.name = "<init>")
def LCC (ad : RF → Nat) (lsM : Array Slot) (n : Nat) (ls : List (Option AV)) : Prop := lv_has lsM n (asc ad 0 ls) ∧ ∀ k, inL ls k = true → k < n
def RMC (R : Room) (d : Nat × Nat × Nat) (n0 s0 : Nat) (cs : List CE) (sl : Nat) : Prop := d.1 ≤ R.frames ∧ 64 * d.1 ≤ R.locals ∧ n0 ≤ cs.length ∧ s0 ≤ sl ∧ d.2.1 ≤ n0 + R.cells ∧ d.2.2 ≤ s0 + R.slots
def SNC (l : Launch) (D : va_G) (cy : Nat × Nat × Nat × Nat) (b b0 : Nat) (d : Nat × Nat × Nat) (k i : Nat) (ls : List (Option AV)) (st : List AV) (cs : List CE) (sl : Nat) (K : KC) : Prop :=
  ∀ (p : Program) (e : Env) (R : Room) (s : State) (m : MethodId) (args : Array Value) (below : List Frame) (meth : Method) (c : Code) (H : Heap) (locs : List Loc) (n0 s0 : Nat) (Qm : State → Prop) (lsM : Array Slot),
    CXC D cy b0 n0 k p s m args meth c → va_P D vwCl (wC cy (adC b b0) b0 cs) H → va_S (fun q => b0 ≤ q) s.heap H locs → LCC (adC b b0) lsM (mxC k) ls → RMC R d n0 s0 cs sl →
    (∀ (ls' : List (Option AV)) (cs' : List CE) (sl' : Nat) (H' : Heap) (locs' : List Loc) (lsM' : Array Slot), K ls' cs' sl' = true → va_P D vwCl (wC cy (adC b b0) b0 cs') H' → va_S (fun q => b0 ≤ q) s.heap H' locs' → LCC (adC b b0) lsM' (mxC k) ls' → n0 ≤ cs'.length → s0 ≤ sl' →
      W p l e R s m args below meth c H' locs' (cs'.length - n0) (sl' - s0) Qm (F0 m (rpc (tbC k) (stC k)) lsM' [])) →
    W p l e R s m args below meth c H locs (cs.length - n0) (sl - s0) Qm (F0 m (rpc (tbC k) i) lsM (st.map (tr (adC b b0))))
section CNC
variable {p : Program} {l : Launch} {e : Env} {R : Room} {s : State} {m : MethodId} {args : Array Value} {below : List Frame} {meth : Method} {c : Code} {H : Heap} {locs : List Loc} {cells slots mc ms : Nat} {Q : State → Prop} {pc : Nat} {ls : Array Slot} {rest st0 : List Value} {A : Nat → Prop} {H0 : Heap} {free : Addr → Prop} {Qa : State → Outcome → State → Prop}
theorem il_callC (hr : va_Run p l e R s m args below meth c H locs cells slots mc ms (F0 m pc ls st0) rest Qa free) (hS : va_S A H0 H locs) (hf : ∀ q, free q → A q) (hF : ∀ st v t, Qa st (.returned v) t → va_F A st t)
    (kk : ∀ (v : Option Value) (t st : State), st.heap = H → Qa st (.returned v) t → s.vm.Alike t.vm → ∀ (H1 : Heap) (locs1 : List Loc), t.heap = H1 → va_S A H0 H1 locs1 → W p l e R s m args below meth c H1 locs1 (cells + mc) (slots + ms) Q (F0 m (pc + 3) ls (v.toList ++ rest))) : W p l e R s m args below meth c H locs cells slots Q (F0 m pc ls st0) := by
  intro T hT X
  obtain ⟨v, st₀, t, T', L, h0, X', hL, e1, e2, hq, st⟩ := hr T hT X
  obtain ⟨hz, hk⟩ := hF _ _ _ hq
  rw [h0] at hz hk
  obtain ⟨t2, a1, b1⟩ := kk v t st₀ h0 hq (by rw [← e2]; exact X'.warmed.alike) T'.heap (locs ++ L) e1.symm
    ⟨Nat.le_trans hS.1 (by rw [e1]; exact hz), fun q h1 h2 => by rw [e1, hk q (Nat.lt_of_lt_of_le h1 hS.1) h2]; exact hS.2.1 q h1 h2, fun q hq => by
      rcases List.mem_append.mp hq with h | h
      · exact hS.2.2 q h
      · exact hf _ (hL q h)⟩ T' rfl X'
  exact ⟨t2, st t2 a1, b1⟩
end CNC
def wsC (a : Nat) : List Cond := Cond.code (miC a).1 (miC a).2 (mxC a) none :: TS
theorem wsC_good {a : Nat} (ha : a < 12) : GoodIn TS (wsC a) := by
  intro w hw
  rcases List.mem_cons.mp hw with rfl | hw
  · exact TS_good (cv_spec ha).1
  · exact TS_good hw
def rmC (d mc ms : Nat) : Room := { frames := d, cells := mc, slots := ms, locals := 64 * d }
def pcC (D : va_G) (cy : Nat × Nat × Nat × Nat) (b b0 : Nat) (cs : List CE) (U : State) : Prop := U.heap.size = b0 + cs.length ∧ va_P D vwCl (wC cy (adC b b0) b0 cs) U.heap ∧ va_K D vwCl (tyl cy) U ∧ NWs U
def qcC (D : va_G) (cy : Nat × Nat × Nat × Nat) (b b0 : Nat) (K : KC) : Array Value → State → Outcome → State → Prop := fun _ st oc t =>
  (∃ ls cs sl, oc = .returned none ∧ K ls cs sl = true ∧ va_P D vwCl (wC cy (adC b b0) b0 cs) t.heap) ∧ va_F (fun q => b0 ≤ q) st t
section MTC
variable {l : Launch} {D : va_G} {cy : Nat × Nat × Nat × Nat} {b b0 : Nat}
theorem pcC_blind {avs : List Value} {cs : List CE} : FrameBlind (va_Pc avs (pcC D cy b b0 cs)) := by
  intro a U g mk h
  obtain ⟨h0, h1, h2, h3, h4⟩ := h
  exact ⟨h0, h1, h2, va_K.moved (u := U) (U := U.calling g mk a) (Vm.Alike.refl U.vm) h3, NWs_s (s := U) (U := U.calling g mk a) rfl h4⟩
theorem met_C {d a mc ms sl : Nat} {avs : List AV} {cs : List CE} {K : KC} (h : SNC l D cy b b0 (d, cs.length + mc, sl + ms) a 0 (ent (mxC a) avs) [] cs sl K) (ha : a < 12) (hcat : catS avs ≤ mxC a) (hK : ∀ ls cs' sl', K ls cs' sl' = true → cs'.length = cs.length + mc ∧ sl' = sl + ms) :
    Met l (miC a).1 (wsC a) (rmC d mc ms) (va_Pc (avs.map (tr (adC b b0))) (pcC D cy b b0 cs)) (qcC D cy b b0 K) mc ms (fun q => b0 ≤ q) := by
  obtain ⟨w1, w2, w3, w4, w5, w6, w7, w8, w9, w10, w11, w12, w13⟩ := cv_spec ha
  refine Met.ofW (cc := (miC a).2) (maxL := mxC a) (ret := none) (by rw [w5]; exact w9) rfl ?_
  intro p e s m args below meth c s₁ B hml hv
  obtain ⟨rfl, hz, hP, hKn, hN⟩ := hv
  have hts := atoms_spec (ws := wsC a) B.pre
  have hown : s.vm.findClass (miC a).1.cls = some m.cls := findClass_of_methodNamed B.named
  rw [w5] at hown
  have hl := lv_entry (avs.map (tr (adC b b0))) (n := mxC a) (by rw [lg_len]; exact hcat)
  have hlocks := B.notSynchronized
  have hr := B.returns
  have hnm : meth.name = "<init>" := (name_of_methodNamed B.named B.method).1.trans w6
  rw [lg_entry_eq]
  generalize (lg_sl (avs.map (tr (adC b b0))) ++ List.replicate (mxC a - (lg_sl (avs.map (tr (adC b b0)))).length) Slot.unset).toArray = ls at hl ⊢
  have hL : LCC (adC b b0) ls (mxC a) (ent (mxC a) avs) := ⟨⟨hl.1, hl.2.1, fun q hq => hl.2.2 q (ent_sub _ _ _ _ _ hq)⟩, inL_ent _ _⟩
  have g := h p e (rmC d mc ms) s m _ below meth c s.heap [] cs.length sl (MQ below (qcC D cy b b0 K) (avs.map (tr (adC b b0))).toArray s mc ms (fun q => b0 ≤ q)) ls
    ⟨B.exec, B.bytes, hml, hown, fun w hw => hts w (List.mem_cons_of_mem _ hw), hKn, hN, hz, hlocks, fun _ => hnm⟩ hP va_S.rf hL ⟨Nat.le_refl _, Nat.le_refl _, Nat.le_refl _, Nat.le_refl _, Nat.le_refl _, Nat.le_refl _⟩ ?_
  · rw [w12, Nat.sub_self, Nat.sub_self] at g
    exact g
  · intro ls' cs' sl' H' locs' lsM' hk' hP' hS' hl' hc' hs'
    obtain ⟨k1, k2⟩ := hK _ _ _ hk'
    rw [show cs'.length - cs.length = mc by omega, show sl' - sl = ms by omega]
    exact W.vret B.exec B.bytes hr (fun t ht hw => ⟨⟨ls', cs', sl', rfl, hk', by rw [ht]; exact hP'⟩, hS'.F ht⟩) hS'.2.2 w13 hlocks
end MTC
/-- what is put is what its field takes -/
theorem okv_ty : ∀ c, c < 12 → ∀ j, j < nfs c → ((fkd c j).1 = 0 → tyf c j = .int) ∧ ((fkd c j).1 = 3 → tyf c j = .boolean) ∧ ((fkd c j).1 = 2 ∨ (fkd c j).1 = 4 → ∀ a : Nat, (narrow (tyf c j) (.ref a) = .ref a ∧ fits (tyf c j) (.ref a) = true)) := by
  intro c hc j hj
  refine ⟨?_, ?_, ?_⟩
  · revert c j; decide +kernel
  · revert c j; decide +kernel
  · intro hk a
    have h : (match tyf c j with
      | .object _ => true
      | .array _ => true
      | _ => false) = true := by
      revert c j; decide +kernel
    cases ht : tyf c j <;> rw [ht] at h <;> first | exact ⟨rfl, rfl⟩ | cases h
theorem own_T : ∀ c, c < 12 → ∀ j, j < nfs c → (Tf c j).1 = clsN c := by decide +kernel
def dvB (q : Nat) (v : Value) : Bool := match v with
  | .int x => (Nat.beq q 0 || Nat.beq q 3) && decide (x = 0)
  | .long x => Nat.beq q 1 && decide (x = 0)
  | .null => !(Nat.beq q 0 || Nat.beq q 3 || Nat.beq q 1)
  | _ => false
theorem dvB_ok : ∀ c, c < 12 → ∀ j, j < nfs c → dvB (fkd c j).1 (defaultValue (tyf c j)) = true := by decide +kernel
theorem dfl_v {ad : RF → Nat} {c : Nat} (hc : c < 12) : ∀ j, j < nfs c → defaultValue (tyf c j) = vp_V ((dfl c).map (trC ad)) j := by
  intro j hj
  have h := dvB_ok c hc j hj
  unfold vp_V dfl
  rw [List.getD_eq_getElem?_getD, List.getElem?_map, List.getElem?_map, List.getElem?_range hj]
  show _ = trC ad (match (fkd c j).1 with
    | 0 => .inl 0
    | 3 => .inl 0
    | 1 => .inr (.inl 0)
    | _ => nulA)
  generalize (fkd c j).1 = q at h ⊢
  generalize defaultValue (tyf c j) = v at h ⊢
  match q with
  | 0 => cases v <;> first | (simp [dvB] at h; subst h; rfl) | (simp [dvB] at h)
  | 1 => cases v <;> first | (simp [dvB] at h; subst h; rfl) | (simp [dvB] at h)
  | 2 => cases v <;> first | rfl | (simp [dvB] at h)
  | 3 => cases v <;> first | (simp [dvB] at h; subst h; rfl) | (simp [dvB] at h)
  | n + 4 => cases v <;> first | rfl | (simp [dvB] at h)
