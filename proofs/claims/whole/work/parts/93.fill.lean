/-! CN: words; Arrays.fill in any world -/
theorem w_sz {p : Program} {l : Launch} {e : Env} {R : Room} {s : State} {m : MethodId} {args : Array Value} {below : List Frame} {meth : Method} {c : Code} {H : Heap} {locs : List Loc} {cells slots : Nat} {Q : State → Prop} {g : JFrame}
    (k : H.size ≤ s.heap.size + cells → W p l e R s m args below meth c H locs cells slots Q g) : W p l e R s m args below meth c H locs cells slots Q g := fun T hT X => k (by have h1 := X.same.2.2.1; rw [← hT]; exact h1) T hT X
def NWs (s : State) : Prop := (∀ q ∈ nstL, va_Nw (.methodLinkNest (clsN q.1) q.2.1 (miC q.2.2).1 RX10) s) ∧ va_AO RX3 s ∧ va_AO RX3 s
theorem NWs_w {s U : State} (hW : s.WarmedH U.vm) (h : NWs s) : NWs U := ⟨fun q hq => va_Nw.warmM hW (h.1 q hq), va_AO.moved hW.alike h.2.1, va_AO.moved hW.alike h.2.2⟩
theorem NWs_s {s U : State} (hv : s.vm = U.vm) (h : NWs s) : NWs U := ⟨fun q hq => va_Nw.same rfl hv (h.1 q hq), va_AO.moved (by rw [hv]; exact Vm.Alike.refl _) h.2.1, va_AO.moved (by rw [hv]; exact Vm.Alike.refl _) h.2.2⟩
theorem cv_spec {a : Nat} (ha : a < 12) : Cond.code (miC a).1 (miC a).2 (mxC a) none ∈ TS ∧ Cond.initialized (clsN a) ∈ TS ∧ Cond.instanceMethod (miC a).1 ∈ TS ∧ Cond.instantiable (clsN a) (nfs a) ∈ TS ∧ (miC a).1.cls = clsN a ∧ (miC a).1.name = "<init>" ∧ clsN a ≠ "java/lang/invoke/MethodHandle" ∧ clsN a ≠ "java/lang/invoke/VarHandle" ∧ plainName (clsN a) = true ∧ (parseMethodDescriptor (miC a).1.desc).map (fun d => d.parameters.length) = some (nrC a) ∧ mxC a ≤ 40 ∧ rpc (tbC a) 0 = 0 ∧ decode (miC a).2 (rpc (tbC a) (stC a)) = .ok (.return_, 1) := by
  have h := cv_all a ha
  unfold cwN at h
  simp only [Bool.and_eq_true, decide_eq_true_eq, Nat.ble_eq, Nat.beq_eq] at h
  obtain ⟨⟨⟨⟨⟨⟨⟨⟨⟨⟨⟨⟨h1, h2⟩, h3⟩, h4⟩, h5⟩, h6⟩, h7⟩, h8⟩, h9⟩, h10⟩, h11⟩, h12⟩, h13⟩ := h
  exact ⟨TS_in h1 rfl, TS_in h2 rfl, TS_in h3 rfl, TS_in h4 rfl, h5, h6, h7, h8, h9, h10, h11, h12, h13⟩
theorem w_arI : Cond.arrayClass .int ∈ TS := TS_in (p := 158) (by decide +kernel) rfl
theorem w_arJ : Cond.arrayClass .long ∈ TS := TS_in (p := 1287) (by decide +kernel) rfl
theorem w_obj : Cond.instanceMethod objectInit ∈ TS ∧ Cond.code objectInit ⟨#[0xb1]⟩ 1 none ∈ TS := ⟨TS_in (p := 113) (by decide +kernel) rfl, TS_in (p := 114) (by decide +kernel) rfl⟩
theorem vp_fill {cA : ClassId} {n : Nat} {f g : Nat → Int32} (h : ∀ j, j < n → f j = g j) : vp_cell cA (n, .inl f) = vp_cell cA (n, .inl g) := by
  rw [vp_cell_i, vp_cell_i]
  unfold arrV
  congr 2
  funext j
  exact congrArg Value.int (h j.val j.isLt)
def rmZ : Room := { frames := 0, cells := 0, slots := 0, locals := 0 }
theorem df_0 : decode cJ7_fill_53178 0 = .ok (.iconst 0, 1) := by decide +kernel
theorem df_1 : decode cJ7_fill_53178 1 = .ok (.istore_n 2, 1) := by decide +kernel
theorem df_2 : decode cJ7_fill_53178 2 = .ok (.aload_n 0, 1) := by decide +kernel
theorem df_3 : decode cJ7_fill_53178 3 = .ok (.arraylength, 1) := by decide +kernel
theorem df_4 : decode cJ7_fill_53178 4 = .ok (.istore_n 3, 1) := by decide +kernel
theorem df_5 : decode cJ7_fill_53178 5 = .ok (.iload_n 2, 1) := by decide +kernel
theorem df_6 : decode cJ7_fill_53178 6 = .ok (.iload_n 3, 1) := by decide +kernel
theorem df_7 : decode cJ7_fill_53178 7 = .ok (.if_icmp .ge 13, 3) := by decide +kernel
theorem df_10 : decode cJ7_fill_53178 10 = .ok (.aload_n 0, 1) := by decide +kernel
theorem df_11 : decode cJ7_fill_53178 11 = .ok (.iload_n 2, 1) := by decide +kernel
theorem df_12 : decode cJ7_fill_53178 12 = .ok (.iload_n 1, 1) := by decide +kernel
theorem df_13 : decode cJ7_fill_53178 13 = .ok (.iastore, 1) := by decide +kernel
theorem df_14 : decode cJ7_fill_53178 14 = .ok (.iinc 2 1, 3) := by decide +kernel
theorem df_17 : decode cJ7_fill_53178 17 = .ok (.goto (-12), 3) := by decide +kernel
theorem df_20 : decode cJ7_fill_53178 20 = .ok (.return_, 1) := by decide +kernel
section FIL
variable {l : Launch} {D : va_G} {cy : Nat × Nat × Nat × Nat} {A : Nat → Prop}
set_option maxHeartbeats 4000000 in
set_option maxRecDepth 100000 in
theorem met_fill {ws : va_W} {r a n : Nat} {f : Nat → Int32} {x : Int32} (hr : ws[r]? = some (a, .inl (cy.1, n, .inl f))) (hn : n ≤ 4000) (hD : va_D A ws) :
    Met l (mi 0).1 (wsM 0) rmZ (va_Pc [.ref a, .int x] (fun U => va_P D vwCl ws U.heap ∧ va_K D vwCl (tyl cy) U)) (fun _ st oc t => (oc = .returned none ∧ va_P D vwCl (ws.set r (a, .inl (cy.1, n, .inl (fun _ => x)))) t.heap) ∧ va_F A st t) 0 0 A := by
  refine Met.ofW (cc := (mi 0).2.1) (maxL := (inf 0).2) (ret := (mi 0).2.2) (by decide +kernel) rfl ?_
  intro p e s m args below meth c s₁ B hml hv
  obtain ⟨rfl, hP, hK⟩ := hv
  have hx := B.exec
  have hb : c.code = cJ7_fill_53178 := B.bytes
  have hrt : meth.sig.returnType = none := B.returns
  have hlocks := B.notSynchronized
  have hl := lv_entry ([.ref a, .int x]) (n := 4) (Nat.le_of_ble_eq_true rfl)
  have hS : va_S A s.heap s.heap [] := va_S.rf
  show W p l e rmZ s m _ below meth c s.heap [] 0 0 _ (entryFrame m ([Value.ref a, Value.int x] : List Value).toArray 4)
  rw [lg_entry_eq]
  generalize (lg_sl ([.ref a, .int x]) ++ List.replicate (4 - (lg_sl ([.ref a, .int x])).length) Slot.unset).toArray = ls at hl ⊢
  have hl : lv_has ls 4 [(0, .ref a), (1, .int x)] := hl
  refine lv_iconst hx hb df_0 rfl ?_
  refine lv_istore_n hx hb df_1 rfl hl (by decide) rfl (fun ls hl => ?_)
  have hl : lv_has ls 4 [(2, .int (Int32.ofInt 0)), (0, .ref a), (1, .int x)] := hl
  refine lv_aload_n hx hb df_2 rfl (lv_at hl 1 rfl) ?_
  refine va_alen hx hb hK hP r 0 hr (ty := .int) rfl (v := nI n) rfl df_3 ?_
  refine lv_istore_n hx hb df_4 rfl hl (by decide) rfl (fun ls hl => ?_)
  have hl : lv_has ls 4 [(3, .int (nI n)), (2, .int (Int32.ofInt 0)), (0, .ref a), (1, .int x)] := hl
  have key : ∀ (k i : Nat) (ls : Array Slot) (y : Int32) (g : Nat → Int32) (H : Heap) (locs : List Loc), i + k = n → y = nI i → lv_has ls 4 [(2, .int y), (3, .int (nI n)), (0, .ref a), (1, .int x)] → (∀ j, j < i → g j = x) → va_P D vwCl (ws.set r (a, .inl (cy.1, n, .inl g))) H → va_S A s.heap H locs →
      W p l e rmZ s m ([Value.ref a, Value.int x] : List Value).toArray below meth c H locs 0 0 (MQ below (fun _ st oc t => (oc = .returned none ∧ va_P D vwCl (ws.set r (a, .inl (cy.1, n, .inl (fun _ => x)))) t.heap) ∧ va_F A st t) ([Value.ref a, Value.int x] : List Value).toArray s 0 0 A) (F0 m 5 ls []) := by
    intro k
    induction k with
    | zero =>
      intro i ls y g H locs hk hy hl hg hP hS
      refine lv_iload_n hx hb df_5 rfl (lv_at hl 0 rfl) ?_
      refine lv_iload_n hx hb df_6 rfl (lv_at hl 1 rfl) ?_
      refine lv_icmp_ge hx hb df_7 (tgt := 20) rfl (fun _ => ?_) (fun q => absurd ?_ q)
      · refine W.vret hx hb hrt (fun t ht hw => ⟨⟨rfl, ?_⟩, hS.F ht⟩) hS.2.2 df_20 hlocks
        rw [ht]
        intro q z hz
        by_cases hq : q = r
        · subst hq
          have hlt := (List.getElem?_eq_some_iff.mp hr).1
          rw [List.getElem?_set, if_pos rfl, if_pos hlt] at hz
          cases hz
          have h1 := hP q (a, .inl (cy.1, n, .inl g)) (by rw [List.getElem?_set, if_pos rfl, if_pos hlt])
          show H[a]? = some (vp_cell cy.1 (n, .inl (fun _ => x)))
          rw [vp_fill (g := g) (fun j hj => (hg j (by omega)).symm)]
          exact h1
        · rw [List.getElem?_set, if_neg (fun z => hq z.symm)] at hz
          exact hP q z (by rw [List.getElem?_set, if_neg (fun z => hq z.symm)]; exact hz)
      · rw [hy]; exact nI_le (by omega) (by omega)
    | succ k ih =>
      intro i ls y g H locs hk hy hl hg hP hS
      have hlt := (List.getElem?_eq_some_iff.mp hr).1
      have hr1 : (ws.set r (a, Sum.inl (cy.1, n, Sum.inl g)))[r]? = some (a, .inl (cy.1, n, .inl g)) := by rw [List.getElem?_set, if_pos rfl, if_pos hlt]
      refine lv_iload_n hx hb df_5 rfl (lv_at hl 0 rfl) ?_
      refine lv_iload_n hx hb df_6 rfl (lv_at hl 1 rfl) ?_
      refine lv_icmp_ge hx hb df_7 (tgt := 20) rfl (fun q => absurd q ?_) (fun _ => ?_)
      · rw [hy]; exact nI_ge (by omega) (by omega)
      · refine lv_aload_n hx hb df_10 rfl (lv_at hl 2 rfl) ?_
        refine lv_iload_n hx hb df_11 rfl (lv_at hl 0 rfl) ?_
        refine lv_iload_n hx hb df_12 rfl (lv_at hl 3 rfl) ?_
        refine va_iast hx hb hK hP (hD.set hr) hS r 0 hr1 rfl (il_in hy (by omega) (by omega)) df_13 (fun H1 locs1 hP1 hD1 hS1 => ?_)
        rw [List.set_set] at hP1
        refine lv_iinc hx hb df_14 hl (k := 0) rfl rfl (by decide) rfl (fun ls hl => ?_)
        refine lv_goto hx hb df_17 (tgt := 5) rfl ?_
        refine ih (i + 1) ls (y + Int32.ofInt 1) _ H1 locs1 (by omega) (il_inc hy) hl (fun j hj => ?_) hP1 hS1
        rw [il_cl hy (by omega)]
        unfold upd
        by_cases hj2 : j = i
        · rw [if_pos hj2]
        · rw [if_neg hj2]; exact hg j (by omega)
  have hP0 : va_P D vwCl (ws.set r (a, .inl (cy.1, n, .inl f))) s.heap := by
    have e0 : ws.set r (a, .inl (cy.1, n, .inl f)) = ws := by
      apply List.ext_getElem?
      intro j
      rw [List.getElem?_set]
      by_cases hj : r = j
      · subst hj
        rw [if_pos rfl, if_pos (List.getElem?_eq_some_iff.mp hr).1, hr]
      · rw [if_neg hj]
    rw [e0]; exact hP
  exact key n 0 ls _ f s.heap [] (by omega) oi_0 (lv_sub hl [1, 0, 2, 3] rfl) (fun j hj => absurd hj (Nat.not_lt_zero _)) hP0 hS
end FIL
