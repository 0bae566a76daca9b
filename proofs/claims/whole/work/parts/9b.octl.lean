/-! octet: contracts, and the law's call of its own octet -/
theorem i_10 : (10, 0, 0) ∈ idl ∧ (10, 0, 2) ∈ idl ∧ (12, 0, 1) ∈ idl := by decide +kernel
section OCC
variable {p : Program} {l : Launch} {e : Env} {R : Room} {s : State} {m : MethodId} {args : Array Value} {below : List Frame} {meth : Method} {c : Code} {H : Heap} {locs : List Loc} {cells slots mc ms : Nat} {Q : State → Prop} {pc : Nat} {ls : Array Slot} {rest st0 : List Value} {A : Nat → Prop} {H0 : Heap} {free : Addr → Prop} {Qa : State → Outcome → State → Prop} {XC : String → State → State → Prop} {D : va_G} {cy : Nat × Nat × Nat × Nat} {ad : RF → Nat} {σ : ST}
theorem il_callX (hr : vx_Run p l e R s m args below meth c H locs cells slots mc ms (F0 m pc ls st0) rest Qa (fun _ _ _ => False) free) (hS : va_S A H0 H locs) (hf : ∀ q, free q → A q) (hF : ∀ st v t, Qa st (.returned v) t → va_F A st t)
    (kk : ∀ (v : Option Value) (t st : State), st.heap = H → Qa st (.returned v) t → ∀ (H1 : Heap) (locs1 : List Loc), t.heap = H1 → va_S A H0 H1 locs1 → W p l e R s m args below meth c H1 locs1 (cells + mc) (slots + ms) Q (F0 m (pc + 3) ls (v.toList ++ rest))) : W p l e R s m args below meth c H locs cells slots Q (F0 m pc ls st0) := by
  intro T hT X
  rcases hr T hT X with ⟨v, st₀, t, T', L, h0, X', hL, e1, e2, hq, st⟩ | ⟨q, st₀, t, T', L, E, ce, h0, X', hL, e1, e2, hx, -⟩
  · obtain ⟨hz, hk⟩ := hF _ _ _ hq
    rw [h0] at hz hk
    obtain ⟨t2, a1, b1⟩ := kk v t st₀ h0 hq T'.heap (locs ++ L) e1.symm
      ⟨Nat.le_trans hS.1 (by rw [e1]; exact hz), fun q h1 h2 => by rw [e1, hk q (Nat.lt_of_lt_of_le h1 hS.1) h2]; exact hS.2.1 q h1 h2, fun q hq => by
        rcases List.mem_append.mp hq with h | h
        · exact hS.2.2 q h
        · exact hf _ (hL q h)⟩ T' rfl X'
    exact ⟨t2, st t2 a1, b1⟩
  · exact hx.elim
theorem vx_only (hr : vx_Run p l e R s m args below meth c H locs cells slots mc ms (F0 m pc ls st0) rest (fun _ _ _ => False) XC free)
    (kx : ∀ (E : String) (ce : Cell) (q9 : Addr) (t st : State) (H1 : Heap) (L : List Loc), st.heap = H → t.heap = H1 → XC E st t → (∀ z ∈ L, free z.base) → H1[q9]? = some ce → ce.vm = .none → s.vm.findClass E = some ce.cls → vx_W p l e R s m args below meth c H1 (locs ++ L) (cells + mc) (slots + ms) Q (F0 m pc ls rest) q9) : W p l e R s m args below meth c H locs cells slots Q (F0 m pc ls st0) := by
  intro T hT X
  rcases hr T hT X with ⟨v, st₀, t, T', L, h0, X', hL, e1, e2, hq, st⟩ | ⟨q, st₀, t, T', L, E, ce, h0, X', hL, e1, e2, hx, hce, hcv, hcl, st⟩
  · exact hq.elim
  · obtain ⟨t2, a1, b1⟩ := kx E ce q t st₀ T'.heap L h0 e1.symm hx hL (by rw [e1]; exact hce) hcv hcl T' rfl X'
    exact ⟨t2, st.trans a1, b1⟩
theorem o_get {ix b1 : Nat} {v : Value} (hx : p.tables.exec = Jvm.exec) (hb : c.code = cX10_octet) (hts : ∀ w ∈ TS, w.before args s = true) (hown : s.vm.findClass RX10 = some m.cls) (hK : va_K D vwCl (tyl cy) s) (hP : va_P D vwCl (wsl cy ad σ) H) (hf : chF 10 ix 10 b1 = true) (hv : tr ad (fget σ 10 0 b1) = v) (hd : decode cX10_octet pc = .ok (.getfield ix, 3))
    (kk : W p l e R s m args below meth c H locs cells slots Q (F0 m (pc + 3) ls (v :: rest))) : W p l e R s m args below meth c H locs cells slots Q (F0 m pc ls (.ref (ad (10, 0, 0)) :: rest)) := by
  obtain ⟨hlk, hj, hc12⟩ := fl_word hf
  obtain ⟨k0, hk0, hw2⟩ := wsl_at cy ad σ i_10.1
  obtain ⟨C, T, n0, hcl, hT, hn0⟩ := cl_at hc12
  have hlink := hts _ hlk
  rw [hT] at hlink
  subst hv
  exact va_get hx hb hts (cl_in hcl) hown hK hP k0 hw2 hcl b1 (hn0 ▸ hj) hlink (fun _ h => h) (by rw [List.getElem?_map, List.getElem?_range hj]; rfl) hd kk
end OCC
theorem do_0 : decode cX10_octet 0 = .ok (.iload_n 1, 1) := by decide +kernel
theorem do_1 : decode cX10_octet 1 = .ok (.ifCond .lt 20, 3) := by decide +kernel
theorem do_4 : decode cX10_octet 4 = .ok (.iload_n 1, 1) := by decide +kernel
theorem do_5 : decode cX10_octet 5 = .ok (.aload_n 0, 1) := by decide +kernel
theorem do_6 : decode cX10_octet 6 = .ok (.getfield 64, 3) := by decide +kernel
theorem do_9 : decode cX10_octet 9 = .ok (.if_icmp .ge 12, 3) := by decide +kernel
theorem do_12 : decode cX10_octet 12 = .ok (.iload_n 1, 1) := by decide +kernel
theorem do_13 : decode cX10_octet 13 = .ok (.aload_n 0, 1) := by decide +kernel
theorem do_14 : decode cX10_octet 14 = .ok (.getfield 13, 3) := by decide +kernel
theorem do_17 : decode cX10_octet 17 = .ok (.arraylength, 1) := by decide +kernel
theorem do_18 : decode cX10_octet 18 = .ok (.if_icmp .lt 14, 3) := by decide +kernel
theorem do_32 : decode cX10_octet 32 = .ok (.aload_n 0, 1) := by decide +kernel
theorem do_33 : decode cX10_octet 33 = .ok (.getfield 13, 3) := by decide +kernel
theorem do_36 : decode cX10_octet 36 = .ok (.iload_n 1, 1) := by decide +kernel
theorem do_37 : decode cX10_octet 37 = .ok (.iaload, 1) := by decide +kernel
theorem do_38 : decode cX10_octet 38 = .ok (.ireturn, 1) := by decide +kernel
def XB : String → State → State → Prop := fun E st t => E = nsE ∧ st.heap.size ≤ t.heap.size ∧ ∀ q : Nat, q < st.heap.size → t.heap[q]? = st.heap[q]?
def rmB : Room := { frames := 6, cells := 1, slots := 6, locals := 100 }
def rmL0 : Room := { frames := 1, cells := 0, slots := 0, locals := 40 }
def rmL1 : Room := { frames := 7, cells := 1, slots := 6, locals := 140 }
def hhL : List (Nat × Nat × Nat × Nat) := [(0, 9, 12, 13)]
def wsL : List Cond := Cond.codeWith yL_octet cL_octet 4 (some .int) hhL :: TS
theorem wL_c : Cond.codeWith yL_octet cL_octet 4 (some .int) hhL ∈ TS := TS_in (p := 1064) (by decide +kernel) rfl
theorem wsL_good : GoodIn TS wsL := by
  intro w hw
  rcases List.mem_cons.mp hw with rfl | hw
  · exact TS_good wL_c
  · exact TS_good hw
theorem wO : Cond.code yX10_octet cX10_octet 2 (some .int) ∈ TS ∧ Cond.instanceMethod yX10_octet ∈ TS ∧ Cond.selects RX10 yX10_octet yX10_octet ∈ TS ∧ Cond.methodLink RL 7 yX10_octet ∈ TS ∧ Cond.initialized RX10 ∈ TS ∧ Cond.initialized RL ∈ TS ∧ Cond.static yL_octet ∈ TS := ⟨TS_in (p := 1069) (by decide +kernel) rfl, TS_in (p := 1067) (by decide +kernel) rfl, TS_in (p := 1068) (by decide +kernel) rfl, TS_in (p := 1066) (by decide +kernel) rfl, TS_in (p := 85) (by decide +kernel) rfl, TS_in (p := 84) (by decide +kernel) rfl, TS_in (p := 1063) (by decide +kernel) rfl⟩
section OCM
variable {l : Launch} {D : va_G} {cy : Nat × Nat × Nat × Nat} {ad : RF → Nat} {b N : Nat} {xs : Nat → Int32} {A : Nat → Prop} {SX : State → Prop} {σ : ST} {q : Int32} {qs : Nat}
theorem q_in (hq : ¬ (q < 0 ∨ 480 ≤ q)) : ∃ j, j < 480 ∧ q = nI j := by
  rcases pk_ix q (n := 480) (by omega) with h | h | ⟨j, hj, h⟩
  · exact absurd (Or.inl h) hq
  · exact absurd (Or.inr (by rw [show (480 : Int32) = nI 480 by decide]; exact h)) hq
  · exact ⟨j, hj, h⟩
set_option maxHeartbeats 4000000 in
theorem c_octG (hq : ¬ (q < 0 ∨ σ.1 10 0 17 0 ≤ q ∨ 480 ≤ q)) : Met l yX10_octet (wsP yX10_octet cX10_octet 2 (some .int)) (rmP 0) (va_Pc [.ref (ad (10, 0, 0)), .int q] (pcM D cy ad b N xs SX σ)) (pq (some (.int (σ.1 10 0 2 q.toNatClampNeg)))) 0 0 NA := by
  refine pu_start (by decide) (Nat.le_of_ble_eq_true rfl) (fun p e s m below meth c ls hx hb hml hr hown hts hlk hp hl => ?_)
  obtain ⟨hP, hK, -, -, -⟩ := hp
  have hl : lv_has ls 2 [(0, .ref (ad (10, 0, 0))), (1, .int q)] := hl
  obtain ⟨j, hj, ej⟩ := q_in (q := q) (fun z => hq (z.elim Or.inl (fun y => Or.inr (Or.inr y))))
  obtain ⟨k2, hk2, hw3⟩ := wsl_at cy ad σ i_10.2.1
  have hw3 : (wsl cy ad σ)[k2]? = some (ad (10, 0, 2), .inl (cy.1, 480, .inl (σ.1 10 0 2))) := hw3
  refine lv_iload_n hx hb do_0 rfl (lv_at hl 1 rfl) ?_
  refine lv_if_lt hx hb do_1 (tgt := 21) rfl (fun z => absurd (Or.inl z) hq) (fun _ => ?_)
  refine lv_iload_n hx hb do_4 rfl (lv_at hl 1 rfl) ?_
  refine lv_aload_n hx hb do_5 rfl (lv_at hl 0 rfl) ?_
  refine o_get (v := .int (σ.1 10 0 17 0)) hx hb hts hown hK hP (b1 := 16) (by decide +kernel) rfl do_6 ?_
  refine lv_icmp_ge hx hb do_9 (tgt := 21) rfl (fun z => absurd (Or.inr (Or.inl z)) hq) (fun _ => ?_)
  refine lv_iload_n hx hb do_12 rfl (lv_at hl 1 rfl) ?_
  refine lv_aload_n hx hb do_13 rfl (lv_at hl 0 rfl) ?_
  refine o_get (v := .ref (ad (10, 0, 2))) hx hb hts hown hK hP (b1 := 1) (by decide +kernel) rfl do_14 ?_
  refine va_alen hx hb hK hP k2 0 hw3 (ty := .int) rfl (v := 480) (show Int32.ofNat 480 = 480 by decide) do_17 ?_
  refine lv_icmp_lt hx hb do_18 (tgt := 32) rfl (fun _ => ?_) (fun z => absurd (Or.inr (Or.inr (Int32.not_lt.mp z))) hq)
  refine lv_aload_n hx hb do_32 rfl (lv_at hl 0 rfl) ?_
  refine o_get (v := .ref (ad (10, 0, 2))) hx hb hts hown hK hP (b1 := 1) (by decide +kernel) rfl do_33 ?_
  refine lv_iload_n hx hb do_36 rfl (lv_at hl 1 rfl) ?_
  refine va_iald hx hb hK hP k2 0 hw3 rfl (il_in ej hj (by omega)) do_37 ?_
  exact W.zret hx hb hr rfl (fun t ht hw => ⟨rfl, ht⟩) (fun q hq => absurd hq List.not_mem_nil) do_38 hlk
set_option maxHeartbeats 4000000 in
theorem c_octB (hl0 : l.stackTraces = false) (hsxo : ∀ s, SX s → SXo A qs s) (hq : q < 0 ∨ σ.1 10 0 17 0 ≤ q ∨ 480 ≤ q) : vx_Met l yX10_octet (wsP yX10_octet cX10_octet 2 (some .int)) rmB (va_Pc [.ref (ad (10, 0, 0)), .int q] (pcM D cy ad b N xs SX σ)) (fun _ _ _ _ => False) XB 1 6 NA := by
  refine vx_ofW (cc := cX10_octet) (maxL := 2) (ret := some .int) (by decide) rfl ?_
  intro p e s m args below meth c s₁ B hml hnt hv
  obtain ⟨rfl, hP, hK, -, -, hsx⟩ := hv
  obtain ⟨o1, o2, o3, o4⟩ := hsxo s hsx
  have hx := B.exec
  have hb : c.code = cX10_octet := B.bytes
  have hts0 := atoms_spec (ws := wsP yX10_octet cX10_octet 2 (some .int)) B.pre
  have hts : ∀ w ∈ TS, w.before _ s = true := fun w hw => hts0 w (List.mem_cons_of_mem _ hw)
  have hown : s.vm.findClass RX10 = some m.cls := findClass_of_methodNamed B.named
  have hl := lv_entry [Value.ref (ad (10, 0, 0)), Value.int q] (n := 2) (Nat.le_of_ble_eq_true rfl)
  rw [lg_entry_eq]
  generalize (lg_sl [Value.ref (ad (10, 0, 0)), Value.int q] ++ List.replicate (2 - (lg_sl [Value.ref (ad (10, 0, 0)), Value.int q]).length) Slot.unset).toArray = ls at hl ⊢
  have hl : lv_has ls 2 [(0, .ref (ad (10, 0, 0))), (1, .int q)] := hl
  obtain ⟨k2, hk2, hw3⟩ := wsl_at cy ad σ i_10.2.1
  have hw3 : (wsl cy ad σ)[k2]? = some (ad (10, 0, 2), .inl (cy.1, 480, .inl (σ.1 10 0 2))) := hw3
  have thr : W p l e rmB s m ([Value.ref (ad (10, 0, 0)), Value.int q] : List Value).toArray below meth c s.heap [] 0 0 (vx_MQ below (fun _ _ _ _ => False) XB ([Value.ref (ad (10, 0, 0)), Value.int q] : List Value).toArray s 1 6 NA) (F0 m 21 ls []) :=
    oc_throw (A := A) hx hb hl0 hown (hts _ w_cl0) (hts _ w_inE) o1 (atE_b hts o4) o2 o3 va_S.rf (hl.1.trans hml.symm) (by decide +kernel) (by decide +kernel) (by decide +kernel) (by decide +kernel) (by decide +kernel) (fun x hx => (hnt x hx).elim) (by decide) (by decide) (by decide) (by decide) B.notSynchronized (fun t _ h1 h2 => ⟨rfl, h1, h2⟩) (fun z hz => absurd hz List.not_mem_nil) (Nat.le_refl _) (Nat.le_refl _)
  refine lv_iload_n hx hb do_0 rfl (lv_at hl 1 rfl) ?_
  refine lv_if_lt hx hb do_1 (tgt := 21) rfl (fun _ => thr) (fun n0 => ?_)
  refine lv_iload_n hx hb do_4 rfl (lv_at hl 1 rfl) ?_
  refine lv_aload_n hx hb do_5 rfl (lv_at hl 0 rfl) ?_
  refine o_get (v := .int (σ.1 10 0 17 0)) hx hb hts hown hK hP (b1 := 16) (by decide +kernel) rfl do_6 ?_
  refine lv_icmp_ge hx hb do_9 (tgt := 21) rfl (fun _ => thr) (fun n1 => ?_)
  refine lv_iload_n hx hb do_12 rfl (lv_at hl 1 rfl) ?_
  refine lv_aload_n hx hb do_13 rfl (lv_at hl 0 rfl) ?_
  refine o_get (v := .ref (ad (10, 0, 2))) hx hb hts hown hK hP (b1 := 1) (by decide +kernel) rfl do_14 ?_
  refine va_alen hx hb hK hP k2 0 hw3 (ty := .int) rfl (v := 480) (show Int32.ofNat 480 = 480 by decide) do_17 ?_
  refine lv_icmp_lt hx hb do_18 (tgt := 32) rfl (fun z => ?_) (fun _ => thr)
  rcases hq with h | h | h
  · exact absurd h n0
  · exact absurd h n1
  · exact absurd z (Int32.not_lt.mpr h)
end OCM
