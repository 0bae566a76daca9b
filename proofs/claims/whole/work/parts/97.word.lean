/-! the text "weight" and wordOf: methods that change nothing -/
abbrev NA : Nat → Prop := fun _ => False
def pq (r : Option Value) : Array Value → State → Outcome → State → Prop := fun _ st oc t => oc = .returned r ∧ t.heap = st.heap
def wsP (y : MethodName) (cc : ByteArray) (n : Nat) (r : Option FieldType) : List Cond := Cond.code y cc n r :: TS
theorem wsP_good {y : MethodName} {cc : ByteArray} {n : Nat} {r : Option FieldType} (h : Cond.code y cc n r ∈ TS) : GoodIn TS (wsP y cc n r) := by
  intro w hw
  rcases List.mem_cons.mp hw with rfl | hw
  · exact TS_good h
  · exact TS_good hw
theorem pu_start {l : Launch} {y : MethodName} {cc : ByteArray} {n : Nat} {r : Option FieldType} {avs : List Value} {Pr : State → Prop} {rv : Option Value} {rm : Room} (hy : plainName y.cls = true) (hn : (lg_sl avs).length ≤ n)
    (body : ∀ (p : Program) (e : Env) (s : State) (m : MethodId) (below : List Frame) (meth : Method) (c : Code) (ls : Array Slot), p.tables.exec = Jvm.exec → c.code = cc → c.maxLocals = n → meth.sig.returnType = r → s.vm.findClass y.cls = some m.cls → (∀ w ∈ TS, w.before avs.toArray s = true) → meth.locks = false → Pr s → lv_has ls n (lv_args 0 avs) →
      W p l e rm s m avs.toArray below meth c s.heap [] 0 0 (MQ below (pq rv) avs.toArray s 0 0 NA) (F0 m 0 ls [])) :
    Met l y (wsP y cc n r) rm (va_Pc avs Pr) (pq rv) 0 0 NA := by
  refine Met.ofW (cc := cc) (maxL := n) (ret := r) hy rfl ?_
  intro p e s m args below meth c s₁ B hml hv
  obtain ⟨rfl, hp⟩ := hv
  have hts := atoms_spec (ws := wsP y cc n r) B.pre
  have hown : s.vm.findClass y.cls = some m.cls := findClass_of_methodNamed B.named
  have hl := lv_entry avs (n := n) hn
  rw [lg_entry_eq]
  exact body p e s m below meth c _ B.exec B.bytes hml B.returns hown (fun w hw => hts w (List.mem_cons_of_mem _ hw)) B.notSynchronized hp hl
section PUC
variable {p : Program} {l : Launch} {e : Env} {R : Room} {s : State} {m : MethodId} {args : Array Value} {below : List Frame} {meth : Method} {c : Code} {H : Heap} {locs : List Loc} {cells slots : Nat} {Q : State → Prop} {pc : Nat} {ls : Array Slot} {rest As : List Value} {A : Nat → Prop} {H0 : Heap} {cc bytes : ByteArray} {nL maxL n index : Nat} {own : String} {y : MethodName} {ret : Option FieldType} {rm : Room} {Pc : Array Value → State → Prop} {r : Option Value} {b : Nat}
theorem pu_callS (S : CallFix p m c cc nL s args TS own) (hM : Met l y (wsP y bytes maxL ret) rm Pc (pq r) 0 0 NA) (w1 : Cond.code y bytes maxL ret ∈ TS) (w2 : Cond.initialized y.cls ∈ TS) (w3 : Cond.static y ∈ TS) (w4 : Cond.methodLink own index y ∈ TS)
    (hyd : y.cls ≠ "java/lang/invoke/MethodHandle" ∧ y.cls ≠ "java/lang/invoke/VarHandle" ∧ (parseMethodDescriptor y.desc).map (fun d => d.parameters.length) = some n) (hrc : rm.cells = 0 ∧ rm.slots = 0) (hroom : rm.frames + 1 ≤ R.frames ∧ 8 + (maxL + 11) + rm.locals ≤ R.locals) (hp : PreS s H Pc As) (hn : As.length = n) (hsize : ls.size = nL) (hW : (rest.map fun v => v.category).sum ≤ 8) (hdg : decode cc pc = .ok (.invokestatic index, 3)) (hc : cells ≤ R.cells) (hs : slots ≤ R.slots) (hS : va_S A H0 H locs)
    (kk : ∀ locs1 : List Loc, va_S A H0 H locs1 → W p l e R s m args below meth c H locs1 cells slots Q (F0 m (pc + 3) ls (r.toList ++ rest))) : W p l e R s m args below meth c H locs cells slots Q (F0 m pc ls (As.reverse ++ rest)) := by
  have hts := S.2.2.2.2
  have hrun := va_runS (e := e) (below := below) (meth := meth) (locs := locs) (cells := cells) (slots := slots) (H := H) (rest := rest) (g := F0 m pc ls (As.reverse ++ rest)) (As := As) S hM ⟨callB_of n hts (wsP_good w1) rfl hrc.1 hrc.2 (hts _ w2) (hts _ w4) hyd hroom, hts _ w3⟩ hp rfl hn hsize rfl (lv_room hW) hdg ⟨hc, hs⟩
  refine il_call hrun hS (fun q h => h.elim) (fun st v t h => ⟨by rw [h.2]; exact Nat.le_refl _, fun q _ _ => by rw [h.2]⟩) (fun v t st0 h0 hq hvm H1 locs1 ht hS1 => ?_)
  obtain ⟨h1, h2⟩ := hq
  cases h1
  obtain rfl : H1 = H := by rw [← ht, h2, h0]
  exact kk locs1 hS1
theorem pu_callV {C : String} (S : CallFix p m c cc nL s args TS own) (hM : Met l y (wsP y bytes maxL ret) rm Pc (pq r) 0 0 NA) (w1 : Cond.code y bytes maxL ret ∈ TS) (w2 : Cond.initialized y.cls ∈ TS) (w3 : Cond.instanceMethod y ∈ TS) (w5 : Cond.selects C y y ∈ TS) (w4 : Cond.methodLink own index y ∈ TS)
    (hyd : y.cls ≠ "java/lang/invoke/MethodHandle" ∧ y.cls ≠ "java/lang/invoke/VarHandle" ∧ (parseMethodDescriptor y.desc).map (fun d => d.parameters.length) = some n) (hrc : rm.cells = 0 ∧ rm.slots = 0) (hroom : rm.frames + 1 ≤ R.frames ∧ 8 + (maxL + 11) + rm.locals ≤ R.locals) (hp : PreV s H C b Pc As) (hn : As.length = n) (hsize : ls.size = nL) (hW : (rest.map fun v => v.category).sum ≤ 8) (hdg : decode cc pc = .ok (.invokevirtual index, 3)) (hc : cells ≤ R.cells) (hs : slots ≤ R.slots) (hS : va_S A H0 H locs)
    (kk : ∀ locs1 : List Loc, va_S A H0 H locs1 → W p l e R s m args below meth c H locs1 cells slots Q (F0 m (pc + 3) ls (r.toList ++ rest))) : W p l e R s m args below meth c H locs cells slots Q (F0 m pc ls (As.reverse ++ .ref b :: rest)) := by
  have hts := S.2.2.2.2
  have hrun := va_runV (e := e) (below := below) (meth := meth) (locs := locs) (cells := cells) (slots := slots) (H := H) (rest := rest) (g := F0 m pc ls (As.reverse ++ .ref b :: rest)) (As := As) (b := b) S hM ⟨callB_of n hts (wsP_good w1) rfl hrc.1 hrc.2 (hts _ w2) (hts _ w4) hyd hroom, hts _ w3, hts _ w5⟩ hp rfl hn hsize rfl (lv_room hW) hdg ⟨hc, hs⟩
  refine il_call hrun hS (fun q h => h.elim) (fun st v t h => ⟨by rw [h.2]; exact Nat.le_refl _, fun q _ _ => by rw [h.2]⟩) (fun v t st0 h0 hq hvm H1 locs1 ht hS1 => ?_)
  obtain ⟨h1, h2⟩ := hq
  cases h1
  obtain rfl : H1 = H := by rw [← ht, h2, h0]
  exact kk locs1 hS1
end PUC
def wB (j : Nat) : Int32 := ([119, 101, 105, 103, 104, 116] : List Int32).getD j 0
/-- the text at q, its bytes at v -/
def SF (q v : Nat) (A : Nat → Prop) (U : State) (H : Heap) : Prop := va_O "java/lang/String" q A U H ∧ va_OF "java/lang/String" "coder" "B" (.int 0) q A U H ∧ va_OF "java/lang/String" "value" "[B" (.ref v) q A U H ∧ va_T .byte v 6 (fun j => .int (wB j)) A U H ∧ va_Z "java/lang/String" "COMPACT_STRINGS" "Z" (.int 1) A U H ∧ va_Zq "jdk/internal/util/Preconditions" "SIOOBE_FORMATTER" "Ljava/util/function/BiFunction;" A U H
theorem SF_moved {q v : Nat} {A : Nat → Prop} {u U : State} {H : Heap} (hvm : u.vm.Alike U.vm) (h : SF q v A u H) : SF q v A U H := ⟨va_O.moved hvm h.1, va_OF.moved hvm h.2.1, va_OF.moved hvm h.2.2.1, va_T.moved hvm h.2.2.2.1, va_Z.moved hvm h.2.2.2.2.1, va_Zq.moved hvm h.2.2.2.2.2⟩
theorem SF_kept {q v : Nat} {A : Nat → Prop} {U : State} {H H1 : Heap} (h : SF q v A U H) (hq : ∀ a : Nat, a < H.size → ¬ A a → H1[a]? = H[a]?) : SF q v A U H1 := ⟨h.1.kept hq, h.2.1.kept hq, h.2.2.1.kept hq, h.2.2.2.1.kept hq, h.2.2.2.2.1.kept hq, h.2.2.2.2.2.kept hq⟩
theorem SF_narrow {q v : Nat} {A B : Nat → Prop} {U : State} {H : Heap} (h : SF q v A U H) (hAB : ∀ q, B q → A q) : SF q v B U H := ⟨h.1.narrow hAB, h.2.1.narrow hAB, h.2.2.1.narrow hAB, h.2.2.2.1.narrow hAB, h.2.2.2.2.1.narrow hAB, h.2.2.2.2.2.narrow hAB⟩
def rmP (d : Nat) : Room := { frames := d, cells := 0, slots := 0, locals := 24 * d }
def prS (q v : Nat) (U : State) : Prop := SF q v NA U U.heap
theorem prS_bl {q v : Nat} {avs : List Value} : FrameBlind (va_Pc avs (prS q v)) := by
  intro a U g mk h
  exact ⟨h.1, SF_moved (u := U) (U := U.calling g mk a) (Vm.Alike.refl U.vm) h.2⟩
theorem prS_w {q v : Nat} {s U : State} (h : prS q v s) (hU : U.heap = s.heap) (hW : s.WarmedH U.vm) : prS q v U := by
  unfold prS
  rw [hU]
  exact SF_moved hW.alike h
/-! words -/
theorem wd_len : Cond.code yJ0_length_8abf5 cJ0_length_8abf5 1 (some .int) ∈ TS ∧ Cond.instanceMethod yJ0_length_8abf5 ∈ TS ∧ Cond.selects RJ0 yJ0_length_8abf5 yJ0_length_8abf5 ∈ TS ∧ Cond.methodLink RX11 148 yJ0_length_8abf5 ∈ TS := ⟨TS_in (p := 1347) (by decide +kernel) rfl, TS_in (p := 1345) (by decide +kernel) rfl, TS_in (p := 1346) (by decide +kernel) rfl, TS_in (p := 1344) (by decide +kernel) rfl⟩
theorem wd_cod : Cond.code yJ0_coder_7d493 cJ0_coder_7d493 1 (some .byte) ∈ TS ∧ Cond.instanceMethod yJ0_coder_7d493 ∈ TS ∧ Cond.selects RJ0 yJ0_coder_7d493 yJ0_coder_7d493 ∈ TS ∧ Cond.methodLink RJ0 335 yJ0_coder_7d493 ∈ TS := ⟨TS_in (p := 1351) (by decide +kernel) rfl, TS_in (p := 1349) (by decide +kernel) rfl, TS_in (p := 1350) (by decide +kernel) rfl, TS_in (p := 1348) (by decide +kernel) rfl⟩
theorem wd_chr : Cond.code yJ0_charAt_5068e cJ0_charAt_5068e 2 (some .char) ∈ TS ∧ Cond.instanceMethod yJ0_charAt_5068e ∈ TS ∧ Cond.selects RJ0 yJ0_charAt_5068e yJ0_charAt_5068e ∈ TS ∧ Cond.methodLink RX11 154 yJ0_charAt_5068e ∈ TS := ⟨TS_in (p := 1357) (by decide +kernel) rfl, TS_in (p := 1355) (by decide +kernel) rfl, TS_in (p := 1356) (by decide +kernel) rfl, TS_in (p := 1354) (by decide +kernel) rfl⟩
theorem wd_isL : Cond.code yJ0_isLatin1_aae02 cJ0_isLatin1_aae02 1 (some .boolean) ∈ TS ∧ Cond.instanceMethod yJ0_isLatin1_aae02 ∈ TS ∧ Cond.selects RJ0 yJ0_isLatin1_aae02 yJ0_isLatin1_aae02 ∈ TS ∧ Cond.methodLink RJ0 492 yJ0_isLatin1_aae02 ∈ TS := ⟨TS_in (p := 1361) (by decide +kernel) rfl, TS_in (p := 1359) (by decide +kernel) rfl, TS_in (p := 1360) (by decide +kernel) rfl, TS_in (p := 1358) (by decide +kernel) rfl⟩
theorem wd_lat : Cond.code yJ1_charAt_3b067 cJ1_charAt_3b067 2 (some .char) ∈ TS ∧ Cond.static yJ1_charAt_3b067 ∈ TS ∧ Cond.methodLink RJ0 495 yJ1_charAt_3b067 ∈ TS := ⟨TS_in (p := 1364) (by decide +kernel) rfl, TS_in (p := 1363) (by decide +kernel) rfl, TS_in (p := 1362) (by decide +kernel) rfl⟩
theorem wd_sci : Cond.code yJ0_checkIndex_df160 cJ0_checkIndex_df160 2 none ∈ TS ∧ Cond.static yJ0_checkIndex_df160 ∈ TS ∧ Cond.methodLink RJ1 9 yJ0_checkIndex_df160 ∈ TS := ⟨TS_in (p := 1367) (by decide +kernel) rfl, TS_in (p := 1366) (by decide +kernel) rfl, TS_in (p := 1365) (by decide +kernel) rfl⟩
theorem wd_pci : Cond.code yJ3_checkIndex_8e157 cJ3_checkIndex_8e157 3 (some .int) ∈ TS ∧ Cond.static yJ3_checkIndex_8e157 ∈ TS ∧ Cond.methodLink RJ0 1059 yJ3_checkIndex_8e157 ∈ TS := ⟨TS_in (p := 1372) (by decide +kernel) rfl, TS_in (p := 1371) (by decide +kernel) rfl, TS_in (p := 1370) (by decide +kernel) rfl⟩
theorem wd_wrd : Cond.code yX11_wordOf cX11_wordOf 4 (some .long) ∈ TS ∧ Cond.static yX11_wordOf ∈ TS ∧ Cond.methodLink RX11 174 yX11_wordOf ∈ TS := ⟨TS_in (p := 1343) (by decide +kernel) rfl, TS_in (p := 1342) (by decide +kernel) rfl, TS_in (p := 1341) (by decide +kernel) rfl⟩
theorem wd_f : Cond.fieldLink RJ0 9 "java/lang/String" "value" "[B" ∈ TS ∧ Cond.fieldLink RJ0 15 "java/lang/String" "coder" "B" ∈ TS ∧ Cond.fieldLink RJ0 38 "java/lang/String" "COMPACT_STRINGS" "Z" ∈ TS ∧ Cond.fieldLink RJ0 1053 "jdk/internal/util/Preconditions" "SIOOBE_FORMATTER" "Ljava/util/function/BiFunction;" ∈ TS := ⟨TS_in (p := 1705) (by decide +kernel) rfl, TS_in (p := 1706) (by decide +kernel) rfl, TS_in (p := 1352) (by decide +kernel) rfl, TS_in (p := 1368) (by decide +kernel) rfl⟩
theorem wi_0 : Cond.initialized "java/lang/String" ∈ TS := TS_in (p := 99) (by decide +kernel) rfl
theorem wi_1 : Cond.initialized "java/lang/StringLatin1" ∈ TS := TS_in (p := 100) (by decide +kernel) rfl
theorem wi_3 : Cond.initialized "jdk/internal/util/Preconditions" ∈ TS := TS_in (p := 101) (by decide +kernel) rfl
theorem wi_X11 : Cond.initialized RX11 ∈ TS := TS_in (p := 97) (by decide +kernel) rfl
section WRD
variable {l : Launch} {q v : Nat}
set_option maxHeartbeats 4000000 in
theorem c_pci {i n : Int32} {fv : Value} (hfv : fv = .null ∨ ∃ t, fv = .ref t) (h0 : ¬ i < 0) (h1 : i < n) : Met l yJ3_checkIndex_8e157 (wsP yJ3_checkIndex_8e157 cJ3_checkIndex_8e157 3 (some .int)) (rmP 0) (va_Pc [.int i, .int n, fv] (fun _ => True)) (pq (some (.int i))) 0 0 NA := by
  refine pu_start (by decide) (by rcases hfv with rfl | ⟨t, rfl⟩ <;> exact Nat.le_of_ble_eq_true rfl) (fun p e s m below meth c ls hx hb hml hr hown hts hlk hp hl => ?_)
  have hl : lv_has ls 3 [(0, .int i), (1, .int n), (2, fv)] := hl
  have hl0 : ls[0]? = some (.val (.int i)) := lv_at hl 0 rfl
  have hl1 : ls[1]? = some (.val (.int n)) := lv_at hl 1 rfl
  refine lv_iload_n hx hb (by decide +kernel : decode cJ3_checkIndex_8e157 0 = .ok (.iload_n 0, 1)) rfl hl0 ?_
  refine lv_if_lt hx hb (by decide +kernel : decode cJ3_checkIndex_8e157 1 = .ok (.ifCond .lt 8, 3)) (tgt := 9) rfl (fun q => absurd q h0) (fun _ => ?_)
  refine lv_iload_n hx hb (by decide +kernel : decode cJ3_checkIndex_8e157 4 = .ok (.iload_n 0, 1)) rfl hl0 ?_
  refine lv_iload_n hx hb (by decide +kernel : decode cJ3_checkIndex_8e157 5 = .ok (.iload_n 1, 1)) rfl hl1 ?_
  refine lv_icmp_lt hx hb (by decide +kernel : decode cJ3_checkIndex_8e157 6 = .ok (.if_icmp .lt 10, 3)) (tgt := 16) rfl (fun _ => ?_) (fun q => absurd h1 q)
  refine lv_iload_n hx hb (by decide +kernel : decode cJ3_checkIndex_8e157 16 = .ok (.iload_n 0, 1)) rfl hl0 ?_
  exact W.zret hx hb hr rfl (fun t ht hw => ⟨rfl, ht⟩) (fun q hq => absurd hq List.not_mem_nil) (by decide +kernel : decode cJ3_checkIndex_8e157 17 = .ok (.ireturn, 1)) hlk
set_option maxHeartbeats 4000000 in
theorem c_sci {i n : Int32} (h0 : ¬ i < 0) (h1 : i < n) : Met l yJ0_checkIndex_df160 (wsP yJ0_checkIndex_df160 cJ0_checkIndex_df160 2 none) (rmP 1) (va_Pc [.int i, .int n] (prS q v)) (pq none) 0 0 NA := by
  refine pu_start (by decide) (Nat.le_of_ble_eq_true rfl) (fun p e s m below meth c ls hx hb hml hr hown hts hlk hp hl => ?_)
  have hS : va_S NA s.heap s.heap [] := va_S.rf
  have hl : lv_has ls 2 [(0, .int i), (1, .int n)] := hl
  refine lv_iload_n hx hb (by decide +kernel : decode cJ0_checkIndex_df160 0 = .ok (.iload_n 0, 1)) rfl (lv_at hl 0 rfl) ?_
  refine lv_iload_n hx hb (by decide +kernel : decode cJ0_checkIndex_df160 1 = .ok (.iload_n 1, 1)) rfl (lv_at hl 1 rfl) ?_
  have fin : ∀ fv : Value, (fv = .null ∨ ∃ t, fv = .ref t) → W p l e (rmP 1) s m ([Value.int i, Value.int n] : List Value).toArray below meth c s.heap [] 0 0 (MQ below (pq none) ([Value.int i, Value.int n] : List Value).toArray s 0 0 NA) (F0 m 5 ls (fv :: .int n :: .int i :: [])) := by
    intro fv hfv
    refine pu_callS (n := 3) (As := [.int i, .int n, fv]) (rest := []) (own := RJ0) (R := rmP 1) ⟨hx, hb, hml, hown, hts⟩ (c_pci hfv h0 h1) wd_pci.1 wi_3 wd_pci.2.1 wd_pci.2.2 (by decide +kernel) ⟨rfl, rfl⟩ ⟨by decide, by decide⟩ ⟨fun a U g mk h => h, fun U hU hW => ⟨rfl, trivial⟩⟩ rfl hl.1 (by decide) (by decide +kernel : decode cJ0_checkIndex_df160 5 = .ok (.invokestatic 1059, 3)) (Nat.zero_le _) (Nat.zero_le _) hS (fun locs1 hS1 => ?_)
    refine lv_pop hx hb (by decide +kernel : decode cJ0_checkIndex_df160 8 = .ok (.pop, 1)) rfl ?_
    exact W.vret hx hb hr (fun t ht hw => ⟨rfl, ht⟩) hS1.2.2 (by decide +kernel : decode cJ0_checkIndex_df160 9 = .ok (.return_, 1)) hlk
  rcases hp.2.2.2.2.2 with hz | ⟨t, hz⟩
  · exact va_gets hx hb hz hS hown (hts _ wd_f.2.2.2) (fun _ h => h) (by decide +kernel : decode cJ0_checkIndex_df160 2 = .ok (.getstatic 1053, 3)) (fin .null (Or.inl rfl))
  · exact va_gets hx hb hz hS hown (hts _ wd_f.2.2.2) (fun _ h => h) (by decide +kernel : decode cJ0_checkIndex_df160 2 = .ok (.getstatic 1053, 3)) (fin (.ref t) (Or.inr ⟨t, rfl⟩))
theorem wB_c : ∀ k, k < 6 → ((wB k &&& (Int16.ofInt 255).toInt32).toUInt32 % 65536).toInt32 = wB k ∧ narrow .char (.int (wB k)) = .int (wB k) := by
  intro k hk
  match k, hk with
  | 0, _ => exact ⟨by decide +kernel, rfl⟩
  | 1, _ => exact ⟨by decide +kernel, rfl⟩
  | 2, _ => exact ⟨by decide +kernel, rfl⟩
  | 3, _ => exact ⟨by decide +kernel, rfl⟩
  | 4, _ => exact ⟨by decide +kernel, rfl⟩
  | 5, _ => exact ⟨by decide +kernel, rfl⟩
  | k + 6, hk => exact absurd hk (by omega)
set_option maxHeartbeats 4000000 in
theorem c_lat {k : Nat} (hk : k < 6) : Met l yJ1_charAt_3b067 (wsP yJ1_charAt_3b067 cJ1_charAt_3b067 2 (some .char)) (rmP 2) (va_Pc [.ref v, .int (nI k)] (prS q v)) (pq (some (.int (wB k)))) 0 0 NA := by
  refine pu_start (by decide) (Nat.le_of_ble_eq_true rfl) (fun p e s m below meth c ls hx hb hml hr hown hts hlk hp hl => ?_)
  have hS : va_S NA s.heap s.heap [] := va_S.rf
  have hl : lv_has ls 2 [(0, .ref v), (1, .int (nI k))] := hl
  refine lv_iload_n hx hb (by decide +kernel : decode cJ1_charAt_3b067 0 = .ok (.iload_n 1, 1)) rfl (lv_at hl 1 rfl) ?_
  refine lv_aload_n hx hb (by decide +kernel : decode cJ1_charAt_3b067 1 = .ok (.aload_n 0, 1)) rfl (lv_at hl 0 rfl) ?_
  refine va_tlen hx hb hp.2.2.2.1 hS (v := nI 6) rfl (by decide +kernel : decode cJ1_charAt_3b067 2 = .ok (.arraylength, 1)) ?_
  refine pu_callS (n := 2) (As := [.int (nI k), .int (nI 6)]) (rest := []) (own := RJ1) (R := rmP 2) ⟨hx, hb, hml, hown, hts⟩ (c_sci (q := q) (v := v) (nI_pos (by omega)) (nI_lt hk (by omega))) wd_sci.1 wi_0 wd_sci.2.1 wd_sci.2.2 (by decide +kernel) ⟨rfl, rfl⟩ ⟨by decide, by decide⟩ ⟨prS_bl, fun U hU hW => ⟨rfl, prS_w hp hU hW⟩⟩ rfl hl.1 (by decide) (by decide +kernel : decode cJ1_charAt_3b067 3 = .ok (.invokestatic 9, 3)) (Nat.zero_le _) (Nat.zero_le _) hS (fun locs1 hS1 => ?_)
  refine lv_aload_n hx hb (by decide +kernel : decode cJ1_charAt_3b067 6 = .ok (.aload_n 0, 1)) rfl (lv_at hl 0 rfl) ?_
  refine lv_iload_n hx hb (by decide +kernel : decode cJ1_charAt_3b067 7 = .ok (.iload_n 1, 1)) rfl (lv_at hl 1 rfl) ?_
  refine va_tb hx hb hp.2.2.2.1 hS1 (vp_in_nI hk (by omega)) (v := .int (wB k)) (by rw [nI_clamp (by omega)]) (by decide +kernel : decode cJ1_charAt_3b067 8 = .ok (.baload, 1)) ?_
  refine lv_sipush hx hb (by decide +kernel : decode cJ1_charAt_3b067 9 = .ok (.sipush 255, 3)) rfl ?_
  refine lv_iand hx hb (by decide +kernel : decode cJ1_charAt_3b067 12 = .ok (.iand, 1)) ?_
  refine lv_i2c hx hb (by decide +kernel : decode cJ1_charAt_3b067 13 = .ok (.i2c, 1)) (wB_c k hk).1 ?_
  exact W.zret hx hb hr (wB_c k hk).2 (fun t ht hw => ⟨rfl, ht⟩) hS1.2.2 (by decide +kernel : decode cJ1_charAt_3b067 14 = .ok (.ireturn, 1)) hlk
set_option maxHeartbeats 4000000 in
theorem c_isL : Met l yJ0_isLatin1_aae02 (wsP yJ0_isLatin1_aae02 cJ0_isLatin1_aae02 1 (some .boolean)) (rmP 0) (va_Pc [.ref q] (prS q v)) (pq (some (.int 1))) 0 0 NA := by
  refine pu_start (by decide) (Nat.le_of_ble_eq_true rfl) (fun p e s m below meth c ls hx hb hml hr hown hts hlk hp hl => ?_)
  have hS : va_S NA s.heap s.heap [] := va_S.rf
  have hl : lv_has ls 1 [(0, .ref q)] := hl
  refine va_gets hx hb hp.2.2.2.2.1 hS hown (hts _ wd_f.2.2.1) (fun _ h => h) (by decide +kernel : decode cJ0_isLatin1_aae02 0 = .ok (.getstatic 38, 3)) ?_
  refine lv_if_eq hx hb (by decide +kernel : decode cJ0_isLatin1_aae02 3 = .ok (.ifCond .eq 14, 3)) (tgt := 17) rfl (fun z => absurd z (by decide)) (fun _ => ?_)
  refine lv_aload_n hx hb (by decide +kernel : decode cJ0_isLatin1_aae02 6 = .ok (.aload_n 0, 1)) rfl (lv_at hl 0 rfl) ?_
  refine vk_getf hx hb hp.2.1 hS hown (hts _ wd_f.2.1) (fun _ h => h) (by decide +kernel : decode cJ0_isLatin1_aae02 7 = .ok (.getfield 15, 3)) ?_
  refine lv_if_ne hx hb (by decide +kernel : decode cJ0_isLatin1_aae02 10 = .ok (.ifCond .ne 7, 3)) (tgt := 17) rfl (fun z => absurd rfl z) (fun _ => ?_)
  refine lv_iconst hx hb (by decide +kernel : decode cJ0_isLatin1_aae02 13 = .ok (.iconst 1, 1)) (v := 1) (by decide) ?_
  refine lv_goto hx hb (by decide +kernel : decode cJ0_isLatin1_aae02 14 = .ok (.goto 4, 3)) (tgt := 18) rfl ?_
  exact W.zret hx hb hr rfl (fun t ht hw => ⟨rfl, ht⟩) hS.2.2 (by decide +kernel : decode cJ0_isLatin1_aae02 18 = .ok (.ireturn, 1)) hlk
set_option maxHeartbeats 4000000 in
theorem c_cod : Met l yJ0_coder_7d493 (wsP yJ0_coder_7d493 cJ0_coder_7d493 1 (some .byte)) (rmP 0) (va_Pc [.ref q] (prS q v)) (pq (some (.int 0))) 0 0 NA := by
  refine pu_start (by decide) (Nat.le_of_ble_eq_true rfl) (fun p e s m below meth c ls hx hb hml hr hown hts hlk hp hl => ?_)
  have hS : va_S NA s.heap s.heap [] := va_S.rf
  have hl : lv_has ls 1 [(0, .ref q)] := hl
  refine va_gets hx hb hp.2.2.2.2.1 hS hown (hts _ wd_f.2.2.1) (fun _ h => h) (by decide +kernel : decode cJ0_coder_7d493 0 = .ok (.getstatic 38, 3)) ?_
  refine lv_if_eq hx hb (by decide +kernel : decode cJ0_coder_7d493 3 = .ok (.ifCond .eq 10, 3)) (tgt := 13) rfl (fun z => absurd z (by decide)) (fun _ => ?_)
  refine lv_aload_n hx hb (by decide +kernel : decode cJ0_coder_7d493 6 = .ok (.aload_n 0, 1)) rfl (lv_at hl 0 rfl) ?_
  refine vk_getf hx hb hp.2.1 hS hown (hts _ wd_f.2.1) (fun _ h => h) (by decide +kernel : decode cJ0_coder_7d493 7 = .ok (.getfield 15, 3)) ?_
  refine lv_goto hx hb (by decide +kernel : decode cJ0_coder_7d493 10 = .ok (.goto 4, 3)) (tgt := 14) rfl ?_
  exact W.zret hx hb hr rfl (fun t ht hw => ⟨rfl, ht⟩) hS.2.2 (by decide +kernel : decode cJ0_coder_7d493 14 = .ok (.ireturn, 1)) hlk
theorem prS_V {s : State} {cls : String} (hp : prS q v s) (hS : s.vm.findClass "java/lang/String" = s.vm.findClass cls) : ∃ cellB : Cell, s.heap[q]? = some cellB ∧ cellB.vm.isStatics = false ∧ s.vm.findClass cls = some cellB.cls := by
  obtain ⟨cell, h1, h2, h3, -⟩ := hp.1
  exact ⟨cell, h1, h2, by rw [← hS]; exact h3⟩
set_option maxHeartbeats 4000000 in
theorem c_len : Met l yJ0_length_8abf5 (wsP yJ0_length_8abf5 cJ0_length_8abf5 1 (some .int)) (rmP 1) (va_Pc [.ref q] (prS q v)) (pq (some (.int (nI 6)))) 0 0 NA := by
  refine pu_start (by decide) (Nat.le_of_ble_eq_true rfl) (fun p e s m below meth c ls hx hb hml hr hown hts hlk hp hl => ?_)
  have hS : va_S NA s.heap s.heap [] := va_S.rf
  have hl : lv_has ls 1 [(0, .ref q)] := hl
  refine lv_aload_n hx hb (by decide +kernel : decode cJ0_length_8abf5 0 = .ok (.aload_n 0, 1)) rfl (lv_at hl 0 rfl) ?_
  refine vk_getf hx hb hp.2.2.1 hS hown (hts _ wd_f.1) (fun _ h => h) (by decide +kernel : decode cJ0_length_8abf5 1 = .ok (.getfield 9, 3)) ?_
  refine va_tlen hx hb hp.2.2.2.1 hS (v := nI 6) rfl (by decide +kernel : decode cJ0_length_8abf5 4 = .ok (.arraylength, 1)) ?_
  refine lv_aload_n hx hb (by decide +kernel : decode cJ0_length_8abf5 5 = .ok (.aload_n 0, 1)) rfl (lv_at hl 0 rfl) ?_
  refine pu_callV (As := []) (rest := [.int (nI 6)]) (own := RJ0) (C := RJ0) (b := q) (R := rmP 1) ⟨hx, hb, hml, hown, hts⟩ (c_cod (q := q) (v := v)) wd_cod.1 wi_0 wd_cod.2.1 wd_cod.2.2.1 wd_cod.2.2.2 (by decide +kernel) ⟨rfl, rfl⟩ ⟨by decide, by decide⟩ ⟨prS_bl, prS_V hp rfl, fun U hU hW => ⟨rfl, prS_w hp hU hW⟩⟩ rfl hl.1 (by decide) (by decide +kernel : decode cJ0_length_8abf5 6 = .ok (.invokevirtual 335, 3)) (Nat.zero_le _) (Nat.zero_le _) hS (fun locs1 hS1 => ?_)
  refine lv_ishr hx hb (by decide +kernel : decode cJ0_length_8abf5 9 = .ok (.ishr, 1)) ?_
  rw [show nI 6 >>> ((0 : Int32) &&& 31) = nI 6 by decide +kernel]
  exact W.zret hx hb hr rfl (fun t ht hw => ⟨rfl, ht⟩) hS1.2.2 (by decide +kernel : decode cJ0_length_8abf5 10 = .ok (.ireturn, 1)) hlk
set_option maxHeartbeats 4000000 in
theorem c_chr {k : Nat} (hk : k < 6) : Met l yJ0_charAt_5068e (wsP yJ0_charAt_5068e cJ0_charAt_5068e 2 (some .char)) (rmP 3) (va_Pc [.ref q, .int (nI k)] (prS q v)) (pq (some (.int (wB k)))) 0 0 NA := by
  refine pu_start (by decide) (Nat.le_of_ble_eq_true rfl) (fun p e s m below meth c ls hx hb hml hr hown hts hlk hp hl => ?_)
  have hS : va_S NA s.heap s.heap [] := va_S.rf
  have hl : lv_has ls 2 [(0, .ref q), (1, .int (nI k))] := hl
  refine lv_aload_n hx hb (by decide +kernel : decode cJ0_charAt_5068e 0 = .ok (.aload_n 0, 1)) rfl (lv_at hl 0 rfl) ?_
  refine pu_callV (As := []) (rest := []) (own := RJ0) (C := RJ0) (b := q) (R := rmP 3) ⟨hx, hb, hml, hown, hts⟩ (c_isL (q := q) (v := v)) wd_isL.1 wi_0 wd_isL.2.1 wd_isL.2.2.1 wd_isL.2.2.2 (by decide +kernel) ⟨rfl, rfl⟩ ⟨by decide, by decide⟩ ⟨prS_bl, prS_V hp rfl, fun U hU hW => ⟨rfl, prS_w hp hU hW⟩⟩ rfl hl.1 (by decide) (by decide +kernel : decode cJ0_charAt_5068e 1 = .ok (.invokevirtual 492, 3)) (Nat.zero_le _) (Nat.zero_le _) hS (fun locs1 hS1 => ?_)
  refine lv_if_eq hx hb (by decide +kernel : decode cJ0_charAt_5068e 4 = .ok (.ifCond .eq 12, 3)) (tgt := 16) rfl (fun z => absurd z (by decide)) (fun _ => ?_)
  refine lv_aload_n hx hb (by decide +kernel : decode cJ0_charAt_5068e 7 = .ok (.aload_n 0, 1)) rfl (lv_at hl 0 rfl) ?_
  refine vk_getf hx hb hp.2.2.1 hS1 hown (hts _ wd_f.1) (fun _ h => h) (by decide +kernel : decode cJ0_charAt_5068e 8 = .ok (.getfield 9, 3)) ?_
  refine lv_iload_n hx hb (by decide +kernel : decode cJ0_charAt_5068e 11 = .ok (.iload_n 1, 1)) rfl (lv_at hl 1 rfl) ?_
  refine pu_callS (n := 2) (As := [.ref v, .int (nI k)]) (rest := []) (own := RJ0) (R := rmP 3) ⟨hx, hb, hml, hown, hts⟩ (c_lat (q := q) (v := v) hk) wd_lat.1 wi_1 wd_lat.2.1 wd_lat.2.2 (by decide +kernel) ⟨rfl, rfl⟩ ⟨by decide, by decide⟩ ⟨prS_bl, fun U hU hW => ⟨rfl, prS_w hp hU hW⟩⟩ rfl hl.1 (by decide) (by decide +kernel : decode cJ0_charAt_5068e 12 = .ok (.invokestatic 495, 3)) (Nat.zero_le _) (Nat.zero_le _) hS1 (fun locs2 hS2 => ?_)
  exact W.zret hx hb hr (wB_c k hk).2 (fun t ht hw => ⟨rfl, ht⟩) hS2.2.2 (by decide +kernel : decode cJ0_charAt_5068e 15 = .ok (.ireturn, 1)) hlk
def pvW : Nat → Int64
  | 0 => 0
  | k + 1 => pvW k * 32 + (wB k).toInt64 - 97 + 1
theorem wd_c : Cond.constantLong RX11 135 32 ∈ TS ∧ Cond.constantLong RX11 137 97 ∈ TS := ⟨ldc2_word (o := 11) (ix := 135) (z := 32) (by decide), ldc2_word (o := 11) (ix := 137) (z := 97) (by decide)⟩
set_option maxHeartbeats 4000000 in
theorem c_wrd : Met l yX11_wordOf (wsP yX11_wordOf cX11_wordOf 4 (some .long)) (rmP 4) (va_Pc [.ref q] (prS q v)) (pq (some (.long 777297172))) 0 0 NA := by
  refine pu_start (by decide) (Nat.le_of_ble_eq_true rfl) (fun p e s m below meth c ls hx hb hml hr hown hts hlk hp hl => ?_)
  have hS : va_S NA s.heap s.heap [] := va_S.rf
  have hl : lv_has ls 4 [(0, .ref q)] := hl
  refine lv_lconst hx hb (by decide +kernel : decode cX11_wordOf 0 = .ok (.lconst 0, 1)) (v := 0) (by decide) ?_
  refine lv_lstore_n hx hb (by decide +kernel : decode cX11_wordOf 1 = .ok (.lstore_n 1, 1)) rfl hl (by decide) rfl (fun ls hl => ?_)
  have hl : lv_has ls 4 [(1, .long 0), (0, .ref q)] := hl
  refine lv_iconst hx hb (by decide +kernel : decode cX11_wordOf 2 = .ok (.iconst 0, 1)) (v := nI 0) (by decide) ?_
  refine lv_istore_n hx hb (by decide +kernel : decode cX11_wordOf 3 = .ok (.istore_n 3, 1)) rfl hl (by decide) rfl (fun ls hl => ?_)
  have hl : lv_has ls 4 [(3, .int (nI 0)), (1, .long 0), (0, .ref q)] := hl
  have key : ∀ (r k : Nat) (ls : Array Slot) (locs : List Loc), k + r = 6 → lv_has ls 4 [(3, .int (nI k)), (1, .long (pvW k)), (0, .ref q)] → va_S NA s.heap s.heap locs → W p l e (rmP 4) s m ([Value.ref q] : List Value).toArray below meth c s.heap locs 0 0 (MQ below (pq (some (.long 777297172))) ([Value.ref q] : List Value).toArray s 0 0 NA) (F0 m 4 ls []) := by
    intro r
    induction r with
    | zero =>
      intro k ls locs hk hl hS
      obtain rfl : k = 6 := by omega
      refine lv_iload_n hx hb (by decide +kernel : decode cX11_wordOf 4 = .ok (.iload_n 3, 1)) rfl (lv_at hl 0 rfl) ?_
      refine lv_aload_n hx hb (by decide +kernel : decode cX11_wordOf 5 = .ok (.aload_n 0, 1)) rfl (lv_at hl 2 rfl) ?_
      refine pu_callV (As := []) (rest := [.int (nI 6)]) (own := RX11) (C := RJ0) (b := q) (R := rmP 4) ⟨hx, hb, hml, hown, hts⟩ (c_len (q := q) (v := v)) wd_len.1 wi_0 wd_len.2.1 wd_len.2.2.1 wd_len.2.2.2 (by decide +kernel) ⟨rfl, rfl⟩ ⟨by decide, by decide⟩ ⟨prS_bl, prS_V hp rfl, fun U hU hW => ⟨rfl, prS_w hp hU hW⟩⟩ rfl hl.1 (by decide) (by decide +kernel : decode cX11_wordOf 6 = .ok (.invokevirtual 148, 3)) (Nat.zero_le _) (Nat.zero_le _) hS (fun locs1 hS1 => ?_)
      refine lv_icmp_ge hx hb (by decide +kernel : decode cX11_wordOf 9 = .ok (.if_icmp .ge 28, 3)) (tgt := 37) rfl (fun _ => ?_) (fun z => absurd (Int32.le_refl _) z)
      refine lv_lload_n hx hb (by decide +kernel : decode cX11_wordOf 37 = .ok (.lload_n 1, 1)) rfl (lv_at hl 1 rfl) ?_
      rw [show pvW 6 = 777297172 by decide +kernel]
      exact W.lret hx hb hr (fun t ht hw => ⟨rfl, ht⟩) hS1.2.2 (by decide +kernel : decode cX11_wordOf 38 = .ok (.lreturn, 1)) hlk
    | succ r ih =>
      intro k ls locs hk hl hS
      refine lv_iload_n hx hb (by decide +kernel : decode cX11_wordOf 4 = .ok (.iload_n 3, 1)) rfl (lv_at hl 0 rfl) ?_
      refine lv_aload_n hx hb (by decide +kernel : decode cX11_wordOf 5 = .ok (.aload_n 0, 1)) rfl (lv_at hl 2 rfl) ?_
      refine pu_callV (As := []) (rest := [.int (nI k)]) (own := RX11) (C := RJ0) (b := q) (R := rmP 4) ⟨hx, hb, hml, hown, hts⟩ (c_len (q := q) (v := v)) wd_len.1 wi_0 wd_len.2.1 wd_len.2.2.1 wd_len.2.2.2 (by decide +kernel) ⟨rfl, rfl⟩ ⟨by decide, by decide⟩ ⟨prS_bl, prS_V hp rfl, fun U hU hW => ⟨rfl, prS_w hp hU hW⟩⟩ rfl hl.1 (by show 1 + 0 ≤ 8; omega) (by decide +kernel : decode cX11_wordOf 6 = .ok (.invokevirtual 148, 3)) (Nat.zero_le _) (Nat.zero_le _) hS (fun locs1 hS1 => ?_)
      refine lv_icmp_ge hx hb (by decide +kernel : decode cX11_wordOf 9 = .ok (.if_icmp .ge 28, 3)) (tgt := 37) rfl (fun z => absurd z (nI_ge (by omega) (by omega))) (fun _ => ?_)
      refine lv_lload_n hx hb (by decide +kernel : decode cX11_wordOf 12 = .ok (.lload_n 1, 1)) rfl (lv_at hl 1 rfl) ?_
      refine lv_ldc2 hx hb hown (hts _ wd_c.1) (by decide +kernel : decode cX11_wordOf 13 = .ok (.ldc2_w 135, 3)) ?_
      refine lv_lmul hx hb (by decide +kernel : decode cX11_wordOf 16 = .ok (.lmul, 1)) ?_
      refine lv_aload_n hx hb (by decide +kernel : decode cX11_wordOf 17 = .ok (.aload_n 0, 1)) rfl (lv_at hl 2 rfl) ?_
      refine lv_iload_n hx hb (by decide +kernel : decode cX11_wordOf 18 = .ok (.iload_n 3, 1)) rfl (lv_at hl 0 rfl) ?_
      refine pu_callV (n := 1) (As := [.int (nI k)]) (rest := [.long (pvW k * 32)]) (own := RX11) (C := RJ0) (b := q) (R := rmP 4) ⟨hx, hb, hml, hown, hts⟩ (c_chr (q := q) (v := v) (k := k) (by omega)) wd_chr.1 wi_0 wd_chr.2.1 wd_chr.2.2.1 wd_chr.2.2.2 (by decide +kernel) ⟨rfl, rfl⟩ ⟨by decide, by decide⟩ ⟨prS_bl, prS_V hp rfl, fun U hU hW => ⟨rfl, prS_w hp hU hW⟩⟩ rfl hl.1 (by show 2 + 0 ≤ 8; omega) (by decide +kernel : decode cX11_wordOf 19 = .ok (.invokevirtual 154, 3)) (Nat.zero_le _) (Nat.zero_le _) hS1 (fun locs2 hS2 => ?_)
      refine lv_i2l hx hb (by decide +kernel : decode cX11_wordOf 22 = .ok (.i2l, 1)) rfl ?_
      refine lv_ladd hx hb (by decide +kernel : decode cX11_wordOf 23 = .ok (.ladd, 1)) ?_
      refine lv_ldc2 hx hb hown (hts _ wd_c.2) (by decide +kernel : decode cX11_wordOf 24 = .ok (.ldc2_w 137, 3)) ?_
      refine lv_lsub hx hb (by decide +kernel : decode cX11_wordOf 27 = .ok (.lsub, 1)) ?_
      refine lv_lconst hx hb (by decide +kernel : decode cX11_wordOf 28 = .ok (.lconst 1, 1)) (v := 1) (by decide) ?_
      refine lv_ladd hx hb (by decide +kernel : decode cX11_wordOf 29 = .ok (.ladd, 1)) ?_
      refine lv_lstore_n hx hb (by decide +kernel : decode cX11_wordOf 30 = .ok (.lstore_n 1, 1)) rfl hl (by decide) rfl (fun ls hl => ?_)
      have hl : lv_has ls 4 [(1, .long (pvW (k + 1))), (3, .int (nI k)), (0, .ref q)] := hl
      refine lv_iinc hx hb (by decide +kernel : decode cX11_wordOf 31 = .ok (.iinc 3 1, 3)) hl (k := 1) rfl (v := nI (k + 1)) (il_inc rfl) (by decide) rfl (fun ls hl => ?_)
      have hl : lv_has ls 4 [(3, .int (nI (k + 1))), (1, .long (pvW (k + 1))), (0, .ref q)] := hl
      refine lv_goto hx hb (by decide +kernel : decode cX11_wordOf 34 = .ok (.goto (-30), 3)) (tgt := 4) rfl ?_
      exact ih (k + 1) ls locs2 (by omega) hl hS2
  exact key 6 0 ls [] (by omega) hl hS
end WRD
theorem inf_no : ∀ a, a < 240 → 227 ≤ a → (inf a).1 ≠ 11 := by decide +kernel
theorem inf_lt {a : Nat} (h : (inf a).1 = 11) : a + 1 ≤ 227 := by
  rcases Nat.lt_or_ge a 240 with z | z
  · rcases Nat.lt_or_ge a 227 with y | y
    · omega
    · exact absurd h (inf_no a z y)
  · exfalso
    unfold inf at h
    rw [nth_out [] infL (a / 16) (by rw [show infL.length = 15 by decide +kernel]; omega)] at h
    have h : (99 : Nat) = 11 := h
    omega
section HWD
variable {l : Launch} {D : va_G} {cy : Nat × Nat × Nat × Nat} {b N : Nat} {xs : Nat → Int32} {A : Nat → Prop} {SX : State → Prop} {q v : Nat}
theorem hw_ok (hsx : ∀ s, SX s → SF q v A s s.heap ∧ vk_R RX11 172 "weight" q s) : HWd l D cy b N xs A SX := by
  intro p e R s m args below meth c H locs cells slots Qm a pc lsM st hC ha hd hd2 hsz hst hfr hlo hce hsl hS kk
  obtain ⟨hx, hb, hml, hown, hts, hK, hX, hbl, hs, hlocks⟩ := hC
  have ho : s.vm.findClass RX11 = some m.cls := by
    rw [cm_cls (inf_lt ha), ha] at hown
    exact hown
  obtain ⟨h1, h2⟩ := hsx s hs
  refine va_ldcS hx hb ho h2 hd ?_
  refine pu_callS (n := 1) (As := [.ref q]) (rest := st) (own := RX11) ⟨hx, hb, hml, ho, hts⟩ (c_wrd (q := q) (v := v)) wd_wrd.1 wi_X11 wd_wrd.2.1 wd_wrd.2.2 (by decide +kernel) ⟨rfl, rfl⟩ ⟨hfr, ?_⟩ ⟨prS_bl, fun U hU hW => ⟨rfl, ?_⟩⟩ rfl hsz hst hd2 hce hsl hS (fun locs1 hS1 => kk H locs1 rfl hS1)
  · show 8 + (4 + 11) + 24 * 4 ≤ R.locals
    omega
  · unfold prS
    rw [hU]
    exact SF_narrow (SF_moved hW.alike (SF_kept h1 hS.2.1)) (fun _ h => h.elim)
end HWD
