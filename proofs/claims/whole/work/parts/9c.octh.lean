/-! the law's octet; the law's call of it -/
theorem dl_0 : decode cL_octet 0 = .ok (.aload_n 2, 1) := by decide +kernel
theorem dl_1 : decode cL_octet 1 = .ok (.iconst 0, 1) := by decide +kernel
theorem dl_2 : decode cL_octet 2 = .ok (.aload_n 0, 1) := by decide +kernel
theorem dl_3 : decode cL_octet 3 = .ok (.iload_n 1, 1) := by decide +kernel
theorem dl_4 : decode cL_octet 4 = .ok (.invokevirtual 7, 3) := by decide +kernel
theorem dl_7 : decode cL_octet 7 = .ok (.i2l, 1) := by decide +kernel
theorem dl_8 : decode cL_octet 8 = .ok (.lastore, 1) := by decide +kernel
theorem dl_9 : decode cL_octet 9 = .ok (.goto 6, 3) := by decide +kernel
theorem dl_12 : decode cL_octet 12 = .ok (.astore_n 3, 1) := by decide +kernel
theorem dl_13 : decode cL_octet 13 = .ok (.iconst 1, 1) := by decide +kernel
theorem dl_14 : decode cL_octet 14 = .ok (.ireturn, 1) := by decide +kernel
theorem dl_15 : decode cL_octet 15 = .ok (.iconst 0, 1) := by decide +kernel
theorem dl_16 : decode cL_octet 16 = .ok (.ireturn, 1) := by decide +kernel
section OCL
variable {l : Launch} {D : va_G} {cy : Nat × Nat × Nat × Nat} {ad : RF → Nat} {b N : Nat} {xs : Nat → Int32} {A : Nat → Prop} {SX : State → Prop} {σ : ST} {q : Int32} {qs : Nat}
abbrev XF : String → State → State → Prop := fun _ _ _ => False
def qcL (D : va_G) (cy : Nat × Nat × Nat × Nat) (ad : RF → Nat) (A : Nat → Prop) (r : Int32) (σ' : ST) : Array Value → State → Outcome → State → Prop := fun _ st oc t => (oc = .returned (some (.int r)) ∧ va_P D vwCl (wsl cy ad σ') t.heap) ∧ va_F A st t
set_option maxHeartbeats 4000000 in
theorem c_lawG (hSX : SXk A SX) (hbA : ¬ A b) (hD : va_D A (wsl cy ad σ)) (hq : ¬ (q < 0 ∨ σ.1 10 0 17 0 ≤ q ∨ 480 ≤ q)) :
    vx_Met l yL_octet wsL rmL0 (va_Pc [.ref (ad (10, 0, 0)), .int q, .ref (ad (12, 0, 1))] (pcM D cy ad b N xs SX σ)) (qcL D cy ad A 0 (uL σ 12 0 1 0 (σ.1 10 0 2 q.toNatClampNeg).toInt64)) XF 0 0 A := by
  refine vx_ofWH (cc := cL_octet) (maxL := 4) (ret := some .int) (hh := hhL) (by decide) rfl ?_
  intro p e s m args below meth c s₁ B hml hv
  obtain ⟨rfl, hP, hK, hX, hbl, hsx⟩ := hv
  have hx := B.exec
  have hb : c.code = cL_octet := B.bytes
  have hr := B.returns
  have hlk := B.notSynchronized
  have hts0 := atoms_spec (ws := wsL) B.pre
  have hts : ∀ w ∈ TS, w.before _ s = true := fun w hw => hts0 w (List.mem_cons_of_mem _ hw)
  have hown : s.vm.findClass RL = some m.cls := findClass_of_methodNamed B.named
  have hl := lv_entry [Value.ref (ad (10, 0, 0)), Value.int q, Value.ref (ad (12, 0, 1))] (n := 4) (Nat.le_of_ble_eq_true rfl)
  rw [lg_entry_eq]
  generalize (lg_sl [Value.ref (ad (10, 0, 0)), Value.int q, Value.ref (ad (12, 0, 1))] ++ List.replicate (4 - (lg_sl [Value.ref (ad (10, 0, 0)), Value.int q, Value.ref (ad (12, 0, 1))]).length) Slot.unset).toArray = ls at hl ⊢
  have hl : lv_has ls 4 [(0, .ref (ad (10, 0, 0))), (1, .int q), (2, .ref (ad (12, 0, 1)))] := hl
  have hS : va_S A s.heap s.heap [] := va_S.rf
  obtain ⟨k0, hk0, hw0⟩ := wsl_at cy ad σ i_10.1
  obtain ⟨C, T, n0, hcl, hT, hn0⟩ := cl_at (c := 10) (by omega)
  have hrec := va_recv hK hP hcl hw0
  have hCn : C = RX10 := cl_name hcl
  rw [hCn] at hrec
  obtain ⟨k2, hk2, hw3⟩ := wsl_at cy ad σ i_10.2.2
  have hw3 : (wsl cy ad σ)[k2]? = some (ad (12, 0, 1), .inl (cy.2.1, 1, .inr (.inl (σ.2 12 0 1)))) := hw3
  refine lv_aload_n hx hb dl_0 rfl (lv_at hl 2 rfl) ?_
  refine lv_iconst hx hb dl_1 rfl ?_
  refine lv_aload_n hx hb dl_2 rfl (lv_at hl 0 rfl) ?_
  refine lv_iload_n hx hb dl_3 rfl (lv_at hl 1 rfl) ?_
  refine pu_callV (n := 1) (As := [.int q]) (rest := [.int (Int32.ofInt 0), .ref (ad (12, 0, 1))]) (own := RL) (C := RX10) (b := ad (10, 0, 0)) (R := rmL0) ⟨hx, hb, hml, hown, hts⟩ (c_octG (D := D) (cy := cy) (b := b) (N := N) (xs := xs) (SX := SX) hq) wO.1 wO.2.2.2.2.1 wO.2.1 wO.2.2.1 wO.2.2.2.1 (by decide +kernel) ⟨rfl, rfl⟩ ⟨by decide, by decide⟩ ⟨pcM_blind hSX, hrec, fun U hU hW => ⟨rfl, pcM_of hSX hP hS hK hX hbl hbA hsx hU hW⟩⟩ rfl hl.1 (by show 1 + (1 + 0) ≤ 8; omega) dl_4 (Nat.zero_le _) (Nat.zero_le _) hS (fun locs1 hS1 => ?_)
  refine lv_i2l hx hb dl_7 rfl ?_
  refine va_last hx hb hK hP hD hS1 k2 1 hw3 rfl (il_in oi_0 (show 0 < 1 by omega) (by omega)) dl_8 (fun H1 locs2 hP1 hD1 hS2 => ?_)
  have e1 := wsl_set (cy := cy) (ad := ad) (σ := σ) (σ' := uL σ 12 0 1 0 (σ.1 10 0 2 q.toNatClampNeg).toInt64) hk2 (e := .inl (cy.2.1, 1, .inr (.inl (vp_updL (σ.2 12 0 1) (Int32.ofInt 0).toNatClampNeg (σ.1 10 0 2 q.toNatClampNeg).toInt64)))) (by
    show Sum.inl (cy.2.1, 1, Sum.inr (Sum.inl ((uL σ 12 0 1 0 (σ.1 10 0 2 q.toNatClampNeg).toInt64).2 12 0 1))) = _
    rw [uL_row, il_cl oi_0 (by omega)]) (cel_arr i_10.2.2 (uL_off _ _ _ _ _ _))
  rw [e1] at hP1
  refine lv_goto hx hb dl_9 (tgt := 15) rfl ?_
  refine lv_iconst hx hb dl_15 (v := 0) (by decide) ?_
  exact vx_ret (W.zret hx hb hr rfl (fun t ht hw => ⟨⟨rfl, by rw [ht]; exact hP1⟩, hS2.F ht⟩) hS2.2.2 dl_16 hlk)
set_option maxHeartbeats 4000000 in
theorem c_lawB (hl0 : l.stackTraces = false) (hsxo : ∀ s, SX s → SXo A qs s) (hSX : SXk A SX) (hbA : ¬ A b) (hq : q < 0 ∨ σ.1 10 0 17 0 ≤ q ∨ 480 ≤ q) :
    vx_Met l yL_octet wsL rmL1 (va_Pc [.ref (ad (10, 0, 0)), .int q, .ref (ad (12, 0, 1))] (pcM D cy ad b N xs SX σ)) (qcL D cy ad A 1 σ) XF 1 6 A := by
  refine vx_ofWH (cc := cL_octet) (maxL := 4) (ret := some .int) (hh := hhL) (by decide) rfl ?_
  intro p e s m args below meth c s₁ B hml hv
  obtain ⟨rfl, hP, hK, hX, hbl, hsx⟩ := hv
  have hx := B.exec
  have hb : c.code = cL_octet := B.bytes
  have hr := B.returns
  have hlk := B.notSynchronized
  have hts0 := atoms_spec (ws := wsL) B.pre
  have hts : ∀ w ∈ TS, w.before _ s = true := fun w hw => hts0 w (List.mem_cons_of_mem _ hw)
  have htab : c.exceptionTable.toList = [] ++ ({ startPc := 0, endPc := 9, handlerPc := 12, catchType := 13 } : ExceptionTableEntry) :: [] := (vx_table (x := yL_octet) B (hts0 _ List.mem_cons_self)).trans rfl
  have hown : s.vm.findClass RL = some m.cls := findClass_of_methodNamed B.named
  have hl := lv_entry [Value.ref (ad (10, 0, 0)), Value.int q, Value.ref (ad (12, 0, 1))] (n := 4) (Nat.le_of_ble_eq_true rfl)
  rw [lg_entry_eq]
  generalize (lg_sl [Value.ref (ad (10, 0, 0)), Value.int q, Value.ref (ad (12, 0, 1))] ++ List.replicate (4 - (lg_sl [Value.ref (ad (10, 0, 0)), Value.int q, Value.ref (ad (12, 0, 1))]).length) Slot.unset).toArray = ls at hl ⊢
  have hl : lv_has ls 4 [(0, .ref (ad (10, 0, 0))), (1, .int q), (2, .ref (ad (12, 0, 1)))] := hl
  have hS : va_S A s.heap s.heap [] := va_S.rf
  obtain ⟨k0, hk0, hw0⟩ := wsl_at cy ad σ i_10.1
  obtain ⟨C, T, n0, hcl, hT, hn0⟩ := cl_at (c := 10) (by omega)
  have hrec := va_recv hK hP hcl hw0
  have hCn : C = RX10 := cl_name hcl
  rw [hCn] at hrec
  have hcast : (Cond.castable nsE nsE).before ([Value.ref (ad (10, 0, 0)), Value.int q, Value.ref (ad (12, 0, 1))] : List Value).toArray s = true := va_Nw.use rfl ((hsxo s hsx).2.2.2 _ atE_cs rfl)
  refine lv_aload_n hx hb dl_0 rfl (lv_at hl 2 rfl) ?_
  refine lv_iconst hx hb dl_1 rfl ?_
  refine lv_aload_n hx hb dl_2 rfl (lv_at hl 0 rfl) ?_
  refine lv_iload_n hx hb dl_3 rfl (lv_at hl 1 rfl) ?_
  have hcw : CallW rmL1 s ([Value.ref (ad (10, 0, 0)), Value.int q, Value.ref (ad (12, 0, 1))] : List Value).toArray RL RX10 7 yX10_octet cX10_octet 2 (some .int) (wsP yX10_octet cX10_octet 2 (some .int)) rmB 1 6 1 := ⟨callB_of 1 hts (wsP_good wO.1) rfl rfl rfl (hts _ wO.2.2.2.2.1) (hts _ wO.2.2.2.1) (by decide +kernel) ⟨by decide, by decide⟩, hts _ wO.2.1, hts _ wO.2.2.1⟩
  have hrun := vx_runV (e := e) (below := below) (meth := meth) (locs := []) (cells := 0) (slots := 0) (H := s.heap) (rest := [.int (Int32.ofInt 0), .ref (ad (12, 0, 1))]) (g := F0 m 4 ls [.int q, .ref (ad (10, 0, 0)), .int (Int32.ofInt 0), .ref (ad (12, 0, 1))]) (As := [.int q]) (b := ad (10, 0, 0)) ⟨hx, hb, hml, hown, hts⟩ (c_octB (D := D) (cy := cy) (b := b) (N := N) (xs := xs) (SX := SX) hl0 hsxo hq) hcw ⟨pcM_blind hSX, hrec, fun U hU hW => ⟨rfl, pcM_of hSX hP hS hK hX hbl hbA hsx hU hW⟩⟩ rfl rfl hl.1 rfl (lv_room (by show 1 + (1 + 0) ≤ 8; omega)) dl_4 ⟨by decide, by decide⟩
  refine vx_only hrun (fun E ce q9 t st H1 L h0 ht hXB hL hce hcv hcc => ?_)
  obtain ⟨rfl, f1, f2⟩ := hXB
  rw [h0, ht] at f1 f2
  have hL0 : ([] : List Loc) ++ L = [] := by
    cases L with
    | nil => rfl
    | cons z L => exact (hL z List.mem_cons_self).elim
  rw [hL0]
  have hP1 : va_P D vwCl (wsl cy ad σ) H1 := hP.kept (fun k x hk => f2 x.1 (hP k x hk).lt)
  have hS1 : va_S A s.heap H1 [] := ⟨f1, fun x h1 _ => f2 x h1, fun z hz => absurd hz List.not_mem_nil⟩
  refine vx_catch hown [] _ [] htab (fun z hz => absurd hz List.not_mem_nil) rfl (by decide) (hts _ w_cl1) hcast hce hcv hcc ?_
  refine lv_astore_n hx hb dl_12 rfl hl (by decide) rfl (fun ls2 hl2 => ?_)
  refine lv_iconst hx hb dl_13 (v := 1) (by decide) ?_
  exact vx_ret (W.zret hx hb hr rfl (fun t ht hw => ⟨⟨rfl, by rw [ht]; exact hP1⟩, hS1.F ht⟩) hS1.2.2 dl_14 hlk)
def noE : Cond → Bool
  | .methodLink o _ _ => decide (o ≠ "")
  | _ => true
theorem TS_noE : ∀ w ∈ TS, noE w = true := by decide +kernel
theorem cls_no : ∀ a, a < 240 → 227 ≤ a → clsN (inf a).1 = "" := by decide +kernel
theorem inf_lt2 {a ix : Nat} {y : MethodName} (h : Cond.methodLink (clsN (inf a).1) ix y ∈ TS) : a + 1 ≤ 227 := by
  have h1 := of_decide_eq_true (TS_noE _ h)
  rcases Nat.lt_or_ge a 227 with z | z
  · omega
  · exfalso
    refine h1 ?_
    rcases Nat.lt_or_ge a 240 with y | y
    · exact cls_no a y z
    · unfold inf
      rw [nth_out [] infL (a / 16) (by rw [show infL.length = 15 by decide +kernel]; omega)]
      rfl
set_option maxHeartbeats 4000000 in
theorem ho_ok (hl0 : l.stackTraces = false) (hsxo : ∀ s, SX s → SXo A qs s) (hSX : SXk A SX) (hbA : ¬ A b) : HOd l D cy ad b N xs A SX := by
  intro p e R s m args below meth c H locs cells slots Qm a pc ix lsM st σ q hC hlink hd hsz hst hfr hlo hce hsl hP hD hS kG kB
  obtain ⟨hx, hb, hml, hown, hts, hK, hX, hbl, hsx, hlocks⟩ := hC
  have ha := inf_lt2 hlink
  have hyd : yL_octet.cls ≠ "java/lang/invoke/MethodHandle" ∧ yL_octet.cls ≠ "java/lang/invoke/VarHandle" ∧ (parseMethodDescriptor yL_octet.desc).map (fun d => d.parameters.length) = some 3 := by decide +kernel
  have hsig : ∀ sig, parseMethodDescriptor yL_octet.desc = some sig → 3 = sig.parameters.length := by
    intro sig h
    have h2 := hyd.2.2
    rw [h] at h2
    exact (Option.some.inj h2).symm
  rw [cm_cls ha] at hown
  have hcw : ∀ rm : Room, rm.frames + 1 ≤ R.frames → 8 + (4 + 11) + rm.locals ≤ R.locals → vx_CSW R s args (clsN (inf a).1) ix yL_octet cL_octet 4 (some .int) hhL wsL rm rm.cells rm.slots 3 := fun rm h1 h2 => ⟨⟨rfl, rfl, h1, h2, pay_in hts wsL_good, List.mem_cons_self⟩, hts _ wL_c, hts _ wO.2.2.2.2.2.1, ⟨hyd.1, hyd.2.1⟩, hsig, hts _ hlink, hts _ wO.2.2.2.2.2.2⟩
  have hpre : PreS s H (va_Pc [.ref (ad (10, 0, 0)), .int q, .ref (ad (12, 0, 1))] (pcM D cy ad b N xs SX σ)) [.ref (ad (10, 0, 0)), .int q, .ref (ad (12, 0, 1))] := ⟨pcM_blind hSX, fun U hU hW => ⟨rfl, pcM_of hSX hP hS hK hX hbl hbA hsx hU hW⟩⟩
  by_cases hq : q < 0 ∨ σ.1 10 0 17 0 ≤ q ∨ 480 ≤ q
  · have hrun := vx_runSX (l := l) (e := e) (below := below) (meth := meth) (locs := locs) (cells := cells) (slots := slots) (H := H) (rest := st) (g := F0 m pc lsM (.ref (ad (12, 0, 1)) :: .int q :: .ref (ad (10, 0, 0)) :: st)) (As := [.ref (ad (10, 0, 0)), .int q, .ref (ad (12, 0, 1))]) ⟨hx, hb, hml, hown, hts⟩ (c_lawB (l := l) (D := D) (cy := cy) (b := b) (N := N) (xs := xs) (σ := σ) hl0 hsxo hSX hbA hq) (hcw rmL1 (by show 7 + 1 ≤ R.frames; omega) (by show 8 + (4 + 11) + 140 ≤ R.locals; omega)) hpre rfl rfl hsz rfl (lv_room hst) hd ⟨by show cells + 1 ≤ R.cells; omega, by show slots + 6 ≤ R.slots; omega⟩
    refine il_callX hrun hS (fun _ h => h) (fun st0 v t h => h.2) (fun v t st0 h0 hq2 H1 locs1 ht hS1 => ?_)
    obtain ⟨⟨hv, hP1⟩, -⟩ := hq2
    cases hv
    rw [ht] at hP1
    exact kB hq H1 locs1 _ _ hP1 hS1 (by show cells + 1 ≤ cells + 1000; omega) (by show slots + 6 ≤ slots + 10000; omega)
  · have hrun := vx_runSX (l := l) (e := e) (below := below) (meth := meth) (locs := locs) (cells := cells) (slots := slots) (H := H) (rest := st) (g := F0 m pc lsM (.ref (ad (12, 0, 1)) :: .int q :: .ref (ad (10, 0, 0)) :: st)) (As := [.ref (ad (10, 0, 0)), .int q, .ref (ad (12, 0, 1))]) ⟨hx, hb, hml, hown, hts⟩ (c_lawG (l := l) (D := D) (cy := cy) (b := b) (N := N) (xs := xs) (σ := σ) hSX hbA hD hq) (hcw rmL0 (by show 1 + 1 ≤ R.frames; omega) (by show 8 + (4 + 11) + 40 ≤ R.locals; omega)) hpre rfl rfl hsz rfl (lv_room hst) hd ⟨by show cells + 0 ≤ R.cells; omega, by show slots + 0 ≤ R.slots; omega⟩
    refine il_callX hrun hS (fun _ h => h) (fun st0 v t h => h.2) (fun v t st0 h0 hq2 H1 locs1 ht hS1 => ?_)
    obtain ⟨⟨hv, hP1⟩, -⟩ := hq2
    cases hv
    rw [ht] at hP1
    exact kG hq H1 locs1 _ _ hP1 hS1 (by show cells + 0 ≤ cells + 1000; omega) (by show slots + 0 ≤ slots + 10000; omega)
end OCL
