/-! CN: the walk -/
theorem LCC_put {ad : RF → Nat} {lsM lsM' : Array Slot} {n : Nat} {ls : List (Option AV)} {k : Nat} {v : AV} (h0 : LCC ad lsM n ls) (hi : inL ls k = true) (hn : noLg ls k = true)
    (h : lv_has lsM' n ((k, tr ad v) :: (asc ad 0 ls).filter (fun q => !(q.1 == k) && !(q.1 + 1 == k && q.2.category == 2)))) : LCC ad lsM' n (stl ls k (some v)) :=
  ⟨lv_put1 hi hn h, fun j hj => h0.2 j (by rwa [inL_stl] at hj)⟩
theorem tE_I {cy : Nat × Nat × Nat × Nat} {ad : RF → Nat} {n : Nat} {v : Int32} {rs : List (Option Nat)} : tE cy ad (.inr (1, n, v, rs)) = .inl (cy.1, n, .inl (fun _ => v)) := rfl
theorem rfC_set {ad : RF → Nat} {rs : List (Option Nat)} {i v : Nat} (h : i < rs.length) : rfC ad (rs.set i (some v)) = va_up (rfC ad rs) i (some (ad (0, v, 0))) := by
  funext j
  unfold rfC va_up
  rw [List.getD_eq_getElem?_getD, List.getElem?_set]
  by_cases hj : i = j
  · subst hj
    rw [if_pos rfl, if_pos h, if_pos rfl]
    rfl
  · rw [if_neg hj, if_neg (fun z => hj z.symm)]
    show _ = Option.map (fun k => ad (0, k, 0)) (rs.getD j none)
    rw [List.getD_eq_getElem?_getD]
theorem rfC_rep {ad : RF → Nat} {n : Nat} : rfC ad (List.replicate n none) = fun _ => none := by
  funext j
  unfold rfC
  rw [List.getD_eq_getElem?_getD, List.getElem?_replicate]
  by_cases hj : j < n
  · rw [if_pos hj]; rfl
  · rw [if_neg hj]; rfl
theorem w_cl {p : Nat} {o ix a : Nat} (h : lw_tbl[p]? = some (Cond.classLink (clsN o) ix (clsN a))) : Cond.classLink (clsN o) ix (clsN a) ∈ TS := TS_in h rfl
theorem w_ml {p : Nat} {o ix : Nat} {y : MethodName} (h : lw_tbl[p]? = some (Cond.methodLink (clsN o) ix y)) : Cond.methodLink (clsN o) ix y ∈ TS := TS_in h rfl
theorem trC_rC {ad : RF → Nat} {r : Nat} : trC ad (rC r) = .ref (ad (0, r, 0)) := rfl
theorem okv_inv {ad : RF → Nat} {c j : Nat} {v : AV} (hc : c < 12) (hj : j < nfs c) (h : okv c j v = true) : narrow (tyf c j) (trC ad v) = trC ad v ∧ fits (tyf c j) (trC ad v) = true ∧ tr ad v = trC ad v := by
  obtain ⟨t1, t2, t3⟩ := okv_ty c hc j hj
  have rf : ∀ q : RF, ((fkd c j).1 = 2 ∨ (fkd c j).1 = 4) → Nat.beq q.1 0 = true → narrow (tyf c j) (trC ad (.inr (.inr q))) = trC ad (.inr (.inr q)) ∧ fits (tyf c j) (trC ad (.inr (.inr q))) = true ∧ tr ad (.inr (.inr q)) = trC ad (.inr (.inr q)) := by
    intro q hk hq
    have hq : q.1 = 0 := Nat.eq_of_beq_eq_true hq
    have e9 : trC ad (.inr (.inr q)) = .ref (ad q) := by show cond (Nat.beq q.1 99) Value.null (Value.ref (ad q)) = _; rw [hq]; rfl
    rw [e9]
    exact ⟨(t3 hk _).1, (t3 hk _).2, rfl⟩
  unfold okv at h
  generalize hk : (fkd c j).1 = kd at h t1 t2 rf
  match kd, v, h with
  | 0, .inl x, _ => rw [t1 rfl]; exact ⟨rfl, rfl, rfl⟩
  | 3, .inl x, h =>
    rw [t2 rfl]
    have h : (decide (x = 0) || decide (x = 1)) = true := h
    simp only [Bool.or_eq_true, decide_eq_true_eq] at h
    rcases h with rfl | rfl <;> exact ⟨rfl, rfl, rfl⟩
  | 2, .inr (.inr q), h => exact rf q (Or.inl rfl) h
  | 4, .inr (.inr q), h => exact rf q (Or.inr rfl) h
theorem inf0 : (inf 0).2 = 4 ∧ (mi 0).1 = yJ7_fill_53178 := by decide +kernel
section CNW
variable {l : Launch} {D : va_G} {cy : Nat × Nat × Nat × Nat} {b b0 : Nat}
set_option maxHeartbeats 4000000 in
set_option maxRecDepth 100000 in
theorem cn_sound : ∀ (F : Nat) (d : Nat × Nat × Nat) (k i : Nat) (ls : List (Option AV)) (st : List AV) (cs : List CE) (sl : Nat) (K : KC), k < 13 → cn F d k i ls st cs sl K = true → SNC l D cy b b0 d k i ls st cs sl K := by
  intro F
  induction F with
  | zero =>
    intro d k i ls st cs sl K hk h
    exact absurd h Bool.false_ne_true
  | succ F ih =>
  intro d k i ls st cs sl K hk h p e R s m args below meth c H locs n0 s0 Qm lsM hC hP hS hl hR hret
  obtain ⟨hx, hb, hml, hown, hts, hK, hN, hsz, hlocks, hnm⟩ := id hC
  obtain ⟨hR1, hR2, hR3, hR4, hR5, hR6⟩ := id hR
  have hA : ∀ q : Nat, s.heap.size ≤ q → b0 ≤ q := fun q hq => by omega
  have go : ∀ (i' : Nat) (ls' : List (Option AV)) (lsM' : Array Slot) (st' : List AV), cn F d k i' ls' st' cs sl K = true → LCC (adC b b0) lsM' (mxC k) ls' → W p l e R s m args below meth c H locs (cs.length - n0) (sl - s0) Qm (F0 m (rpc (tbC k) i') lsM' (st'.map (tr (adC b b0)))) :=
    fun i' ls' lsM' st' hw hl' => ih d k i' ls' st' cs sl K hk hw p e R s m args below meth c H locs n0 s0 Qm lsM' hC hP hS hl' hR hret
  have goS : ∀ (cs' : List CE) (sl' : Nat) (H' : Heap) (locs' : List Loc) (i' : Nat) (st' : List AV), cn F d k i' ls st' cs' sl' K = true → va_P D vwCl (wC cy (adC b b0) b0 cs') H' → va_S (fun q => b0 ≤ q) s.heap H' locs' → n0 ≤ cs'.length → s0 ≤ sl' → W p l e R s m args below meth c H' locs' (cs'.length - n0) (sl' - s0) Qm (F0 m (rpc (tbC k) i') lsM (st'.map (tr (adC b b0)))) :=
    fun cs' sl' H' locs' i' st' hw hP' hS' h1 h2 => ih d k i' ls st' cs' sl' K hk hw p e R s m args below meth c H' locs' n0 s0 Qm lsM hC hP' hS' hl ⟨hR1, hR2, h1, h2, hR5, hR6⟩ hret
  have h : stepC (cn F) d k i ls st cs sl K = true := h
  unfold stepC at h
  have hch := cq_all k hk i
  unfold chNX at hch
  by_cases hst : i = stC k
  · subst hst
    rw [Nat.beq_refl, cond_true] at h
    cases st with
    | nil => exact hret ls cs sl H locs lsM h hP hS hl hR3 hR4
    | cons x st => cases h
  have hf : Nat.beq i (stC k) = false := by
    cases hz : Nat.beq i (stC k) with
    | false => rfl
    | true => exact absurd (Nat.eq_of_beq_eq_true hz) hst
  rw [hf, cond_false] at h hch
  generalize he : (tbC k).at i = en at h hch
  cases en with
  | none => cases h
  | some en =>
  obtain ⟨ins, rp, nx, a, b1, z⟩ := en
  have hrp : rpc (tbC k) i = rp := by unfold rpc; rw [he]
  rw [hrp]
  have hchk : chN k (ins, rp, nx, a, b1, z) = true := hch
  dsimp only at h
  clear hch
  cases ins
  case aload j =>
    have hc : (decide (decode (miC k).2 rp = .ok (.aload j, 2)) && Nat.beq (rpc (tbC k) nx) (rp + 2)) = true := hchk
    simp only [Bool.and_eq_true, decide_eq_true_eq, Nat.beq_eq] at hc
    obtain ⟨hd, hn⟩ := hc
    obtain ⟨r, hr, hw⟩ := ldRb_inv h
    have g := go nx ls lsM _ hw hl
    rw [hn] at g
    exact lv_aload hx hb hd (lv_get hl.1 hr) g
  case aload_n j =>
    have hc : (decide (decode (miC k).2 rp = .ok (.aload_n j, 1)) && Nat.beq (rpc (tbC k) nx) (rp + 1)) = true := hchk
    simp only [Bool.and_eq_true, decide_eq_true_eq, Nat.beq_eq] at hc
    obtain ⟨hd, hn⟩ := hc
    obtain ⟨r, hr, hw⟩ := ldRb_inv h
    have g := go nx ls lsM _ hw hl
    rw [hn] at g
    exact lv_aload_n hx hb hd rfl (lv_get hl.1 hr) g
  case iload j =>
    have hc : (decide (decode (miC k).2 rp = .ok (.iload j, 2)) && Nat.beq (rpc (tbC k) nx) (rp + 2)) = true := hchk
    simp only [Bool.and_eq_true, decide_eq_true_eq, Nat.beq_eq] at hc
    obtain ⟨hd, hn⟩ := hc
    obtain ⟨r, hr, hw⟩ := ldIb_inv h
    have g := go nx ls lsM _ hw hl
    rw [hn] at g
    exact lv_iload hx hb hd (lv_get hl.1 hr) g
  case iload_n j =>
    have hc : (decide (decode (miC k).2 rp = .ok (.iload_n j, 1)) && Nat.beq (rpc (tbC k) nx) (rp + 1)) = true := hchk
    simp only [Bool.and_eq_true, decide_eq_true_eq, Nat.beq_eq] at hc
    obtain ⟨hd, hn⟩ := hc
    obtain ⟨r, hr, hw⟩ := ldIb_inv h
    have g := go nx ls lsM _ hw hl
    rw [hn] at g
    exact lv_iload_n hx hb hd rfl (lv_get hl.1 hr) g
  case istore j =>
    have hc : (decide (decode (miC k).2 rp = .ok (.istore j, 2)) && Nat.beq (rpc (tbC k) nx) (rp + 2)) = true := hchk
    simp only [Bool.and_eq_true, decide_eq_true_eq, Nat.beq_eq] at hc
    obtain ⟨hd, hn⟩ := hc
    obtain ⟨x, st', rfl, hi, hno, hw⟩ := stIb_inv h
    refine lv_istore hx hb hd hl.1 (hl.2 _ hi) rfl (fun ls' hl' => ?_)
    have g := go nx _ ls' st' hw (LCC_put (v := .inl x) hl hi hno hl')
    rw [hn] at g
    exact g
  case istore_n j =>
    have hc : (decide (decode (miC k).2 rp = .ok (.istore_n j, 1)) && Nat.beq (rpc (tbC k) nx) (rp + 1)) = true := hchk
    simp only [Bool.and_eq_true, decide_eq_true_eq, Nat.beq_eq] at hc
    obtain ⟨hd, hn⟩ := hc
    obtain ⟨x, st', rfl, hi, hno, hw⟩ := stIb_inv h
    refine lv_istore_n hx hb hd rfl hl.1 (hl.2 _ hi) rfl (fun ls' hl' => ?_)
    have g := go nx _ ls' st' hw (LCC_put (v := .inl x) hl hi hno hl')
    rw [hn] at g
    exact g
  case astore_n j =>
    have hc : (decide (decode (miC k).2 rp = .ok (.astore_n j, 1)) && Nat.beq (rpc (tbC k) nx) (rp + 1)) = true := hchk
    simp only [Bool.and_eq_true, decide_eq_true_eq, Nat.beq_eq] at hc
    obtain ⟨hd, hn⟩ := hc
    obtain ⟨x, st', rfl, hi, hno, hw⟩ := stRb_inv h
    refine lv_astore_n hx hb hd rfl hl.1 (hl.2 _ hi) rfl (fun ls' hl' => ?_)
    have g := go nx _ ls' st' hw (LCC_put (v := .inr (.inr x)) hl hi hno hl')
    rw [hn] at g
    exact g
  case iinc j n =>
    have hc : (decide (decode (miC k).2 rp = .ok (.iinc j n, 3)) && Nat.beq (rpc (tbC k) nx) (rp + 3)) = true := hchk
    simp only [Bool.and_eq_true, decide_eq_true_eq, Nat.beq_eq] at hc
    obtain ⟨hd, hn⟩ := hc
    obtain ⟨x, hr, hi, hno, hw⟩ := incb_inv h
    obtain ⟨q, hq⟩ := List.getElem?_of_mem ((asc_mem (ad := adC b b0) ls 0 _).mpr ⟨j, .inl x, hr, rfl⟩)
    rw [Nat.zero_add] at hq
    refine lv_iinc hx hb hd hl.1 hq rfl (hl.2 _ hi) rfl (fun ls' hl' => ?_)
    have g := go nx _ ls' st hw (LCC_put (v := .inl (x + Int32.ofInt n)) hl hi hno hl')
    rw [hn] at g
    exact g
  case iconst n =>
    have hc : (decide (decode (miC k).2 rp = .ok (.iconst n, 1)) && Nat.beq (rpc (tbC k) nx) (rp + 1)) = true := hchk
    simp only [Bool.and_eq_true, decide_eq_true_eq, Nat.beq_eq] at hc
    obtain ⟨hd, hn⟩ := hc
    have g := go nx ls lsM _ h hl
    rw [hn] at g
    exact lv_iconst hx hb hd rfl g
  case bipush n =>
    have hc : (decide (decode (miC k).2 rp = .ok (.bipush n, 2)) && Nat.beq (rpc (tbC k) nx) (rp + 2)) = true := hchk
    simp only [Bool.and_eq_true, decide_eq_true_eq, Nat.beq_eq] at hc
    obtain ⟨hd, hn⟩ := hc
    have g := go nx ls lsM _ h hl
    rw [hn] at g
    exact lv_bipush hx hb hd rfl g
  case sipush n =>
    have hc : (decide (decode (miC k).2 rp = .ok (.sipush n, 3)) && Nat.beq (rpc (tbC k) nx) (rp + 3)) = true := hchk
    simp only [Bool.and_eq_true, decide_eq_true_eq, Nat.beq_eq] at hc
    obtain ⟨hd, hn⟩ := hc
    have g := go nx ls lsM _ h hl
    rw [hn] at g
    exact lv_sipush hx hb hd rfl g
  case ldc ix =>
    have hc : (decide (decode (miC k).2 rp = .ok (.ldc ix, 2)) && Nat.beq (rpc (tbC k) nx) (rp + 2) && chK k ix z) = true := hchk
    simp only [Bool.and_eq_true, decide_eq_true_eq, Nat.beq_eq] at hc
    obtain ⟨⟨hd, hn⟩, hz⟩ := hc
    have g := go nx ls lsM _ h hl
    rw [hn] at g
    exact lv_ldc hx hb hown (hts _ (ldc_word hz)) hd g
  case dup =>
    have hc : (decide (decode (miC k).2 rp = .ok (.dup, 1)) && Nat.beq (rpc (tbC k) nx) (rp + 1)) = true := hchk
    simp only [Bool.and_eq_true, decide_eq_true_eq, Nat.beq_eq] at hc
    obtain ⟨hd, hn⟩ := hc
    obtain ⟨v, st', rfl, hv, hw⟩ := dupb_inv h
    have g := go nx ls lsM _ hw hl
    rw [hn] at g
    exact lv_dup hx hb hd (by rw [tr_cat]; exact hv) g
  case goto off =>
    have hc : (decide (decode (miC k).2 rp = .ok (.goto off, 3)) && decide ((rp : Int) + off = (rpc (tbC k) a : Int))) = true := hchk
    simp only [Bool.and_eq_true, decide_eq_true_eq] at hc
    exact lv_goto hx hb hc.1 hc.2 (go a ls lsM st h hl)
  case if_icmp cd off =>
    have hc : (decide (decode (miC k).2 rp = .ok (.if_icmp cd off, 3)) && decide ((rp : Int) + off = (rpc (tbC k) a : Int)) && Nat.beq (rpc (tbC k) nx) (rp + 3)) = true := hchk
    simp only [Bool.and_eq_true, decide_eq_true_eq, Nat.beq_eq] at hc
    obtain ⟨⟨hd, ht⟩, hn⟩ := hc
    obtain ⟨x, y, st', rfl, hw⟩ := bnb_inv h
    have g1 : brI cd x y → W p l e R s m args below meth c H locs (cs.length - n0) (sl - s0) Qm (F0 m (rpc (tbC k) a) lsM (st'.map (tr (adC b b0)))) := fun q => go a ls lsM st' (by rw [(brB_iff cd x y).mpr q, cond_true] at hw; exact hw) hl
    have g2 : ¬ brI cd x y → W p l e R s m args below meth c H locs (cs.length - n0) (sl - s0) Qm (F0 m (rpc (tbC k) nx) lsM (st'.map (tr (adC b b0)))) := fun q => go nx ls lsM st' (by
      have hz : brB cd x y = false := by
        cases hq : brB cd x y with
        | false => rfl
        | true => exact absurd ((brB_iff cd x y).mp hq) q
      rw [hz, cond_false] at hw
      exact hw) hl
    rw [hn] at g2
    cases cd
    case eq => exact lv_icmp_eq hx hb hd ht g1 g2
    case ne => exact lv_icmp_ne hx hb hd ht g1 (fun q => g2 (fun z => z q))
    case lt => exact lv_icmp_lt hx hb hd ht g1 g2
    case ge => exact lv_icmp_ge hx hb hd ht g1 g2
    case gt => exact lv_icmp_gt hx hb hd ht g1 g2
    case le => exact lv_icmp_le hx hb hd ht g1 g2
  case newarray ty =>
    have hc : (decide (decode (miC k).2 rp = .ok (.newarray ty, 2)) && Nat.beq (rpc (tbC k) nx) (rp + 2)) = true := hchk
    simp only [Bool.and_eq_true, decide_eq_true_eq, Nat.beq_eq] at hc
    obtain ⟨hd, hn⟩ := hc
    obtain ⟨x, st', rfl, hx0, hx1, hw⟩ := newb_inv h
    simp only [Bool.and_eq_true, Nat.ble_eq] at hw
    obtain ⟨⟨hc1, hs1⟩, hw⟩ := hw
    have fin : ∀ (c1 : CE) (e1 : va_E), tE cy (adC b b0) c1 = e1 → cn F d k nx ls (rC cs.length :: st') (cs ++ [c1]) (sl + x.toNatClampNeg) K = true → ∀ (q : Nat) (H1 : Heap), va_P D vwCl (wC cy (adC b b0) b0 cs ++ [(q, e1)]) H1 → va_D (fun q => b0 ≤ q) (wC cy (adC b b0) b0 cs ++ [(q, e1)]) → va_S (fun q => b0 ≤ q) s.heap H1 locs →
        W p l e R s m args below meth c H1 locs (cs.length - n0 + 1) (sl - s0 + x.toNatClampNeg) Qm (F0 m (rp + 2) lsM (.ref q :: st'.map (tr (adC b b0)))) := by
      intro c1 e1 he1 hw2 q H1 hP1 hD1 hS1
      refine w_sz fun hz => ?_
      have hq := wC_new hP1 hD1 (by omega)
      subst hq
      subst he1
      rw [← wC_push] at hP1
      have g := goS (cs ++ [c1]) (sl + x.toNatClampNeg) H1 locs nx (rC cs.length :: st') hw2 hP1 hS1 (by rw [List.length_append]; omega) (by omega)
      rw [hn, show (cs ++ [c1]).length - n0 = cs.length - n0 + 1 by rw [List.length_append, List.length_singleton]; omega, show sl + x.toNatClampNeg - s0 = sl - s0 + x.toNatClampNeg by omega] at g
      exact g
    cases ty
    case int =>
      have hw : fcL (cs ++ [.inr (1, x.toNatClampNeg, 0, [])]) (fun cs' => cn F d k nx ls (rC cs.length :: st') cs' (sl + x.toNatClampNeg) K) = true := hw
      rw [fcL_eq] at hw
      refine va_newa (atype := .int) hx hb (hts _ w_arI) (ty := .int) rfl hK hP wC_D hS hA (a0 := (x.toNatClampNeg, .inl (fun _ => 0))) (fun cA => rfl) hx0 rfl (by show x.toNatClampNeg * 4 ≤ 536870912; omega) (by omega) (by omega) hd (fun q cA H1 hK1 hP1 hD1 hS1 => ?_)
      have hcA : cA = cy.1 := by
        have k1 := (hK1.2 4 (cA, .int) rfl).2
        have k2 := (hK.2 0 (cy.1, .int) rfl).2
        exact Option.some.inj (Eq.trans (Eq.symm k1) k2)
      subst hcA
      exact fin (.inr (1, x.toNatClampNeg, 0, [])) _ rfl hw q H1 hP1 hD1 hS1
    case long =>
      have hw : fcL (cs ++ [.inr (2, x.toNatClampNeg, 0, [])]) (fun cs' => cn F d k nx ls (rC cs.length :: st') cs' (sl + x.toNatClampNeg) K) = true := hw
      rw [fcL_eq] at hw
      refine va_newa (atype := .long) hx hb (hts _ w_arJ) (ty := .long) rfl hK hP wC_D hS hA (a0 := (x.toNatClampNeg, .inr (.inl (fun _ => 0)))) (fun cA => rfl) hx0 rfl (by show x.toNatClampNeg * 8 ≤ 536870912; omega) (by omega) (by omega) hd (fun q cA H1 hK1 hP1 hD1 hS1 => ?_)
      have hcA : cA = cy.2.1 := by
        have k1 := (hK1.2 4 (cA, .long) rfl).2
        have k2 := (hK.2 1 (cy.2.1, .long) rfl).2
        exact Option.some.inj (Eq.trans (Eq.symm k1) k2)
      subst hcA
      exact fin (.inr (2, x.toNatClampNeg, 0, [])) _ rfl hw q H1 hP1 hD1 hS1
    all_goals cases hw
  case anewarray ix =>
    have hc : (decide (decode (miC k).2 rp = .ok (.anewarray ix, 3)) && Nat.beq (rpc (tbC k) nx) (rp + 3) && decide (lw_tbl[z.toNat]? = some (Cond.classLink (clsN k) ix (clsN a)))) = true := hchk
    simp only [Bool.and_eq_true, decide_eq_true_eq, Nat.beq_eq] at hc
    obtain ⟨⟨hd, hn⟩, hcl⟩ := hc
    obtain ⟨x, st', rfl, hx0, hx1, hw⟩ := newb_inv h
    simp only [Bool.and_eq_true, Bool.or_eq_true, Nat.ble_eq, Nat.beq_eq] at hw
    obtain ⟨⟨⟨hc1, hs1⟩, ha⟩, hw⟩ := hw
    rw [fcL_eq] at hw
    have hlk := hts _ (w_cl hcl)
    have fin : ∀ (c1 : CE) (e1 : va_E), tE cy (adC b b0) c1 = e1 → cn F d k nx ls (rC cs.length :: st') (cs ++ [c1]) (sl + x.toNatClampNeg) K = true → ∀ (q : Nat) (H1 : Heap), va_P D vwCl (wC cy (adC b b0) b0 cs ++ [(q, e1)]) H1 → va_D (fun q => b0 ≤ q) (wC cy (adC b b0) b0 cs ++ [(q, e1)]) → va_S (fun q => b0 ≤ q) s.heap H1 locs →
        W p l e R s m args below meth c H1 locs (cs.length - n0 + 1) (sl - s0 + x.toNatClampNeg) Qm (F0 m (rp + 3) lsM (.ref q :: st'.map (tr (adC b b0)))) := by
      intro c1 e1 he1 hw2 q H1 hP1 hD1 hS1
      refine w_sz fun hz => ?_
      have hq := wC_new hP1 hD1 (by omega)
      subst hq
      subst he1
      rw [← wC_push] at hP1
      have g := goS (cs ++ [c1]) (sl + x.toNatClampNeg) H1 locs nx (rC cs.length :: st') hw2 hP1 hS1 (by rw [List.length_append]; omega) (by omega)
      rw [hn, show (cs ++ [c1]).length - n0 = cs.length - n0 + 1 by rw [List.length_append, List.length_singleton]; omega, show sl + x.toNatClampNeg - s0 = sl - s0 + x.toNatClampNeg by omega] at g
      exact g
    rcases ha with rfl | rfl
    · refine va_newq hx hb hown hlk (C := RX3) hN.2.2 hK hP wC_D hS hA hx0 rfl (by omega) (by omega) (by omega) hd (fun q cA H1 hK1 hP1 hD1 hS1 => ?_)
      have hcA : cA = cy.2.2.1 := by
        obtain ⟨_, _, _, _, _, k1⟩ := (hK1.2 4 (cA, .object RX3) rfl).2
        obtain ⟨_, _, _, _, _, k2⟩ := (hK.2 2 (cy.2.2.1, .object RX3) rfl).2
        exact Option.some.inj (Eq.trans (Eq.symm k1) k2)
      subst hcA
      exact fin (.inr (3, x.toNatClampNeg, 0, List.replicate x.toNatClampNeg none)) _ (by show Sum.inl (cy.2.2.1, x.toNatClampNeg, Sum.inr (Sum.inr (Sum.inr (Sum.inr (rfC (adC b b0) (List.replicate x.toNatClampNeg none)))))) = _; rw [rfC_rep]) hw q H1 hP1 hD1 hS1
    · refine va_newq hx hb hown hlk (C := RX3) hN.2.2 hK hP wC_D hS hA hx0 rfl (by omega) (by omega) (by omega) hd (fun q cA H1 hK1 hP1 hD1 hS1 => ?_)
      have hcA : cA = cy.2.2.1 := by
        obtain ⟨_, _, _, _, _, k1⟩ := (hK1.2 4 (cA, .object RX3) rfl).2
        obtain ⟨_, _, _, _, _, k2⟩ := (hK.2 2 (cy.2.2.1, .object RX3) rfl).2
        exact Option.some.inj (Eq.trans (Eq.symm k1) k2)
      subst hcA
      exact fin (.inr (3, x.toNatClampNeg, 0, List.replicate x.toNatClampNeg none)) _ (by show Sum.inl (cy.2.2.1, x.toNatClampNeg, Sum.inr (Sum.inr (Sum.inr (Sum.inr (rfC (adC b b0) (List.replicate x.toNatClampNeg none)))))) = _; rw [rfC_rep]) hw q H1 hP1 hD1 hS1
  case new ix =>
    have hc : (decide (decode (miC k).2 rp = .ok (.new ix, 3)) && Nat.beq (rpc (tbC k) nx) (rp + 3) && decide (lw_tbl[z.toNat]? = some (Cond.classLink (clsN k) ix (clsN a)))) = true := hchk
    simp only [Bool.and_eq_true, decide_eq_true_eq, Nat.beq_eq] at hc
    obtain ⟨⟨hd, hn⟩, hcl⟩ := hc
    simp only [Bool.and_eq_true, Nat.ble_eq] at h
    obtain ⟨⟨⟨hc1, hs1⟩, ha⟩, hw⟩ := h
    rw [fcL_eq] at hw
    obtain ⟨w1, w2, w3, w4, -⟩ := cv_spec (a := a) (by omega)
    obtain ⟨C, T, nn, hcl2, hT, hn0⟩ := cl_at (c := a) (by omega)
    have hCn := cl_name hcl2
    rw [← hCn] at hcl w2 w4
    have hlk := hts _ (TS_in hcl rfl)
    rw [hn0] at w4 hs1
    refine va_new hx hb hts (cl_in hcl2) (tyf a) (cl_ty hcl2) hown hlk (hts _ w4) (hts _ w2) hK hP wC_D hS hA hcl2 (fs := (dfl a).map (trC (adC b b0))) (fun j hj => dfl_v (by omega) j (hn0 ▸ hj)) (by omega) (by omega) hd (fun q H1 hP1 hD1 hS1 => ?_)
    refine w_sz fun hz => ?_
    have hq := wC_new hP1 hD1 (by omega)
    subst hq
    have hP1 : va_P D vwCl (wC cy (adC b b0) b0 cs ++ [(b0 + cs.length, tE cy (adC b b0) (.inl (a, dfl a)))]) H1 := hP1
    rw [← wC_push] at hP1
    have g := goS (cs ++ [.inl (a, dfl a)]) (sl + nfs a) H1 locs nx (rC cs.length :: st) hw hP1 hS1 (by rw [List.length_append]; omega) (by omega)
    rw [hn, show (cs ++ [(Sum.inl (a, dfl a) : CE)]).length - n0 = cs.length - n0 + 1 by rw [List.length_append, List.length_singleton]; omega, show sl + nfs a - s0 = sl - s0 + nn by rw [hn0]; omega] at g
    exact g
  case putfield ix =>
    have hc : (decide (decode (miC k).2 rp = .ok (.putfield ix, 3)) && Nat.beq (rpc (tbC k) nx) (rp + 3) && chF k ix a b1) = true := hchk
    simp only [Bool.and_eq_true, decide_eq_true_eq, Nat.beq_eq] at hc
    obtain ⟨⟨hd, hn⟩, hfl⟩ := hc
    obtain ⟨hlk, hj, hc12⟩ := fl_word hfl
    have hlink := hts _ hlk
    obtain ⟨C, T, nn, hcl, hT, hn0⟩ := cl_at hc12
    rw [hT] at hlink
    obtain ⟨v, st1, rfl, h2⟩ := valb_inv h
    obtain ⟨r, st', rfl, h3⟩ := refb_inv h2
    obtain ⟨c1, fs, hcr, h4⟩ := objb_inv h3
    simp only [Bool.and_eq_true, Nat.ble_eq, Nat.beq_eq] at h4
    obtain ⟨⟨⟨⟨rfl, rfl⟩, hbl⟩, hok⟩, hw⟩ := h4
    rw [fcL_eq] at hw
    have hw2 := wC_at (cy := cy) (ad := adC b b0) (b0 := b0) hcr
    obtain ⟨ty1, ty2, ty3⟩ := okv_inv (ad := adC b b0) hc12 hj hok
    have kk : ∀ (H1 : Heap) (locs1 : List Loc), va_P D vwCl ((wC cy (adC b b0) b0 cs).set r (b0 + r, .inr (c1, (fs.map (trC (adC b b0))).set b1 (trC (adC b b0) v)))) H1 → va_D (fun q => b0 ≤ q) ((wC cy (adC b b0) b0 cs).set r (b0 + r, .inr (c1, (fs.map (trC (adC b b0))).set b1 (trC (adC b b0) v)))) → va_S (fun q => b0 ≤ q) s.heap H1 locs1 → W p l e R s m args below meth c H1 locs1 (cs.length - n0) (sl - s0) Qm (F0 m (rp + 3) lsM (st'.map (tr (adC b b0)))) := by
      intro H1 locs1 hP1 _ hS1
      have e9 : (b0 + r, Sum.inr (c1, (fs.map (trC (adC b b0))).set b1 (trC (adC b b0) v))) = (b0 + r, tE cy (adC b b0) (.inl (c1, fs.set b1 v))) := by
        show _ = (b0 + r, Sum.inr (c1, (fs.set b1 v).map (trC (adC b b0))))
        rw [List.map_set]
      rw [e9, wC_set] at hP1
      have g := goS _ sl H1 locs1 nx st' hw hP1 hS1 (by rw [List.length_set]; exact hR3) hR4
      rw [hn, List.length_set] at g
      exact g
    show W p l e R s m args below meth c H locs (cs.length - n0) (sl - s0) Qm (F0 m rp lsM (tr (adC b b0) v :: .ref (b0 + r) :: st'.map (tr (adC b b0))))
    rw [ty3]
    have hlen : b1 < (fs.map (trC (adC b b0))).length := by rw [List.length_map]; omega
    cases hfin : (T b1).2.2.2 with
    | false => exact va_put hx hb hts (cl_in hcl) (tyf c1) (cl_ty hcl) (cl_nm hcl) hown hK hP wC_D hS r hw2 hcl b1 (hn0 ▸ hj) hlink (fun _ h => h) hfin (cl_ty hcl b1 (hn0 ▸ hj)) ty1 ty2 hlen hd kk
    | true => exact va_putF hx hb hts (cl_in hcl) (tyf c1) (cl_ty hcl) (cl_nm hcl) hown hK hP wC_D hS r hw2 hcl b1 (hn0 ▸ hj) hlink (fun _ h => h) hfin (hnm hc12) (by rw [← hT]; exact own_T c1 hc12 b1 hj) (cl_ty hcl b1 (hn0 ▸ hj)) ty1 ty2 hlen hd kk
  case getfield ix =>
    have hc : (decide (decode (miC k).2 rp = .ok (.getfield ix, 3)) && Nat.beq (rpc (tbC k) nx) (rp + 3) && chF k ix a b1) = true := hchk
    simp only [Bool.and_eq_true, decide_eq_true_eq, Nat.beq_eq] at hc
    obtain ⟨⟨hd, hn⟩, hfl⟩ := hc
    obtain ⟨hlk, hj, hc12⟩ := fl_word hfl
    have hlink := hts _ hlk
    obtain ⟨C, T, nn, hcl, hT, hn0⟩ := cl_at hc12
    rw [hT] at hlink
    obtain ⟨r, st', rfl, h2⟩ := refb_inv h
    obtain ⟨c1, fs, hcr, h3⟩ := objb_inv h2
    simp only [Bool.and_eq_true, Nat.beq_eq] at h3
    obtain ⟨rfl, h4⟩ := h3
    obtain ⟨q, hq, hw⟩ := fldb_inv h4
    have hw2 := wC_at (cy := cy) (ad := adC b b0) (b0 := b0) hcr
    have g := go nx ls lsM _ hw hl
    rw [hn] at g
    exact va_get hx hb hts (cl_in hcl) hown hK hP r hw2 hcl b1 (hn0 ▸ hj) hlink (fun _ h => h) (v := .ref (adC b b0 (0, q, 0))) (by rw [List.getElem?_map, hq]; rfl) hd g
  case aastore =>
    have hc : (decide (decode (miC k).2 rp = .ok (.aastore, 1)) && Nat.beq (rpc (tbC k) nx) (rp + 1)) = true := hchk
    simp only [Bool.and_eq_true, decide_eq_true_eq, Nat.beq_eq] at hc
    obtain ⟨hd, hn⟩ := hc
    obtain ⟨v, st1, rfl, h2⟩ := refb_inv h
    obtain ⟨x, st2, rfl, h3⟩ := intb_inv h2
    obtain ⟨r, st', rfl, h4⟩ := refb_inv h3
    obtain ⟨c1, fs, hcv, h5⟩ := objb_inv h4
    obtain ⟨kd, n1, w, rs, hcr, h6⟩ := arrb_inv h5
    simp only [Bool.and_eq_true, Bool.or_eq_true, decide_eq_true_eq, Nat.ble_eq, Nat.beq_eq] at h6
    obtain ⟨⟨⟨⟨hkd, hx0⟩, hxn⟩, hrs⟩, hw⟩ := h6
    rw [fcL_eq] at hw
    have hv2 := wC_at (cy := cy) (ad := adC b b0) (b0 := b0) hcv
    have hr2 := wC_at (cy := cy) (ad := adC b b0) (b0 := b0) hcr
    have hin : vp_in x n1 := fun q => q.elim hx0 (fun q => by omega)
    have fin : ∀ (H1 : Heap) (locs1 : List Loc) (e1 : va_E), e1 = tE cy (adC b b0) (.inr (kd, n1, w, rs.set x.toNatClampNeg (some v))) → va_P D vwCl ((wC cy (adC b b0) b0 cs).set r (b0 + r, e1)) H1 → va_S (fun q => b0 ≤ q) s.heap H1 locs1 → W p l e R s m args below meth c H1 locs1 (cs.length - n0) (sl - s0) Qm (F0 m (rp + 1) lsM (st'.map (tr (adC b b0)))) := by
      intro H1 locs1 e1 he1 hP1 hS1
      rw [he1, wC_set] at hP1
      have g := goS _ sl H1 locs1 nx st' hw hP1 hS1 (by rw [List.length_set]; exact hR3) hR4
      rw [hn, List.length_set] at g
      exact g
    rcases hkd with ⟨rfl, rfl⟩ | ⟨rfl, rfl⟩
    · refine va_astq hx hb hK hP wC_D hS r 2 v 3 (r := (RX3, TX3, 6)) hr2 rfl hv2 rfl hin hd (fun H1 locs1 hP1 _ hS1 => ?_)
      exact fin H1 locs1 _ (by show _ = Sum.inl (cy.2.2.1, n1, Sum.inr (Sum.inr (Sum.inr (Sum.inr (rfC (adC b b0) (rs.set x.toNatClampNeg (some v))))))); rw [rfC_set (by omega)]; rfl) hP1 hS1
    · refine va_astq hx hb hK hP wC_D hS r 2 v 3 (r := (RX3, TX3, 6)) hr2 rfl hv2 rfl hin hd (fun H1 locs1 hP1 _ hS1 => ?_)
      exact fin H1 locs1 _ (by show _ = Sum.inl (cy.2.2.1, n1, Sum.inr (Sum.inr (Sum.inr (Sum.inr (rfC (adC b b0) (rs.set x.toNatClampNeg (some v))))))); rw [rfC_set (by omega)]; rfl) hP1 hS1
  case invokespecial ix =>
    have hc : (decide (decode (miC k).2 rp = .ok (.invokespecial ix, 3)) && Nat.beq (rpc (tbC k) nx) (rp + 3) && cond (Nat.beq a 99) (decide (lw_tbl[z.toNat]? = some (Cond.methodLink (clsN k) ix objectInit))) (Nat.ble (a + 1) 12 && Nat.beq b1 (nrC a) && cond (decide (z < 0)) (nstL.contains (k, ix, a)) (decide (lw_tbl[z.toNat]? = some (Cond.methodLink (clsN k) ix (miC a).1))))) = true := hchk
    simp only [Bool.and_eq_true, decide_eq_true_eq, Nat.beq_eq] at hc
    obtain ⟨⟨hd, hn⟩, hcx⟩ := hc
    obtain ⟨e1, hd1, h⟩ := depb_inv h
    cases h99 : Nat.beq a 99 with
    | true =>
      rw [h99, cond_true] at h hcx
      obtain ⟨r, st', rfl, h2⟩ := refb_inv h
      simp only [Bool.and_eq_true, Nat.ble_eq, decide_eq_true_eq] at h2 hcx
      obtain ⟨hcs, hw⟩ := h2
      have g := go nx ls lsM st' hw hl
      rw [hn] at g
      refine W.objInit hx hb hown (hts _ (w_ml hcx)) (hts _ w_obj.1) (hts _ w_obj.2) rfl (by rw [hml]; exact hl.1.1) rfl hd (by omega) ?_ g
      have h8 := lv_room (m := m) (pc := rp) (ls := lsM) (st := st'.map (tr (adC b b0))) (rest := Value.ref (b0 + r) :: st'.map (tr (adC b b0))) (by rw [cat_sum]; exact hcs)
      have h9 : 2 * (F0 m rp lsM ((rC r :: st').map (tr (adC b b0)))).monitorRoom + ((st'.map (tr (adC b b0))).map fun v => v.category).sum ≤ 8 := h8
      omega
    | false =>
      rw [h99, cond_false] at h hcx
      simp only [Bool.and_eq_true, Nat.ble_eq, Nat.beq_eq] at hcx
      obtain ⟨⟨ha, hb1⟩, hcx⟩ := hcx
      obtain ⟨r, rest, hdr, h⟩ := refb_inv h
      simp only [Bool.and_eq_true, Nat.ble_eq, Nat.beq_eq] at h
      obtain ⟨⟨⟨⟨⟨hcs, hmx⟩, htl⟩, hcm⟩, hsm⟩, hw⟩ := h
      have ha12 : a < 12 := by omega
      obtain ⟨w1, w2, w3, w4, w5, w6, w7, w8, w9, w10, w11, w12, w13⟩ := cv_spec ha12
      have hsp : st = st.take b1 ++ rC r :: rest := by rw [← hdr, List.take_append_drop]
      have hM := met_C (mc := mcC a) (ms := msC a) (ih (e1, cs.length + mcC a, sl + msC a) a 0 _ [] cs sl _ (by omega) hw) ha12 (by show cat2 _ + catS _ ≤ _; rw [catS_rev]; show 1 + _ ≤ _; omega) (fun ls' cs' sl' hk' => by
        simp only [Bool.and_eq_true, Nat.beq_eq] at hk'
        exact ⟨hk'.1.1, hk'.1.2⟩)
      have hroom : (rmC e1 (mcC a) (msC a)).frames + 1 ≤ R.frames ∧ 8 + (mxC a + 11) + (rmC e1 (mcC a) (msC a)).locals ≤ R.locals := by
        refine ⟨?_, ?_⟩
        · show e1 + 1 ≤ R.frames; omega
        · show 8 + (mxC a + 11) + 64 * e1 ≤ R.locals; omega
      have hyd : (miC a).1.cls ≠ "java/lang/invoke/MethodHandle" ∧ (miC a).1.cls ≠ "java/lang/invoke/VarHandle" ∧ (parseMethodDescriptor (miC a).1.desc).map (fun d => d.parameters.length) = some (nrC a) := by rw [w5]; exact ⟨w7, w8, w10⟩
      have hini : (Cond.initialized (miC a).1.cls).before args s = true := by rw [w5]; exact hts _ w2
      have hHz : H.size ≤ b0 + cs.length → H.size = b0 + cs.length := fun hz => wC_size (n0 := n0) hP (by rw [← hsz]; exact hS.1) hR3 hz
      have hpre : H.size = b0 + cs.length → PreS s H (va_Pc ((rC r :: (st.take b1).reverse).map (tr (adC b b0))) (pcC D cy b b0 cs)) (.ref (b0 + r) :: ((st.take b1).reverse).map (tr (adC b b0))) := fun hz => ⟨pcC_blind, fun U hU hW => ⟨rfl, by rw [hU]; exact hz, by rw [hU]; exact hP, va_K.moved hW.alike hK, NWs_w hW hN⟩⟩
      have hstk : (F0 m rp lsM (st.map (tr (adC b b0)))).stack = (((st.take b1).reverse).map (tr (adC b b0))).reverse ++ .ref (b0 + r) :: rest.map (tr (adC b b0)) := by
        rw [List.map_reverse, List.reverse_reverse]
        show st.map (tr (adC b b0)) = (st.take b1).map (tr (adC b b0)) ++ (rC r :: rest).map (tr (adC b b0))
        rw [← List.map_append, ← hsp]
      have hlen : (((st.take b1).reverse).map (tr (adC b b0))).length = nrC a := by rw [List.length_map, List.length_reverse, htl, hb1]
      have hfit : cs.length - n0 + mcC a ≤ R.cells ∧ sl - s0 + msC a ≤ R.slots := ⟨by omega, by omega⟩
      have kk : ∀ (v : Option Value) (t st0 : State), st0.heap = H → qcC D cy b b0 (fun _ cs' sl' => Nat.beq cs'.length (cs.length + mcC a) && Nat.beq sl' (sl + msC a) && cn F d k nx ls rest cs' sl' K) (Value.ref (b0 + r) :: ((st.take b1).reverse).map (tr (adC b b0))).toArray st0 (.returned v) t → s.vm.Alike t.vm → ∀ (H1 : Heap) (locs1 : List Loc), t.heap = H1 → va_S (fun q => b0 ≤ q) s.heap H1 locs1 → W p l e R s m args below meth c H1 locs1 (cs.length - n0 + mcC a) (sl - s0 + msC a) Qm (F0 m (rp + 3) lsM (v.toList ++ rest.map (tr (adC b b0)))) := by
        intro v t st0 _ hq _ H1 locs1 ht hS1
        obtain ⟨⟨ls', cs', sl', hv, hk', hP1⟩, -⟩ := hq
        cases hv
        simp only [Bool.and_eq_true, Nat.beq_eq] at hk'
        obtain ⟨⟨k1, k2⟩, k3⟩ := hk'
        rw [ht] at hP1
        have g := goS cs' sl' H1 locs1 nx rest k3 hP1 hS1 (by omega) (by omega)
        rw [hn, show cs'.length - n0 = cs.length - n0 + mcC a by omega, show sl' - s0 = sl - s0 + msC a by omega] at g
        exact g
      refine w_sz fun hz => ?_
      have hz := hHz (by omega)
      by_cases hz0 : z < 0
      · rw [decide_eq_true hz0, cond_true] at hcx
        have hmem : (k, ix, a) ∈ nstL := List.contains_iff_mem.mp hcx
        have hcw := va_cnB (R := R) (nrC a) hts (wsC_good ha12) (rm := rmC e1 (mcC a) (msC a)) rfl rfl rfl (hN.1 _ hmem) hini hyd hroom
        have hrun := va_runIN (e := e) (below := below) (meth := meth) (locs := locs) (cells := cs.length - n0) (slots := sl - s0) (H := H) (rest := rest.map (tr (adC b b0))) (g := F0 m rp lsM (st.map (tr (adC b b0)))) (As := ((st.take b1).reverse).map (tr (adC b b0))) (b := b0 + r) ⟨hx, hb, hml, hown, hts⟩ hM ⟨hcw, w6, hts _ w3⟩ (hpre hz) rfl hlen hl.1.1 hstk (lv_room (by rw [cat_sum]; exact hcs)) hd hfit
        exact il_callC hrun hS (fun _ h => h) (fun st0 v t h => h.2) kk
      · rw [decide_eq_false hz0, cond_false] at hcx
        have hcx := of_decide_eq_true hcx
        have hcw := callB_of (R := R) (nrC a) hts (wsC_good ha12) (rm := rmC e1 (mcC a) (msC a)) rfl rfl rfl hini (hts _ (w_ml hcx)) hyd hroom
        have hrun := va_runI (e := e) (below := below) (meth := meth) (locs := locs) (cells := cs.length - n0) (slots := sl - s0) (H := H) (rest := rest.map (tr (adC b b0))) (g := F0 m rp lsM (st.map (tr (adC b b0)))) (As := ((st.take b1).reverse).map (tr (adC b b0))) (b := b0 + r) ⟨hx, hb, hml, hown, hts⟩ hM ⟨hcw, w6, hts _ w3⟩ (hpre hz) rfl hlen hl.1.1 hstk (lv_room (by rw [cat_sum]; exact hcs)) hd hfit
        exact il_callC hrun hS (fun _ h => h) (fun st0 v t h => h.2) kk
  case invokestatic ix =>
    have hc : (decide (decode (miC k).2 rp = .ok (.invokestatic ix, 3)) && Nat.beq (rpc (tbC k) nx) (rp + 3) && chL k ix 0) = true := hchk
    simp only [Bool.and_eq_true, decide_eq_true_eq, Nat.beq_eq] at hc
    obtain ⟨⟨hd, hn⟩, hml1⟩ := hc
    obtain ⟨e1, hd1, h⟩ := depb_inv h
    obtain ⟨x, st1, rfl, h2⟩ := intb_inv h
    obtain ⟨r, st', rfl, h3⟩ := refb_inv h2
    obtain ⟨kd, n1, w, rs, hcr, h4⟩ := arrb_inv h3
    simp only [Bool.and_eq_true, Nat.ble_eq, Nat.beq_eq] at h4
    obtain ⟨⟨⟨⟨⟨rfl, hcs⟩, hn1⟩, hcl9⟩, hsl9⟩, hw⟩ := h4
    rw [fcL_eq] at hw
    have hr2 := wC_at (cy := cy) (ad := adC b b0) (b0 := b0) hcr
    have hM := met_fill (l := l) (D := D) (x := x) hr2 hn1 wC_D
    obtain ⟨y1, y2, y3⟩ := cw_wordsS (a := 0) (by omega) (by decide +kernel)
    have hln := ml_word hml1 (Or.inl (by omega))
    rw [mlY_lt (by omega)] at hln
    have hcw : CallB R s args (clsN k) ix (mi 0).1 (mi 0).2.1 (inf 0).2 (mi 0).2.2 (wsM 0) rmZ 0 0 (nrg 0) ∧ (Cond.static (mi 0).1).before args s = true := ⟨callB_of (nrg 0) hts (wsM_good (by omega) y1) rfl rfl rfl (hts _ y2) (hts _ hln) (cm_d (by omega)) (⟨by show 0 + 1 ≤ R.frames; omega, by show 8 + ((inf 0).2 + 11) + 0 ≤ R.locals; rw [inf0.1]; omega⟩), hts _ y3⟩
    have hrun := va_runS (e := e) (below := below) (meth := meth) (locs := locs) (cells := cs.length - n0) (slots := sl - s0) (H := H) (rest := st'.map (tr (adC b b0))) (g := F0 m rp lsM ((Sum.inl x :: rC r :: st').map (tr (adC b b0)))) (As := [.ref (b0 + r), .int x]) ⟨hx, hb, hml, hown, hts⟩ hM hcw ⟨fun a9 U g9 mk q9 => ⟨q9.1, q9.2.1, va_K.moved (u := U) (U := U.calling g9 mk a9) (Vm.Alike.refl U.vm) q9.2.2⟩, fun U hU hW => ⟨rfl, by rw [hU]; exact hP, va_K.moved hW.alike hK⟩⟩ rfl (show 2 = nrg 0 by decide +kernel) hl.1.1 rfl (lv_room (by rw [cat_sum]; exact hcs)) hd ⟨by omega, by omega⟩
    refine il_call hrun hS (fun _ h => h) (fun st0 v t h => h.2) (fun v t st0 hst0 hq2 hvm H1 locs1 ht hS1 => ?_)
    obtain ⟨⟨hv1, hP1⟩, -⟩ := hq2
    cases hv1
    rw [ht] at hP1
    have hP1 : va_P D vwCl ((wC cy (adC b b0) b0 cs).set r (b0 + r, tE cy (adC b b0) (.inr (1, n1, x, rs)))) H1 := hP1
    rw [wC_set] at hP1
    have g := goS _ sl H1 locs1 nx st' hw hP1 hS1 (by rw [List.length_set]; exact hR3) hR4
    rw [hn, List.length_set] at g
    exact g
  all_goals exact absurd h Bool.false_ne_true
end CNW
