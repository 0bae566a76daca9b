/-! CN: what constructors make, over lists of cells; what an instruction does there -/
def nulA : AV := .inr (.inr (99, 0, 0))
/-- a cell: an object (class, fields), or an array (1 ints, 2 longs, 3 nets, 4 rules; length; what it is filled with; references) -/
abbrev CE : Type := (Nat × List AV) ⊕ (Nat × Nat × Int32 × List (Option Nat))
def adC (b b0 : Nat) (r : RF) : Nat := cond (Nat.beq r.1 13) b (b0 + r.2.1)
def trC (ad : RF → Nat) : AV → Value
  | .inl x => .int x
  | .inr (.inl x) => .long x
  | .inr (.inr r) => cond (Nat.beq r.1 99) .null (.ref (ad r))
def rfC (ad : RF → Nat) (rs : List (Option Nat)) (i : Nat) : Option Nat := (rs.getD i none).map (fun k => ad (0, k, 0))
def tE (cy : Nat × Nat × Nat × Nat) (ad : RF → Nat) : CE → va_E
  | .inl (c, fs) => .inr (c, fs.map (trC ad))
  | .inr (1, n, v, _) => .inl (cy.1, n, .inl (fun _ => v))
  | .inr (2, n, _, _) => .inl (cy.2.1, n, .inr (.inl (fun _ => 0)))
  | .inr (3, n, _, rs) => .inl (cy.2.2.1, n, .inr (.inr (.inr (.inr (rfC ad rs)))))
  | .inr (_, n, _, rs) => .inl (cy.2.2.2, n, .inr (.inr (.inr (.inr (rfC ad rs)))))
def wC (cy : Nat × Nat × Nat × Nat) (ad : RF → Nat) (b0 : Nat) (cs : List CE) : va_W := cs.mapIdx (fun i c => (b0 + i, tE cy ad c))
theorem wC_at {cy : Nat × Nat × Nat × Nat} {ad : RF → Nat} {b0 : Nat} {cs : List CE} {i : Nat} {c : CE} (h : cs[i]? = some c) : (wC cy ad b0 cs)[i]? = some (b0 + i, tE cy ad c) := by
  unfold wC
  rw [List.getElem?_mapIdx, h]
  rfl
theorem wC_inv {cy : Nat × Nat × Nat × Nat} {ad : RF → Nat} {b0 : Nat} {cs : List CE} {i : Nat} {q : Nat × va_E} (h : (wC cy ad b0 cs)[i]? = some q) : ∃ c, cs[i]? = some c ∧ q = (b0 + i, tE cy ad c) := by
  unfold wC at h
  rw [List.getElem?_mapIdx] at h
  cases hc : cs[i]? with
  | none => rw [hc] at h; cases h
  | some c => rw [hc] at h; cases h; exact ⟨c, rfl, rfl⟩
theorem wC_push {cy : Nat × Nat × Nat × Nat} {ad : RF → Nat} {b0 : Nat} {cs : List CE} {c : CE} : wC cy ad b0 (cs ++ [c]) = wC cy ad b0 cs ++ [(b0 + cs.length, tE cy ad c)] := by
  unfold wC
  rw [List.mapIdx_concat]
theorem wC_len {cy : Nat × Nat × Nat × Nat} {ad : RF → Nat} {b0 : Nat} {cs : List CE} : (wC cy ad b0 cs).length = cs.length := by
  unfold wC
  rw [List.length_mapIdx]
theorem wC_set {cy : Nat × Nat × Nat × Nat} {ad : RF → Nat} {b0 : Nat} {cs : List CE} {i : Nat} {c : CE} : (wC cy ad b0 cs).set i (b0 + i, tE cy ad c) = wC cy ad b0 (cs.set i c) := by
  apply List.ext_getElem?
  intro j
  rw [List.getElem?_set, wC_len]
  by_cases hj : i = j
  · subst hj
    rw [if_pos rfl]
    by_cases hl : i < cs.length
    · rw [if_pos hl, wC_at (c := c) (by rw [List.getElem?_set, if_pos rfl, if_pos hl])]
    · rw [if_neg hl]
      exact (List.getElem?_eq_none_iff.mpr (by rw [wC_len, List.length_set]; omega)).symm
  · rw [if_neg hj]
    unfold wC
    rw [List.getElem?_mapIdx, List.getElem?_mapIdx, List.getElem?_set, if_neg hj]
theorem wC_D {cy : Nat × Nat × Nat × Nat} {ad : RF → Nat} {b0 : Nat} {cs : List CE} : va_D (fun q => b0 ≤ q) (wC cy ad b0 cs) := by
  refine ⟨fun i j p q hi hj he => ?_, fun k q hk => ?_⟩
  · obtain ⟨c, -, rfl⟩ := wC_inv hi
    obtain ⟨c', -, rfl⟩ := wC_inv hj
    have he : b0 + i = b0 + j := he
    omega
  · obtain ⟨c, -, rfl⟩ := wC_inv hk
    exact Nat.le_add_right _ _
/-- a new cell lies right behind the others -/
theorem wC_new {D : va_G} {cy : Nat × Nat × Nat × Nat} {ad : RF → Nat} {b0 q : Nat} {cs : List CE} {e : va_E} {H : Heap} (hP : va_P D vwCl (wC cy ad b0 cs ++ [(q, e)]) H) (hD : va_D (fun q => b0 ≤ q) (wC cy ad b0 cs ++ [(q, e)])) (hz : H.size ≤ b0 + cs.length + 1) : q = b0 + cs.length := by
  have hl : (wC cy ad b0 cs).length = cs.length := wC_len
  have hq : (wC cy ad b0 cs ++ [(q, e)])[cs.length]? = some (q, e) := by rw [List.getElem?_append_right (by omega), hl, Nat.sub_self]; rfl
  have h1 : q < H.size := (hP _ _ hq).lt
  have h2 : b0 ≤ q := hD.2 _ _ hq
  by_cases h3 : q < b0 + cs.length
  · exfalso
    obtain ⟨c, hc⟩ : ∃ c, cs[q - b0]? = some c := ⟨_, List.getElem?_eq_getElem (by omega)⟩
    have h4 : (wC cy ad b0 cs ++ [(q, e)])[q - b0]? = some (b0 + (q - b0), tE cy ad c) := by rw [List.getElem?_append_left (by omega)]; exact wC_at hc
    have h5 := hD.1 _ _ _ _ h4 hq (by show b0 + (q - b0) = q; omega)
    omega
  · omega
/-- where the heap ends -/
theorem wC_size {D : va_G} {cy : Nat × Nat × Nat × Nat} {ad : RF → Nat} {b0 n0 : Nat} {cs : List CE} {H : Heap} (hP : va_P D vwCl (wC cy ad b0 cs) H) (h0 : b0 + n0 ≤ H.size) (hn : n0 ≤ cs.length) (hz : H.size ≤ b0 + cs.length) : H.size = b0 + cs.length := by
  by_cases h : n0 = cs.length
  · omega
  · obtain ⟨c, hc⟩ : ∃ c, cs[cs.length - 1]? = some c := ⟨_, List.getElem?_eq_getElem (by omega)⟩
    have h1 : b0 + (cs.length - 1) < H.size := (hP _ _ (wC_at hc)).lt
    omega
def fcL {α : Type} : List α → (List α → Bool) → Bool
  | [], K => K []
  | x :: l, K => fcL l (fun l' => K (x :: l'))
theorem fcL_eq {α : Type} : ∀ (l : List α) (K : List α → Bool), fcL l K = K l
  | [], _ => rfl
  | x :: l, K => by rw [fcL, fcL_eq l]
def dfl (c : Nat) : List AV := (List.range (nfs c)).map (fun j => match (fkd c j).1 with
  | 0 => .inl 0
  | 3 => .inl 0
  | 1 => .inr (.inl 0)
  | _ => nulA)
def okv (a b : Nat) (v : AV) : Bool := match (fkd a b).1, v with
  | 0, .inl _ => true
  | 3, .inl x => decide (x = 0) || decide (x = 1)
  | 2, .inr (.inr r) => Nat.beq r.1 0
  | 4, .inr (.inr r) => Nat.beq r.1 0
  | _, _ => false
def brB (cd : ClassFile.Cond) (x y : Int32) : Bool := match cd with
  | .eq => decide (x = y)
  | .ne => decide (¬ x = y)
  | .lt => decide (x < y)
  | .ge => decide (y ≤ x)
  | .gt => decide (y < x)
  | .le => decide (x ≤ y)
theorem brB_iff (cd : ClassFile.Cond) (x y : Int32) : brB cd x y = true ↔ brI cd x y := by cases cd <;> exact decide_eq_true_iff
def ldRb (ls : List (Option AV)) (k : Nat) (K : AV → Bool) : Bool := match nth none ls k with
  | some (.inr (.inr x)) => K (.inr (.inr x))
  | _ => false
def ldIb (ls : List (Option AV)) (k : Nat) (K : AV → Bool) : Bool := match nth none ls k with
  | some (.inl x) => K (.inl x)
  | _ => false
def stIb (ls : List (Option AV)) (k : Nat) (st : List AV) (K : List (Option AV) → List AV → Bool) : Bool := match st with
  | .inl x :: st => inL ls k && noLg ls k && K (stl ls k (some (.inl x))) st
  | _ => false
def stRb (ls : List (Option AV)) (k : Nat) (st : List AV) (K : List (Option AV) → List AV → Bool) : Bool := match st with
  | .inr (.inr x) :: st => inL ls k && noLg ls k && K (stl ls k (some (.inr (.inr x)))) st
  | _ => false
def incb (ls : List (Option AV)) (k : Nat) (n : Int) (K : List (Option AV) → Bool) : Bool := match nth none ls k with
  | some (.inl x) => inL ls k && noLg ls k && K (stl ls k (some (.inl (x + Int32.ofInt n))))
  | _ => false
def dupb (st : List AV) (K : AV → List AV → Bool) : Bool := match st with
  | v :: st => Nat.beq (cat2 v) 1 && K v st
  | _ => false
def bnb (st : List AV) (K : Int32 → Int32 → List AV → Bool) : Bool := match st with
  | .inl y :: .inl x :: st => K x y st
  | _ => false
def newb (st : List AV) (K : Nat → List AV → Bool) : Bool := match st with
  | .inl x :: st => decide (¬ x < 0) && Nat.ble x.toNatClampNeg 10000 && K x.toNatClampNeg st
  | _ => false
def nkd (ty : ArrayType) (K : Nat → Bool) : Bool := match ty with
  | .int => K 1
  | .long => K 2
  | _ => false
def refb (st : List AV) (K : Nat → List AV → Bool) : Bool := match st with
  | .inr (.inr (0, r, 0)) :: st => K r st
  | _ => false
def objb (cs : List CE) (r : Nat) (K : Nat → List AV → Bool) : Bool := match cs[r]? with
  | some (.inl (c, fs)) => K c fs
  | _ => false
def arrb (cs : List CE) (r : Nat) (K : Nat → Nat → Int32 → List (Option Nat) → Bool) : Bool := match cs[r]? with
  | some (.inr (kd, n, v, rs)) => K kd n v rs
  | _ => false
def fldb (fs : List AV) (b : Nat) (K : AV → Bool) : Bool := match fs[b]? with
  | some (.inr (.inr (0, r, 0))) => K (.inr (.inr (0, r, 0)))
  | _ => false
def valb (st : List AV) (K : AV → List AV → Bool) : Bool := match st with
  | v :: st => K v st
  | _ => false
def intb (st : List AV) (K : Int32 → List AV → Bool) : Bool := match st with
  | .inl x :: st => K x st
  | _ => false
def depb (d : Nat) (K : Nat → Bool) : Bool := match d with
  | e + 1 => K e
  | _ => false
abbrev KC : Type := List (Option AV) → List CE → Nat → Bool
abbrev FC : Type := Nat × Nat × Nat → Nat → Nat → List (Option AV) → List AV → List CE → Nat → KC → Bool
def rC (r : Nat) : AV := .inr (.inr (0, r, 0))
def stepC (ih : FC) : FC := fun d k i ls st cs sl K => cond (Nat.beq i (stC k)) (match st with
  | [] => K ls cs sl
  | _ => false) (match (tbC k).at i with
  | none => false
  | some (ins, _, nx, a, b, z) => match ins with
    | .aload j => ldRb ls j (fun v => ih d k nx ls (v :: st) cs sl K)
    | .aload_n j => ldRb ls j.val (fun v => ih d k nx ls (v :: st) cs sl K)
    | .iload j => ldIb ls j (fun v => ih d k nx ls (v :: st) cs sl K)
    | .iload_n j => ldIb ls j.val (fun v => ih d k nx ls (v :: st) cs sl K)
    | .istore j => stIb ls j st (fun ls st => ih d k nx ls st cs sl K)
    | .istore_n j => stIb ls j.val st (fun ls st => ih d k nx ls st cs sl K)
    | .astore_n j => stRb ls j.val st (fun ls st => ih d k nx ls st cs sl K)
    | .iinc j n => incb ls j n (fun ls => ih d k nx ls st cs sl K)
    | .iconst n => ih d k nx ls (.inl (Int32.ofInt n) :: st) cs sl K
    | .bipush n => ih d k nx ls (.inl (Int8.ofInt n).toInt32 :: st) cs sl K
    | .sipush n => ih d k nx ls (.inl (Int16.ofInt n).toInt32 :: st) cs sl K
    | .ldc _ => ih d k nx ls (.inl (Int32.ofInt z) :: st) cs sl K
    | .dup => dupb st (fun v st => ih d k nx ls (v :: v :: st) cs sl K)
    | .goto _ => ih d k a ls st cs sl K
    | .if_icmp cd _ => bnb st (fun x y st => cond (brB cd x y) (ih d k a ls st cs sl K) (ih d k nx ls st cs sl K))
    | .newarray ty => newb st (fun n st => Nat.ble (cs.length + 1) d.2.1 && Nat.ble (sl + n) d.2.2 && nkd ty (fun kd => fcL (cs ++ [.inr (kd, n, 0, [])]) (fun cs' => ih d k nx ls (rC cs.length :: st) cs' (sl + n) K)))
    | .anewarray _ => newb st (fun n st => Nat.ble (cs.length + 1) d.2.1 && Nat.ble (sl + n) d.2.2 && (Nat.beq a 3 || Nat.beq a 3) && fcL (cs ++ [.inr (cond (Nat.beq a 3) 3 4, n, 0, List.replicate n none)]) (fun cs' => ih d k nx ls (rC cs.length :: st) cs' (sl + n) K))
    | .new _ => Nat.ble (cs.length + 1) d.2.1 && Nat.ble (sl + nfs a) d.2.2 && Nat.ble (a + 1) 12 && fcL (cs ++ [.inl (a, dfl a)]) (fun cs' => ih d k nx ls (rC cs.length :: st) cs' (sl + nfs a) K)
    | .putfield _ => valb st (fun v st => refb st (fun r st => objb cs r (fun c fs => Nat.beq c a && Nat.beq a k && Nat.ble (b + 1) fs.length && okv a b v && fcL (cs.set r (.inl (c, fs.set b v))) (fun cs' => ih d k nx ls st cs' sl K))))
    | .getfield _ => refb st (fun r st => objb cs r (fun c fs => Nat.beq c a && fldb fs b (fun v => ih d k nx ls (v :: st) cs sl K)))
    | .aastore => refb st (fun v st => intb st (fun x st => refb st (fun r st => objb cs v (fun c _ => arrb cs r (fun kd n w rs => (Nat.beq kd 3 && Nat.beq c 3 || Nat.beq kd 3 && Nat.beq c 3) && decide (¬ x < 0) && Nat.ble (x.toNatClampNeg + 1) n && Nat.beq rs.length n && fcL (cs.set r (.inr (kd, n, w, rs.set x.toNatClampNeg (some v)))) (fun cs' => ih d k nx ls st cs' sl K))))))
    | .invokespecial _ => depb d.1 (fun e => cond (Nat.beq a 99) (refb st (fun _ st => Nat.ble (catS st) 8 && ih d k nx ls st cs sl K))
        (refb (st.drop b) (fun r rest => Nat.ble (catS rest) 8 && Nat.ble (catS (st.take b) + 1) (mxC a) && Nat.beq (st.take b).length b && Nat.ble (cs.length + mcC a) d.2.1 && Nat.ble (sl + msC a) d.2.2 &&
          ih (e, cs.length + mcC a, sl + msC a) a 0 (ent (mxC a) (rC r :: (st.take b).reverse)) [] cs sl (fun _ cs' sl' => Nat.beq cs'.length (cs.length + mcC a) && Nat.beq sl' (sl + msC a) && ih d k nx ls rest cs' sl' K))))
    | .invokestatic _ => depb d.1 (fun _ => intb st (fun x st => refb st (fun r st => arrb cs r (fun kd n _ rs => Nat.beq kd 1 && Nat.ble (catS st) 8 && Nat.ble n 4000 && Nat.ble cs.length d.2.1 && Nat.ble sl d.2.2 && fcL (cs.set r (.inr (1, n, x, rs))) (fun cs' => ih d k nx ls st cs' sl K)))))
    | _ => false)
def cn : Nat → FC
  | 0 => fun _ _ _ _ _ _ _ _ => false
  | n + 1 => stepC (cn n)
/-! what a step that goes through has found -/
theorem ldRb_inv {ls : List (Option AV)} {k : Nat} {K : AV → Bool} (h : ldRb ls k K = true) : ∃ r, nth none ls k = some (.inr (.inr r)) ∧ K (.inr (.inr r)) = true := by
  unfold ldRb at h
  split at h
  · next x hx => exact ⟨x, hx, h⟩
  · cases h
theorem ldIb_inv {ls : List (Option AV)} {k : Nat} {K : AV → Bool} (h : ldIb ls k K = true) : ∃ r, nth none ls k = some (.inl r) ∧ K (.inl r) = true := by
  unfold ldIb at h
  split at h
  · next x hx => exact ⟨x, hx, h⟩
  · cases h
theorem stIb_inv {ls : List (Option AV)} {k : Nat} {st : List AV} {K : List (Option AV) → List AV → Bool} (h : stIb ls k st K = true) : ∃ x st', st = .inl x :: st' ∧ inL ls k = true ∧ noLg ls k = true ∧ K (stl ls k (some (.inl x))) st' = true := by
  unfold stIb at h
  split at h
  · simp only [Bool.and_eq_true] at h
    exact ⟨_, _, rfl, h.1.1, h.1.2, h.2⟩
  · cases h
theorem stRb_inv {ls : List (Option AV)} {k : Nat} {st : List AV} {K : List (Option AV) → List AV → Bool} (h : stRb ls k st K = true) : ∃ x st', st = .inr (.inr x) :: st' ∧ inL ls k = true ∧ noLg ls k = true ∧ K (stl ls k (some (.inr (.inr x)))) st' = true := by
  unfold stRb at h
  split at h
  · simp only [Bool.and_eq_true] at h
    exact ⟨_, _, rfl, h.1.1, h.1.2, h.2⟩
  · cases h
theorem incb_inv {ls : List (Option AV)} {k : Nat} {n : Int} {K : List (Option AV) → Bool} (h : incb ls k n K = true) : ∃ x, nth none ls k = some (.inl x) ∧ inL ls k = true ∧ noLg ls k = true ∧ K (stl ls k (some (.inl (x + Int32.ofInt n)))) = true := by
  unfold incb at h
  split at h
  · next x hx =>
    simp only [Bool.and_eq_true] at h
    exact ⟨x, hx, h.1.1, h.1.2, h.2⟩
  · cases h
theorem dupb_inv {st : List AV} {K : AV → List AV → Bool} (h : dupb st K = true) : ∃ v st', st = v :: st' ∧ cat2 v = 1 ∧ K v st' = true := by
  unfold dupb at h
  split at h
  · simp only [Bool.and_eq_true, Nat.beq_eq] at h
    exact ⟨_, _, rfl, h.1, h.2⟩
  · cases h
theorem bnb_inv {st : List AV} {K : Int32 → Int32 → List AV → Bool} (h : bnb st K = true) : ∃ x y st', st = .inl y :: .inl x :: st' ∧ K x y st' = true := by
  unfold bnb at h
  split at h
  · exact ⟨_, _, _, rfl, h⟩
  · cases h
theorem newb_inv {st : List AV} {K : Nat → List AV → Bool} (h : newb st K = true) : ∃ x st', st = .inl x :: st' ∧ ¬ x < 0 ∧ x.toNatClampNeg ≤ 10000 ∧ K x.toNatClampNeg st' = true := by
  unfold newb at h
  split at h
  · simp only [Bool.and_eq_true, decide_eq_true_eq, Nat.ble_eq] at h
    exact ⟨_, _, rfl, h.1.1, h.1.2, h.2⟩
  · cases h
theorem refb_inv {st : List AV} {K : Nat → List AV → Bool} (h : refb st K = true) : ∃ r st', st = rC r :: st' ∧ K r st' = true := by
  unfold refb at h
  split at h
  · exact ⟨_, _, rfl, h⟩
  · cases h
theorem objb_inv {cs : List CE} {r : Nat} {K : Nat → List AV → Bool} (h : objb cs r K = true) : ∃ c fs, cs[r]? = some (.inl (c, fs)) ∧ K c fs = true := by
  unfold objb at h
  split at h
  · next c fs hx => exact ⟨c, fs, hx, h⟩
  · cases h
theorem arrb_inv {cs : List CE} {r : Nat} {K : Nat → Nat → Int32 → List (Option Nat) → Bool} (h : arrb cs r K = true) : ∃ kd n v rs, cs[r]? = some (.inr (kd, n, v, rs)) ∧ K kd n v rs = true := by
  unfold arrb at h
  split at h
  · next kd n v rs hx => exact ⟨kd, n, v, rs, hx, h⟩
  · cases h
theorem fldb_inv {fs : List AV} {b : Nat} {K : AV → Bool} (h : fldb fs b K = true) : ∃ r, fs[b]? = some (rC r) ∧ K (rC r) = true := by
  unfold fldb at h
  split at h
  · next r hx => exact ⟨r, hx, h⟩
  · cases h
theorem valb_inv {st : List AV} {K : AV → List AV → Bool} (h : valb st K = true) : ∃ v st', st = v :: st' ∧ K v st' = true := by
  unfold valb at h
  split at h
  · exact ⟨_, _, rfl, h⟩
  · cases h
theorem intb_inv {st : List AV} {K : Int32 → List AV → Bool} (h : intb st K = true) : ∃ x st', st = .inl x :: st' ∧ K x st' = true := by
  unfold intb at h
  split at h
  · exact ⟨_, _, rfl, h⟩
  · cases h
theorem depb_inv {d : Nat} {K : Nat → Bool} (h : depb d K = true) : ∃ e, d = e + 1 ∧ K e = true := by
  unfold depb at h
  split at h
  · exact ⟨_, rfl, h⟩
  · cases h
/-! the tables hold of the bytecode -/
def nstL : List (Nat × Nat × Nat) := [(10, 24, 8), (10, 31, 7), (10, 48, 0), (10, 55, 6), (5, 11, 8)]
def chN (k : Nat) : EN → Bool
  | (ins, rp, nx, a, b, z) => match ins with
    | .goto off => decide (decode (miC k).2 rp = .ok (ins, 3)) && decide ((rp : Int) + off = (rpc (tbC k) a : Int))
    | .if_icmp _ off => decide (decode (miC k).2 rp = .ok (ins, 3)) && decide ((rp : Int) + off = (rpc (tbC k) a : Int)) && Nat.beq (rpc (tbC k) nx) (rp + 3)
    | .getfield ix => decide (decode (miC k).2 rp = .ok (ins, 3)) && Nat.beq (rpc (tbC k) nx) (rp + 3) && chF k ix a b
    | .putfield ix => decide (decode (miC k).2 rp = .ok (ins, 3)) && Nat.beq (rpc (tbC k) nx) (rp + 3) && chF k ix a b
    | .new ix => decide (decode (miC k).2 rp = .ok (ins, 3)) && Nat.beq (rpc (tbC k) nx) (rp + 3) && decide (lw_tbl[z.toNat]? = some (Cond.classLink (clsN k) ix (clsN a)))
    | .anewarray ix => decide (decode (miC k).2 rp = .ok (ins, 3)) && Nat.beq (rpc (tbC k) nx) (rp + 3) && decide (lw_tbl[z.toNat]? = some (Cond.classLink (clsN k) ix (clsN a)))
    | .invokespecial ix => decide (decode (miC k).2 rp = .ok (ins, 3)) && Nat.beq (rpc (tbC k) nx) (rp + 3) && cond (Nat.beq a 99) (decide (lw_tbl[z.toNat]? = some (Cond.methodLink (clsN k) ix objectInit))) (Nat.ble (a + 1) 12 && Nat.beq b (nrC a) && cond (decide (z < 0)) (nstL.contains (k, ix, a)) (decide (lw_tbl[z.toNat]? = some (Cond.methodLink (clsN k) ix (miC a).1))))
    | .invokestatic ix => decide (decode (miC k).2 rp = .ok (ins, 3)) && Nat.beq (rpc (tbC k) nx) (rp + 3) && chL k ix 0
    | .ldc ix => decide (decode (miC k).2 rp = .ok (ins, 2)) && Nat.beq (rpc (tbC k) nx) (rp + 2) && chK k ix z
    | _ => decide (decode (miC k).2 rp = .ok (ins, lenI ins)) && Nat.beq (rpc (tbC k) nx) (rp + lenI ins)
def chNX (k i : Nat) : Bool := cond (Nat.beq i (stC k)) true (match (tbC k).at i with
  | some e => chN k e
  | none => true)
def chNQ (k q : Nat) : Bool := (List.range 16).all (fun r => chNX k (16 * q + r))
theorem chNX_of {k n : Nat} (hn : (tbC k).1.length ≤ n) (h : ∀ q, q < n → chNQ k q = true) (i : Nat) : chNX k i = true := by
  by_cases hq : i / 16 < n
  · have h1 := List.all_eq_true.mp (h (i / 16) hq) (i % 16) (List.mem_range.mpr (Nat.mod_lt _ (by decide)))
    rwa [Nat.div_add_mod] at h1
  · have e : (tbC k).at i = none := by
      unfold TB.at
      rw [nthO_out _ _ (by omega)]
    unfold chNX
    rw [e]
    cases Nat.beq i (stC k) <;> rfl
theorem chNQ_of {k n : Nat} (h : (List.range n).all (chNQ k) = true) : ∀ q, q < n → chNQ k q = true := fun q hq => List.all_eq_true.mp h q (List.mem_range.mpr hq)
