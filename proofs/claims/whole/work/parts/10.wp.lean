/-! what an instruction asks, over the rest ('ih'): the machine's own throws are ruled out by what is asked -/
def swK (K : Nat → Prop) (x : Int32) (dt : Nat) : List (Int32 × Nat) → Prop
  | [] => K dt
  | (v, t) :: l => (x = v → K t) ∧ (¬ x = v → swK K x dt l)
def catS : List AV → Nat
  | [] => 0
  | v :: l => cat2 v + catS l
/-- the copied row -/
def cpI (σ : ST) (c k j c' k' j' sp dp n : Nat) : ST := uR σ c' k' j' (va_cpy (σ.1 c k j) (σ.1 c' k' j') sp dp n)
abbrev POST : Type := Option AV → ST → Prop
abbrev FR : Type := Nat × Nat → TB → Nat → List (Option AV) → List AV → ST → POST → Prop
/-- a field that is read -/
def fget (σ : ST) (c k j : Nat) : AV := match fkO c j with
  | some (0, _) => .inl (σ.1 c k (j + 1) 0)
  | some (3, _) => .inl (σ.1 c k (j + 1) 0)
  | some (1, _) => .inr (.inl (σ.2 c k (j + 1) 0))
  | some (4, _) => .inr (.inr (c, k, j + 1))
  | some (_, r) => .inr (.inr r)
  | none => .inr (.inr (0, 0, 0))
/-- an array of a kind: its length -/
def arr (N c j kd : Nat) (K : Nat → Prop) : Prop := match arO N c j with
  | some (q, L) => cond (Nat.beq q kd) (K L) False
  | none => False
def arl (N c j : Nat) (K : Nat → Prop) : Prop := match arO N c j with
  | some (q, L) => cond (Nat.beq q 0) False (K L)
  | none => False
def rfo (c j i : Nat) (K : AV → Prop) : Prop := match rafO c j i with
  | some (c, k, j) => K (.inr (.inr (c, k, j)))
  | none => False
def brI (cd : ClassFile.Cond) (x y : Int32) : Prop := match cd with
  | .eq => x = y
  | .ne => ¬ x = y
  | .lt => x < y
  | .ge => y ≤ x
  | .gt => y < x
  | .le => x ≤ y
def ldI (ls : List (Option AV)) (k : Nat) (K : AV → Prop) : Prop := match nth none ls k with
  | some (.inl x) => K (.inl x)
  | _ => False
def ldJ (ls : List (Option AV)) (k : Nat) (K : AV → Prop) : Prop := match nth none ls k with
  | some (.inr (.inl x)) => K (.inr (.inl x))
  | _ => False
def ldR (ls : List (Option AV)) (k : Nat) (K : AV → Prop) : Prop := match nth none ls k with
  | some (.inr (.inr x)) => K (.inr (.inr x))
  | _ => False
def s1 (ls : List (Option AV)) (k : Nat) (v : AV) (K : List (Option AV) → Prop) : Prop := cond (inL ls k && noLg ls k) (K (stl ls k (some v))) False
def s2 (ls : List (Option AV)) (k : Nat) (v : AV) (K : List (Option AV) → Prop) : Prop := cond (inL ls (k + 1) && noLg ls k) (K (stl (stl ls k (some v)) (k + 1) none)) False
def stI (ls : List (Option AV)) (k : Nat) (st : List AV) (K : List (Option AV) → List AV → Prop) : Prop := match st with
  | .inl x :: st => s1 ls k (.inl x) (fun ls => K ls st)
  | _ => False
def stR (ls : List (Option AV)) (k : Nat) (st : List AV) (K : List (Option AV) → List AV → Prop) : Prop := match st with
  | .inr (.inr x) :: st => s1 ls k (.inr (.inr x)) (fun ls => K ls st)
  | _ => False
def stJ (ls : List (Option AV)) (k : Nat) (st : List AV) (K : List (Option AV) → List AV → Prop) : Prop := match st with
  | .inr (.inl x) :: st => s2 ls k (.inr (.inl x)) (fun ls => K ls st)
  | _ => False
def un (st : List AV) (K : Int32 → List AV → Prop) : Prop := match st with
  | .inl x :: st => K x st
  | _ => False
def bn (st : List AV) (K : Int32 → Int32 → List AV → Prop) : Prop := match st with
  | .inl y :: .inl x :: st => K x y st
  | _ => False
def unJ (st : List AV) (K : Int64 → List AV → Prop) : Prop := match st with
  | .inr (.inl x) :: st => K x st
  | _ => False
def bnJ (st : List AV) (K : Int64 → Int64 → List AV → Prop) : Prop := match st with
  | .inr (.inl y) :: .inr (.inl x) :: st => K x y st
  | _ => False
def rf (st : List AV) (K : Nat → Nat → Nat → List AV → Prop) : Prop := match st with
  | .inr (.inr (c, k, j)) :: st => K c k j st
  | _ => False
/-- a call of method a with b arguments (and, if vi, the object that it is called on) -/
def cal (ih : FR) (d : Nat × Nat) (vi : Bool) (a b : Nat) (st : List AV) (σ : ST) (K : Option AV → List AV → ST → Prop) : Prop :=
  match d.1 with
  | 0 => False
  | e + 1 => match vi, st.drop b with
    | true, .inr (.inr (c, k, 0)) :: rest => cond (Nat.beq c (inf a).1 && Nat.ble (catS rest) 8 && Nat.ble (catS (st.take b) + 1) (inf a).2 && Nat.beq (st.take b).length b) (True ∧ ih (e, 0) (tab a) 0 (ent (inf a).2 (.inr (.inr (c, k, 0)) :: (st.take b).reverse)) [] σ (fun v σ' => K v rest σ')) False
    | false, rest => cond (Nat.ble (catS rest) 8 && Nat.ble (catS (st.take b)) (inf a).2 && Nat.beq (st.take b).length b) (True ∧ ih (e, 0) (tab a) 0 (ent (inf a).2 (st.take b).reverse) [] σ (fun v σ' => K v rest σ')) False
    | _, _ => False
def psh : Option AV → List AV → List AV
  | none, st => st
  | some v, st => v :: st
def cpy (d : Nat × Nat) (N : Nat) (st : List AV) (σ : ST) (K : List AV → ST → Prop) : Prop := match d.1 with
  | 0 => False
  | _ + 1 => match st with
    | .inl n :: .inl dp :: .inr (.inr (c', k', j')) :: .inl sp :: .inr (.inr (c, k, j)) :: rest =>
      cond (not (Nat.beq c' 13) && not (Nat.beq c 13) && Nat.ble (catS rest) 8)
        (arr N c j 1 (fun L => arr N c' j' 1 (fun L' => ¬ sp < 0 ∧ ¬ dp < 0 ∧ ¬ n < 0 ∧ sp.toNatClampNeg + n.toNatClampNeg ≤ L ∧ dp.toNatClampNeg + n.toNatClampNeg ≤ L' ∧ K rest (cpI σ c k j c' k' j' sp.toNatClampNeg dp.toNatClampNeg n.toNatClampNeg)))) False
    | _ => False
/-- the law's octet(x, p, out): 0 with the byte in out, or 1 -/
def oct (d : Nat × Nat) (st : List AV) (σ : ST) (K : Nat × Nat → List AV → ST → Prop) : Prop := match d with
  | (e + 10, g + 1) => match st with
    | .inr (.inr (12, 0, 1)) :: .inl q :: .inr (.inr (10, 0, 0)) :: rest =>
      cond (Nat.ble (catS rest) 8) ((¬ (q < 0 ∨ σ.1 10 0 17 0 ≤ q ∨ 480 ≤ q) → K (e + 10, g) (.inl 0 :: rest) (uL σ 12 0 1 0 (σ.1 10 0 2 q.toNatClampNeg).toInt64)) ∧ ((q < 0 ∨ σ.1 10 0 17 0 ≤ q ∨ 480 ≤ q) → K (e + 10, g) (.inl 1 :: rest) σ)) False
    | _ => False
  | _ => False
def ldX (ls : List (Option AV)) (k : Nat) (K : Int32 → Prop) : Prop := match nth none ls k with
  | some (.inl x) => K x
  | _ => False
def d1 (st : List AV) (K : AV → List AV → Prop) : Prop := match st with
  | v :: st => cond (Nat.beq (cat2 v) 1) (K v st) False
  | _ => False
def d2 (st : List AV) (K : AV → AV → List AV → Prop) : Prop := match st with
  | v :: w :: st => cond (Nat.beq (cat2 v) 1 && Nat.beq (cat2 w) 1) (K v w st) False
  | _ => False
def ptf (a b : Nat) (st : List AV) (KI : Nat → Int32 → List AV → Prop) (KJ : Nat → Int64 → List AV → Prop) : Prop := match st with
  | .inl x :: .inr (.inr (c, k, 0)) :: st => cond (Nat.beq c a) (match (fkd a b).1 with
    | 0 => KI k x st
    | 3 => (x = 0 ∨ x = 1) ∧ KI k x st
    | _ => False) False
  | .inr (.inl x) :: .inr (.inr (c, k, 0)) :: st => cond (Nat.beq c a && Nat.beq (fkd a b).1 1) (KJ k x st) False
  | _ => False
def rtI (a : Nat) (st : List AV) (K : Int32 → Prop) : Prop := match st with
  | [.inl x] => (a = 0 ∨ x = 0 ∨ x = 1) ∧ K x
  | _ => False
def rtV (st : List AV) (K : Prop) : Prop := match st with
  | [] => K
  | _ => False
def ldcK (a d : Nat) (st : List AV) (P P2 : Prop) : Prop := cond (Nat.beq a 0) P (match d with
  | _ + 4 => cond (Nat.ble (catS st) 8) P2 False
  | _ => False)
def swi (M : TB) (i : Nat) (x : Int32) (K : Nat → Prop) : Prop := match swl M.2.1 i with
  | some (l, dt) => swK K x dt l
  | none => False
def step (N : Nat) (ih : FR) : FR := fun d M i ls st σ Q => match M.at i with
  | none => False
  | some (ins, _, nx, a, b, z) => match ins with
    | .aload k => ldR ls k (fun v => ih d M nx ls (v :: st) σ Q)
    | .aload_n k => ldR ls k.val (fun v => ih d M nx ls (v :: st) σ Q)
    | .iload k => ldI ls k (fun v => ih d M nx ls (v :: st) σ Q)
    | .iload_n k => ldI ls k.val (fun v => ih d M nx ls (v :: st) σ Q)
    | .lload k => ldJ ls k (fun v => ih d M nx ls (v :: st) σ Q)
    | .lload_n k => ldJ ls k.val (fun v => ih d M nx ls (v :: st) σ Q)
    | .istore k => stI ls k st (fun ls st => ih d M nx ls st σ Q)
    | .istore_n k => stI ls k.val st (fun ls st => ih d M nx ls st σ Q)
    | .astore k => stR ls k st (fun ls st => ih d M nx ls st σ Q)
    | .astore_n k => stR ls k.val st (fun ls st => ih d M nx ls st σ Q)
    | .lstore k => stJ ls k st (fun ls st => ih d M nx ls st σ Q)
    | .lstore_n k => stJ ls k.val st (fun ls st => ih d M nx ls st σ Q)
    | .iinc k n => ldX ls k (fun x => s1 ls k (.inl (x + Int32.ofInt n)) (fun ls => ih d M nx ls st σ Q))
    | .iconst n => ih d M nx ls (.inl (Int32.ofInt n) :: st) σ Q
    | .bipush n => ih d M nx ls (.inl (Int8.ofInt n).toInt32 :: st) σ Q
    | .sipush n => ih d M nx ls (.inl (Int16.ofInt n).toInt32 :: st) σ Q
    | .lconst n => ih d M nx ls (.inr (.inl (Int64.ofNat n.val)) :: st) σ Q
    | .ldc _ => ldcK a d.1 st (ih d M nx ls (.inl (Int32.ofInt z) :: st) σ Q) (ih d M nx ls (.inr (.inl (Int64.ofInt z)) :: st) σ Q)
    | .ldc2_w _ => ih d M nx ls (.inr (.inl (Int64.ofInt z)) :: st) σ Q
    | .iadd => bn st (fun x y st => ih d M nx ls (.inl (x + y) :: st) σ Q)
    | .isub => bn st (fun x y st => ih d M nx ls (.inl (x - y) :: st) σ Q)
    | .imul => bn st (fun x y st => ih d M nx ls (.inl (x * y) :: st) σ Q)
    | .idiv => bn st (fun x y st => ¬ y = 0 ∧ ih d M nx ls (.inl (x / y) :: st) σ Q)
    | .irem => bn st (fun x y st => ¬ y = 0 ∧ ih d M nx ls (.inl (x - x / y * y) :: st) σ Q)
    | .iand => bn st (fun x y st => ih d M nx ls (.inl (x &&& y) :: st) σ Q)
    | .ior => bn st (fun x y st => ih d M nx ls (.inl (x ||| y) :: st) σ Q)
    | .ishl => bn st (fun x y st => ih d M nx ls (.inl (x <<< (y &&& 31)) :: st) σ Q)
    | .ishr => bn st (fun x y st => ih d M nx ls (.inl (x >>> (y &&& 31)) :: st) σ Q)
    | .iushr => bn st (fun x y st => ih d M nx ls (.inl (x.toUInt32 >>> (y.toUInt32 &&& Int32.toUInt32 31)).toInt32 :: st) σ Q)
    | .ineg => un st (fun x st => ih d M nx ls (.inl (-x) :: st) σ Q)
    | .i2l => un st (fun x st => ih d M nx ls (.inr (.inl x.toInt64) :: st) σ Q)
    | .l2i => unJ st (fun x st => ih d M nx ls (.inl x.toInt32 :: st) σ Q)
    | .ladd => bnJ st (fun x y st => ih d M nx ls (.inr (.inl (x + y)) :: st) σ Q)
    | .lsub => bnJ st (fun x y st => ih d M nx ls (.inr (.inl (x - y)) :: st) σ Q)
    | .lmul => bnJ st (fun x y st => ih d M nx ls (.inr (.inl (x * y)) :: st) σ Q)
    | .ldiv => bnJ st (fun x y st => ¬ y = 0 ∧ ih d M nx ls (.inr (.inl (x / y)) :: st) σ Q)
    | .lrem => bnJ st (fun x y st => ¬ y = 0 ∧ ih d M nx ls (.inr (.inl (x - x / y * y)) :: st) σ Q)
    | .lcmp => bnJ st (fun x y st => ih d M nx ls (.inl (lg_cmp x y) :: st) σ Q)
    | .dup => d1 st (fun v st => ih d M nx ls (v :: v :: st) σ Q)
    | .dup2 => d2 st (fun v w st => ih d M nx ls (v :: w :: v :: w :: st) σ Q)
    | .pop => d1 st (fun _ st => ih d M nx ls st σ Q)
    | .goto _ => True ∧ ih d M a ls st σ Q
    | .if_icmp cd _ => bn st (fun x y st => (brI cd x y → ih d M a ls st σ Q) ∧ (¬ brI cd x y → ih d M nx ls st σ Q))
    | .ifCond cd _ => un st (fun x st => (brI cd x 0 → ih d M a ls st σ Q) ∧ (¬ brI cd x 0 → ih d M nx ls st σ Q))
    | .ifnull _ => rf st (fun _ _ _ st => ih d M nx ls st σ Q)
    | .ifnonnull _ => rf st (fun _ _ _ st => ih d M a ls st σ Q)
    | .tableswitch _ _ _ _ => un st (fun x st => swi M i x (fun t => ih d M t ls st σ Q))
    | .lookupswitch _ _ => un st (fun x st => swi M i x (fun t => ih d M t ls st σ Q))
    | .getfield _ => rf st (fun c k j st => cond (Nat.beq c a && Nat.beq j 0) (ih d M nx ls (fget σ c k b :: st) σ Q) False)
    | .putfield _ => ptf a b st (fun k x st => ih d M nx ls st (uI σ a k (b + 1) 0 x) Q) (fun k x st => ih d M nx ls st (uL σ a k (b + 1) 0 x) Q)
    | .iaload => un st (fun x st => rf st (fun c k j st => arr N c j 1 (fun L => vp_in x L ∧ ih d M nx ls (.inl (σ.1 c k j x.toNatClampNeg) :: st) σ Q)))
    | .laload => un st (fun x st => rf st (fun c k j st => arr N c j 2 (fun L => vp_in x L ∧ ih d M nx ls (.inr (.inl (σ.2 c k j x.toNatClampNeg)) :: st) σ Q)))
    | .aaload => un st (fun x st => rf st (fun c _ j st => arr N c j 3 (fun L => vp_in x L ∧ rfo c j x.toNatClampNeg (fun v => ih d M nx ls (v :: st) σ Q))))
    | .iastore => bn st (fun x y st => rf st (fun c k j st => cond (Nat.beq c 13) False (arr N c j 1 (fun L => vp_in x L ∧ ih d M nx ls st (uI σ c k j x.toNatClampNeg y) Q))))
    | .lastore => unJ st (fun y st => un st (fun x st => rf st (fun c k j st => arr N c j 2 (fun L => vp_in x L ∧ ih d M nx ls st (uL σ c k j x.toNatClampNeg y) Q))))
    | .arraylength => rf st (fun c _ j st => arl N c j (fun L => ih d M nx ls (.inl (Int32.ofNat L) :: st) σ Q))
    | .invokevirtual _ => cal ih d true a b st σ (fun v st σ => ih d M nx ls (psh v st) σ Q)
    | .invokestatic _ => cond (Nat.beq a 900) (cpy d N st σ (fun st σ => ih d M nx ls st σ Q)) (cond (Nat.beq a 901) (oct d st σ (fun d st σ => ih d M nx ls st σ Q)) (cal ih d false a b st σ (fun v st σ => ih d M nx ls (psh v st) σ Q)))
    | .ireturn => rtI a st (fun x => Q (some (.inl x)) σ)
    | .return_ => rtV st (Q none σ)
    | _ => False
def wp (N : Nat) : Nat → FR
  | 0 => fun _ _ _ _ _ _ _ => False
  | n + 1 => step N (wp N n)
theorem wp_succ (N n : Nat) : wp N (n + 1) = step N (wp N n) := rfl
