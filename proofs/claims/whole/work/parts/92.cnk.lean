theorem cq_0_0 : chNQ 0 0 = true := by decide +kernel
theorem cq_0_1 : chNQ 0 1 = true := by decide +kernel
theorem cq_0_2 : chNQ 0 2 = true := by decide +kernel
theorem cq_0 : ∀ i, chNX 0 i = true := chNX_of (n := 3) (by decide +kernel) (fun q hq => match q, hq with
  | 0, _ => cq_0_0
  | 1, _ => cq_0_1
  | 2, _ => cq_0_2
  | q + 3, hq => absurd hq (by omega))
theorem cq_1_0 : chNQ 1 0 = true := by decide +kernel
theorem cq_1_1 : chNQ 1 1 = true := by decide +kernel
theorem cq_1_2 : chNQ 1 2 = true := by decide +kernel
theorem cq_1 : ∀ i, chNX 1 i = true := chNX_of (n := 3) (by decide +kernel) (fun q hq => match q, hq with
  | 0, _ => cq_1_0
  | 1, _ => cq_1_1
  | 2, _ => cq_1_2
  | q + 3, hq => absurd hq (by omega))
theorem cq_2 : ∀ i, chNX 2 i = true := chNX_of (n := 2) (by decide +kernel) (chNQ_of (by decide +kernel))
theorem cq_3 : ∀ i, chNX 3 i = true := chNX_of (n := 2) (by decide +kernel) (chNQ_of (by decide +kernel))
theorem cq_4_0 : chNQ 4 0 = true := by decide +kernel
theorem cq_4_1 : chNQ 4 1 = true := by decide +kernel
theorem cq_4_2 : chNQ 4 2 = true := by decide +kernel
theorem cq_4 : ∀ i, chNX 4 i = true := chNX_of (n := 3) (by decide +kernel) (fun q hq => match q, hq with
  | 0, _ => cq_4_0
  | 1, _ => cq_4_1
  | 2, _ => cq_4_2
  | q + 3, hq => absurd hq (by omega))
theorem cq_5 : ∀ i, chNX 5 i = true := chNX_of (n := 2) (by decide +kernel) (chNQ_of (by decide +kernel))
theorem cq_6 : ∀ i, chNX 6 i = true := chNX_of (n := 1) (by decide +kernel) (chNQ_of (by decide +kernel))
theorem cq_7 : ∀ i, chNX 7 i = true := chNX_of (n := 2) (by decide +kernel) (chNQ_of (by decide +kernel))
theorem cq_8_0 : chNQ 8 0 = true := by decide +kernel
theorem cq_8_1 : chNQ 8 1 = true := by decide +kernel
theorem cq_8_2 : chNQ 8 2 = true := by decide +kernel
theorem cq_8 : ∀ i, chNX 8 i = true := chNX_of (n := 3) (by decide +kernel) (fun q hq => match q, hq with
  | 0, _ => cq_8_0
  | 1, _ => cq_8_1
  | 2, _ => cq_8_2
  | q + 3, hq => absurd hq (by omega))
theorem cq_9_0 : chNQ 9 0 = true := by decide +kernel
theorem cq_9_1 : chNQ 9 1 = true := by decide +kernel
theorem cq_9_2 : chNQ 9 2 = true := by decide +kernel
theorem cq_9 : ∀ i, chNX 9 i = true := chNX_of (n := 3) (by decide +kernel) (fun q hq => match q, hq with
  | 0, _ => cq_9_0
  | 1, _ => cq_9_1
  | 2, _ => cq_9_2
  | q + 3, hq => absurd hq (by omega))
theorem cq_10_0 : chNQ 10 0 = true := by decide +kernel
theorem cq_10_1 : chNQ 10 1 = true := by decide +kernel
theorem cq_10_2 : chNQ 10 2 = true := by decide +kernel
theorem cq_10_3 : chNQ 10 3 = true := by decide +kernel
theorem cq_10_4 : chNQ 10 4 = true := by decide +kernel
theorem cq_10_5 : chNQ 10 5 = true := by decide +kernel
theorem cq_10_6 : chNQ 10 6 = true := by decide +kernel
theorem cq_10 : ∀ i, chNX 10 i = true := chNX_of (n := 7) (by decide +kernel) (fun q hq => match q, hq with
  | 0, _ => cq_10_0
  | 1, _ => cq_10_1
  | 2, _ => cq_10_2
  | 3, _ => cq_10_3
  | 4, _ => cq_10_4
  | 5, _ => cq_10_5
  | 6, _ => cq_10_6
  | q + 7, hq => absurd hq (by omega))
theorem cq_11_0 : chNQ 11 0 = true := by decide +kernel
theorem cq_11_1 : chNQ 11 1 = true := by decide +kernel
theorem cq_11_2 : chNQ 11 2 = true := by decide +kernel
theorem cq_11_3 : chNQ 11 3 = true := by decide +kernel
theorem cq_11_4 : chNQ 11 4 = true := by decide +kernel
theorem cq_11_5 : chNQ 11 5 = true := by decide +kernel
theorem cq_11_6 : chNQ 11 6 = true := by decide +kernel
theorem cq_11_7 : chNQ 11 7 = true := by decide +kernel
theorem cq_11 : ∀ i, chNX 11 i = true := chNX_of (n := 8) (by decide +kernel) (fun q hq => match q, hq with
  | 0, _ => cq_11_0
  | 1, _ => cq_11_1
  | 2, _ => cq_11_2
  | 3, _ => cq_11_3
  | 4, _ => cq_11_4
  | 5, _ => cq_11_5
  | 6, _ => cq_11_6
  | 7, _ => cq_11_7
  | q + 8, hq => absurd hq (by omega))
theorem cq_12 : ∀ i, chNX 12 i = true := chNX_of (n := 1) (by decide +kernel) (chNQ_of (by decide +kernel))
theorem cq_all : ∀ k, k < 13 → ∀ i, chNX k i = true := by
  intro k hk
  match k, hk with
  | 0, _ => exact cq_0
  | 1, _ => exact cq_1
  | 2, _ => exact cq_2
  | 3, _ => exact cq_3
  | 4, _ => exact cq_4
  | 5, _ => exact cq_5
  | 6, _ => exact cq_6
  | 7, _ => exact cq_7
  | 8, _ => exact cq_8
  | 9, _ => exact cq_9
  | 10, _ => exact cq_10
  | 11, _ => exact cq_11
  | 12, _ => exact cq_12
  | k + 13, hk => exact absurd hk (by omega)
/-- of a constructor: its words, its name, its locals, its end -/
def cwN (a : Nat) : Bool := decide (lw_tbl[(pwC a).1]? = some (Cond.code (miC a).1 (miC a).2 (mxC a) none)) && decide (lw_tbl[(pwC a).2.1]? = some (Cond.initialized (clsN a))) && decide (lw_tbl[(pwC a).2.2.1]? = some (Cond.instanceMethod (miC a).1)) && decide (lw_tbl[(pwC a).2.2.2]? = some (Cond.instantiable (clsN a) (nfs a))) && decide ((miC a).1.cls = clsN a) && decide ((miC a).1.name = "<init>") && decide (clsN a ≠ "java/lang/invoke/MethodHandle") && decide (clsN a ≠ "java/lang/invoke/VarHandle") && plainName (clsN a) && decide ((parseMethodDescriptor (miC a).1.desc).map (fun d => d.parameters.length) = some (nrC a)) && Nat.ble (mxC a) 40 && Nat.beq (rpc (tbC a) 0) 0 && decide (decode (miC a).2 (rpc (tbC a) (stC a)) = .ok (.return_, 1))
theorem cv_0 : cwN 0 = true := by decide +kernel
theorem cv_1 : cwN 1 = true := by decide +kernel
theorem cv_2 : cwN 2 = true := by decide +kernel
theorem cv_3 : cwN 3 = true := by decide +kernel
theorem cv_4 : cwN 4 = true := by decide +kernel
theorem cv_5 : cwN 5 = true := by decide +kernel
theorem cv_6 : cwN 6 = true := by decide +kernel
theorem cv_7 : cwN 7 = true := by decide +kernel
theorem cv_8 : cwN 8 = true := by decide +kernel
theorem cv_9 : cwN 9 = true := by decide +kernel
theorem cv_10 : cwN 10 = true := by decide +kernel
theorem cv_11 : cwN 11 = true := by decide +kernel
theorem cv_all : ∀ a, a < 12 → cwN a = true := by
  intro a ha
  match a, ha with
  | 0, _ => exact cv_0
  | 1, _ => exact cv_1
  | 2, _ => exact cv_2
  | 3, _ => exact cv_3
  | 4, _ => exact cv_4
  | 5, _ => exact cv_5
  | 6, _ => exact cv_6
  | 7, _ => exact cv_7
  | 8, _ => exact cv_8
  | 9, _ => exact cv_9
  | 10, _ => exact cv_10
  | 11, _ => exact cv_11
  | a + 12, ha => exact absurd ha (by omega)
