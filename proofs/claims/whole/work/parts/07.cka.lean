theorem cm_0 : cwM 0 = true := by decide +kernel
theorem c0_0 : rpc (tab 0) 0 = 0 := by decide +kernel
theorem ck_0 : ∀ i, chX 0 i = true := chX_of (n := 1) (by decide +kernel) (chQ_of (by decide +kernel))
theorem cm_1 : cwM 1 = true := by decide +kernel
theorem c0_1 : rpc (tab 1) 0 = 0 := by decide +kernel
theorem ck_1 : ∀ i, chX 1 i = true := chX_of (n := 2) (by decide +kernel) (chQ_of (by decide +kernel))
theorem cm_2 : cwM 2 = true := by decide +kernel
theorem c0_2 : rpc (tab 2) 0 = 0 := by decide +kernel
theorem ck_2 : ∀ i, chX 2 i = true := chX_of (n := 3) (by decide +kernel) (chQ_of (by decide +kernel))
theorem cm_3 : cwM 3 = true := by decide +kernel
theorem c0_3 : rpc (tab 3) 0 = 0 := by decide +kernel
theorem ck_3 : ∀ i, chX 3 i = true := chX_of (n := 1) (by decide +kernel) (chQ_of (by decide +kernel))
theorem cm_4 : cwM 4 = true := by decide +kernel
theorem c0_4 : rpc (tab 4) 0 = 0 := by decide +kernel
theorem ck_4 : ∀ i, chX 4 i = true := chX_of (n := 3) (by decide +kernel) (chQ_of (by decide +kernel))
theorem cm_5 : cwM 5 = true := by decide +kernel
theorem c0_5 : rpc (tab 5) 0 = 0 := by decide +kernel
theorem ck_5 : ∀ i, chX 5 i = true := chX_of (n := 3) (by decide +kernel) (chQ_of (by decide +kernel))
theorem cm_6 : cwM 6 = true := by decide +kernel
theorem c0_6 : rpc (tab 6) 0 = 0 := by decide +kernel
theorem cp_6_0 : chC 6 0 = true := by decide +kernel
theorem cp_6_1 : chC 6 1 = true := by decide +kernel
theorem cp_6_2 : chC 6 2 = true := by decide +kernel
theorem cp_6_3 : chC 6 3 = true := by decide +kernel
theorem ck_6 : ∀ i, chX 6 i = true := chX_of (n := 4) (by decide +kernel) (fun q hq => match q, hq with
  | 0, _ => cp_6_0
  | 1, _ => cp_6_1
  | 2, _ => cp_6_2
  | 3, _ => cp_6_3
  | q + 4, hq => absurd hq (by omega))
theorem cm_7 : cwM 7 = true := by decide +kernel
theorem c0_7 : rpc (tab 7) 0 = 0 := by decide +kernel
theorem cp_7_0 : chC 7 0 = true := by decide +kernel
theorem cp_7_1 : chC 7 1 = true := by decide +kernel
theorem cp_7_2 : chC 7 2 = true := by decide +kernel
theorem cp_7_3 : chC 7 3 = true := by decide +kernel
theorem ck_7 : ∀ i, chX 7 i = true := chX_of (n := 4) (by decide +kernel) (fun q hq => match q, hq with
  | 0, _ => cp_7_0
  | 1, _ => cp_7_1
  | 2, _ => cp_7_2
  | 3, _ => cp_7_3
  | q + 4, hq => absurd hq (by omega))
theorem cm_8 : cwM 8 = true := by decide +kernel
theorem c0_8 : rpc (tab 8) 0 = 0 := by decide +kernel
theorem cp_8_0 : chC 8 0 = true := by decide +kernel
theorem cp_8_1 : chC 8 1 = true := by decide +kernel
theorem cp_8_2 : chC 8 2 = true := by decide +kernel
theorem cp_8_3 : chC 8 3 = true := by decide +kernel
theorem cp_8_4 : chC 8 4 = true := by decide +kernel
theorem ck_8 : ∀ i, chX 8 i = true := chX_of (n := 5) (by decide +kernel) (fun q hq => match q, hq with
  | 0, _ => cp_8_0
  | 1, _ => cp_8_1
  | 2, _ => cp_8_2
  | 3, _ => cp_8_3
  | 4, _ => cp_8_4
  | q + 5, hq => absurd hq (by omega))
theorem cm_9 : cwM 9 = true := by decide +kernel
theorem c0_9 : rpc (tab 9) 0 = 0 := by decide +kernel
theorem ck_9 : ∀ i, chX 9 i = true := chX_of (n := 2) (by decide +kernel) (chQ_of (by decide +kernel))
theorem cm_10 : cwM 10 = true := by decide +kernel
theorem c0_10 : rpc (tab 10) 0 = 0 := by decide +kernel
theorem ck_10 : ∀ i, chX 10 i = true := chX_of (n := 1) (by decide +kernel) (chQ_of (by decide +kernel))
theorem cm_11 : cwM 11 = true := by decide +kernel
theorem c0_11 : rpc (tab 11) 0 = 0 := by decide +kernel
theorem ck_11 : ∀ i, chX 11 i = true := chX_of (n := 1) (by decide +kernel) (chQ_of (by decide +kernel))
theorem cm_12 : cwM 12 = true := by decide +kernel
theorem c0_12 : rpc (tab 12) 0 = 0 := by decide +kernel
theorem ck_12 : ∀ i, chX 12 i = true := chX_of (n := 3) (by decide +kernel) (chQ_of (by decide +kernel))
theorem cm_13 : cwM 13 = true := by decide +kernel
theorem c0_13 : rpc (tab 13) 0 = 0 := by decide +kernel
theorem ck_13 : ∀ i, chX 13 i = true := chX_of (n := 1) (by decide +kernel) (chQ_of (by decide +kernel))
theorem cm_14 : cwM 14 = true := by decide +kernel
theorem c0_14 : rpc (tab 14) 0 = 0 := by decide +kernel
theorem ck_14 : ∀ i, chX 14 i = true := chX_of (n := 1) (by decide +kernel) (chQ_of (by decide +kernel))
theorem cm_15 : cwM 15 = true := by decide +kernel
theorem c0_15 : rpc (tab 15) 0 = 0 := by decide +kernel
theorem cp_15_0 : chC 15 0 = true := by decide +kernel
theorem cp_15_1 : chC 15 1 = true := by decide +kernel
theorem cp_15_2 : chC 15 2 = true := by decide +kernel
theorem cp_15_3 : chC 15 3 = true := by decide +kernel
theorem ck_15 : ∀ i, chX 15 i = true := chX_of (n := 4) (by decide +kernel) (fun q hq => match q, hq with
  | 0, _ => cp_15_0
  | 1, _ => cp_15_1
  | 2, _ => cp_15_2
  | 3, _ => cp_15_3
  | q + 4, hq => absurd hq (by omega))
theorem cm_16 : cwM 16 = true := by decide +kernel
theorem c0_16 : rpc (tab 16) 0 = 0 := by decide +kernel
theorem ck_16 : ∀ i, chX 16 i = true := chX_of (n := 2) (by decide +kernel) (chQ_of (by decide +kernel))
theorem cm_17 : cwM 17 = true := by decide +kernel
theorem c0_17 : rpc (tab 17) 0 = 0 := by decide +kernel
theorem ck_17 : ∀ i, chX 17 i = true := chX_of (n := 1) (by decide +kernel) (chQ_of (by decide +kernel))
theorem cm_18 : cwM 18 = true := by decide +kernel
theorem c0_18 : rpc (tab 18) 0 = 0 := by decide +kernel
theorem ck_18 : ∀ i, chX 18 i = true := chX_of (n := 2) (by decide +kernel) (chQ_of (by decide +kernel))
theorem cm_19 : cwM 19 = true := by decide +kernel
theorem c0_19 : rpc (tab 19) 0 = 0 := by decide +kernel
theorem cp_19_0 : chC 19 0 = true := by decide +kernel
theorem cp_19_1 : chC 19 1 = true := by decide +kernel
theorem cp_19_2 : chC 19 2 = true := by decide +kernel
theorem cp_19_3 : chC 19 3 = true := by decide +kernel
theorem ck_19 : ∀ i, chX 19 i = true := chX_of (n := 4) (by decide +kernel) (fun q hq => match q, hq with
  | 0, _ => cp_19_0
  | 1, _ => cp_19_1
  | 2, _ => cp_19_2
  | 3, _ => cp_19_3
  | q + 4, hq => absurd hq (by omega))
theorem cm_20 : cwM 20 = true := by decide +kernel
theorem c0_20 : rpc (tab 20) 0 = 0 := by decide +kernel
theorem ck_20 : ∀ i, chX 20 i = true := chX_of (n := 1) (by decide +kernel) (chQ_of (by decide +kernel))
theorem cm_21 : cwM 21 = true := by decide +kernel
theorem c0_21 : rpc (tab 21) 0 = 0 := by decide +kernel
theorem cp_21_0 : chC 21 0 = true := by decide +kernel
theorem cp_21_1 : chC 21 1 = true := by decide +kernel
theorem cp_21_2 : chC 21 2 = true := by decide +kernel
theorem cp_21_3 : chC 21 3 = true := by decide +kernel
theorem cp_21_4 : chC 21 4 = true := by decide +kernel
theorem ck_21 : ∀ i, chX 21 i = true := chX_of (n := 5) (by decide +kernel) (fun q hq => match q, hq with
  | 0, _ => cp_21_0
  | 1, _ => cp_21_1
  | 2, _ => cp_21_2
  | 3, _ => cp_21_3
  | 4, _ => cp_21_4
  | q + 5, hq => absurd hq (by omega))
theorem cm_22 : cwM 22 = true := by decide +kernel
theorem c0_22 : rpc (tab 22) 0 = 0 := by decide +kernel
theorem ck_22 : ∀ i, chX 22 i = true := chX_of (n := 1) (by decide +kernel) (chQ_of (by decide +kernel))
theorem cm_23 : cwM 23 = true := by decide +kernel
theorem c0_23 : rpc (tab 23) 0 = 0 := by decide +kernel
theorem ck_23 : ∀ i, chX 23 i = true := chX_of (n := 3) (by decide +kernel) (chQ_of (by decide +kernel))
theorem cm_24 : cwM 24 = true := by decide +kernel
theorem c0_24 : rpc (tab 24) 0 = 0 := by decide +kernel
theorem cp_24_0 : chC 24 0 = true := by decide +kernel
theorem cp_24_1 : chC 24 1 = true := by decide +kernel
theorem cp_24_2 : chC 24 2 = true := by decide +kernel
theorem cp_24_3 : chC 24 3 = true := by decide +kernel
theorem cp_24_4 : chC 24 4 = true := by decide +kernel
theorem cp_24_5 : chC 24 5 = true := by decide +kernel
theorem ck_24 : ∀ i, chX 24 i = true := chX_of (n := 6) (by decide +kernel) (fun q hq => match q, hq with
  | 0, _ => cp_24_0
  | 1, _ => cp_24_1
  | 2, _ => cp_24_2
  | 3, _ => cp_24_3
  | 4, _ => cp_24_4
  | 5, _ => cp_24_5
  | q + 6, hq => absurd hq (by omega))
theorem cm_25 : cwM 25 = true := by decide +kernel
theorem c0_25 : rpc (tab 25) 0 = 0 := by decide +kernel
theorem cp_25_0 : chC 25 0 = true := by decide +kernel
theorem cp_25_1 : chC 25 1 = true := by decide +kernel
theorem cp_25_2 : chC 25 2 = true := by decide +kernel
theorem cp_25_3 : chC 25 3 = true := by decide +kernel
theorem cp_25_4 : chC 25 4 = true := by decide +kernel
theorem cp_25_5 : chC 25 5 = true := by decide +kernel
theorem ck_25 : ∀ i, chX 25 i = true := chX_of (n := 6) (by decide +kernel) (fun q hq => match q, hq with
  | 0, _ => cp_25_0
  | 1, _ => cp_25_1
  | 2, _ => cp_25_2
  | 3, _ => cp_25_3
  | 4, _ => cp_25_4
  | 5, _ => cp_25_5
  | q + 6, hq => absurd hq (by omega))
theorem cm_26 : cwM 26 = true := by decide +kernel
theorem c0_26 : rpc (tab 26) 0 = 0 := by decide +kernel
theorem ck_26 : ∀ i, chX 26 i = true := chX_of (n := 1) (by decide +kernel) (chQ_of (by decide +kernel))
theorem cm_27 : cwM 27 = true := by decide +kernel
theorem c0_27 : rpc (tab 27) 0 = 0 := by decide +kernel
theorem ck_27 : ∀ i, chX 27 i = true := chX_of (n := 1) (by decide +kernel) (chQ_of (by decide +kernel))
theorem cm_28 : cwM 28 = true := by decide +kernel
theorem c0_28 : rpc (tab 28) 0 = 0 := by decide +kernel
theorem ck_28 : ∀ i, chX 28 i = true := chX_of (n := 1) (by decide +kernel) (chQ_of (by decide +kernel))
theorem cm_29 : cwM 29 = true := by decide +kernel
theorem c0_29 : rpc (tab 29) 0 = 0 := by decide +kernel
theorem ck_29 : ∀ i, chX 29 i = true := chX_of (n := 1) (by decide +kernel) (chQ_of (by decide +kernel))
theorem cm_30 : cwM 30 = true := by decide +kernel
theorem c0_30 : rpc (tab 30) 0 = 0 := by decide +kernel
theorem ck_30 : ∀ i, chX 30 i = true := chX_of (n := 2) (by decide +kernel) (chQ_of (by decide +kernel))
theorem cm_31 : cwM 31 = true := by decide +kernel
theorem c0_31 : rpc (tab 31) 0 = 0 := by decide +kernel
theorem ck_31 : ∀ i, chX 31 i = true := chX_of (n := 2) (by decide +kernel) (chQ_of (by decide +kernel))
theorem cm_32 : cwM 32 = true := by decide +kernel
theorem c0_32 : rpc (tab 32) 0 = 0 := by decide +kernel
theorem ck_32 : ∀ i, chX 32 i = true := chX_of (n := 2) (by decide +kernel) (chQ_of (by decide +kernel))
theorem cm_33 : cwM 33 = true := by decide +kernel
theorem c0_33 : rpc (tab 33) 0 = 0 := by decide +kernel
theorem ck_33 : ∀ i, chX 33 i = true := chX_of (n := 2) (by decide +kernel) (chQ_of (by decide +kernel))
theorem cm_34 : cwM 34 = true := by decide +kernel
theorem c0_34 : rpc (tab 34) 0 = 0 := by decide +kernel
theorem ck_34 : ∀ i, chX 34 i = true := chX_of (n := 1) (by decide +kernel) (chQ_of (by decide +kernel))
theorem cm_35 : cwM 35 = true := by decide +kernel
theorem c0_35 : rpc (tab 35) 0 = 0 := by decide +kernel
theorem ck_35 : ∀ i, chX 35 i = true := chX_of (n := 1) (by decide +kernel) (chQ_of (by decide +kernel))
theorem cm_36 : cwM 36 = true := by decide +kernel
theorem c0_36 : rpc (tab 36) 0 = 0 := by decide +kernel
theorem ck_36 : ∀ i, chX 36 i = true := chX_of (n := 3) (by decide +kernel) (chQ_of (by decide +kernel))
theorem cm_37 : cwM 37 = true := by decide +kernel
theorem c0_37 : rpc (tab 37) 0 = 0 := by decide +kernel
theorem ck_37 : ∀ i, chX 37 i = true := chX_of (n := 1) (by decide +kernel) (chQ_of (by decide +kernel))
theorem cm_38 : cwM 38 = true := by decide +kernel
theorem c0_38 : rpc (tab 38) 0 = 0 := by decide +kernel
theorem ck_38 : ∀ i, chX 38 i = true := chX_of (n := 1) (by decide +kernel) (chQ_of (by decide +kernel))
theorem cm_39 : cwM 39 = true := by decide +kernel
theorem c0_39 : rpc (tab 39) 0 = 0 := by decide +kernel
theorem ck_39 : ∀ i, chX 39 i = true := chX_of (n := 1) (by decide +kernel) (chQ_of (by decide +kernel))
theorem cm_40 : cwM 40 = true := by decide +kernel
theorem c0_40 : rpc (tab 40) 0 = 0 := by decide +kernel
theorem cp_40_0 : chC 40 0 = true := by decide +kernel
theorem cp_40_1 : chC 40 1 = true := by decide +kernel
theorem cp_40_2 : chC 40 2 = true := by decide +kernel
theorem cp_40_3 : chC 40 3 = true := by decide +kernel
theorem cp_40_4 : chC 40 4 = true := by decide +kernel
theorem ck_40 : ∀ i, chX 40 i = true := chX_of (n := 5) (by decide +kernel) (fun q hq => match q, hq with
  | 0, _ => cp_40_0
  | 1, _ => cp_40_1
  | 2, _ => cp_40_2
  | 3, _ => cp_40_3
  | 4, _ => cp_40_4
  | q + 5, hq => absurd hq (by omega))
theorem cm_41 : cwM 41 = true := by decide +kernel
theorem c0_41 : rpc (tab 41) 0 = 0 := by decide +kernel
theorem ck_41 : ∀ i, chX 41 i = true := chX_of (n := 2) (by decide +kernel) (chQ_of (by decide +kernel))
theorem cm_42 : cwM 42 = true := by decide +kernel
theorem c0_42 : rpc (tab 42) 0 = 0 := by decide +kernel
theorem ck_42 : ∀ i, chX 42 i = true := chX_of (n := 3) (by decide +kernel) (chQ_of (by decide +kernel))
theorem cm_43 : cwM 43 = true := by decide +kernel
theorem c0_43 : rpc (tab 43) 0 = 0 := by decide +kernel
theorem ck_43 : ∀ i, chX 43 i = true := chX_of (n := 2) (by decide +kernel) (chQ_of (by decide +kernel))
theorem cm_44 : cwM 44 = true := by decide +kernel
theorem c0_44 : rpc (tab 44) 0 = 0 := by decide +kernel
theorem cp_44_0 : chC 44 0 = true := by decide +kernel
theorem cp_44_1 : chC 44 1 = true := by decide +kernel
theorem cp_44_2 : chC 44 2 = true := by decide +kernel
theorem cp_44_3 : chC 44 3 = true := by decide +kernel
theorem cp_44_4 : chC 44 4 = true := by decide +kernel
theorem ck_44 : ∀ i, chX 44 i = true := chX_of (n := 5) (by decide +kernel) (fun q hq => match q, hq with
  | 0, _ => cp_44_0
  | 1, _ => cp_44_1
  | 2, _ => cp_44_2
  | 3, _ => cp_44_3
  | 4, _ => cp_44_4
  | q + 5, hq => absurd hq (by omega))
theorem cm_45 : cwM 45 = true := by decide +kernel
theorem c0_45 : rpc (tab 45) 0 = 0 := by decide +kernel
theorem cp_45_0 : chC 45 0 = true := by decide +kernel
theorem cp_45_1 : chC 45 1 = true := by decide +kernel
theorem cp_45_2 : chC 45 2 = true := by decide +kernel
theorem cp_45_3 : chC 45 3 = true := by decide +kernel
theorem ck_45 : ∀ i, chX 45 i = true := chX_of (n := 4) (by decide +kernel) (fun q hq => match q, hq with
  | 0, _ => cp_45_0
  | 1, _ => cp_45_1
  | 2, _ => cp_45_2
  | 3, _ => cp_45_3
  | q + 4, hq => absurd hq (by omega))
theorem cm_46 : cwM 46 = true := by decide +kernel
theorem c0_46 : rpc (tab 46) 0 = 0 := by decide +kernel
theorem ck_46 : ∀ i, chX 46 i = true := chX_of (n := 3) (by decide +kernel) (chQ_of (by decide +kernel))
theorem cm_47 : cwM 47 = true := by decide +kernel
theorem c0_47 : rpc (tab 47) 0 = 0 := by decide +kernel
theorem ck_47 : ∀ i, chX 47 i = true := chX_of (n := 1) (by decide +kernel) (chQ_of (by decide +kernel))
theorem cm_48 : cwM 48 = true := by decide +kernel
theorem c0_48 : rpc (tab 48) 0 = 0 := by decide +kernel
theorem ck_48 : ∀ i, chX 48 i = true := chX_of (n := 1) (by decide +kernel) (chQ_of (by decide +kernel))
theorem cm_49 : cwM 49 = true := by decide +kernel
theorem c0_49 : rpc (tab 49) 0 = 0 := by decide +kernel
theorem cp_49_0 : chC 49 0 = true := by decide +kernel
theorem cp_49_1 : chC 49 1 = true := by decide +kernel
theorem cp_49_2 : chC 49 2 = true := by decide +kernel
theorem cp_49_3 : chC 49 3 = true := by decide +kernel
theorem cp_49_4 : chC 49 4 = true := by decide +kernel
theorem cp_49_5 : chC 49 5 = true := by decide +kernel
theorem ck_49 : ∀ i, chX 49 i = true := chX_of (n := 6) (by decide +kernel) (fun q hq => match q, hq with
  | 0, _ => cp_49_0
  | 1, _ => cp_49_1
  | 2, _ => cp_49_2
  | 3, _ => cp_49_3
  | 4, _ => cp_49_4
  | 5, _ => cp_49_5
  | q + 6, hq => absurd hq (by omega))
theorem cm_50 : cwM 50 = true := by decide +kernel
theorem c0_50 : rpc (tab 50) 0 = 0 := by decide +kernel
theorem ck_50 : ∀ i, chX 50 i = true := chX_of (n := 1) (by decide +kernel) (chQ_of (by decide +kernel))
theorem cm_51 : cwM 51 = true := by decide +kernel
theorem c0_51 : rpc (tab 51) 0 = 0 := by decide +kernel
theorem ck_51 : ∀ i, chX 51 i = true := chX_of (n := 2) (by decide +kernel) (chQ_of (by decide +kernel))
theorem cm_52 : cwM 52 = true := by decide +kernel
theorem c0_52 : rpc (tab 52) 0 = 0 := by decide +kernel
theorem ck_52 : ∀ i, chX 52 i = true := chX_of (n := 2) (by decide +kernel) (chQ_of (by decide +kernel))
theorem cm_53 : cwM 53 = true := by decide +kernel
theorem c0_53 : rpc (tab 53) 0 = 0 := by decide +kernel
theorem ck_53 : ∀ i, chX 53 i = true := chX_of (n := 1) (by decide +kernel) (chQ_of (by decide +kernel))
theorem cm_54 : cwM 54 = true := by decide +kernel
theorem c0_54 : rpc (tab 54) 0 = 0 := by decide +kernel
theorem ck_54 : ∀ i, chX 54 i = true := chX_of (n := 1) (by decide +kernel) (chQ_of (by decide +kernel))
theorem cm_55 : cwM 55 = true := by decide +kernel
theorem c0_55 : rpc (tab 55) 0 = 0 := by decide +kernel
theorem cp_55_0 : chC 55 0 = true := by decide +kernel
theorem cp_55_1 : chC 55 1 = true := by decide +kernel
theorem cp_55_2 : chC 55 2 = true := by decide +kernel
theorem cp_55_3 : chC 55 3 = true := by decide +kernel
theorem cp_55_4 : chC 55 4 = true := by decide +kernel
theorem cp_55_5 : chC 55 5 = true := by decide +kernel
theorem cp_55_6 : chC 55 6 = true := by decide +kernel
theorem cp_55_7 : chC 55 7 = true := by decide +kernel
theorem ck_55 : ∀ i, chX 55 i = true := chX_of (n := 8) (by decide +kernel) (fun q hq => match q, hq with
  | 0, _ => cp_55_0
  | 1, _ => cp_55_1
  | 2, _ => cp_55_2
  | 3, _ => cp_55_3
  | 4, _ => cp_55_4
  | 5, _ => cp_55_5
  | 6, _ => cp_55_6
  | 7, _ => cp_55_7
  | q + 8, hq => absurd hq (by omega))
theorem cm_56 : cwM 56 = true := by decide +kernel
theorem c0_56 : rpc (tab 56) 0 = 0 := by decide +kernel
theorem ck_56 : ∀ i, chX 56 i = true := chX_of (n := 2) (by decide +kernel) (chQ_of (by decide +kernel))
theorem cm_57 : cwM 57 = true := by decide +kernel
theorem c0_57 : rpc (tab 57) 0 = 0 := by decide +kernel
theorem cp_57_0 : chC 57 0 = true := by decide +kernel
theorem cp_57_1 : chC 57 1 = true := by decide +kernel
theorem cp_57_2 : chC 57 2 = true := by decide +kernel
theorem cp_57_3 : chC 57 3 = true := by decide +kernel
theorem ck_57 : ∀ i, chX 57 i = true := chX_of (n := 4) (by decide +kernel) (fun q hq => match q, hq with
  | 0, _ => cp_57_0
  | 1, _ => cp_57_1
  | 2, _ => cp_57_2
  | 3, _ => cp_57_3
  | q + 4, hq => absurd hq (by omega))
theorem cm_58 : cwM 58 = true := by decide +kernel
theorem c0_58 : rpc (tab 58) 0 = 0 := by decide +kernel
theorem cp_58_0 : chC 58 0 = true := by decide +kernel
theorem cp_58_1 : chC 58 1 = true := by decide +kernel
theorem cp_58_2 : chC 58 2 = true := by decide +kernel
theorem cp_58_3 : chC 58 3 = true := by decide +kernel
theorem ck_58 : ∀ i, chX 58 i = true := chX_of (n := 4) (by decide +kernel) (fun q hq => match q, hq with
  | 0, _ => cp_58_0
  | 1, _ => cp_58_1
  | 2, _ => cp_58_2
  | 3, _ => cp_58_3
  | q + 4, hq => absurd hq (by omega))
theorem cm_59 : cwM 59 = true := by decide +kernel
theorem c0_59 : rpc (tab 59) 0 = 0 := by decide +kernel
theorem ck_59 : ∀ i, chX 59 i = true := chX_of (n := 1) (by decide +kernel) (chQ_of (by decide +kernel))
theorem cm_60 : cwM 60 = true := by decide +kernel
theorem c0_60 : rpc (tab 60) 0 = 0 := by decide +kernel
theorem ck_60 : ∀ i, chX 60 i = true := chX_of (n := 1) (by decide +kernel) (chQ_of (by decide +kernel))
theorem cm_61 : cwM 61 = true := by decide +kernel
theorem c0_61 : rpc (tab 61) 0 = 0 := by decide +kernel
theorem ck_61 : ∀ i, chX 61 i = true := chX_of (n := 1) (by decide +kernel) (chQ_of (by decide +kernel))
theorem cm_62 : cwM 62 = true := by decide +kernel
theorem c0_62 : rpc (tab 62) 0 = 0 := by decide +kernel
theorem cp_62_0 : chC 62 0 = true := by decide +kernel
theorem cp_62_1 : chC 62 1 = true := by decide +kernel
theorem cp_62_2 : chC 62 2 = true := by decide +kernel
theorem cp_62_3 : chC 62 3 = true := by decide +kernel
theorem cp_62_4 : chC 62 4 = true := by decide +kernel
theorem ck_62 : ∀ i, chX 62 i = true := chX_of (n := 5) (by decide +kernel) (fun q hq => match q, hq with
  | 0, _ => cp_62_0
  | 1, _ => cp_62_1
  | 2, _ => cp_62_2
  | 3, _ => cp_62_3
  | 4, _ => cp_62_4
  | q + 5, hq => absurd hq (by omega))
theorem cm_63 : cwM 63 = true := by decide +kernel
theorem c0_63 : rpc (tab 63) 0 = 0 := by decide +kernel
theorem ck_63 : ∀ i, chX 63 i = true := chX_of (n := 1) (by decide +kernel) (chQ_of (by decide +kernel))
theorem cm_64 : cwM 64 = true := by decide +kernel
theorem c0_64 : rpc (tab 64) 0 = 0 := by decide +kernel
theorem ck_64 : ∀ i, chX 64 i = true := chX_of (n := 1) (by decide +kernel) (chQ_of (by decide +kernel))
theorem cm_65 : cwM 65 = true := by decide +kernel
theorem c0_65 : rpc (tab 65) 0 = 0 := by decide +kernel
theorem ck_65 : ∀ i, chX 65 i = true := chX_of (n := 2) (by decide +kernel) (chQ_of (by decide +kernel))
theorem cm_66 : cwM 66 = true := by decide +kernel
theorem c0_66 : rpc (tab 66) 0 = 0 := by decide +kernel
theorem ck_66 : ∀ i, chX 66 i = true := chX_of (n := 2) (by decide +kernel) (chQ_of (by decide +kernel))
theorem cm_67 : cwM 67 = true := by decide +kernel
theorem c0_67 : rpc (tab 67) 0 = 0 := by decide +kernel
theorem ck_67 : ∀ i, chX 67 i = true := chX_of (n := 2) (by decide +kernel) (chQ_of (by decide +kernel))
theorem cm_68 : cwM 68 = true := by decide +kernel
theorem c0_68 : rpc (tab 68) 0 = 0 := by decide +kernel
theorem ck_68 : ∀ i, chX 68 i = true := chX_of (n := 1) (by decide +kernel) (chQ_of (by decide +kernel))
theorem cm_69 : cwM 69 = true := by decide +kernel
theorem c0_69 : rpc (tab 69) 0 = 0 := by decide +kernel
theorem ck_69 : ∀ i, chX 69 i = true := chX_of (n := 2) (by decide +kernel) (chQ_of (by decide +kernel))
theorem cm_70 : cwM 70 = true := by decide +kernel
theorem c0_70 : rpc (tab 70) 0 = 0 := by decide +kernel
theorem ck_70 : ∀ i, chX 70 i = true := chX_of (n := 2) (by decide +kernel) (chQ_of (by decide +kernel))
theorem cm_71 : cwM 71 = true := by decide +kernel
theorem c0_71 : rpc (tab 71) 0 = 0 := by decide +kernel
theorem ck_71 : ∀ i, chX 71 i = true := chX_of (n := 1) (by decide +kernel) (chQ_of (by decide +kernel))
theorem cm_72 : cwM 72 = true := by decide +kernel
theorem c0_72 : rpc (tab 72) 0 = 0 := by decide +kernel
theorem ck_72 : ∀ i, chX 72 i = true := chX_of (n := 3) (by decide +kernel) (chQ_of (by decide +kernel))
theorem cm_73 : cwM 73 = true := by decide +kernel
theorem c0_73 : rpc (tab 73) 0 = 0 := by decide +kernel
theorem ck_73 : ∀ i, chX 73 i = true := chX_of (n := 3) (by decide +kernel) (chQ_of (by decide +kernel))
theorem cm_74 : cwM 74 = true := by decide +kernel
theorem c0_74 : rpc (tab 74) 0 = 0 := by decide +kernel
theorem ck_74 : ∀ i, chX 74 i = true := chX_of (n := 2) (by decide +kernel) (chQ_of (by decide +kernel))
theorem cm_75 : cwM 75 = true := by decide +kernel
theorem c0_75 : rpc (tab 75) 0 = 0 := by decide +kernel
theorem cp_75_0 : chC 75 0 = true := by decide +kernel
theorem cp_75_1 : chC 75 1 = true := by decide +kernel
theorem cp_75_2 : chC 75 2 = true := by decide +kernel
theorem cp_75_3 : chC 75 3 = true := by decide +kernel
theorem ck_75 : ∀ i, chX 75 i = true := chX_of (n := 4) (by decide +kernel) (fun q hq => match q, hq with
  | 0, _ => cp_75_0
  | 1, _ => cp_75_1
  | 2, _ => cp_75_2
  | 3, _ => cp_75_3
  | q + 4, hq => absurd hq (by omega))
theorem cm_76 : cwM 76 = true := by decide +kernel
theorem c0_76 : rpc (tab 76) 0 = 0 := by decide +kernel
theorem cp_76_0 : chC 76 0 = true := by decide +kernel
theorem cp_76_1 : chC 76 1 = true := by decide +kernel
theorem cp_76_2 : chC 76 2 = true := by decide +kernel
theorem cp_76_3 : chC 76 3 = true := by decide +kernel
theorem cp_76_4 : chC 76 4 = true := by decide +kernel
theorem cp_76_5 : chC 76 5 = true := by decide +kernel
theorem cp_76_6 : chC 76 6 = true := by decide +kernel
theorem cp_76_7 : chC 76 7 = true := by decide +kernel
theorem cp_76_8 : chC 76 8 = true := by decide +kernel
theorem cp_76_9 : chC 76 9 = true := by decide +kernel
theorem ck_76 : ∀ i, chX 76 i = true := chX_of (n := 10) (by decide +kernel) (fun q hq => match q, hq with
  | 0, _ => cp_76_0
  | 1, _ => cp_76_1
  | 2, _ => cp_76_2
  | 3, _ => cp_76_3
  | 4, _ => cp_76_4
  | 5, _ => cp_76_5
  | 6, _ => cp_76_6
  | 7, _ => cp_76_7
  | 8, _ => cp_76_8
  | 9, _ => cp_76_9
  | q + 10, hq => absurd hq (by omega))
theorem cm_77 : cwM 77 = true := by decide +kernel
theorem c0_77 : rpc (tab 77) 0 = 0 := by decide +kernel
theorem ck_77 : ∀ i, chX 77 i = true := chX_of (n := 3) (by decide +kernel) (chQ_of (by decide +kernel))
theorem cm_78 : cwM 78 = true := by decide +kernel
theorem c0_78 : rpc (tab 78) 0 = 0 := by decide +kernel
theorem cp_78_0 : chC 78 0 = true := by decide +kernel
theorem cp_78_1 : chC 78 1 = true := by decide +kernel
theorem cp_78_2 : chC 78 2 = true := by decide +kernel
theorem cp_78_3 : chC 78 3 = true := by decide +kernel
theorem ck_78 : ∀ i, chX 78 i = true := chX_of (n := 4) (by decide +kernel) (fun q hq => match q, hq with
  | 0, _ => cp_78_0
  | 1, _ => cp_78_1
  | 2, _ => cp_78_2
  | 3, _ => cp_78_3
  | q + 4, hq => absurd hq (by omega))
theorem cm_79 : cwM 79 = true := by decide +kernel
theorem c0_79 : rpc (tab 79) 0 = 0 := by decide +kernel
theorem cp_79_0 : chC 79 0 = true := by decide +kernel
theorem cp_79_1 : chC 79 1 = true := by decide +kernel
theorem cp_79_2 : chC 79 2 = true := by decide +kernel
theorem cp_79_3 : chC 79 3 = true := by decide +kernel
theorem ck_79 : ∀ i, chX 79 i = true := chX_of (n := 4) (by decide +kernel) (fun q hq => match q, hq with
  | 0, _ => cp_79_0
  | 1, _ => cp_79_1
  | 2, _ => cp_79_2
  | 3, _ => cp_79_3
  | q + 4, hq => absurd hq (by omega))
theorem cm_80 : cwM 80 = true := by decide +kernel
theorem c0_80 : rpc (tab 80) 0 = 0 := by decide +kernel
theorem ck_80 : ∀ i, chX 80 i = true := chX_of (n := 1) (by decide +kernel) (chQ_of (by decide +kernel))
theorem cm_81 : cwM 81 = true := by decide +kernel
theorem c0_81 : rpc (tab 81) 0 = 0 := by decide +kernel
theorem cp_81_0 : chC 81 0 = true := by decide +kernel
theorem cp_81_1 : chC 81 1 = true := by decide +kernel
theorem cp_81_2 : chC 81 2 = true := by decide +kernel
theorem cp_81_3 : chC 81 3 = true := by decide +kernel
theorem cp_81_4 : chC 81 4 = true := by decide +kernel
theorem ck_81 : ∀ i, chX 81 i = true := chX_of (n := 5) (by decide +kernel) (fun q hq => match q, hq with
  | 0, _ => cp_81_0
  | 1, _ => cp_81_1
  | 2, _ => cp_81_2
  | 3, _ => cp_81_3
  | 4, _ => cp_81_4
  | q + 5, hq => absurd hq (by omega))
theorem cm_82 : cwM 82 = true := by decide +kernel
theorem c0_82 : rpc (tab 82) 0 = 0 := by decide +kernel
theorem ck_82 : ∀ i, chX 82 i = true := chX_of (n := 2) (by decide +kernel) (chQ_of (by decide +kernel))
theorem cm_83 : cwM 83 = true := by decide +kernel
theorem c0_83 : rpc (tab 83) 0 = 0 := by decide +kernel
theorem ck_83 : ∀ i, chX 83 i = true := chX_of (n := 2) (by decide +kernel) (chQ_of (by decide +kernel))
theorem cm_84 : cwM 84 = true := by decide +kernel
theorem c0_84 : rpc (tab 84) 0 = 0 := by decide +kernel
theorem cp_84_0 : chC 84 0 = true := by decide +kernel
theorem cp_84_1 : chC 84 1 = true := by decide +kernel
theorem cp_84_2 : chC 84 2 = true := by decide +kernel
theorem cp_84_3 : chC 84 3 = true := by decide +kernel
theorem ck_84 : ∀ i, chX 84 i = true := chX_of (n := 4) (by decide +kernel) (fun q hq => match q, hq with
  | 0, _ => cp_84_0
  | 1, _ => cp_84_1
  | 2, _ => cp_84_2
  | 3, _ => cp_84_3
  | q + 4, hq => absurd hq (by omega))
theorem cm_85 : cwM 85 = true := by decide +kernel
theorem c0_85 : rpc (tab 85) 0 = 0 := by decide +kernel
theorem ck_85 : ∀ i, chX 85 i = true := chX_of (n := 1) (by decide +kernel) (chQ_of (by decide +kernel))
theorem cm_86 : cwM 86 = true := by decide +kernel
theorem c0_86 : rpc (tab 86) 0 = 0 := by decide +kernel
theorem ck_86 : ∀ i, chX 86 i = true := chX_of (n := 1) (by decide +kernel) (chQ_of (by decide +kernel))
theorem cm_87 : cwM 87 = true := by decide +kernel
theorem c0_87 : rpc (tab 87) 0 = 0 := by decide +kernel
theorem cp_87_0 : chC 87 0 = true := by decide +kernel
theorem cp_87_1 : chC 87 1 = true := by decide +kernel
theorem cp_87_2 : chC 87 2 = true := by decide +kernel
theorem cp_87_3 : chC 87 3 = true := by decide +kernel
theorem ck_87 : ∀ i, chX 87 i = true := chX_of (n := 4) (by decide +kernel) (fun q hq => match q, hq with
  | 0, _ => cp_87_0
  | 1, _ => cp_87_1
  | 2, _ => cp_87_2
  | 3, _ => cp_87_3
  | q + 4, hq => absurd hq (by omega))
theorem cm_88 : cwM 88 = true := by decide +kernel
theorem c0_88 : rpc (tab 88) 0 = 0 := by decide +kernel
theorem cp_88_0 : chC 88 0 = true := by decide +kernel
theorem cp_88_1 : chC 88 1 = true := by decide +kernel
theorem cp_88_2 : chC 88 2 = true := by decide +kernel
theorem cp_88_3 : chC 88 3 = true := by decide +kernel
theorem ck_88 : ∀ i, chX 88 i = true := chX_of (n := 4) (by decide +kernel) (fun q hq => match q, hq with
  | 0, _ => cp_88_0
  | 1, _ => cp_88_1
  | 2, _ => cp_88_2
  | 3, _ => cp_88_3
  | q + 4, hq => absurd hq (by omega))
theorem cm_89 : cwM 89 = true := by decide +kernel
theorem c0_89 : rpc (tab 89) 0 = 0 := by decide +kernel
theorem ck_89 : ∀ i, chX 89 i = true := chX_of (n := 3) (by decide +kernel) (chQ_of (by decide +kernel))
theorem cm_90 : cwM 90 = true := by decide +kernel
theorem c0_90 : rpc (tab 90) 0 = 0 := by decide +kernel
theorem ck_90 : ∀ i, chX 90 i = true := chX_of (n := 2) (by decide +kernel) (chQ_of (by decide +kernel))
theorem cm_91 : cwM 91 = true := by decide +kernel
theorem c0_91 : rpc (tab 91) 0 = 0 := by decide +kernel
theorem ck_91 : ∀ i, chX 91 i = true := chX_of (n := 2) (by decide +kernel) (chQ_of (by decide +kernel))
theorem cm_92 : cwM 92 = true := by decide +kernel
theorem c0_92 : rpc (tab 92) 0 = 0 := by decide +kernel
theorem ck_92 : ∀ i, chX 92 i = true := chX_of (n := 3) (by decide +kernel) (chQ_of (by decide +kernel))
theorem cm_93 : cwM 93 = true := by decide +kernel
theorem c0_93 : rpc (tab 93) 0 = 0 := by decide +kernel
theorem ck_93 : ∀ i, chX 93 i = true := chX_of (n := 3) (by decide +kernel) (chQ_of (by decide +kernel))
theorem cm_94 : cwM 94 = true := by decide +kernel
theorem c0_94 : rpc (tab 94) 0 = 0 := by decide +kernel
theorem ck_94 : ∀ i, chX 94 i = true := chX_of (n := 2) (by decide +kernel) (chQ_of (by decide +kernel))
theorem cm_95 : cwM 95 = true := by decide +kernel
theorem c0_95 : rpc (tab 95) 0 = 0 := by decide +kernel
theorem ck_95 : ∀ i, chX 95 i = true := chX_of (n := 2) (by decide +kernel) (chQ_of (by decide +kernel))
theorem cm_96 : cwM 96 = true := by decide +kernel
theorem c0_96 : rpc (tab 96) 0 = 0 := by decide +kernel
theorem ck_96 : ∀ i, chX 96 i = true := chX_of (n := 2) (by decide +kernel) (chQ_of (by decide +kernel))
theorem cm_97 : cwM 97 = true := by decide +kernel
theorem c0_97 : rpc (tab 97) 0 = 0 := by decide +kernel
theorem ck_97 : ∀ i, chX 97 i = true := chX_of (n := 2) (by decide +kernel) (chQ_of (by decide +kernel))
theorem cm_98 : cwM 98 = true := by decide +kernel
theorem c0_98 : rpc (tab 98) 0 = 0 := by decide +kernel
theorem ck_98 : ∀ i, chX 98 i = true := chX_of (n := 3) (by decide +kernel) (chQ_of (by decide +kernel))
theorem cm_99 : cwM 99 = true := by decide +kernel
theorem c0_99 : rpc (tab 99) 0 = 0 := by decide +kernel
theorem ck_99 : ∀ i, chX 99 i = true := chX_of (n := 3) (by decide +kernel) (chQ_of (by decide +kernel))
theorem cm_100 : cwM 100 = true := by decide +kernel
theorem c0_100 : rpc (tab 100) 0 = 0 := by decide +kernel
theorem cp_100_0 : chC 100 0 = true := by decide +kernel
theorem cp_100_1 : chC 100 1 = true := by decide +kernel
theorem cp_100_2 : chC 100 2 = true := by decide +kernel
theorem cp_100_3 : chC 100 3 = true := by decide +kernel
theorem cp_100_4 : chC 100 4 = true := by decide +kernel
theorem ck_100 : ∀ i, chX 100 i = true := chX_of (n := 5) (by decide +kernel) (fun q hq => match q, hq with
  | 0, _ => cp_100_0
  | 1, _ => cp_100_1
  | 2, _ => cp_100_2
  | 3, _ => cp_100_3
  | 4, _ => cp_100_4
  | q + 5, hq => absurd hq (by omega))
theorem cm_101 : cwM 101 = true := by decide +kernel
theorem c0_101 : rpc (tab 101) 0 = 0 := by decide +kernel
theorem ck_101 : ∀ i, chX 101 i = true := chX_of (n := 2) (by decide +kernel) (chQ_of (by decide +kernel))
theorem cm_102 : cwM 102 = true := by decide +kernel
theorem c0_102 : rpc (tab 102) 0 = 0 := by decide +kernel
theorem cp_102_0 : chC 102 0 = true := by decide +kernel
theorem cp_102_1 : chC 102 1 = true := by decide +kernel
theorem cp_102_2 : chC 102 2 = true := by decide +kernel
theorem cp_102_3 : chC 102 3 = true := by decide +kernel
theorem cp_102_4 : chC 102 4 = true := by decide +kernel
theorem ck_102 : ∀ i, chX 102 i = true := chX_of (n := 5) (by decide +kernel) (fun q hq => match q, hq with
  | 0, _ => cp_102_0
  | 1, _ => cp_102_1
  | 2, _ => cp_102_2
  | 3, _ => cp_102_3
  | 4, _ => cp_102_4
  | q + 5, hq => absurd hq (by omega))
theorem cm_103 : cwM 103 = true := by decide +kernel
theorem c0_103 : rpc (tab 103) 0 = 0 := by decide +kernel
theorem ck_103 : ∀ i, chX 103 i = true := chX_of (n := 2) (by decide +kernel) (chQ_of (by decide +kernel))
theorem cm_104 : cwM 104 = true := by decide +kernel
theorem c0_104 : rpc (tab 104) 0 = 0 := by decide +kernel
theorem cp_104_0 : chC 104 0 = true := by decide +kernel
theorem cp_104_1 : chC 104 1 = true := by decide +kernel
theorem cp_104_2 : chC 104 2 = true := by decide +kernel
theorem cp_104_3 : chC 104 3 = true := by decide +kernel
theorem cp_104_4 : chC 104 4 = true := by decide +kernel
theorem ck_104 : ∀ i, chX 104 i = true := chX_of (n := 5) (by decide +kernel) (fun q hq => match q, hq with
  | 0, _ => cp_104_0
  | 1, _ => cp_104_1
  | 2, _ => cp_104_2
  | 3, _ => cp_104_3
  | 4, _ => cp_104_4
  | q + 5, hq => absurd hq (by omega))
theorem cm_105 : cwM 105 = true := by decide +kernel
theorem c0_105 : rpc (tab 105) 0 = 0 := by decide +kernel
theorem ck_105 : ∀ i, chX 105 i = true := chX_of (n := 3) (by decide +kernel) (chQ_of (by decide +kernel))
theorem cm_106 : cwM 106 = true := by decide +kernel
theorem c0_106 : rpc (tab 106) 0 = 0 := by decide +kernel
theorem ck_106 : ∀ i, chX 106 i = true := chX_of (n := 2) (by decide +kernel) (chQ_of (by decide +kernel))
theorem cm_107 : cwM 107 = true := by decide +kernel
theorem c0_107 : rpc (tab 107) 0 = 0 := by decide +kernel
theorem ck_107 : ∀ i, chX 107 i = true := chX_of (n := 3) (by decide +kernel) (chQ_of (by decide +kernel))
theorem cm_108 : cwM 108 = true := by decide +kernel
theorem c0_108 : rpc (tab 108) 0 = 0 := by decide +kernel
theorem ck_108 : ∀ i, chX 108 i = true := chX_of (n := 3) (by decide +kernel) (chQ_of (by decide +kernel))
theorem cm_109 : cwM 109 = true := by decide +kernel
theorem c0_109 : rpc (tab 109) 0 = 0 := by decide +kernel
theorem ck_109 : ∀ i, chX 109 i = true := chX_of (n := 2) (by decide +kernel) (chQ_of (by decide +kernel))
theorem cm_110 : cwM 110 = true := by decide +kernel
theorem c0_110 : rpc (tab 110) 0 = 0 := by decide +kernel
theorem ck_110 : ∀ i, chX 110 i = true := chX_of (n := 3) (by decide +kernel) (chQ_of (by decide +kernel))
theorem cm_111 : cwM 111 = true := by decide +kernel
theorem c0_111 : rpc (tab 111) 0 = 0 := by decide +kernel
theorem cp_111_0 : chC 111 0 = true := by decide +kernel
theorem cp_111_1 : chC 111 1 = true := by decide +kernel
theorem cp_111_2 : chC 111 2 = true := by decide +kernel
theorem cp_111_3 : chC 111 3 = true := by decide +kernel
theorem cp_111_4 : chC 111 4 = true := by decide +kernel
theorem ck_111 : ∀ i, chX 111 i = true := chX_of (n := 5) (by decide +kernel) (fun q hq => match q, hq with
  | 0, _ => cp_111_0
  | 1, _ => cp_111_1
  | 2, _ => cp_111_2
  | 3, _ => cp_111_3
  | 4, _ => cp_111_4
  | q + 5, hq => absurd hq (by omega))
theorem cm_112 : cwM 112 = true := by decide +kernel
theorem c0_112 : rpc (tab 112) 0 = 0 := by decide +kernel
theorem ck_112 : ∀ i, chX 112 i = true := chX_of (n := 2) (by decide +kernel) (chQ_of (by decide +kernel))
theorem cm_113 : cwM 113 = true := by decide +kernel
theorem c0_113 : rpc (tab 113) 0 = 0 := by decide +kernel
theorem cp_113_0 : chC 113 0 = true := by decide +kernel
theorem cp_113_1 : chC 113 1 = true := by decide +kernel
theorem cp_113_2 : chC 113 2 = true := by decide +kernel
theorem cp_113_3 : chC 113 3 = true := by decide +kernel
theorem ck_113 : ∀ i, chX 113 i = true := chX_of (n := 4) (by decide +kernel) (fun q hq => match q, hq with
  | 0, _ => cp_113_0
  | 1, _ => cp_113_1
  | 2, _ => cp_113_2
  | 3, _ => cp_113_3
  | q + 4, hq => absurd hq (by omega))
theorem cm_114 : cwM 114 = true := by decide +kernel
theorem c0_114 : rpc (tab 114) 0 = 0 := by decide +kernel
theorem ck_114 : ∀ i, chX 114 i = true := chX_of (n := 1) (by decide +kernel) (chQ_of (by decide +kernel))
theorem cm_115 : cwM 115 = true := by decide +kernel
theorem c0_115 : rpc (tab 115) 0 = 0 := by decide +kernel
theorem ck_115 : ∀ i, chX 115 i = true := chX_of (n := 1) (by decide +kernel) (chQ_of (by decide +kernel))
theorem cm_116 : cwM 116 = true := by decide +kernel
theorem c0_116 : rpc (tab 116) 0 = 0 := by decide +kernel
theorem ck_116 : ∀ i, chX 116 i = true := chX_of (n := 1) (by decide +kernel) (chQ_of (by decide +kernel))
theorem cm_117 : cwM 117 = true := by decide +kernel
theorem c0_117 : rpc (tab 117) 0 = 0 := by decide +kernel
theorem ck_117 : ∀ i, chX 117 i = true := chX_of (n := 1) (by decide +kernel) (chQ_of (by decide +kernel))
theorem cm_118 : cwM 118 = true := by decide +kernel
theorem c0_118 : rpc (tab 118) 0 = 0 := by decide +kernel
theorem ck_118 : ∀ i, chX 118 i = true := chX_of (n := 1) (by decide +kernel) (chQ_of (by decide +kernel))
theorem cm_119 : cwM 119 = true := by decide +kernel
theorem c0_119 : rpc (tab 119) 0 = 0 := by decide +kernel
theorem ck_119 : ∀ i, chX 119 i = true := chX_of (n := 1) (by decide +kernel) (chQ_of (by decide +kernel))
theorem cm_120 : cwM 120 = true := by decide +kernel
theorem c0_120 : rpc (tab 120) 0 = 0 := by decide +kernel
theorem ck_120 : ∀ i, chX 120 i = true := chX_of (n := 2) (by decide +kernel) (chQ_of (by decide +kernel))
theorem cm_121 : cwM 121 = true := by decide +kernel
theorem c0_121 : rpc (tab 121) 0 = 0 := by decide +kernel
theorem ck_121 : ∀ i, chX 121 i = true := chX_of (n := 1) (by decide +kernel) (chQ_of (by decide +kernel))
theorem cm_122 : cwM 122 = true := by decide +kernel
theorem c0_122 : rpc (tab 122) 0 = 0 := by decide +kernel
theorem ck_122 : ∀ i, chX 122 i = true := chX_of (n := 1) (by decide +kernel) (chQ_of (by decide +kernel))
theorem cm_123 : cwM 123 = true := by decide +kernel
theorem c0_123 : rpc (tab 123) 0 = 0 := by decide +kernel
theorem ck_123 : ∀ i, chX 123 i = true := chX_of (n := 1) (by decide +kernel) (chQ_of (by decide +kernel))
theorem cm_124 : cwM 124 = true := by decide +kernel
theorem c0_124 : rpc (tab 124) 0 = 0 := by decide +kernel
theorem ck_124 : ∀ i, chX 124 i = true := chX_of (n := 1) (by decide +kernel) (chQ_of (by decide +kernel))
theorem cm_125 : cwM 125 = true := by decide +kernel
theorem c0_125 : rpc (tab 125) 0 = 0 := by decide +kernel
theorem ck_125 : ∀ i, chX 125 i = true := chX_of (n := 1) (by decide +kernel) (chQ_of (by decide +kernel))
theorem cm_126 : cwM 126 = true := by decide +kernel
theorem c0_126 : rpc (tab 126) 0 = 0 := by decide +kernel
theorem ck_126 : ∀ i, chX 126 i = true := chX_of (n := 2) (by decide +kernel) (chQ_of (by decide +kernel))
theorem cm_127 : cwM 127 = true := by decide +kernel
theorem c0_127 : rpc (tab 127) 0 = 0 := by decide +kernel
theorem ck_127 : ∀ i, chX 127 i = true := chX_of (n := 2) (by decide +kernel) (chQ_of (by decide +kernel))
theorem cm_128 : cwM 128 = true := by decide +kernel
theorem c0_128 : rpc (tab 128) 0 = 0 := by decide +kernel
theorem ck_128 : ∀ i, chX 128 i = true := chX_of (n := 3) (by decide +kernel) (chQ_of (by decide +kernel))
theorem cm_129 : cwM 129 = true := by decide +kernel
theorem c0_129 : rpc (tab 129) 0 = 0 := by decide +kernel
theorem ck_129 : ∀ i, chX 129 i = true := chX_of (n := 2) (by decide +kernel) (chQ_of (by decide +kernel))
theorem cm_130 : cwM 130 = true := by decide +kernel
theorem c0_130 : rpc (tab 130) 0 = 0 := by decide +kernel
theorem cp_130_0 : chC 130 0 = true := by decide +kernel
theorem cp_130_1 : chC 130 1 = true := by decide +kernel
theorem cp_130_2 : chC 130 2 = true := by decide +kernel
theorem cp_130_3 : chC 130 3 = true := by decide +kernel
theorem ck_130 : ∀ i, chX 130 i = true := chX_of (n := 4) (by decide +kernel) (fun q hq => match q, hq with
  | 0, _ => cp_130_0
  | 1, _ => cp_130_1
  | 2, _ => cp_130_2
  | 3, _ => cp_130_3
  | q + 4, hq => absurd hq (by omega))
theorem cm_131 : cwM 131 = true := by decide +kernel
theorem c0_131 : rpc (tab 131) 0 = 0 := by decide +kernel
theorem ck_131 : ∀ i, chX 131 i = true := chX_of (n := 2) (by decide +kernel) (chQ_of (by decide +kernel))
theorem cm_132 : cwM 132 = true := by decide +kernel
theorem c0_132 : rpc (tab 132) 0 = 0 := by decide +kernel
theorem ck_132 : ∀ i, chX 132 i = true := chX_of (n := 2) (by decide +kernel) (chQ_of (by decide +kernel))
