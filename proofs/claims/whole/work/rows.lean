section
-- ===== PART A: goes FIRST, ahead of the names: the tables' words, and 'selects' of the private methods out of them =====
/-- a private method of a class that the tables say can be made, by its rows of tables_1 -/
def lw_okq (q : MethodName × Nat) : Prop := (q.1.cls ≠ "java/lang/invoke/MethodHandle" ∧ q.1.cls ≠ "java/lang/invoke/VarHandle") ∧ Cond.instantiable q.1.cls q.2 ∈ tables_1 ∧ Cond.privateMethod q.1 ∈ tables_1 ∧ Cond.instanceMethod q.1 ∈ tables_1
theorem lw_p0 : lw_okq (⟨"HeardVotes", "putNumber", "(I)V"⟩, 20) := ⟨⟨by decide +kernel, by decide +kernel⟩, List.mem_of_getElem? (i := 24) (by decide +kernel), List.mem_of_getElem? (i := 405) (by decide +kernel), List.mem_of_getElem? (i := 406) (by decide +kernel)⟩
theorem lw_p1 : lw_okq (⟨"HeardVotes", "refused", "(I)I"⟩, 20) := ⟨⟨by decide +kernel, by decide +kernel⟩, List.mem_of_getElem? (i := 24) (by decide +kernel), List.mem_of_getElem? (i := 413) (by decide +kernel), List.mem_of_getElem? (i := 414) (by decide +kernel)⟩
theorem lw_p2 : lw_okq (⟨"HeardVotes$Reader", "takeToken", "()V"⟩, 8) := ⟨⟨by decide +kernel, by decide +kernel⟩, List.mem_of_getElem? (i := 171) (by decide +kernel), List.mem_of_getElem? (i := 425) (by decide +kernel), List.mem_of_getElem? (i := 426) (by decide +kernel)⟩
theorem lw_p3 : lw_okq (⟨"HeardVotes$Reader", "ahead", "()I"⟩, 8) := ⟨⟨by decide +kernel, by decide +kernel⟩, List.mem_of_getElem? (i := 171) (by decide +kernel), List.mem_of_getElem? (i := 429) (by decide +kernel), List.mem_of_getElem? (i := 430) (by decide +kernel)⟩
theorem lw_p4 : lw_okq (⟨"HeardVotes$Reader", "takeWord", "()V"⟩, 8) := ⟨⟨by decide +kernel, by decide +kernel⟩, List.mem_of_getElem? (i := 171) (by decide +kernel), List.mem_of_getElem? (i := 436) (by decide +kernel), List.mem_of_getElem? (i := 437) (by decide +kernel)⟩
theorem lw_p5 : lw_okq (⟨"HeardVotes$Reader", "takeWhole", "()V"⟩, 8) := ⟨⟨by decide +kernel, by decide +kernel⟩, List.mem_of_getElem? (i := 171) (by decide +kernel), List.mem_of_getElem? (i := 443) (by decide +kernel), List.mem_of_getElem? (i := 444) (by decide +kernel)⟩
theorem lw_p6 : lw_okq (⟨"HeardVotes$Reader", "takeIn", "()I"⟩, 8) := ⟨⟨by decide +kernel, by decide +kernel⟩, List.mem_of_getElem? (i := 171) (by decide +kernel), List.mem_of_getElem? (i := 447) (by decide +kernel), List.mem_of_getElem? (i := 448) (by decide +kernel)⟩
theorem lw_p7 : lw_okq (⟨"HeardVotes$Reader", "takeName", "()I"⟩, 8) := ⟨⟨by decide +kernel, by decide +kernel⟩, List.mem_of_getElem? (i := 171) (by decide +kernel), List.mem_of_getElem? (i := 451) (by decide +kernel), List.mem_of_getElem? (i := 452) (by decide +kernel)⟩
theorem lw_p8 : lw_okq (⟨"HeardVotes$Reader", "goOn", "(I)I"⟩, 8) := ⟨⟨by decide +kernel, by decide +kernel⟩, List.mem_of_getElem? (i := 171) (by decide +kernel), List.mem_of_getElem? (i := 463) (by decide +kernel), List.mem_of_getElem? (i := 464) (by decide +kernel)⟩
theorem lw_p9 : lw_okq (⟨"HeardVotes$Reader", "takeWeight", "()I"⟩, 8) := ⟨⟨by decide +kernel, by decide +kernel⟩, List.mem_of_getElem? (i := 171) (by decide +kernel), List.mem_of_getElem? (i := 468) (by decide +kernel), List.mem_of_getElem? (i := 469) (by decide +kernel)⟩
theorem lw_p10 : lw_okq (⟨"HeardVotes$Reader", "takeHeard", "()I"⟩, 8) := ⟨⟨by decide +kernel, by decide +kernel⟩, List.mem_of_getElem? (i := 171) (by decide +kernel), List.mem_of_getElem? (i := 476) (by decide +kernel), List.mem_of_getElem? (i := 477) (by decide +kernel)⟩
theorem lw_p11 : lw_okq (⟨"HeardVotes$Speech", "numberOf", "(I)I"⟩, 10) := ⟨⟨by decide +kernel, by decide +kernel⟩, List.mem_of_getElem? (i := 32) (by decide +kernel), List.mem_of_getElem? (i := 488) (by decide +kernel), List.mem_of_getElem? (i := 489) (by decide +kernel)⟩
theorem lw_p12 : lw_okq (⟨"HeardVotes$Speech", "spell", "(II)V"⟩, 10) := ⟨⟨by decide +kernel, by decide +kernel⟩, List.mem_of_getElem? (i := 32) (by decide +kernel), List.mem_of_getElem? (i := 492) (by decide +kernel), List.mem_of_getElem? (i := 493) (by decide +kernel)⟩
theorem lw_p13 : lw_okq (⟨"HeardVotes$Reader", "takeTime", "()I"⟩, 8) := ⟨⟨by decide +kernel, by decide +kernel⟩, List.mem_of_getElem? (i := 171) (by decide +kernel), List.mem_of_getElem? (i := 496) (by decide +kernel), List.mem_of_getElem? (i := 497) (by decide +kernel)⟩
theorem lw_p14 : lw_okq (⟨"HeardVotes", "answered", "(I)I"⟩, 20) := ⟨⟨by decide +kernel, by decide +kernel⟩, List.mem_of_getElem? (i := 24) (by decide +kernel), List.mem_of_getElem? (i := 539) (by decide +kernel), List.mem_of_getElem? (i := 540) (by decide +kernel)⟩
theorem lw_p15 : lw_okq (⟨"HeardVotes", "isTold", "()Z"⟩, 20) := ⟨⟨by decide +kernel, by decide +kernel⟩, List.mem_of_getElem? (i := 24) (by decide +kernel), List.mem_of_getElem? (i := 555) (by decide +kernel), List.mem_of_getElem? (i := 556) (by decide +kernel)⟩
def lw_privs_1 : List (MethodName × Nat) := [(⟨"HeardVotes", "putNumber", "(I)V"⟩, 20), (⟨"HeardVotes", "refused", "(I)I"⟩, 20), (⟨"HeardVotes$Reader", "takeToken", "()V"⟩, 8), (⟨"HeardVotes$Reader", "ahead", "()I"⟩, 8), (⟨"HeardVotes$Reader", "takeWord", "()V"⟩, 8), (⟨"HeardVotes$Reader", "takeWhole", "()V"⟩, 8), (⟨"HeardVotes$Reader", "takeIn", "()I"⟩, 8), (⟨"HeardVotes$Reader", "takeName", "()I"⟩, 8), (⟨"HeardVotes$Reader", "goOn", "(I)I"⟩, 8), (⟨"HeardVotes$Reader", "takeWeight", "()I"⟩, 8), (⟨"HeardVotes$Reader", "takeHeard", "()I"⟩, 8), (⟨"HeardVotes$Speech", "numberOf", "(I)I"⟩, 10), (⟨"HeardVotes$Speech", "spell", "(II)V"⟩, 10), (⟨"HeardVotes$Reader", "takeTime", "()I"⟩, 8), (⟨"HeardVotes", "answered", "(I)I"⟩, 20), (⟨"HeardVotes", "isTold", "()Z"⟩, 20)]
theorem lw_r1 : ∀ q ∈ lw_privs_1, lw_okq q := List.forall_mem_cons.mpr ⟨lw_p0, List.forall_mem_cons.mpr ⟨lw_p1, List.forall_mem_cons.mpr ⟨lw_p2, List.forall_mem_cons.mpr ⟨lw_p3, List.forall_mem_cons.mpr ⟨lw_p4, List.forall_mem_cons.mpr ⟨lw_p5, List.forall_mem_cons.mpr ⟨lw_p6, List.forall_mem_cons.mpr ⟨lw_p7, List.forall_mem_cons.mpr ⟨lw_p8, List.forall_mem_cons.mpr ⟨lw_p9, List.forall_mem_cons.mpr ⟨lw_p10, List.forall_mem_cons.mpr ⟨lw_p11, List.forall_mem_cons.mpr ⟨lw_p12, List.forall_mem_cons.mpr ⟨lw_p13, List.forall_mem_cons.mpr ⟨lw_p14, List.forall_mem_cons.mpr ⟨lw_p15, fun _ h => absurd h List.not_mem_nil⟩⟩⟩⟩⟩⟩⟩⟩⟩⟩⟩⟩⟩⟩⟩⟩
theorem lw_p16 : lw_okq (⟨"HeardVotes$Ballot", "vote", "(II)V"⟩, 12) := ⟨⟨by decide +kernel, by decide +kernel⟩, List.mem_of_getElem? (i := 223) (by decide +kernel), List.mem_of_getElem? (i := 579) (by decide +kernel), List.mem_of_getElem? (i := 580) (by decide +kernel)⟩
theorem lw_p17 : lw_okq (⟨"HeardVotes$Ballot", "moveAhead", "(I)V"⟩, 12) := ⟨⟨by decide +kernel, by decide +kernel⟩, List.mem_of_getElem? (i := 223) (by decide +kernel), List.mem_of_getElem? (i := 591) (by decide +kernel), List.mem_of_getElem? (i := 592) (by decide +kernel)⟩
theorem lw_p18 : lw_okq (⟨"HeardVotes", "costsOfJoined", "()I"⟩, 20) := ⟨⟨by decide +kernel, by decide +kernel⟩, List.mem_of_getElem? (i := 24) (by decide +kernel), List.mem_of_getElem? (i := 599) (by decide +kernel), List.mem_of_getElem? (i := 600) (by decide +kernel)⟩
theorem lw_p19 : lw_okq (⟨"HeardVotes", "weightsOfJoined", "()I"⟩, 20) := ⟨⟨by decide +kernel, by decide +kernel⟩, List.mem_of_getElem? (i := 24) (by decide +kernel), List.mem_of_getElem? (i := 608) (by decide +kernel), List.mem_of_getElem? (i := 609) (by decide +kernel)⟩
theorem lw_p20 : lw_okq (⟨"HeardVotes", "isHearing", "(I)Z"⟩, 20) := ⟨⟨by decide +kernel, by decide +kernel⟩, List.mem_of_getElem? (i := 24) (by decide +kernel), List.mem_of_getElem? (i := 617) (by decide +kernel), List.mem_of_getElem? (i := 618) (by decide +kernel)⟩
theorem lw_p21 : lw_okq (⟨"HeardVotes", "winnersOf", "(I)I"⟩, 20) := ⟨⟨by decide +kernel, by decide +kernel⟩, List.mem_of_getElem? (i := 24) (by decide +kernel), List.mem_of_getElem? (i := 623) (by decide +kernel), List.mem_of_getElem? (i := 624) (by decide +kernel)⟩
theorem lw_p22 : lw_okq (⟨"HeardVotes", "isWord", "(I)Z"⟩, 20) := ⟨⟨by decide +kernel, by decide +kernel⟩, List.mem_of_getElem? (i := 24) (by decide +kernel), List.mem_of_getElem? (i := 645) (by decide +kernel), List.mem_of_getElem? (i := 646) (by decide +kernel)⟩
theorem lw_p23 : lw_okq (⟨"HeardVotes", "refusedAct", "(I)Z"⟩, 20) := ⟨⟨by decide +kernel, by decide +kernel⟩, List.mem_of_getElem? (i := 24) (by decide +kernel), List.mem_of_getElem? (i := 678) (by decide +kernel), List.mem_of_getElem? (i := 679) (by decide +kernel)⟩
theorem lw_p24 : lw_okq (⟨"HeardVotes", "beginAct", "()V"⟩, 20) := ⟨⟨by decide +kernel, by decide +kernel⟩, List.mem_of_getElem? (i := 24) (by decide +kernel), List.mem_of_getElem? (i := 685) (by decide +kernel), List.mem_of_getElem? (i := 686) (by decide +kernel)⟩
theorem lw_p25 : lw_okq (⟨"HeardVotes$Weaver", "lookInto", "(LHeardVotes$Net;I)V"⟩, 11) := ⟨⟨by decide +kernel, by decide +kernel⟩, List.mem_of_getElem? (i := 270) (by decide +kernel), List.mem_of_getElem? (i := 740) (by decide +kernel), List.mem_of_getElem? (i := 741) (by decide +kernel)⟩
theorem lw_p26 : lw_okq (⟨"HeardVotes$Weaver", "matchCost", "(II)I"⟩, 11) := ⟨⟨by decide +kernel, by decide +kernel⟩, List.mem_of_getElem? (i := 270) (by decide +kernel), List.mem_of_getElem? (i := 751) (by decide +kernel), List.mem_of_getElem? (i := 752) (by decide +kernel)⟩
theorem lw_p27 : lw_okq (⟨"HeardVotes$Weaver", "followSteps", "(II)V"⟩, 11) := ⟨⟨by decide +kernel, by decide +kernel⟩, List.mem_of_getElem? (i := 270) (by decide +kernel), List.mem_of_getElem? (i := 757) (by decide +kernel), List.mem_of_getElem? (i := 758) (by decide +kernel)⟩
theorem lw_p28 : lw_okq (⟨"HeardVotes", "nextToJoin", "(I)I"⟩, 20) := ⟨⟨by decide +kernel, by decide +kernel⟩, List.mem_of_getElem? (i := 24) (by decide +kernel), List.mem_of_getElem? (i := 786) (by decide +kernel), List.mem_of_getElem? (i := 787) (by decide +kernel)⟩
theorem lw_p29 : lw_okq (⟨"HeardVotes", "weightByRight", "(I)I"⟩, 20) := ⟨⟨by decide +kernel, by decide +kernel⟩, List.mem_of_getElem? (i := 24) (by decide +kernel), List.mem_of_getElem? (i := 813) (by decide +kernel), List.mem_of_getElem? (i := 814) (by decide +kernel)⟩
theorem lw_p30 : lw_okq (⟨"HeardVotes", "isSlot", "(I)Z"⟩, 20) := ⟨⟨by decide +kernel, by decide +kernel⟩, List.mem_of_getElem? (i := 24) (by decide +kernel), List.mem_of_getElem? (i := 840) (by decide +kernel), List.mem_of_getElem? (i := 841) (by decide +kernel)⟩
theorem lw_p31 : lw_okq (⟨"HeardVotes", "placeInHeard", "(I)I"⟩, 20) := ⟨⟨by decide +kernel, by decide +kernel⟩, List.mem_of_getElem? (i := 24) (by decide +kernel), List.mem_of_getElem? (i := 849) (by decide +kernel), List.mem_of_getElem? (i := 850) (by decide +kernel)⟩
def lw_privs_2 : List (MethodName × Nat) := [(⟨"HeardVotes$Ballot", "vote", "(II)V"⟩, 12), (⟨"HeardVotes$Ballot", "moveAhead", "(I)V"⟩, 12), (⟨"HeardVotes", "costsOfJoined", "()I"⟩, 20), (⟨"HeardVotes", "weightsOfJoined", "()I"⟩, 20), (⟨"HeardVotes", "isHearing", "(I)Z"⟩, 20), (⟨"HeardVotes", "winnersOf", "(I)I"⟩, 20), (⟨"HeardVotes", "isWord", "(I)Z"⟩, 20), (⟨"HeardVotes", "refusedAct", "(I)Z"⟩, 20), (⟨"HeardVotes", "beginAct", "()V"⟩, 20), (⟨"HeardVotes$Weaver", "lookInto", "(LHeardVotes$Net;I)V"⟩, 11), (⟨"HeardVotes$Weaver", "matchCost", "(II)I"⟩, 11), (⟨"HeardVotes$Weaver", "followSteps", "(II)V"⟩, 11), (⟨"HeardVotes", "nextToJoin", "(I)I"⟩, 20), (⟨"HeardVotes", "weightByRight", "(I)I"⟩, 20), (⟨"HeardVotes", "isSlot", "(I)Z"⟩, 20), (⟨"HeardVotes", "placeInHeard", "(I)I"⟩, 20)]
theorem lw_r2 : ∀ q ∈ lw_privs_2, lw_okq q := List.forall_mem_cons.mpr ⟨lw_p16, List.forall_mem_cons.mpr ⟨lw_p17, List.forall_mem_cons.mpr ⟨lw_p18, List.forall_mem_cons.mpr ⟨lw_p19, List.forall_mem_cons.mpr ⟨lw_p20, List.forall_mem_cons.mpr ⟨lw_p21, List.forall_mem_cons.mpr ⟨lw_p22, List.forall_mem_cons.mpr ⟨lw_p23, List.forall_mem_cons.mpr ⟨lw_p24, List.forall_mem_cons.mpr ⟨lw_p25, List.forall_mem_cons.mpr ⟨lw_p26, List.forall_mem_cons.mpr ⟨lw_p27, List.forall_mem_cons.mpr ⟨lw_p28, List.forall_mem_cons.mpr ⟨lw_p29, List.forall_mem_cons.mpr ⟨lw_p30, List.forall_mem_cons.mpr ⟨lw_p31, fun _ h => absurd h List.not_mem_nil⟩⟩⟩⟩⟩⟩⟩⟩⟩⟩⟩⟩⟩⟩⟩⟩
theorem lw_p32 : lw_okq (⟨"HeardVotes", "leastTime", "(I)I"⟩, 20) := ⟨⟨by decide +kernel, by decide +kernel⟩, List.mem_of_getElem? (i := 24) (by decide +kernel), List.mem_of_getElem? (i := 857) (by decide +kernel), List.mem_of_getElem? (i := 858) (by decide +kernel)⟩
theorem lw_p33 : lw_okq (⟨"HeardVotes", "greatestTime", "(I)I"⟩, 20) := ⟨⟨by decide +kernel, by decide +kernel⟩, List.mem_of_getElem? (i := 24) (by decide +kernel), List.mem_of_getElem? (i := 861) (by decide +kernel), List.mem_of_getElem? (i := 862) (by decide +kernel)⟩
theorem lw_p34 : lw_okq (⟨"HeardVotes$Ballot", "isMoreDoubtful", "(II)Z"⟩, 12) := ⟨⟨by decide +kernel, by decide +kernel⟩, List.mem_of_getElem? (i := 223) (by decide +kernel), List.mem_of_getElem? (i := 898) (by decide +kernel), List.mem_of_getElem? (i := 899) (by decide +kernel)⟩
theorem lw_p35 : lw_okq (⟨"HeardVotes$Orders", "keepOrder", "(LHeardVotes$Net;I)V"⟩, 6) := ⟨⟨by decide +kernel, by decide +kernel⟩, List.mem_of_getElem? (i := 310) (by decide +kernel), List.mem_of_getElem? (i := 943) (by decide +kernel), List.mem_of_getElem? (i := 944) (by decide +kernel)⟩
theorem lw_p36 : lw_okq (⟨"HeardVotes", "putWritten", "(I)V"⟩, 20) := ⟨⟨by decide +kernel, by decide +kernel⟩, List.mem_of_getElem? (i := 24) (by decide +kernel), List.mem_of_getElem? (i := 959) (by decide +kernel), List.mem_of_getElem? (i := 960) (by decide +kernel)⟩
theorem lw_p37 : lw_okq (⟨"HeardVotes", "writeWord", "(I)V"⟩, 20) := ⟨⟨by decide +kernel, by decide +kernel⟩, List.mem_of_getElem? (i := 24) (by decide +kernel), List.mem_of_getElem? (i := 963) (by decide +kernel), List.mem_of_getElem? (i := 964) (by decide +kernel)⟩
theorem lw_p38 : lw_okq (⟨"java/lang/Throwable", "fillInStackTrace", "(I)Ljava/lang/Throwable;"⟩, 6) := ⟨⟨by decide +kernel, by decide +kernel⟩, List.mem_of_getElem? (i := 1023) (by decide +kernel), List.mem_of_getElem? (i := 1021) (by decide +kernel), List.mem_of_getElem? (i := 1022) (by decide +kernel)⟩
theorem lw_p39 : lw_okq (⟨"HeardVotesModel", "refused", "(I)I"⟩, 48) := ⟨⟨by decide +kernel, by decide +kernel⟩, List.mem_of_getElem? (i := 1053) (by decide +kernel), List.mem_of_getElem? (i := 1228) (by decide +kernel), List.mem_of_getElem? (i := 1229) (by decide +kernel)⟩
theorem lw_p40 : lw_okq (⟨"HeardVotesModel", "goOn", "()V"⟩, 48) := ⟨⟨by decide +kernel, by decide +kernel⟩, List.mem_of_getElem? (i := 1053) (by decide +kernel), List.mem_of_getElem? (i := 1232) (by decide +kernel), List.mem_of_getElem? (i := 1233) (by decide +kernel)⟩
theorem lw_p41 : lw_okq (⟨"HeardVotesModel", "isLetterAt", "(I)Z"⟩, 48) := ⟨⟨by decide +kernel, by decide +kernel⟩, List.mem_of_getElem? (i := 1053) (by decide +kernel), List.mem_of_getElem? (i := 1236) (by decide +kernel), List.mem_of_getElem? (i := 1237) (by decide +kernel)⟩
theorem lw_p42 : lw_okq (⟨"HeardVotesModel", "isDigitAt", "(I)Z"⟩, 48) := ⟨⟨by decide +kernel, by decide +kernel⟩, List.mem_of_getElem? (i := 1053) (by decide +kernel), List.mem_of_getElem? (i := 1242) (by decide +kernel), List.mem_of_getElem? (i := 1243) (by decide +kernel)⟩
theorem lw_p43 : lw_okq (⟨"HeardVotesModel", "readLine", "()V"⟩, 48) := ⟨⟨by decide +kernel, by decide +kernel⟩, List.mem_of_getElem? (i := 1053) (by decide +kernel), List.mem_of_getElem? (i := 1246) (by decide +kernel), List.mem_of_getElem? (i := 1247) (by decide +kernel)⟩
theorem lw_p44 : lw_okq (⟨"HeardVotesModel", "flaw", "(I)V"⟩, 48) := ⟨⟨by decide +kernel, by decide +kernel⟩, List.mem_of_getElem? (i := 1053) (by decide +kernel), List.mem_of_getElem? (i := 1250) (by decide +kernel), List.mem_of_getElem? (i := 1251) (by decide +kernel)⟩
theorem lw_p45 : lw_okq (⟨"HeardVotesModel", "readWhole", "(II)I"⟩, 48) := ⟨⟨by decide +kernel, by decide +kernel⟩, List.mem_of_getElem? (i := 1053) (by decide +kernel), List.mem_of_getElem? (i := 1309) (by decide +kernel), List.mem_of_getElem? (i := 1310) (by decide +kernel)⟩
theorem lw_p46 : lw_okq (⟨"HeardVotesModel", "isSign", "(I)Z"⟩, 48) := ⟨⟨by decide +kernel, by decide +kernel⟩, List.mem_of_getElem? (i := 1053) (by decide +kernel), List.mem_of_getElem? (i := 1313) (by decide +kernel), List.mem_of_getElem? (i := 1314) (by decide +kernel)⟩
theorem lw_p47 : lw_okq (⟨"HeardVotesModel", "holds", "()V"⟩, 48) := ⟨⟨by decide +kernel, by decide +kernel⟩, List.mem_of_getElem? (i := 1053) (by decide +kernel), List.mem_of_getElem? (i := 1317) (by decide +kernel), List.mem_of_getElem? (i := 1318) (by decide +kernel)⟩
def lw_privs_3 : List (MethodName × Nat) := [(⟨"HeardVotes", "leastTime", "(I)I"⟩, 20), (⟨"HeardVotes", "greatestTime", "(I)I"⟩, 20), (⟨"HeardVotes$Ballot", "isMoreDoubtful", "(II)Z"⟩, 12), (⟨"HeardVotes$Orders", "keepOrder", "(LHeardVotes$Net;I)V"⟩, 6), (⟨"HeardVotes", "putWritten", "(I)V"⟩, 20), (⟨"HeardVotes", "writeWord", "(I)V"⟩, 20), (⟨"java/lang/Throwable", "fillInStackTrace", "(I)Ljava/lang/Throwable;"⟩, 6), (⟨"HeardVotesModel", "refused", "(I)I"⟩, 48), (⟨"HeardVotesModel", "goOn", "()V"⟩, 48), (⟨"HeardVotesModel", "isLetterAt", "(I)Z"⟩, 48), (⟨"HeardVotesModel", "isDigitAt", "(I)Z"⟩, 48), (⟨"HeardVotesModel", "readLine", "()V"⟩, 48), (⟨"HeardVotesModel", "flaw", "(I)V"⟩, 48), (⟨"HeardVotesModel", "readWhole", "(II)I"⟩, 48), (⟨"HeardVotesModel", "isSign", "(I)Z"⟩, 48), (⟨"HeardVotesModel", "holds", "()V"⟩, 48)]
theorem lw_r3 : ∀ q ∈ lw_privs_3, lw_okq q := List.forall_mem_cons.mpr ⟨lw_p32, List.forall_mem_cons.mpr ⟨lw_p33, List.forall_mem_cons.mpr ⟨lw_p34, List.forall_mem_cons.mpr ⟨lw_p35, List.forall_mem_cons.mpr ⟨lw_p36, List.forall_mem_cons.mpr ⟨lw_p37, List.forall_mem_cons.mpr ⟨lw_p38, List.forall_mem_cons.mpr ⟨lw_p39, List.forall_mem_cons.mpr ⟨lw_p40, List.forall_mem_cons.mpr ⟨lw_p41, List.forall_mem_cons.mpr ⟨lw_p42, List.forall_mem_cons.mpr ⟨lw_p43, List.forall_mem_cons.mpr ⟨lw_p44, List.forall_mem_cons.mpr ⟨lw_p45, List.forall_mem_cons.mpr ⟨lw_p46, List.forall_mem_cons.mpr ⟨lw_p47, fun _ h => absurd h List.not_mem_nil⟩⟩⟩⟩⟩⟩⟩⟩⟩⟩⟩⟩⟩⟩⟩⟩
theorem lw_p48 : lw_okq (⟨"HeardVotesModel", "good", "(I)I"⟩, 48) := ⟨⟨by decide +kernel, by decide +kernel⟩, List.mem_of_getElem? (i := 1053) (by decide +kernel), List.mem_of_getElem? (i := 1324) (by decide +kernel), List.mem_of_getElem? (i := 1325) (by decide +kernel)⟩
theorem lw_p49 : lw_okq (⟨"HeardVotesModel", "heardBy", "([I[I)I"⟩, 48) := ⟨⟨by decide +kernel, by decide +kernel⟩, List.mem_of_getElem? (i := 1053) (by decide +kernel), List.mem_of_getElem? (i := 1336) (by decide +kernel), List.mem_of_getElem? (i := 1337) (by decide +kernel)⟩
theorem lw_p50 : lw_okq (⟨"HeardVotesModel", "winner", "([II)I"⟩, 48) := ⟨⟨by decide +kernel, by decide +kernel⟩, List.mem_of_getElem? (i := 1053) (by decide +kernel), List.mem_of_getElem? (i := 1340) (by decide +kernel), List.mem_of_getElem? (i := 1341) (by decide +kernel)⟩
theorem lw_p51 : lw_okq (⟨"HeardVotesModel", "votes", "([II)V"⟩, 48) := ⟨⟨by decide +kernel, by decide +kernel⟩, List.mem_of_getElem? (i := 1053) (by decide +kernel), List.mem_of_getElem? (i := 1344) (by decide +kernel), List.mem_of_getElem? (i := 1345) (by decide +kernel)⟩
theorem lw_p52 : lw_okq (⟨"HeardVotesModel", "gives", "(II)V"⟩, 48) := ⟨⟨by decide +kernel, by decide +kernel⟩, List.mem_of_getElem? (i := 1053) (by decide +kernel), List.mem_of_getElem? (i := 1354) (by decide +kernel), List.mem_of_getElem? (i := 1355) (by decide +kernel)⟩
theorem lw_p53 : lw_okq (⟨"HeardVotesModel", "isAhead", "(II)Z"⟩, 48) := ⟨⟨by decide +kernel, by decide +kernel⟩, List.mem_of_getElem? (i := 1053) (by decide +kernel), List.mem_of_getElem? (i := 1358) (by decide +kernel), List.mem_of_getElem? (i := 1359) (by decide +kernel)⟩
theorem lw_p54 : lw_okq (⟨"HeardVotesModel", "swaps", "(I)V"⟩, 48) := ⟨⟨by decide +kernel, by decide +kernel⟩, List.mem_of_getElem? (i := 1053) (by decide +kernel), List.mem_of_getElem? (i := 1362) (by decide +kernel), List.mem_of_getElem? (i := 1363) (by decide +kernel)⟩
theorem lw_p55 : lw_okq (⟨"HeardVotesModel", "isHearing", "(I)Z"⟩, 48) := ⟨⟨by decide +kernel, by decide +kernel⟩, List.mem_of_getElem? (i := 1053) (by decide +kernel), List.mem_of_getElem? (i := 1373) (by decide +kernel), List.mem_of_getElem? (i := 1374) (by decide +kernel)⟩
theorem lw_p56 : lw_okq (⟨"HeardVotesModel", "rightOf", "([II)I"⟩, 48) := ⟨⟨by decide +kernel, by decide +kernel⟩, List.mem_of_getElem? (i := 1053) (by decide +kernel), List.mem_of_getElem? (i := 1377) (by decide +kernel), List.mem_of_getElem? (i := 1378) (by decide +kernel)⟩
theorem lw_p57 : lw_okq (⟨"HeardVotesModel", "slotWith", "(II)I"⟩, 48) := ⟨⟨by decide +kernel, by decide +kernel⟩, List.mem_of_getElem? (i := 1053) (by decide +kernel), List.mem_of_getElem? (i := 1385) (by decide +kernel), List.mem_of_getElem? (i := 1386) (by decide +kernel)⟩
theorem lw_p58 : lw_okq (⟨"HeardVotesModel", "farOf", "(II)I"⟩, 48) := ⟨⟨by decide +kernel, by decide +kernel⟩, List.mem_of_getElem? (i := 1053) (by decide +kernel), List.mem_of_getElem? (i := 1403) (by decide +kernel), List.mem_of_getElem? (i := 1404) (by decide +kernel)⟩
theorem lw_p59 : lw_okq (⟨"HeardVotesModel", "apart", "(II)I"⟩, 48) := ⟨⟨by decide +kernel, by decide +kernel⟩, List.mem_of_getElem? (i := 1053) (by decide +kernel), List.mem_of_getElem? (i := 1407) (by decide +kernel), List.mem_of_getElem? (i := 1408) (by decide +kernel)⟩
theorem lw_p60 : lw_okq (⟨"HeardVotesModel", "laysHearing", "(I[I)I"⟩, 48) := ⟨⟨by decide +kernel, by decide +kernel⟩, List.mem_of_getElem? (i := 1053) (by decide +kernel), List.mem_of_getElem? (i := 1415) (by decide +kernel), List.mem_of_getElem? (i := 1416) (by decide +kernel)⟩
theorem lw_p61 : lw_okq (⟨"HeardVotesModel", "done", "(I)Z"⟩, 48) := ⟨⟨by decide +kernel, by decide +kernel⟩, List.mem_of_getElem? (i := 1053) (by decide +kernel), List.mem_of_getElem? (i := 1423) (by decide +kernel), List.mem_of_getElem? (i := 1424) (by decide +kernel)⟩
theorem lw_p62 : lw_okq (⟨"HeardVotesModel", "remembers", "()V"⟩, 48) := ⟨⟨by decide +kernel, by decide +kernel⟩, List.mem_of_getElem? (i := 1053) (by decide +kernel), List.mem_of_getElem? (i := 1427) (by decide +kernel), List.mem_of_getElem? (i := 1428) (by decide +kernel)⟩
theorem lw_p63 : lw_okq (⟨"HeardVotesModel", "puts", "(III)Z"⟩, 48) := ⟨⟨by decide +kernel, by decide +kernel⟩, List.mem_of_getElem? (i := 1053) (by decide +kernel), List.mem_of_getElem? (i := 1435) (by decide +kernel), List.mem_of_getElem? (i := 1436) (by decide +kernel)⟩
def lw_privs_4 : List (MethodName × Nat) := [(⟨"HeardVotesModel", "good", "(I)I"⟩, 48), (⟨"HeardVotesModel", "heardBy", "([I[I)I"⟩, 48), (⟨"HeardVotesModel", "winner", "([II)I"⟩, 48), (⟨"HeardVotesModel", "votes", "([II)V"⟩, 48), (⟨"HeardVotesModel", "gives", "(II)V"⟩, 48), (⟨"HeardVotesModel", "isAhead", "(II)Z"⟩, 48), (⟨"HeardVotesModel", "swaps", "(I)V"⟩, 48), (⟨"HeardVotesModel", "isHearing", "(I)Z"⟩, 48), (⟨"HeardVotesModel", "rightOf", "([II)I"⟩, 48), (⟨"HeardVotesModel", "slotWith", "(II)I"⟩, 48), (⟨"HeardVotesModel", "farOf", "(II)I"⟩, 48), (⟨"HeardVotesModel", "apart", "(II)I"⟩, 48), (⟨"HeardVotesModel", "laysHearing", "(I[I)I"⟩, 48), (⟨"HeardVotesModel", "done", "(I)Z"⟩, 48), (⟨"HeardVotesModel", "remembers", "()V"⟩, 48), (⟨"HeardVotesModel", "puts", "(III)Z"⟩, 48)]
theorem lw_r4 : ∀ q ∈ lw_privs_4, lw_okq q := List.forall_mem_cons.mpr ⟨lw_p48, List.forall_mem_cons.mpr ⟨lw_p49, List.forall_mem_cons.mpr ⟨lw_p50, List.forall_mem_cons.mpr ⟨lw_p51, List.forall_mem_cons.mpr ⟨lw_p52, List.forall_mem_cons.mpr ⟨lw_p53, List.forall_mem_cons.mpr ⟨lw_p54, List.forall_mem_cons.mpr ⟨lw_p55, List.forall_mem_cons.mpr ⟨lw_p56, List.forall_mem_cons.mpr ⟨lw_p57, List.forall_mem_cons.mpr ⟨lw_p58, List.forall_mem_cons.mpr ⟨lw_p59, List.forall_mem_cons.mpr ⟨lw_p60, List.forall_mem_cons.mpr ⟨lw_p61, List.forall_mem_cons.mpr ⟨lw_p62, List.forall_mem_cons.mpr ⟨lw_p63, fun _ h => absurd h List.not_mem_nil⟩⟩⟩⟩⟩⟩⟩⟩⟩⟩⟩⟩⟩⟩⟩⟩
theorem lw_p64 : lw_okq (⟨"HeardVotesModel", "joins", "([II)I"⟩, 48) := ⟨⟨by decide +kernel, by decide +kernel⟩, List.mem_of_getElem? (i := 1053) (by decide +kernel), List.mem_of_getElem? (i := 1451) (by decide +kernel), List.mem_of_getElem? (i := 1452) (by decide +kernel)⟩
theorem lw_p65 : lw_okq (⟨"HeardVotesModel", "ways", "([II)I"⟩, 48) := ⟨⟨by decide +kernel, by decide +kernel⟩, List.mem_of_getElem? (i := 1053) (by decide +kernel), List.mem_of_getElem? (i := 1455) (by decide +kernel), List.mem_of_getElem? (i := 1456) (by decide +kernel)⟩
theorem lw_p66 : lw_okq (⟨"HeardVotesModel", "match", "([IIII)I"⟩, 48) := ⟨⟨by decide +kernel, by decide +kernel⟩, List.mem_of_getElem? (i := 1053) (by decide +kernel), List.mem_of_getElem? (i := 1459) (by decide +kernel), List.mem_of_getElem? (i := 1460) (by decide +kernel)⟩
theorem lw_p67 : lw_okq (⟨"HeardVotesModel", "timeOf", "([II)I"⟩, 48) := ⟨⟨by decide +kernel, by decide +kernel⟩, List.mem_of_getElem? (i := 1053) (by decide +kernel), List.mem_of_getElem? (i := 1463) (by decide +kernel), List.mem_of_getElem? (i := 1464) (by decide +kernel)⟩
theorem lw_p68 : lw_okq (⟨"HeardVotesModel", "nextOne", "(I)I"⟩, 48) := ⟨⟨by decide +kernel, by decide +kernel⟩, List.mem_of_getElem? (i := 1053) (by decide +kernel), List.mem_of_getElem? (i := 1471) (by decide +kernel), List.mem_of_getElem? (i := 1472) (by decide +kernel)⟩
theorem lw_p69 : lw_okq (⟨"HeardVotesModel", "dropsOnPaper", "(I)V"⟩, 48) := ⟨⟨by decide +kernel, by decide +kernel⟩, List.mem_of_getElem? (i := 1053) (by decide +kernel), List.mem_of_getElem? (i := 1479) (by decide +kernel), List.mem_of_getElem? (i := 1480) (by decide +kernel)⟩
theorem lw_p70 : lw_okq (⟨"HeardVotesModel", "copies", "()V"⟩, 48) := ⟨⟨by decide +kernel, by decide +kernel⟩, List.mem_of_getElem? (i := 1053) (by decide +kernel), List.mem_of_getElem? (i := 1483) (by decide +kernel), List.mem_of_getElem? (i := 1484) (by decide +kernel)⟩
theorem lw_p71 : lw_okq (⟨"HeardVotesModel", "acted", "()V"⟩, 48) := ⟨⟨by decide +kernel, by decide +kernel⟩, List.mem_of_getElem? (i := 1053) (by decide +kernel), List.mem_of_getElem? (i := 1487) (by decide +kernel), List.mem_of_getElem? (i := 1488) (by decide +kernel)⟩
theorem lw_p72 : lw_okq (⟨"HeardVotesModel", "isSlot", "(I)Z"⟩, 48) := ⟨⟨by decide +kernel, by decide +kernel⟩, List.mem_of_getElem? (i := 1053) (by decide +kernel), List.mem_of_getElem? (i := 1499) (by decide +kernel), List.mem_of_getElem? (i := 1500) (by decide +kernel)⟩
theorem lw_p73 : lw_okq (⟨"HeardVotesModel", "wordsThere", "(I)I"⟩, 48) := ⟨⟨by decide +kernel, by decide +kernel⟩, List.mem_of_getElem? (i := 1053) (by decide +kernel), List.mem_of_getElem? (i := 1503) (by decide +kernel), List.mem_of_getElem? (i := 1504) (by decide +kernel)⟩
theorem lw_p74 : lw_okq (⟨"HeardVotesModel", "placeHeard", "(I)I"⟩, 48) := ⟨⟨by decide +kernel, by decide +kernel⟩, List.mem_of_getElem? (i := 1053) (by decide +kernel), List.mem_of_getElem? (i := 1507) (by decide +kernel), List.mem_of_getElem? (i := 1508) (by decide +kernel)⟩
theorem lw_p75 : lw_okq (⟨"HeardVotesModel", "endTime", "(IZ)I"⟩, 48) := ⟨⟨by decide +kernel, by decide +kernel⟩, List.mem_of_getElem? (i := 1053) (by decide +kernel), List.mem_of_getElem? (i := 1511) (by decide +kernel), List.mem_of_getElem? (i := 1512) (by decide +kernel)⟩
theorem lw_p76 : lw_okq (⟨"HeardVotesModel", "doubtOf", "([II)I"⟩, 48) := ⟨⟨by decide +kernel, by decide +kernel⟩, List.mem_of_getElem? (i := 1053) (by decide +kernel), List.mem_of_getElem? (i := 1530) (by decide +kernel), List.mem_of_getElem? (i := 1531) (by decide +kernel)⟩
theorem lw_p77 : lw_okq (⟨"HeardVotesModel", "ahead", "(I)I"⟩, 48) := ⟨⟨by decide +kernel, by decide +kernel⟩, List.mem_of_getElem? (i := 1053) (by decide +kernel), List.mem_of_getElem? (i := 1538) (by decide +kernel), List.mem_of_getElem? (i := 1539) (by decide +kernel)⟩
theorem lw_p78 : lw_okq (⟨"HeardVotesModel", "slotOf", "(I)I"⟩, 48) := ⟨⟨by decide +kernel, by decide +kernel⟩, List.mem_of_getElem? (i := 1053) (by decide +kernel), List.mem_of_getElem? (i := 1546) (by decide +kernel), List.mem_of_getElem? (i := 1547) (by decide +kernel)⟩
theorem lw_p79 : lw_okq (⟨"HeardVotesModel", "heardAt", "(I)I"⟩, 48) := ⟨⟨by decide +kernel, by decide +kernel⟩, List.mem_of_getElem? (i := 1053) (by decide +kernel), List.mem_of_getElem? (i := 1550) (by decide +kernel), List.mem_of_getElem? (i := 1551) (by decide +kernel)⟩
def lw_privs_5 : List (MethodName × Nat) := [(⟨"HeardVotesModel", "joins", "([II)I"⟩, 48), (⟨"HeardVotesModel", "ways", "([II)I"⟩, 48), (⟨"HeardVotesModel", "match", "([IIII)I"⟩, 48), (⟨"HeardVotesModel", "timeOf", "([II)I"⟩, 48), (⟨"HeardVotesModel", "nextOne", "(I)I"⟩, 48), (⟨"HeardVotesModel", "dropsOnPaper", "(I)V"⟩, 48), (⟨"HeardVotesModel", "copies", "()V"⟩, 48), (⟨"HeardVotesModel", "acted", "()V"⟩, 48), (⟨"HeardVotesModel", "isSlot", "(I)Z"⟩, 48), (⟨"HeardVotesModel", "wordsThere", "(I)I"⟩, 48), (⟨"HeardVotesModel", "placeHeard", "(I)I"⟩, 48), (⟨"HeardVotesModel", "endTime", "(IZ)I"⟩, 48), (⟨"HeardVotesModel", "doubtOf", "([II)I"⟩, 48), (⟨"HeardVotesModel", "ahead", "(I)I"⟩, 48), (⟨"HeardVotesModel", "slotOf", "(I)I"⟩, 48), (⟨"HeardVotesModel", "heardAt", "(I)I"⟩, 48)]
theorem lw_r5 : ∀ q ∈ lw_privs_5, lw_okq q := List.forall_mem_cons.mpr ⟨lw_p64, List.forall_mem_cons.mpr ⟨lw_p65, List.forall_mem_cons.mpr ⟨lw_p66, List.forall_mem_cons.mpr ⟨lw_p67, List.forall_mem_cons.mpr ⟨lw_p68, List.forall_mem_cons.mpr ⟨lw_p69, List.forall_mem_cons.mpr ⟨lw_p70, List.forall_mem_cons.mpr ⟨lw_p71, List.forall_mem_cons.mpr ⟨lw_p72, List.forall_mem_cons.mpr ⟨lw_p73, List.forall_mem_cons.mpr ⟨lw_p74, List.forall_mem_cons.mpr ⟨lw_p75, List.forall_mem_cons.mpr ⟨lw_p76, List.forall_mem_cons.mpr ⟨lw_p77, List.forall_mem_cons.mpr ⟨lw_p78, List.forall_mem_cons.mpr ⟨lw_p79, fun _ h => absurd h List.not_mem_nil⟩⟩⟩⟩⟩⟩⟩⟩⟩⟩⟩⟩⟩⟩⟩⟩
theorem lw_p80 : lw_okq (⟨"HeardVotesModel", "refusesPaper", "(I)I"⟩, 48) := ⟨⟨by decide +kernel, by decide +kernel⟩, List.mem_of_getElem? (i := 1053) (by decide +kernel), List.mem_of_getElem? (i := 1562) (by decide +kernel), List.mem_of_getElem? (i := 1563) (by decide +kernel)⟩
theorem lw_p81 : lw_okq (⟨"HeardVotesModel", "tries", "(I)V"⟩, 48) := ⟨⟨by decide +kernel, by decide +kernel⟩, List.mem_of_getElem? (i := 1053) (by decide +kernel), List.mem_of_getElem? (i := 1578) (by decide +kernel), List.mem_of_getElem? (i := 1579) (by decide +kernel)⟩
theorem lw_p82 : lw_okq (⟨"HeardVotesModel", "isIn", "(II)Z"⟩, 48) := ⟨⟨by decide +kernel, by decide +kernel⟩, List.mem_of_getElem? (i := 1053) (by decide +kernel), List.mem_of_getElem? (i := 1582) (by decide +kernel), List.mem_of_getElem? (i := 1583) (by decide +kernel)⟩
theorem lw_p83 : lw_okq (⟨"HeardVotesModel", "inks", "(I)V"⟩, 48) := ⟨⟨by decide +kernel, by decide +kernel⟩, List.mem_of_getElem? (i := 1053) (by decide +kernel), List.mem_of_getElem? (i := 1590) (by decide +kernel), List.mem_of_getElem? (i := 1591) (by decide +kernel)⟩
def lw_privs_6 : List (MethodName × Nat) := [(⟨"HeardVotesModel", "refusesPaper", "(I)I"⟩, 48), (⟨"HeardVotesModel", "tries", "(I)V"⟩, 48), (⟨"HeardVotesModel", "isIn", "(II)Z"⟩, 48), (⟨"HeardVotesModel", "inks", "(I)V"⟩, 48)]
theorem lw_r6 : ∀ q ∈ lw_privs_6, lw_okq q := List.forall_mem_cons.mpr ⟨lw_p80, List.forall_mem_cons.mpr ⟨lw_p81, List.forall_mem_cons.mpr ⟨lw_p82, List.forall_mem_cons.mpr ⟨lw_p83, fun _ h => absurd h List.not_mem_nil⟩⟩⟩⟩
def lw_privs : List (MethodName × Nat) := lw_privs_1 ++ (lw_privs_2 ++ (lw_privs_3 ++ (lw_privs_4 ++ (lw_privs_5 ++ (lw_privs_6)))))
def lw_tbl : List Cond := k2_sels lw_privs ++ tables_1
theorem lw_privs_ok : ∀ q ∈ lw_privs, lw_okq q := by
  show ∀ q ∈ lw_privs_1 ++ (lw_privs_2 ++ (lw_privs_3 ++ (lw_privs_4 ++ (lw_privs_5 ++ (lw_privs_6))))), lw_okq q
  exact List.forall_mem_append.mpr ⟨lw_r1, List.forall_mem_append.mpr ⟨lw_r2, List.forall_mem_append.mpr ⟨lw_r3, List.forall_mem_append.mpr ⟨lw_r4, List.forall_mem_append.mpr ⟨lw_r5, lw_r6⟩⟩⟩⟩⟩
-- ===== end of PART A; then your names; then what follows =====
end
section
def RX0 : String := "HeardVotes$Acts"
def TX0 : u_T := fun k => match k with
  | 0 => ("HeardVotes$Acts", "count", "I", false)
  | 1 => ("HeardVotes$Acts", "next", "I", false)
  | _ => ("HeardVotes$Acts", "kept", "[I", true)
def tyX0 : Nat → FieldType := fun k => match k with
  | 0 => .int
  | 1 => .int
  | _ => .array .int
abbrev wsX00 : List Cond := u_ws RX0 TX0 3
theorem nmX0 : ∀ a, a < 3 → ∀ b, b < 3 → a ≠ b → (TX0 a).2.1 ≠ (TX0 b).2.1 := by decide +kernel
theorem tyX0_ok : ∀ k, k < 3 → parseFieldDescriptor (TX0 k).2.2.1 = some (tyX0 k) := by decide +kernel
abbrev cX0_init : ByteArray := prog_2_method_1_code
def yX0_init : MethodName := ⟨RX0, "<init>", "()V"⟩
abbrev cX0_clear : ByteArray := prog_2_method_2_code
def yX0_clear : MethodName := ⟨RX0, "clear", "()V"⟩
abbrev cX0_keep : ByteArray := prog_2_method_3_code
def yX0_keep : MethodName := ⟨RX0, "keep", "(LHeardVotes$Rules;LHeardVotes$Net;)V"⟩
abbrev cX0_takeBack : ByteArray := prog_2_method_4_code
def yX0_takeBack : MethodName := ⟨RX0, "takeBack", "(LHeardVotes$Rules;LHeardVotes$Net;)V"⟩
def RX1 : String := "HeardVotes$Ballot"
def TX1 : u_T := fun k => match k with
  | 0 => ("HeardVotes$Ballot", "choices", "I", false)
  | 1 => ("HeardVotes$Ballot", "total", "I", false)
  | 2 => ("HeardVotes$Ballot", "heardCount", "I", false)
  | 3 => ("HeardVotes$Ballot", "heardWords", "[I", true)
  | 4 => ("HeardVotes$Ballot", "heardSlots", "[I", true)
  | 5 => ("HeardVotes$Ballot", "chosen", "[I", true)
  | 6 => ("HeardVotes$Ballot", "points", "[I", true)
  | 7 => ("HeardVotes$Ballot", "doubtAbove", "[I", true)
  | 8 => ("HeardVotes$Ballot", "doubtBelow", "[I", true)
  | 9 => ("HeardVotes$Ballot", "ranked", "[I", true)
  | 10 => ("HeardVotes$Ballot", "speech", "LHeardVotes$Speech;", true)
  | _ => ("HeardVotes$Ballot", "rules", "LHeardVotes$Rules;", true)
def tyX1 : Nat → FieldType := fun k => match k with
  | 0 => .int
  | 1 => .int
  | 2 => .int
  | 3 => .array .int
  | 4 => .array .int
  | 5 => .array .int
  | 6 => .array .int
  | 7 => .array .int
  | 8 => .array .int
  | 9 => .array .int
  | 10 => .object "HeardVotes$Speech"
  | _ => .object "HeardVotes$Rules"
abbrev wsX10 : List Cond := u_ws RX1 TX1 12
theorem nmX1 : ∀ a, a < 12 → ∀ b, b < 12 → a ≠ b → (TX1 a).2.1 ≠ (TX1 b).2.1 := by decide +kernel
theorem tyX1_ok : ∀ k, k < 12 → parseFieldDescriptor (TX1 k).2.2.1 = some (tyX1 k) := by decide +kernel
abbrev cX1_init : ByteArray := prog_3_method_1_code
def yX1_init : MethodName := ⟨RX1, "<init>", "(LHeardVotes$Speech;LHeardVotes$Rules;)V"⟩
abbrev cX1_tally : ByteArray := prog_3_method_2_code
def yX1_tally : MethodName := ⟨RX1, "tally", "(LHeardVotes$Net;I)V"⟩
abbrev cX1_vote : ByteArray := prog_3_method_3_code
def yX1_vote : MethodName := ⟨RX1, "vote", "(II)V"⟩
abbrev cX1_moveAhead : ByteArray := prog_3_method_4_code
def yX1_moveAhead : MethodName := ⟨RX1, "moveAhead", "(I)V"⟩
abbrev cX1_wordOfChoice : ByteArray := prog_3_method_5_code
def yX1_wordOfChoice : MethodName := ⟨RX1, "wordOfChoice", "(I)I"⟩
abbrev cX1_pointsOfChoice : ByteArray := prog_3_method_6_code
def yX1_pointsOfChoice : MethodName := ⟨RX1, "pointsOfChoice", "(I)I"⟩
abbrev cX1_doubtPoints : ByteArray := prog_3_method_7_code
def yX1_doubtPoints : MethodName := ⟨RX1, "doubtPoints", "()I"⟩
abbrev cX1_listHeard : ByteArray := prog_3_method_8_code
def yX1_listHeard : MethodName := ⟨RX1, "listHeard", "(LHeardVotes$Net;)V"⟩
abbrev cX1_heardWord : ByteArray := prog_3_method_9_code
def yX1_heardWord : MethodName := ⟨RX1, "heardWord", "(I)I"⟩
abbrev cX1_heardSlot : ByteArray := prog_3_method_10_code
def yX1_heardSlot : MethodName := ⟨RX1, "heardSlot", "(I)I"⟩
abbrev cX1_listDoubts : ByteArray := prog_3_method_11_code
def yX1_listDoubts : MethodName := ⟨RX1, "listDoubts", "(LHeardVotes$Net;)V"⟩
abbrev cX1_isMoreDoubtful : ByteArray := prog_3_method_12_code
def yX1_isMoreDoubtful : MethodName := ⟨RX1, "isMoreDoubtful", "(II)Z"⟩
abbrev cX1_mostDoubtful : ByteArray := prog_3_method_13_code
def yX1_mostDoubtful : MethodName := ⟨RX1, "mostDoubtful", "(I)I"⟩
abbrev cX1_isAboveHalf : ByteArray := prog_3_method_14_code
def yX1_isAboveHalf : MethodName := ⟨RX1, "isAboveHalf", "(I)Z"⟩
abbrev cX1_meanTime : ByteArray := prog_3_method_15_code
def yX1_meanTime : MethodName := ⟨RX1, "meanTime", "(LHeardVotes$Net;II)I"⟩
def RX2 : String := "HeardVotes$Fars"
def TX2 : u_T := fun k => match k with
  | 0 => ("HeardVotes$Fars", "speech", "LHeardVotes$Speech;", true)
  | 1 => ("HeardVotes$Fars", "rows", "LHeardVotes$Rows;", true)
  | _ => ("HeardVotes$Fars", "known", "[I", true)
def tyX2 : Nat → FieldType := fun k => match k with
  | 0 => .object "HeardVotes$Speech"
  | 1 => .object "HeardVotes$Rows"
  | _ => .array .int
abbrev wsX20 : List Cond := u_ws RX2 TX2 3
theorem nmX2 : ∀ a, a < 3 → ∀ b, b < 3 → a ≠ b → (TX2 a).2.1 ≠ (TX2 b).2.1 := by decide +kernel
theorem tyX2_ok : ∀ k, k < 3 → parseFieldDescriptor (TX2 k).2.2.1 = some (tyX2 k) := by decide +kernel
abbrev cX2_init : ByteArray := prog_4_method_1_code
def yX2_init : MethodName := ⟨RX2, "<init>", "(LHeardVotes$Speech;LHeardVotes$Rows;)V"⟩
abbrev cX2_forget : ByteArray := prog_4_method_2_code
def yX2_forget : MethodName := ⟨RX2, "forget", "()V"⟩
abbrev cX2_apart : ByteArray := prog_4_method_3_code
def yX2_apart : MethodName := ⟨RX2, "apart", "(II)I"⟩
def RX3 : String := "HeardVotes$Net"
def TX3 : u_T := fun k => match k with
  | 0 => ("HeardVotes$Net", "slots", "I", false)
  | 1 => ("HeardVotes$Net", "joined", "I", false)
  | 2 => ("HeardVotes$Net", "order", "[I", true)
  | 3 => ("HeardVotes$Net", "places", "[I", true)
  | 4 => ("HeardVotes$Net", "costs", "[I", true)
  | _ => ("HeardVotes$Net", "there", "[I", true)
def tyX3 : Nat → FieldType := fun k => match k with
  | 0 => .int
  | 1 => .int
  | 2 => .array .int
  | 3 => .array .int
  | 4 => .array .int
  | _ => .array .int
abbrev wsX30 : List Cond := u_ws RX3 TX3 6
theorem nmX3 : ∀ a, a < 6 → ∀ b, b < 6 → a ≠ b → (TX3 a).2.1 ≠ (TX3 b).2.1 := by decide +kernel
theorem tyX3_ok : ∀ k, k < 6 → parseFieldDescriptor (TX3 k).2.2.1 = some (tyX3 k) := by decide +kernel
abbrev cX3_init : ByteArray := prog_5_method_1_code
def yX3_init : MethodName := ⟨RX3, "<init>", "()V"⟩
abbrev cX3_clear : ByteArray := prog_5_method_2_code
def yX3_clear : MethodName := ⟨RX3, "clear", "()V"⟩
abbrev cX3_copyFrom : ByteArray := prog_5_method_3_code
def yX3_copyFrom : MethodName := ⟨RX3, "copyFrom", "(LHeardVotes$Net;)V"⟩
abbrev cX3_keepIn : ByteArray := prog_5_method_4_code
def yX3_keepIn : MethodName := ⟨RX3, "keepIn", "([II)V"⟩
abbrev cX3_takeFrom : ByteArray := prog_5_method_5_code
def yX3_takeFrom : MethodName := ⟨RX3, "takeFrom", "([II)V"⟩
abbrev cX3_placeOf : ByteArray := prog_5_method_6_code
def yX3_placeOf : MethodName := ⟨RX3, "placeOf", "(I)I"⟩
abbrev cX3_holds : ByteArray := prog_5_method_7_code
def yX3_holds : MethodName := ⟨RX3, "holds", "(I)Z"⟩
abbrev cX3_costOf : ByteArray := prog_5_method_8_code
def yX3_costOf : MethodName := ⟨RX3, "costOf", "(I)I"⟩
abbrev cX3_joinedAt : ByteArray := prog_5_method_9_code
def yX3_joinedAt : MethodName := ⟨RX3, "joinedAt", "(I)I"⟩
abbrev cX3_thereOf : ByteArray := prog_5_method_10_code
def yX3_thereOf : MethodName := ⟨RX3, "thereOf", "(II)I"⟩
abbrev cX3_slotOf : ByteArray := prog_5_method_11_code
def yX3_slotOf : MethodName := ⟨RX3, "slotOf", "(II)I"⟩
abbrev cX3_wordsThere : ByteArray := prog_5_method_12_code
def yX3_wordsThere : MethodName := ⟨RX3, "wordsThere", "(I)I"⟩
abbrev cX3_putThere : ByteArray := prog_5_method_13_code
def yX3_putThere : MethodName := ⟨RX3, "putThere", "(III)V"⟩
abbrev cX3_emptySlot : ByteArray := prog_5_method_14_code
def yX3_emptySlot : MethodName := ⟨RX3, "emptySlot", "(I)V"⟩
abbrev cX3_moveSlot : ByteArray := prog_5_method_15_code
def yX3_moveSlot : MethodName := ⟨RX3, "moveSlot", "(II)V"⟩
abbrev cX3_addJoined : ByteArray := prog_5_method_16_code
def yX3_addJoined : MethodName := ⟨RX3, "addJoined", "(II)V"⟩
def RX4 : String := "HeardVotes$Orders"
def TX4 : u_T := fun k => match k with
  | 0 => ("HeardVotes$Orders", "least", "I", false)
  | 1 => ("HeardVotes$Orders", "isKnown", "Z", false)
  | 2 => ("HeardVotes$Orders", "speech", "LHeardVotes$Speech;", true)
  | 3 => ("HeardVotes$Orders", "weaver", "LHeardVotes$Weaver;", true)
  | 4 => ("HeardVotes$Orders", "first", "[I", true)
  | _ => ("HeardVotes$Orders", "nets", "[LHeardVotes$Net;", true)
def tyX4 : Nat → FieldType := fun k => match k with
  | 0 => .int
  | 1 => .boolean
  | 2 => .object "HeardVotes$Speech"
  | 3 => .object "HeardVotes$Weaver"
  | 4 => .array .int
  | _ => .array (.object "HeardVotes$Net")
abbrev wsX40 : List Cond := u_ws RX4 TX4 6
theorem nmX4 : ∀ a, a < 6 → ∀ b, b < 6 → a ≠ b → (TX4 a).2.1 ≠ (TX4 b).2.1 := by decide +kernel
theorem tyX4_ok : ∀ k, k < 6 → parseFieldDescriptor (TX4 k).2.2.1 = some (tyX4 k) := by decide +kernel
abbrev cX4_init : ByteArray := prog_6_method_1_code
def yX4_init : MethodName := ⟨RX4, "<init>", "(LHeardVotes$Speech;LHeardVotes$Weaver;)V"⟩
abbrev cX4_forget : ByteArray := prog_6_method_2_code
def yX4_forget : MethodName := ⟨RX4, "forget", "()V"⟩
abbrev cX4_find : ByteArray := prog_6_method_3_code
def yX4_find : MethodName := ⟨RX4, "find", "()V"⟩
abbrev cX4_hearingAt : ByteArray := prog_6_method_4_code
def yX4_hearingAt : MethodName := ⟨RX4, "hearingAt", "(I)I"⟩
abbrev cX4_goOn : ByteArray := prog_6_method_5_code
def yX4_goOn : MethodName := ⟨RX4, "goOn", "(LHeardVotes$Orders;II)V"⟩
abbrev cX4_keepOrder : ByteArray := prog_6_method_6_code
def yX4_keepOrder : MethodName := ⟨RX4, "keepOrder", "(LHeardVotes$Net;I)V"⟩
def RX5 : String := "HeardVotes$Reader"
def TX5 : u_T := fun k => match k with
  | 0 => ("HeardVotes$Reader", "speech", "LHeardVotes$Speech;", true)
  | 1 => ("HeardVotes$Reader", "start", "I", false)
  | 2 => ("HeardVotes$Reader", "bytes", "[I", true)
  | 3 => ("HeardVotes$Reader", "length", "I", false)
  | 4 => ("HeardVotes$Reader", "next", "I", false)
  | 5 => ("HeardVotes$Reader", "kind", "I", false)
  | 6 => ("HeardVotes$Reader", "value", "I", false)
  | _ => ("HeardVotes$Reader", "awaited", "I", false)
def tyX5 : Nat → FieldType := fun k => match k with
  | 0 => .object "HeardVotes$Speech"
  | 1 => .int
  | 2 => .array .int
  | 3 => .int
  | 4 => .int
  | 5 => .int
  | 6 => .int
  | _ => .int
abbrev wsX50 : List Cond := u_ws RX5 TX5 8
theorem nmX5 : ∀ a, a < 8 → ∀ b, b < 8 → a ≠ b → (TX5 a).2.1 ≠ (TX5 b).2.1 := by decide +kernel
theorem tyX5_ok : ∀ k, k < 8 → parseFieldDescriptor (TX5 k).2.2.1 = some (tyX5 k) := by decide +kernel
abbrev cX5_init : ByteArray := prog_7_method_1_code
def yX5_init : MethodName := ⟨RX5, "<init>", "([I)V"⟩
abbrev cX5_read : ByteArray := prog_7_method_2_code
def yX5_read : MethodName := ⟨RX5, "read", "(I)I"⟩
abbrev cX5_ahead : ByteArray := prog_7_method_3_code
def yX5_ahead : MethodName := ⟨RX5, "ahead", "()I"⟩
abbrev cX5_takeToken : ByteArray := prog_7_method_4_code
def yX5_takeToken : MethodName := ⟨RX5, "takeToken", "()V"⟩
abbrev cX5_takeWord : ByteArray := prog_7_method_5_code
def yX5_takeWord : MethodName := ⟨RX5, "takeWord", "()V"⟩
abbrev cX5_takeWhole : ByteArray := prog_7_method_6_code
def yX5_takeWhole : MethodName := ⟨RX5, "takeWhole", "()V"⟩
abbrev cX5_isLetter : ByteArray := prog_7_method_7_code
def yX5_isLetter : MethodName := ⟨RX5, "isLetter", "(I)Z"⟩
abbrev cX5_isDigit : ByteArray := prog_7_method_8_code
def yX5_isDigit : MethodName := ⟨RX5, "isDigit", "(I)Z"⟩
abbrev cX5_takeIn : ByteArray := prog_7_method_9_code
def yX5_takeIn : MethodName := ⟨RX5, "takeIn", "()I"⟩
abbrev cX5_goOn : ByteArray := prog_7_method_10_code
def yX5_goOn : MethodName := ⟨RX5, "goOn", "(I)I"⟩
abbrev cX5_takeName : ByteArray := prog_7_method_11_code
def yX5_takeName : MethodName := ⟨RX5, "takeName", "()I"⟩
abbrev cX5_takeWeight : ByteArray := prog_7_method_12_code
def yX5_takeWeight : MethodName := ⟨RX5, "takeWeight", "()I"⟩
abbrev cX5_takeHeard : ByteArray := prog_7_method_13_code
def yX5_takeHeard : MethodName := ⟨RX5, "takeHeard", "()I"⟩
abbrev cX5_takeTime : ByteArray := prog_7_method_14_code
def yX5_takeTime : MethodName := ⟨RX5, "takeTime", "()I"⟩
def RX6 : String := "HeardVotes$Rows"
def TX6 : u_T := fun k => match k with
  | _ => ("HeardVotes$Rows", "line", "[I", true)
def tyX6 : Nat → FieldType := fun k => match k with
  | _ => .array .int
abbrev wsX60 : List Cond := u_ws RX6 TX6 1
theorem nmX6 : ∀ a, a < 1 → ∀ b, b < 1 → a ≠ b → (TX6 a).2.1 ≠ (TX6 b).2.1 := by decide +kernel
theorem tyX6_ok : ∀ k, k < 1 → parseFieldDescriptor (TX6 k).2.2.1 = some (tyX6 k) := by decide +kernel
abbrev cX6_init : ByteArray := prog_8_method_1_code
def yX6_init : MethodName := ⟨RX6, "<init>", "()V"⟩
abbrev cX6_changes : ByteArray := prog_8_method_2_code
def yX6_changes : MethodName := ⟨RX6, "changes", "([III[III)I"⟩
def RX7 : String := "HeardVotes$Rules"
def TX7 : u_T := fun k => match k with
  | 0 => ("HeardVotes$Rules", "fresh", "I", false)
  | 1 => ("HeardVotes$Rules", "gap", "I", false)
  | 2 => ("HeardVotes$Rules", "nearest", "I", false)
  | 3 => ("HeardVotes$Rules", "window", "I", false)
  | 4 => ("HeardVotes$Rules", "share", "I", false)
  | _ => ("HeardVotes$Rules", "weights", "[I", true)
def tyX7 : Nat → FieldType := fun k => match k with
  | 0 => .int
  | 1 => .int
  | 2 => .int
  | 3 => .int
  | 4 => .int
  | _ => .array .int
abbrev wsX70 : List Cond := u_ws RX7 TX7 6
theorem nmX7 : ∀ a, a < 6 → ∀ b, b < 6 → a ≠ b → (TX7 a).2.1 ≠ (TX7 b).2.1 := by decide +kernel
theorem tyX7_ok : ∀ k, k < 6 → parseFieldDescriptor (TX7 k).2.2.1 = some (tyX7 k) := by decide +kernel
abbrev cX7_init : ByteArray := prog_9_method_1_code
def yX7_init : MethodName := ⟨RX7, "<init>", "()V"⟩
abbrev cX7_begin : ByteArray := prog_9_method_2_code
def yX7_begin : MethodName := ⟨RX7, "begin", "(LHeardVotes$Speech;)V"⟩
abbrev cX7_keepIn : ByteArray := prog_9_method_3_code
def yX7_keepIn : MethodName := ⟨RX7, "keepIn", "([II)V"⟩
abbrev cX7_takeFrom : ByteArray := prog_9_method_4_code
def yX7_takeFrom : MethodName := ⟨RX7, "takeFrom", "([II)V"⟩
abbrev cX7_weightOf : ByteArray := prog_9_method_5_code
def yX7_weightOf : MethodName := ⟨RX7, "weightOf", "(I)I"⟩
abbrev cX7_setWeight : ByteArray := prog_9_method_6_code
def yX7_setWeight : MethodName := ⟨RX7, "setWeight", "(II)V"⟩
def RX8 : String := "HeardVotes$Speech"
def TX8 : u_T := fun k => match k with
  | 0 => ("HeardVotes$Speech", "hearings", "I", false)
  | 1 => ("HeardVotes$Speech", "words", "I", false)
  | 2 => ("HeardVotes$Speech", "wordAt", "[I", true)
  | 3 => ("HeardVotes$Speech", "timeAt", "[I", true)
  | 4 => ("HeardVotes$Speech", "names", "[I", true)
  | 5 => ("HeardVotes$Speech", "weights", "[I", true)
  | 6 => ("HeardVotes$Speech", "counts", "[I", true)
  | 7 => ("HeardVotes$Speech", "spelled", "[I", true)
  | 8 => ("HeardVotes$Speech", "letters", "[I", true)
  | _ => ("HeardVotes$Speech", "lengths", "[I", true)
def tyX8 : Nat → FieldType := fun k => match k with
  | 0 => .int
  | 1 => .int
  | 2 => .array .int
  | 3 => .array .int
  | 4 => .array .int
  | 5 => .array .int
  | 6 => .array .int
  | 7 => .array .int
  | 8 => .array .int
  | _ => .array .int
abbrev wsX80 : List Cond := u_ws RX8 TX8 10
theorem nmX8 : ∀ a, a < 10 → ∀ b, b < 10 → a ≠ b → (TX8 a).2.1 ≠ (TX8 b).2.1 := by decide +kernel
theorem tyX8_ok : ∀ k, k < 10 → parseFieldDescriptor (TX8 k).2.2.1 = some (tyX8 k) := by decide +kernel
abbrev cX8_init : ByteArray := prog_10_method_1_code
def yX8_init : MethodName := ⟨RX8, "<init>", "()V"⟩
abbrev cX8_clear : ByteArray := prog_10_method_2_code
def yX8_clear : MethodName := ⟨RX8, "clear", "()V"⟩
abbrev cX8_copyFrom : ByteArray := prog_10_method_3_code
def yX8_copyFrom : MethodName := ⟨RX8, "copyFrom", "(LHeardVotes$Speech;)V"⟩
abbrev cX8_countOf : ByteArray := prog_10_method_4_code
def yX8_countOf : MethodName := ⟨RX8, "countOf", "(I)I"⟩
abbrev cX8_weightTold : ByteArray := prog_10_method_5_code
def yX8_weightTold : MethodName := ⟨RX8, "weightTold", "(I)I"⟩
abbrev cX8_wordOf : ByteArray := prog_10_method_6_code
def yX8_wordOf : MethodName := ⟨RX8, "wordOf", "(II)I"⟩
abbrev cX8_timeOf : ByteArray := prog_10_method_7_code
def yX8_timeOf : MethodName := ⟨RX8, "timeOf", "(II)I"⟩
abbrev cX8_letterOf : ByteArray := prog_10_method_8_code
def yX8_letterOf : MethodName := ⟨RX8, "letterOf", "(II)I"⟩
abbrev cX8_lengthOf : ByteArray := prog_10_method_9_code
def yX8_lengthOf : MethodName := ⟨RX8, "lengthOf", "(I)I"⟩
abbrev cX8_hasName : ByteArray := prog_10_method_10_code
def yX8_hasName : MethodName := ⟨RX8, "hasName", "(I)Z"⟩
abbrev cX8_addHearing : ByteArray := prog_10_method_11_code
def yX8_addHearing : MethodName := ⟨RX8, "addHearing", "(I)Z"⟩
abbrev cX8_setWeight : ByteArray := prog_10_method_12_code
def yX8_setWeight : MethodName := ⟨RX8, "setWeight", "(I)V"⟩
abbrev cX8_addWord : ByteArray := prog_10_method_13_code
def yX8_addWord : MethodName := ⟨RX8, "addWord", "(I)Z"⟩
abbrev cX8_setTime : ByteArray := prog_10_method_14_code
def yX8_setTime : MethodName := ⟨RX8, "setTime", "(I)Z"⟩
abbrev cX8_numberOf : ByteArray := prog_10_method_15_code
def yX8_numberOf : MethodName := ⟨RX8, "numberOf", "(I)I"⟩
abbrev cX8_spell : ByteArray := prog_10_method_16_code
def yX8_spell : MethodName := ⟨RX8, "spell", "(II)V"⟩
def RX9 : String := "HeardVotes$Weaver"
def TX9 : u_T := fun k => match k with
  | 0 => ("HeardVotes$Weaver", "speech", "LHeardVotes$Speech;", true)
  | 1 => ("HeardVotes$Weaver", "rules", "LHeardVotes$Rules;", true)
  | 2 => ("HeardVotes$Weaver", "fars", "LHeardVotes$Fars;", true)
  | 3 => ("HeardVotes$Weaver", "ballot", "LHeardVotes$Ballot;", true)
  | 4 => ("HeardVotes$Weaver", "rest", "[I", true)
  | 5 => ("HeardVotes$Weaver", "stepAt", "[I", true)
  | 6 => ("HeardVotes$Weaver", "way", "[I", true)
  | 7 => ("HeardVotes$Weaver", "steps", "I", false)
  | 8 => ("HeardVotes$Weaver", "slotWords", "[I", true)
  | 9 => ("HeardVotes$Weaver", "slotCount", "I", false)
  | _ => ("HeardVotes$Weaver", "slotTime", "I", false)
def tyX9 : Nat → FieldType := fun k => match k with
  | 0 => .object "HeardVotes$Speech"
  | 1 => .object "HeardVotes$Rules"
  | 2 => .object "HeardVotes$Fars"
  | 3 => .object "HeardVotes$Ballot"
  | 4 => .array .int
  | 5 => .array .int
  | 6 => .array .int
  | 7 => .int
  | 8 => .array .int
  | 9 => .int
  | _ => .int
abbrev wsX90 : List Cond := u_ws RX9 TX9 11
theorem nmX9 : ∀ a, a < 11 → ∀ b, b < 11 → a ≠ b → (TX9 a).2.1 ≠ (TX9 b).2.1 := by decide +kernel
theorem tyX9_ok : ∀ k, k < 11 → parseFieldDescriptor (TX9 k).2.2.1 = some (tyX9 k) := by decide +kernel
abbrev cX9_init : ByteArray := prog_11_method_1_code
def yX9_init : MethodName := ⟨RX9, "<init>", "(LHeardVotes$Speech;LHeardVotes$Rules;LHeardVotes$Fars;LHeardVotes$Ballot;)V"⟩
abbrev cX9_plan : ByteArray := prog_11_method_2_code
def yX9_plan : MethodName := ⟨RX9, "plan", "(LHeardVotes$Net;I)I"⟩
abbrev cX9_lookInto : ByteArray := prog_11_method_3_code
def yX9_lookInto : MethodName := ⟨RX9, "lookInto", "(LHeardVotes$Net;I)V"⟩
abbrev cX9_matchCost : ByteArray := prog_11_method_4_code
def yX9_matchCost : MethodName := ⟨RX9, "matchCost", "(II)I"⟩
abbrev cX9_followSteps : ByteArray := prog_11_method_5_code
def yX9_followSteps : MethodName := ⟨RX9, "followSteps", "(II)V"⟩
abbrev cX9_stepOf : ByteArray := prog_11_method_6_code
def yX9_stepOf : MethodName := ⟨RX9, "stepOf", "(I)I"⟩
abbrev cX9_weave : ByteArray := prog_11_method_7_code
def yX9_weave : MethodName := ⟨RX9, "weave", "(LHeardVotes$Net;I)I"⟩
abbrev cX9_weaveWithout : ByteArray := prog_11_method_8_code
def yX9_weaveWithout : MethodName := ⟨RX9, "weaveWithout", "(LHeardVotes$Net;ILHeardVotes$Net;)V"⟩
def RX10 : String := "HeardVotes"
def TX10 : u_T := fun k => match k with
  | 0 => ("HeardVotes", "tape", "[I", true)
  | 1 => ("HeardVotes", "written", "[I", true)
  | 2 => ("HeardVotes", "newWeights", "[I", true)
  | 3 => ("HeardVotes", "heardBefore", "[I", true)
  | 4 => ("HeardVotes", "speech", "LHeardVotes$Speech;", true)
  | 5 => ("HeardVotes", "rules", "LHeardVotes$Rules;", true)
  | 6 => ("HeardVotes", "net", "LHeardVotes$Net;", true)
  | 7 => ("HeardVotes", "paper", "LHeardVotes$Net;", true)
  | 8 => ("HeardVotes", "acts", "LHeardVotes$Acts;", true)
  | 9 => ("HeardVotes", "rows", "LHeardVotes$Rows;", true)
  | 10 => ("HeardVotes", "reader", "LHeardVotes$Reader;", true)
  | 11 => ("HeardVotes", "fars", "LHeardVotes$Fars;", true)
  | 12 => ("HeardVotes", "ballot", "LHeardVotes$Ballot;", true)
  | 13 => ("HeardVotes", "weaver", "LHeardVotes$Weaver;", true)
  | 14 => ("HeardVotes", "orders", "LHeardVotes$Orders;", true)
  | 15 => ("HeardVotes", "tapeSize", "I", false)
  | 16 => ("HeardVotes", "writtenSize", "I", false)
  | 17 => ("HeardVotes", "trouble", "I", false)
  | 18 => ("HeardVotes", "fault", "I", false)
  | _ => ("HeardVotes", "place", "I", false)
def tyX10 : Nat → FieldType := fun k => match k with
  | 0 => .array .int
  | 1 => .array .int
  | 2 => .array .int
  | 3 => .array .int
  | 4 => .object "HeardVotes$Speech"
  | 5 => .object "HeardVotes$Rules"
  | 6 => .object "HeardVotes$Net"
  | 7 => .object "HeardVotes$Net"
  | 8 => .object "HeardVotes$Acts"
  | 9 => .object "HeardVotes$Rows"
  | 10 => .object "HeardVotes$Reader"
  | 11 => .object "HeardVotes$Fars"
  | 12 => .object "HeardVotes$Ballot"
  | 13 => .object "HeardVotes$Weaver"
  | 14 => .object "HeardVotes$Orders"
  | 15 => .int
  | 16 => .int
  | 17 => .int
  | 18 => .int
  | _ => .int
abbrev wsX100 : List Cond := u_ws RX10 TX10 20
theorem nmX10 : ∀ a, a < 20 → ∀ b, b < 20 → a ≠ b → (TX10 a).2.1 ≠ (TX10 b).2.1 := by decide +kernel
theorem tyX10_ok : ∀ k, k < 20 → parseFieldDescriptor (TX10 k).2.2.1 = some (tyX10 k) := by decide +kernel
abbrev cX10_init : ByteArray := prog_1_method_1_code
def yX10_init : MethodName := ⟨RX10, "<init>", "()V"⟩
abbrev cX10_feed : ByteArray := prog_1_method_2_code
def yX10_feed : MethodName := ⟨RX10, "feed", "(IIIII)I"⟩
abbrev cX10_text : ByteArray := prog_1_method_3_code
def yX10_text : MethodName := ⟨RX10, "text", "(I)I"⟩
abbrev cX10_fault : ByteArray := prog_1_method_4_code
def yX10_fault : MethodName := ⟨RX10, "fault", "()I"⟩
abbrev cX10_where : ByteArray := prog_1_method_5_code
def yX10_where : MethodName := ⟨RX10, "where", "()I"⟩
abbrev cX10_about : ByteArray := prog_1_method_6_code
def yX10_about : MethodName := ⟨RX10, "about", "(I)I"⟩
abbrev cX10_hearing : ByteArray := prog_1_method_7_code
def yX10_hearing : MethodName := ⟨RX10, "hearing", "(II)I"⟩
abbrev cX10_word : ByteArray := prog_1_method_8_code
def yX10_word : MethodName := ⟨RX10, "word", "(III)I"⟩
abbrev cX10_letter : ByteArray := prog_1_method_9_code
def yX10_letter : MethodName := ⟨RX10, "letter", "(II)I"⟩
abbrev cX10_far : ByteArray := prog_1_method_10_code
def yX10_far : MethodName := ⟨RX10, "far", "(II)I"⟩
abbrev cX10_between : ByteArray := prog_1_method_11_code
def yX10_between : MethodName := ⟨RX10, "between", "(II)I"⟩
abbrev cX10_costs : ByteArray := prog_1_method_12_code
def yX10_costs : MethodName := ⟨RX10, "costs", "(III)Z"⟩
abbrev cX10_window : ByteArray := prog_1_method_13_code
def yX10_window : MethodName := ⟨RX10, "window", "(I)Z"⟩
abbrev cX10_share : ByteArray := prog_1_method_14_code
def yX10_share : MethodName := ⟨RX10, "share", "(I)Z"⟩
abbrev cX10_weight : ByteArray := prog_1_method_15_code
def yX10_weight : MethodName := ⟨RX10, "weight", "(II)I"⟩
abbrev cX10_join : ByteArray := prog_1_method_16_code
def yX10_join : MethodName := ⟨RX10, "join", "(I)I"⟩
abbrev cX10_joinAll : ByteArray := prog_1_method_17_code
def yX10_joinAll : MethodName := ⟨RX10, "joinAll", "(I)I"⟩
abbrev cX10_drop : ByteArray := prog_1_method_18_code
def yX10_drop : MethodName := ⟨RX10, "drop", "(I)I"⟩
abbrev cX10_weigh : ByteArray := prog_1_method_19_code
def yX10_weigh : MethodName := ⟨RX10, "weigh", "()I"⟩
abbrev cX10_undo : ByteArray := prog_1_method_20_code
def yX10_undo : MethodName := ⟨RX10, "undo", "()I"⟩
abbrev cX10_slot : ByteArray := prog_1_method_21_code
def yX10_slot : MethodName := ⟨RX10, "slot", "(II)I"⟩
abbrev cX10_at : ByteArray := prog_1_method_22_code
def yX10_at : MethodName := ⟨RX10, "at", "(II)I"⟩
abbrev cX10_choice : ByteArray := prog_1_method_23_code
def yX10_choice : MethodName := ⟨RX10, "choice", "(III)I"⟩
abbrev cX10_doubt : ByteArray := prog_1_method_24_code
def yX10_doubt : MethodName := ⟨RX10, "doubt", "(II)I"⟩
abbrev cX10_doubtful : ByteArray := prog_1_method_25_code
def yX10_doubtful : MethodName := ⟨RX10, "doubtful", "(I)I"⟩
abbrev cX10_heard : ByteArray := prog_1_method_26_code
def yX10_heard : MethodName := ⟨RX10, "heard", "(II)I"⟩
abbrev cX10_errors : ByteArray := prog_1_method_27_code
def yX10_errors : MethodName := ⟨RX10, "errors", "(I)I"⟩
abbrev cX10_cost : ByteArray := prog_1_method_28_code
def yX10_cost : MethodName := ⟨RX10, "cost", "(I)I"⟩
abbrev cX10_way : ByteArray := prog_1_method_29_code
def yX10_way : MethodName := ⟨RX10, "way", "(II)I"⟩
abbrev cX10_without : ByteArray := prog_1_method_30_code
def yX10_without : MethodName := ⟨RX10, "without", "(I)I"⟩
abbrev cX10_best : ByteArray := prog_1_method_31_code
def yX10_best : MethodName := ⟨RX10, "best", "(I)I"⟩
abbrev cX10_write : ByteArray := prog_1_method_32_code
def yX10_write : MethodName := ⟨RX10, "write", "()I"⟩
abbrev cX10_octet : ByteArray := prog_1_method_33_code
def yX10_octet : MethodName := ⟨RX10, "octet", "(I)I"⟩
abbrev cX10_size : ByteArray := prog_1_method_34_code
def yX10_size : MethodName := ⟨RX10, "size", "()I"⟩
abbrev cX10_trouble : ByteArray := prog_1_method_35_code
def yX10_trouble : MethodName := ⟨RX10, "trouble", "()I"⟩
abbrev cX10_refused : ByteArray := prog_1_method_36_code
def yX10_refused : MethodName := ⟨RX10, "refused", "(I)I"⟩
abbrev cX10_refusedAct : ByteArray := prog_1_method_37_code
def yX10_refusedAct : MethodName := ⟨RX10, "refusedAct", "(I)Z"⟩
abbrev cX10_answered : ByteArray := prog_1_method_38_code
def yX10_answered : MethodName := ⟨RX10, "answered", "(I)I"⟩
abbrev cX10_beginAct : ByteArray := prog_1_method_39_code
def yX10_beginAct : MethodName := ⟨RX10, "beginAct", "()V"⟩
abbrev cX10_putNumber : ByteArray := prog_1_method_40_code
def yX10_putNumber : MethodName := ⟨RX10, "putNumber", "(I)V"⟩
abbrev cX10_isTold : ByteArray := prog_1_method_41_code
def yX10_isTold : MethodName := ⟨RX10, "isTold", "()Z"⟩
abbrev cX10_isHearing : ByteArray := prog_1_method_42_code
def yX10_isHearing : MethodName := ⟨RX10, "isHearing", "(I)Z"⟩
abbrev cX10_isWord : ByteArray := prog_1_method_43_code
def yX10_isWord : MethodName := ⟨RX10, "isWord", "(I)Z"⟩
abbrev cX10_isSlot : ByteArray := prog_1_method_44_code
def yX10_isSlot : MethodName := ⟨RX10, "isSlot", "(I)Z"⟩
abbrev cX10_isWithin : ByteArray := prog_1_method_45_code
def yX10_isWithin : MethodName := ⟨RX10, "isWithin", "(III)Z"⟩
abbrev cX10_costsOfJoined : ByteArray := prog_1_method_46_code
def yX10_costsOfJoined : MethodName := ⟨RX10, "costsOfJoined", "()I"⟩
abbrev cX10_weightsOfJoined : ByteArray := prog_1_method_47_code
def yX10_weightsOfJoined : MethodName := ⟨RX10, "weightsOfJoined", "()I"⟩
abbrev cX10_winnersOf : ByteArray := prog_1_method_48_code
def yX10_winnersOf : MethodName := ⟨RX10, "winnersOf", "(I)I"⟩
abbrev cX10_weightByRight : ByteArray := prog_1_method_49_code
def yX10_weightByRight : MethodName := ⟨RX10, "weightByRight", "(I)I"⟩
abbrev cX10_nextToJoin : ByteArray := prog_1_method_50_code
def yX10_nextToJoin : MethodName := ⟨RX10, "nextToJoin", "(I)I"⟩
abbrev cX10_placeInHeard : ByteArray := prog_1_method_51_code
def yX10_placeInHeard : MethodName := ⟨RX10, "placeInHeard", "(I)I"⟩
abbrev cX10_leastTime : ByteArray := prog_1_method_52_code
def yX10_leastTime : MethodName := ⟨RX10, "leastTime", "(I)I"⟩
abbrev cX10_greatestTime : ByteArray := prog_1_method_53_code
def yX10_greatestTime : MethodName := ⟨RX10, "greatestTime", "(I)I"⟩
abbrev cX10_writeWord : ByteArray := prog_1_method_54_code
def yX10_writeWord : MethodName := ⟨RX10, "writeWord", "(I)V"⟩
abbrev cX10_putWritten : ByteArray := prog_1_method_55_code
def yX10_putWritten : MethodName := ⟨RX10, "putWritten", "(I)V"⟩
abbrev cX10_lessened : ByteArray := prog_1_method_56_code
def yX10_lessened : MethodName := ⟨RX10, "lessened", "(III)I"⟩
def RX11 : String := "HeardVotesModel"
def TX11 : u_T := fun k => match k with
  | 0 => ("HeardVotesModel", "thrown", "I", false)
  | 1 => ("HeardVotesModel", "trouble", "I", false)
  | 2 => ("HeardVotesModel", "wrongAt", "I", false)
  | 3 => ("HeardVotesModel", "tape", "[I", true)
  | 4 => ("HeardVotesModel", "taped", "I", false)
  | 5 => ("HeardVotesModel", "size", "I", false)
  | 6 => ("HeardVotesModel", "spot", "I", false)
  | 7 => ("HeardVotesModel", "fault", "I", false)
  | 8 => ("HeardVotesModel", "faultAt", "I", false)
  | 9 => ("HeardVotesModel", "token", "I", false)
  | 10 => ("HeardVotesModel", "at", "I", false)
  | 11 => ("HeardVotesModel", "sign", "I", false)
  | 12 => ("HeardVotesModel", "number", "I", false)
  | 13 => ("HeardVotesModel", "word", "J", false)
  | 14 => ("HeardVotesModel", "readName", "[J", true)
  | 15 => ("HeardVotesModel", "readWord", "[J", true)
  | 16 => ("HeardVotesModel", "wordLetters", "[J", true)
  | 17 => ("HeardVotesModel", "readWeight", "[I", true)
  | 18 => ("HeardVotesModel", "readMany", "[I", true)
  | 19 => ("HeardVotesModel", "readTime", "[I", true)
  | 20 => ("HeardVotesModel", "many", "[I", true)
  | 21 => ("HeardVotesModel", "heardWord", "[I", true)
  | 22 => ("HeardVotesModel", "heardTime", "[I", true)
  | 23 => ("HeardVotesModel", "readHearings", "I", false)
  | 24 => ("HeardVotesModel", "hearings", "I", false)
  | 25 => ("HeardVotesModel", "words", "I", false)
  | 26 => ("HeardVotesModel", "now", "[I", true)
  | 27 => ("HeardVotesModel", "paper", "[I", true)
  | 28 => ("HeardVotesModel", "past", "[I", true)
  | 29 => ("HeardVotesModel", "acts", "I", false)
  | 30 => ("HeardVotesModel", "row", "[I", true)
  | 31 => ("HeardVotesModel", "one", "[I", true)
  | 32 => ("HeardVotesModel", "two", "[I", true)
  | 33 => ("HeardVotesModel", "left", "[I", true)
  | 34 => ("HeardVotesModel", "step", "[I", true)
  | 35 => ("HeardVotesModel", "next", "[I", true)
  | 36 => ("HeardVotesModel", "choiceWord", "[I", true)
  | 37 => ("HeardVotesModel", "choicePoints", "[I", true)
  | 38 => ("HeardVotesModel", "choices", "I", false)
  | 39 => ("HeardVotesModel", "pointsAll", "I", false)
  | 40 => ("HeardVotesModel", "doubtUp", "[I", true)
  | 41 => ("HeardVotesModel", "doubtBy", "[I", true)
  | 42 => ("HeardVotesModel", "other", "[I", true)
  | 43 => ("HeardVotesModel", "order", "[I", true)
  | 44 => ("HeardVotesModel", "bestOrder", "[I", true)
  | 45 => ("HeardVotesModel", "bestCost", "I", false)
  | 46 => ("HeardVotesModel", "ink", "[I", true)
  | _ => ("HeardVotesModel", "inked", "I", false)
def tyX11 : Nat → FieldType := fun k => match k with
  | 0 => .int
  | 1 => .int
  | 2 => .int
  | 3 => .array .int
  | 4 => .int
  | 5 => .int
  | 6 => .int
  | 7 => .int
  | 8 => .int
  | 9 => .int
  | 10 => .int
  | 11 => .int
  | 12 => .int
  | 13 => .long
  | 14 => .array .long
  | 15 => .array .long
  | 16 => .array .long
  | 17 => .array .int
  | 18 => .array .int
  | 19 => .array .int
  | 20 => .array .int
  | 21 => .array .int
  | 22 => .array .int
  | 23 => .int
  | 24 => .int
  | 25 => .int
  | 26 => .array .int
  | 27 => .array .int
  | 28 => .array .int
  | 29 => .int
  | 30 => .array .int
  | 31 => .array .int
  | 32 => .array .int
  | 33 => .array .int
  | 34 => .array .int
  | 35 => .array .int
  | 36 => .array .int
  | 37 => .array .int
  | 38 => .int
  | 39 => .int
  | 40 => .array .int
  | 41 => .array .int
  | 42 => .array .int
  | 43 => .array .int
  | 44 => .array .int
  | 45 => .int
  | 46 => .array .int
  | _ => .int
abbrev wsX110 : List Cond := u_ws RX11 TX11 48
theorem nmX11 : ∀ a, a < 48 → ∀ b, b < 48 → a ≠ b → (TX11 a).2.1 ≠ (TX11 b).2.1 := by decide +kernel
theorem tyX11_ok : ∀ k, k < 48 → parseFieldDescriptor (TX11 k).2.2.1 = some (tyX11 k) := by decide +kernel
abbrev cX11_init : ByteArray := prog_13_method_1_code
def yX11_init : MethodName := ⟨RX11, "<init>", "()V"⟩
abbrev cX11_thrown : ByteArray := prog_13_method_2_code
def yX11_thrown : MethodName := ⟨RX11, "thrown", "()I"⟩
abbrev cX11_refused : ByteArray := prog_13_method_3_code
def yX11_refused : MethodName := ⟨RX11, "refused", "(I)I"⟩
abbrev cX11_good : ByteArray := prog_13_method_4_code
def yX11_good : MethodName := ⟨RX11, "good", "(I)I"⟩
abbrev cX11_done : ByteArray := prog_13_method_5_code
def yX11_done : MethodName := ⟨RX11, "done", "(I)Z"⟩
abbrev cX11_in : ByteArray := prog_13_method_6_code
def yX11_in : MethodName := ⟨RX11, "in", "(III)Z"⟩
abbrev cX11_common : ByteArray := prog_13_method_7_code
def yX11_common : MethodName := ⟨RX11, "common", "(II)I"⟩
abbrev cX11_feed : ByteArray := prog_13_method_8_code
def yX11_feed : MethodName := ⟨RX11, "feed", "(IIIII)I"⟩
abbrev cX11_flaw : ByteArray := prog_13_method_9_code
def yX11_flaw : MethodName := ⟨RX11, "flaw", "(I)V"⟩
abbrev cX11_isLetterAt : ByteArray := prog_13_method_10_code
def yX11_isLetterAt : MethodName := ⟨RX11, "isLetterAt", "(I)Z"⟩
abbrev cX11_isDigitAt : ByteArray := prog_13_method_11_code
def yX11_isDigitAt : MethodName := ⟨RX11, "isDigitAt", "(I)Z"⟩
abbrev cX11_goOn : ByteArray := prog_13_method_12_code
def yX11_goOn : MethodName := ⟨RX11, "goOn", "()V"⟩
abbrev cX11_wordOf : ByteArray := prog_13_method_13_code
def yX11_wordOf : MethodName := ⟨RX11, "wordOf", "(Ljava/lang/String;)J"⟩
abbrev cX11_isSign : ByteArray := prog_13_method_14_code
def yX11_isSign : MethodName := ⟨RX11, "isSign", "(I)Z"⟩
abbrev cX11_fault : ByteArray := prog_13_method_15_code
def yX11_fault : MethodName := ⟨RX11, "fault", "()I"⟩
abbrev cX11_where : ByteArray := prog_13_method_16_code
def yX11_where : MethodName := ⟨RX11, "where", "()I"⟩
abbrev cX11_readWhole : ByteArray := prog_13_method_17_code
def yX11_readWhole : MethodName := ⟨RX11, "readWhole", "(II)I"⟩
abbrev cX11_find : ByteArray := prog_13_method_18_code
def yX11_find : MethodName := ⟨RX11, "find", "([JIJ)I"⟩
abbrev cX11_readLine : ByteArray := prog_13_method_19_code
def yX11_readLine : MethodName := ⟨RX11, "readLine", "()V"⟩
abbrev cX11_text : ByteArray := prog_13_method_20_code
def yX11_text : MethodName := ⟨RX11, "text", "(I)I"⟩
abbrev cX11_holds : ByteArray := prog_13_method_21_code
def yX11_holds : MethodName := ⟨RX11, "holds", "()V"⟩
abbrev cX11_empties : ByteArray := prog_13_method_22_code
def yX11_empties : MethodName := ⟨RX11, "empties", "([I)V"⟩
abbrev cX11_copies : ByteArray := prog_13_method_23_code
def yX11_copies : MethodName := ⟨RX11, "copies", "()V"⟩
abbrev cX11_acted : ByteArray := prog_13_method_24_code
def yX11_acted : MethodName := ⟨RX11, "acted", "()V"⟩
abbrev cX11_remembers : ByteArray := prog_13_method_25_code
def yX11_remembers : MethodName := ⟨RX11, "remembers", "()V"⟩
abbrev cX11_undo : ByteArray := prog_13_method_26_code
def yX11_undo : MethodName := ⟨RX11, "undo", "()I"⟩
abbrev cX11_there : ByteArray := prog_13_method_27_code
def yX11_there : MethodName := ⟨RX11, "there", "([III)I"⟩
abbrev cX11_placeOf : ByteArray := prog_13_method_28_code
def yX11_placeOf : MethodName := ⟨RX11, "placeOf", "([II)I"⟩
abbrev cX11_apart : ByteArray := prog_13_method_29_code
def yX11_apart : MethodName := ⟨RX11, "apart", "(II)I"⟩
abbrev cX11_lettersIn : ByteArray := prog_13_method_30_code
def yX11_lettersIn : MethodName := ⟨RX11, "lettersIn", "(J)I"⟩
abbrev cX11_letterIn : ByteArray := prog_13_method_31_code
def yX11_letterIn : MethodName := ⟨RX11, "letterIn", "(JI)I"⟩
abbrev cX11_farOf : ByteArray := prog_13_method_32_code
def yX11_farOf : MethodName := ⟨RX11, "farOf", "(II)I"⟩
abbrev cX11_timeOf : ByteArray := prog_13_method_33_code
def yX11_timeOf : MethodName := ⟨RX11, "timeOf", "([II)I"⟩
abbrev cX11_match : ByteArray := prog_13_method_34_code
def yX11_match : MethodName := ⟨RX11, "match", "([IIII)I"⟩
abbrev cX11_ways : ByteArray := prog_13_method_35_code
def yX11_ways : MethodName := ⟨RX11, "ways", "([II)I"⟩
abbrev cX11_joins : ByteArray := prog_13_method_36_code
def yX11_joins : MethodName := ⟨RX11, "joins", "([II)I"⟩
abbrev cX11_votes : ByteArray := prog_13_method_37_code
def yX11_votes : MethodName := ⟨RX11, "votes", "([II)V"⟩
abbrev cX11_gives : ByteArray := prog_13_method_38_code
def yX11_gives : MethodName := ⟨RX11, "gives", "(II)V"⟩
abbrev cX11_isAhead : ByteArray := prog_13_method_39_code
def yX11_isAhead : MethodName := ⟨RX11, "isAhead", "(II)Z"⟩
abbrev cX11_swaps : ByteArray := prog_13_method_40_code
def yX11_swaps : MethodName := ⟨RX11, "swaps", "(I)V"⟩
abbrev cX11_winner : ByteArray := prog_13_method_41_code
def yX11_winner : MethodName := ⟨RX11, "winner", "([II)I"⟩
abbrev cX11_doubtOf : ByteArray := prog_13_method_42_code
def yX11_doubtOf : MethodName := ⟨RX11, "doubtOf", "([II)I"⟩
abbrev cX11_heardBy : ByteArray := prog_13_method_43_code
def yX11_heardBy : MethodName := ⟨RX11, "heardBy", "([I[I)I"⟩
abbrev cX11_slotOf : ByteArray := prog_13_method_44_code
def yX11_slotOf : MethodName := ⟨RX11, "slotOf", "(I)I"⟩
abbrev cX11_rightOf : ByteArray := prog_13_method_45_code
def yX11_rightOf : MethodName := ⟨RX11, "rightOf", "([II)I"⟩
abbrev cX11_isHearing : ByteArray := prog_13_method_46_code
def yX11_isHearing : MethodName := ⟨RX11, "isHearing", "(I)Z"⟩
abbrev cX11_isSlot : ByteArray := prog_13_method_47_code
def yX11_isSlot : MethodName := ⟨RX11, "isSlot", "(I)Z"⟩
abbrev cX11_costsOf : ByteArray := prog_13_method_48_code
def yX11_costsOf : MethodName := ⟨RX11, "costsOf", "([I)I"⟩
abbrev cX11_about : ByteArray := prog_13_method_49_code
def yX11_about : MethodName := ⟨RX11, "about", "(I)I"⟩
abbrev cX11_hearing : ByteArray := prog_13_method_50_code
def yX11_hearing : MethodName := ⟨RX11, "hearing", "(II)I"⟩
abbrev cX11_slotWith : ByteArray := prog_13_method_51_code
def yX11_slotWith : MethodName := ⟨RX11, "slotWith", "(II)I"⟩
abbrev cX11_word : ByteArray := prog_13_method_52_code
def yX11_word : MethodName := ⟨RX11, "word", "(III)I"⟩
abbrev cX11_letter : ByteArray := prog_13_method_53_code
def yX11_letter : MethodName := ⟨RX11, "letter", "(II)I"⟩
abbrev cX11_far : ByteArray := prog_13_method_54_code
def yX11_far : MethodName := ⟨RX11, "far", "(II)I"⟩
abbrev cX11_laysHearing : ByteArray := prog_13_method_55_code
def yX11_laysHearing : MethodName := ⟨RX11, "laysHearing", "(I[I)I"⟩
abbrev cX11_between : ByteArray := prog_13_method_56_code
def yX11_between : MethodName := ⟨RX11, "between", "(II)I"⟩
abbrev cX11_costs : ByteArray := prog_13_method_57_code
def yX11_costs : MethodName := ⟨RX11, "costs", "(III)Z"⟩
abbrev cX11_puts : ByteArray := prog_13_method_58_code
def yX11_puts : MethodName := ⟨RX11, "puts", "(III)Z"⟩
abbrev cX11_window : ByteArray := prog_13_method_59_code
def yX11_window : MethodName := ⟨RX11, "window", "(I)Z"⟩
abbrev cX11_share : ByteArray := prog_13_method_60_code
def yX11_share : MethodName := ⟨RX11, "share", "(I)Z"⟩
abbrev cX11_weight : ByteArray := prog_13_method_61_code
def yX11_weight : MethodName := ⟨RX11, "weight", "(II)I"⟩
abbrev cX11_join : ByteArray := prog_13_method_62_code
def yX11_join : MethodName := ⟨RX11, "join", "(I)I"⟩
abbrev cX11_nextOne : ByteArray := prog_13_method_63_code
def yX11_nextOne : MethodName := ⟨RX11, "nextOne", "(I)I"⟩
abbrev cX11_joinAll : ByteArray := prog_13_method_64_code
def yX11_joinAll : MethodName := ⟨RX11, "joinAll", "(I)I"⟩
abbrev cX11_dropsOnPaper : ByteArray := prog_13_method_65_code
def yX11_dropsOnPaper : MethodName := ⟨RX11, "dropsOnPaper", "(I)V"⟩
abbrev cX11_drop : ByteArray := prog_13_method_66_code
def yX11_drop : MethodName := ⟨RX11, "drop", "(I)I"⟩
abbrev cX11_weigh : ByteArray := prog_13_method_67_code
def yX11_weigh : MethodName := ⟨RX11, "weigh", "()I"⟩
abbrev cX11_endTime : ByteArray := prog_13_method_68_code
def yX11_endTime : MethodName := ⟨RX11, "endTime", "(IZ)I"⟩
abbrev cX11_wordsThere : ByteArray := prog_13_method_69_code
def yX11_wordsThere : MethodName := ⟨RX11, "wordsThere", "(I)I"⟩
abbrev cX11_placeHeard : ByteArray := prog_13_method_70_code
def yX11_placeHeard : MethodName := ⟨RX11, "placeHeard", "(I)I"⟩
abbrev cX11_slot : ByteArray := prog_13_method_71_code
def yX11_slot : MethodName := ⟨RX11, "slot", "(II)I"⟩
abbrev cX11_at : ByteArray := prog_13_method_72_code
def yX11_at : MethodName := ⟨RX11, "at", "(II)I"⟩
abbrev cX11_choice : ByteArray := prog_13_method_73_code
def yX11_choice : MethodName := ⟨RX11, "choice", "(III)I"⟩
abbrev cX11_doubt : ByteArray := prog_13_method_74_code
def yX11_doubt : MethodName := ⟨RX11, "doubt", "(II)I"⟩
abbrev cX11_ahead : ByteArray := prog_13_method_75_code
def yX11_ahead : MethodName := ⟨RX11, "ahead", "(I)I"⟩
abbrev cX11_doubtful : ByteArray := prog_13_method_76_code
def yX11_doubtful : MethodName := ⟨RX11, "doubtful", "(I)I"⟩
abbrev cX11_heardAt : ByteArray := prog_13_method_77_code
def yX11_heardAt : MethodName := ⟨RX11, "heardAt", "(I)I"⟩
abbrev cX11_heard : ByteArray := prog_13_method_78_code
def yX11_heard : MethodName := ⟨RX11, "heard", "(II)I"⟩
abbrev cX11_errors : ByteArray := prog_13_method_79_code
def yX11_errors : MethodName := ⟨RX11, "errors", "(I)I"⟩
abbrev cX11_refusesPaper : ByteArray := prog_13_method_80_code
def yX11_refusesPaper : MethodName := ⟨RX11, "refusesPaper", "(I)I"⟩
abbrev cX11_cost : ByteArray := prog_13_method_81_code
def yX11_cost : MethodName := ⟨RX11, "cost", "(I)I"⟩
abbrev cX11_way : ByteArray := prog_13_method_82_code
def yX11_way : MethodName := ⟨RX11, "way", "(II)I"⟩
abbrev cX11_without : ByteArray := prog_13_method_83_code
def yX11_without : MethodName := ⟨RX11, "without", "(I)I"⟩
abbrev cX11_isIn : ByteArray := prog_13_method_84_code
def yX11_isIn : MethodName := ⟨RX11, "isIn", "(II)Z"⟩
abbrev cX11_tries : ByteArray := prog_13_method_85_code
def yX11_tries : MethodName := ⟨RX11, "tries", "(I)V"⟩
abbrev cX11_best : ByteArray := prog_13_method_86_code
def yX11_best : MethodName := ⟨RX11, "best", "(I)I"⟩
abbrev cX11_inks : ByteArray := prog_13_method_87_code
def yX11_inks : MethodName := ⟨RX11, "inks", "(I)V"⟩
abbrev cX11_write : ByteArray := prog_13_method_88_code
def yX11_write : MethodName := ⟨RX11, "write", "()I"⟩
abbrev cX11_octet : ByteArray := prog_13_method_89_code
def yX11_octet : MethodName := ⟨RX11, "octet", "(I)I"⟩
abbrev cX11_size : ByteArray := prog_13_method_90_code
def yX11_size : MethodName := ⟨RX11, "size", "()I"⟩
abbrev cX11_trouble : ByteArray := prog_13_method_91_code
def yX11_trouble : MethodName := ⟨RX11, "trouble", "()I"⟩
def RJx145de : String := "java/io/Serializable"
def TJx145de : u_T := fun k => match k with
  | _ => ("", "", "", false)
def tyJx145de : Nat → FieldType := fun k => match k with
  | _ => .int
abbrev wsJx145de0 : List Cond := u_ws RJx145de TJx145de 0
theorem nmJx145de : ∀ a, a < 0 → ∀ b, b < 0 → a ≠ b → (TJx145de a).2.1 ≠ (TJx145de b).2.1 := by decide +kernel
theorem tyJx145de_ok : ∀ k, k < 0 → parseFieldDescriptor (TJx145de k).2.2.1 = some (tyJx145de k) := by decide +kernel
def RJx9f9b0 : String := "java/lang/CharSequence"
def TJx9f9b0 : u_T := fun k => match k with
  | _ => ("", "", "", false)
def tyJx9f9b0 : Nat → FieldType := fun k => match k with
  | _ => .int
abbrev wsJx9f9b00 : List Cond := u_ws RJx9f9b0 TJx9f9b0 0
theorem nmJx9f9b0 : ∀ a, a < 0 → ∀ b, b < 0 → a ≠ b → (TJx9f9b0 a).2.1 ≠ (TJx9f9b0 b).2.1 := by decide +kernel
theorem tyJx9f9b0_ok : ∀ k, k < 0 → parseFieldDescriptor (TJx9f9b0 k).2.2.1 = some (tyJx9f9b0 k) := by decide +kernel
def RJxb160c : String := "java/lang/Comparable"
def TJxb160c : u_T := fun k => match k with
  | _ => ("", "", "", false)
def tyJxb160c : Nat → FieldType := fun k => match k with
  | _ => .int
abbrev wsJxb160c0 : List Cond := u_ws RJxb160c TJxb160c 0
theorem nmJxb160c : ∀ a, a < 0 → ∀ b, b < 0 → a ≠ b → (TJxb160c a).2.1 ≠ (TJxb160c b).2.1 := by decide +kernel
theorem tyJxb160c_ok : ∀ k, k < 0 → parseFieldDescriptor (TJxb160c k).2.2.1 = some (tyJxb160c k) := by decide +kernel
def RJ0 : String := "java/lang/String"
def TJ0 : u_T := fun k => match k with
  | _ => ("", "", "", false)
def tyJ0 : Nat → FieldType := fun k => match k with
  | _ => .int
abbrev wsJ00 : List Cond := u_ws RJ0 TJ0 0
theorem nmJ0 : ∀ a, a < 0 → ∀ b, b < 0 → a ≠ b → (TJ0 a).2.1 ≠ (TJ0 b).2.1 := by decide +kernel
theorem tyJ0_ok : ∀ k, k < 0 → parseFieldDescriptor (TJ0 k).2.2.1 = some (tyJ0 k) := by decide +kernel
abbrev cJ0_length_8abf5 : ByteArray := prog_19_method_54_code
def yJ0_length_8abf5 : MethodName := ⟨RJ0, "length", "()I"⟩
abbrev cJ0_charAt_5068e : ByteArray := prog_19_method_56_code
def yJ0_charAt_5068e : MethodName := ⟨RJ0, "charAt", "(I)C"⟩
abbrev cJ0_coder_7d493 : ByteArray := prog_19_method_152_code
def yJ0_coder_7d493 : MethodName := ⟨RJ0, "coder", "()B"⟩
abbrev cJ0_isLatin1_aae02 : ByteArray := prog_19_method_154_code
def yJ0_isLatin1_aae02 : MethodName := ⟨RJ0, "isLatin1", "()Z"⟩
abbrev cJ0_checkIndex_df160 : ByteArray := prog_19_method_155_code
def yJ0_checkIndex_df160 : MethodName := ⟨RJ0, "checkIndex", "(II)V"⟩
def RJ1 : String := "java/lang/StringLatin1"
def TJ1 : u_T := fun k => match k with
  | _ => ("", "", "", false)
def tyJ1 : Nat → FieldType := fun k => match k with
  | _ => .int
abbrev wsJ10 : List Cond := u_ws RJ1 TJ1 0
theorem nmJ1 : ∀ a, a < 0 → ∀ b, b < 0 → a ≠ b → (TJ1 a).2.1 ≠ (TJ1 b).2.1 := by decide +kernel
theorem tyJ1_ok : ∀ k, k < 0 → parseFieldDescriptor (TJ1 k).2.2.1 = some (tyJ1 k) := by decide +kernel
abbrev cJ1_charAt_3b067 : ByteArray := prog_20_method_2_code
def yJ1_charAt_3b067 : MethodName := ⟨RJ1, "charAt", "([BI)C"⟩
def RJ2 : String := "java/lang/StringUTF16"
def TJ2 : u_T := fun k => match k with
  | _ => ("", "", "", false)
def tyJ2 : Nat → FieldType := fun k => match k with
  | _ => .int
abbrev wsJ20 : List Cond := u_ws RJ2 TJ2 0
theorem nmJ2 : ∀ a, a < 0 → ∀ b, b < 0 → a ≠ b → (TJ2 a).2.1 ≠ (TJ2 b).2.1 := by decide +kernel
theorem tyJ2_ok : ∀ k, k < 0 → parseFieldDescriptor (TJ2 k).2.2.1 = some (tyJ2 k) := by decide +kernel
abbrev cJ2_getChar_3b067 : ByteArray := prog_21_method_5_code
def yJ2_getChar_3b067 : MethodName := ⟨RJ2, "getChar", "([BI)C"⟩
abbrev cJ2_length_9d52b : ByteArray := prog_21_method_6_code
def yJ2_length_9d52b : MethodName := ⟨RJ2, "length", "([B)I"⟩
abbrev cJ2_charAt_3b067 : ByteArray := prog_21_method_83_code
def yJ2_charAt_3b067 : MethodName := ⟨RJ2, "charAt", "([BI)C"⟩
abbrev cJ2_checkIndex_2214a : ByteArray := prog_21_method_91_code
def yJ2_checkIndex_2214a : MethodName := ⟨RJ2, "checkIndex", "(I[B)V"⟩
def RJ10 : String := "java/lang/System"
def TJ10 : u_T := fun k => match k with
  | _ => ("", "", "", false)
def tyJ10 : Nat → FieldType := fun k => match k with
  | _ => .int
abbrev wsJ100 : List Cond := u_ws RJ10 TJ10 0
theorem nmJ10 : ∀ a, a < 0 → ∀ b, b < 0 → a ≠ b → (TJ10 a).2.1 ≠ (TJ10 b).2.1 := by decide +kernel
theorem tyJ10_ok : ∀ k, k < 0 → parseFieldDescriptor (TJ10 k).2.2.1 = some (tyJ10 k) := by decide +kernel
def RJxfd54e : String := "java/lang/constant/Constable"
def TJxfd54e : u_T := fun k => match k with
  | _ => ("", "", "", false)
def tyJxfd54e : Nat → FieldType := fun k => match k with
  | _ => .int
abbrev wsJxfd54e0 : List Cond := u_ws RJxfd54e TJxfd54e 0
theorem nmJxfd54e : ∀ a, a < 0 → ∀ b, b < 0 → a ≠ b → (TJxfd54e a).2.1 ≠ (TJxfd54e b).2.1 := by decide +kernel
theorem tyJxfd54e_ok : ∀ k, k < 0 → parseFieldDescriptor (TJxfd54e k).2.2.1 = some (tyJxfd54e k) := by decide +kernel
def RJx3cf43 : String := "java/lang/constant/ConstantDesc"
def TJx3cf43 : u_T := fun k => match k with
  | _ => ("", "", "", false)
def tyJx3cf43 : Nat → FieldType := fun k => match k with
  | _ => .int
abbrev wsJx3cf430 : List Cond := u_ws RJx3cf43 TJx3cf43 0
theorem nmJx3cf43 : ∀ a, a < 0 → ∀ b, b < 0 → a ≠ b → (TJx3cf43 a).2.1 ≠ (TJx3cf43 b).2.1 := by decide +kernel
theorem tyJx3cf43_ok : ∀ k, k < 0 → parseFieldDescriptor (TJx3cf43 k).2.2.1 = some (tyJx3cf43 k) := by decide +kernel
def RJ7 : String := "java/util/Arrays"
def TJ7 : u_T := fun k => match k with
  | _ => ("", "", "", false)
def tyJ7 : Nat → FieldType := fun k => match k with
  | _ => .int
abbrev wsJ70 : List Cond := u_ws RJ7 TJ7 0
theorem nmJ7 : ∀ a, a < 0 → ∀ b, b < 0 → a ≠ b → (TJ7 a).2.1 ≠ (TJ7 b).2.1 := by decide +kernel
theorem tyJ7_ok : ∀ k, k < 0 → parseFieldDescriptor (TJ7 k).2.2.1 = some (tyJ7 k) := by decide +kernel
abbrev cJ7_rangeCheck_23922 : ByteArray := prog_26_method_30_code
def yJ7_rangeCheck_23922 : MethodName := ⟨RJ7, "rangeCheck", "(III)V"⟩
abbrev cJ7_fill_53178 : ByteArray := prog_26_method_103_code
def yJ7_fill_53178 : MethodName := ⟨RJ7, "fill", "([II)V"⟩
abbrev cJ7_fill_fda19 : ByteArray := prog_26_method_104_code
def yJ7_fill_fda19 : MethodName := ⟨RJ7, "fill", "([IIII)V"⟩
def RJ3 : String := "jdk/internal/util/Preconditions"
def TJ3 : u_T := fun k => match k with
  | _ => ("", "", "", false)
def tyJ3 : Nat → FieldType := fun k => match k with
  | _ => .int
abbrev wsJ30 : List Cond := u_ws RJ3 TJ3 0
theorem nmJ3 : ∀ a, a < 0 → ∀ b, b < 0 → a ≠ b → (TJ3 a).2.1 ≠ (TJ3 b).2.1 := by decide +kernel
theorem tyJ3_ok : ∀ k, k < 0 → parseFieldDescriptor (TJ3 k).2.2.1 = some (tyJ3 k) := by decide +kernel
abbrev cJ3_checkIndex_8e157 : ByteArray := prog_28_method_11_code
def yJ3_checkIndex_8e157 : MethodName := ⟨RJ3, "checkIndex", "(IILjava/util/function/BiFunction;)I"⟩
def RL : String := "HeardVotesLaw"
abbrev cL_octet : ByteArray := method_3_code
def yL_octet : MethodName := ⟨RL, "octet", "(LHeardVotes;I[J)I"⟩
abbrev cL_law : ByteArray := code
def yL_law : MethodName := ⟨RL, "law", "([I)Z"⟩
abbrev vwCl : List vw_C := [(RX0, TX0, 3), (RX1, TX1, 12), (RX2, TX2, 3), (RX3, TX3, 6), (RX4, TX4, 6), (RX5, TX5, 8), (RX6, TX6, 1), (RX7, TX7, 6), (RX8, TX8, 10), (RX9, TX9, 11), (RX10, TX10, 20), (RX11, TX11, 48)]
end
section
/-! IL: what the methods do, told over numbers alone. A cell is named (c, k, j): of class c the k-th object (j 0), or the array that its field j - 1 holds.
  Of a state the first part has the ints: of class c, object k, field j - 1, place i (0 of a plain field); the second the longs. -/
abbrev RF : Type := Nat × Nat × Nat
abbrev AV : Type := Int32 ⊕ Int64 ⊕ RF
abbrev ST : Type := (Nat → Nat → Nat → Nat → Int32) × (Nat → Nat → Nat → Nat → Int64)
abbrev EN : Type := Instr × Nat × Nat × Nat × Nat × Int
abbrev TB : Type := List (List EN) × List (Nat × List (Int32 × Nat) × Nat) × Nat
def nth {α : Type} (z : α) : List α → Nat → α
  | [], _ => z
  | x :: _, 0 => x
  | _ :: l, n + 1 => nth z l n
/-- kinds of fields: 0 int, 1 long, 3 boolean, 2 the cell that follows, 4 an array of its own -/
def fkT : List (List (Nat × Nat × Nat × Nat)) := [[(0, 0, 0, 0), (0, 0, 0, 0), (4, 0, 0, 0)],
  [(0, 0, 0, 0), (0, 0, 0, 0), (0, 0, 0, 0), (4, 0, 0, 0), (4, 0, 0, 0), (4, 0, 0, 0), (4, 0, 0, 0), (4, 0, 0, 0), (4, 0, 0, 0), (4, 0, 0, 0), (2, 8, 0, 0), (2, 7, 0, 0)],
  [(2, 8, 0, 0), (2, 6, 0, 0), (4, 0, 0, 0)],
  [(0, 0, 0, 0), (0, 0, 0, 0), (4, 0, 0, 0), (4, 0, 0, 0), (4, 0, 0, 0), (4, 0, 0, 0)],
  [(0, 0, 0, 0), (3, 0, 0, 0), (2, 8, 0, 0), (2, 9, 0, 0), (4, 0, 0, 0), (4, 0, 0, 0)],
  [(2, 8, 1, 0), (0, 0, 0, 0), (2, 10, 0, 1), (0, 0, 0, 0), (0, 0, 0, 0), (0, 0, 0, 0), (0, 0, 0, 0), (0, 0, 0, 0)],
  [(4, 0, 0, 0)],
  [(0, 0, 0, 0), (0, 0, 0, 0), (0, 0, 0, 0), (0, 0, 0, 0), (0, 0, 0, 0), (4, 0, 0, 0)],
  [(0, 0, 0, 0), (0, 0, 0, 0), (4, 0, 0, 0), (4, 0, 0, 0), (4, 0, 0, 0), (4, 0, 0, 0), (4, 0, 0, 0), (4, 0, 0, 0), (4, 0, 0, 0), (4, 0, 0, 0)],
  [(2, 8, 0, 0), (2, 7, 0, 0), (2, 2, 0, 0), (2, 1, 0, 0), (4, 0, 0, 0), (4, 0, 0, 0), (4, 0, 0, 0), (0, 0, 0, 0), (4, 0, 0, 0), (0, 0, 0, 0), (0, 0, 0, 0)],
  [(4, 0, 0, 0), (4, 0, 0, 0), (4, 0, 0, 0), (4, 0, 0, 0), (2, 8, 0, 0), (2, 7, 0, 0), (2, 3, 0, 0), (2, 3, 1, 0), (2, 0, 0, 0), (2, 6, 0, 0), (2, 5, 0, 0), (2, 2, 0, 0), (2, 1, 0, 0), (2, 9, 0, 0), (2, 4, 0, 0), (0, 0, 0, 0), (0, 0, 0, 0), (0, 0, 0, 0), (0, 0, 0, 0), (0, 0, 0, 0)],
  [(0, 0, 0, 0), (0, 0, 0, 0), (0, 0, 0, 0), (4, 0, 0, 0), (0, 0, 0, 0), (0, 0, 0, 0), (0, 0, 0, 0), (0, 0, 0, 0), (0, 0, 0, 0), (0, 0, 0, 0), (0, 0, 0, 0), (0, 0, 0, 0), (0, 0, 0, 0), (1, 0, 0, 0), (4, 0, 0, 0), (4, 0, 0, 0), (4, 0, 0, 0), (4, 0, 0, 0), (4, 0, 0, 0), (4, 0, 0, 0), (4, 0, 0, 0), (4, 0, 0, 0), (4, 0, 0, 0), (0, 0, 0, 0), (0, 0, 0, 0), (0, 0, 0, 0), (4, 0, 0, 0), (4, 0, 0, 0), (4, 0, 0, 0), (0, 0, 0, 0), (4, 0, 0, 0), (4, 0, 0, 0), (4, 0, 0, 0), (4, 0, 0, 0), (4, 0, 0, 0), (4, 0, 0, 0), (4, 0, 0, 0), (4, 0, 0, 0), (0, 0, 0, 0), (0, 0, 0, 0), (4, 0, 0, 0), (4, 0, 0, 0), (4, 0, 0, 0), (4, 0, 0, 0), (4, 0, 0, 0), (0, 0, 0, 0), (4, 0, 0, 0), (0, 0, 0, 0)]]
/-- arrays of fields: 1 ints, 2 longs, 3 cells (0: none of its own); how many places -/
def akT : List (List (Nat × Nat)) := [[(0, 0), (0, 0), (1, 820)],
  [(0, 0), (0, 0), (0, 0), (1, 60), (1, 60), (1, 5), (1, 5), (1, 60), (1, 60), (1, 60), (0, 0), (0, 0)],
  [(0, 0), (0, 0), (1, 1770)],
  [(0, 0), (0, 0), (1, 5), (1, 5), (1, 5), (1, 300)],
  [(0, 0), (0, 0), (0, 0), (0, 0), (1, 5), (3, 6)],
  [(0, 0), (0, 0), (0, 0), (0, 0), (0, 0), (0, 0), (0, 0), (0, 0)],
  [(1, 61)],
  [(0, 0), (0, 0), (0, 0), (0, 0), (0, 0), (1, 5)],
  [(0, 0), (0, 0), (1, 60), (1, 60), (1, 5), (1, 5), (1, 5), (1, 60), (1, 360), (1, 60)],
  [(0, 0), (0, 0), (0, 0), (0, 0), (1, 793), (1, 793), (1, 72), (0, 0), (1, 5), (0, 0), (0, 0)],
  [(1, 600), (1, 480), (1, 5), (1, 60), (0, 0), (0, 0), (0, 0), (0, 0), (0, 0), (0, 0), (0, 0), (0, 0), (0, 0), (0, 0), (0, 0), (0, 0), (0, 0), (0, 0), (0, 0), (0, 0)],
  [(0, 0), (0, 0), (0, 0), (1, 600), (0, 0), (0, 0), (0, 0), (0, 0), (0, 0), (0, 0), (0, 0), (0, 0), (0, 0), (0, 0), (2, 5), (2, 60), (2, 60), (1, 5), (1, 5), (1, 60), (1, 5), (1, 60), (1, 60), (0, 0), (0, 0), (0, 0), (1, 322), (1, 322), (1, 3220), (0, 0), (1, 80), (1, 80), (1, 80), (1, 800), (1, 800), (1, 300), (1, 6), (1, 6), (0, 0), (0, 0), (1, 60), (1, 60), (1, 80), (1, 5), (1, 5), (0, 0), (1, 600), (0, 0)],
  [(2, 1)]]
/-- how many objects of each class there are -/
def cnT : List Nat := [1, 1, 1, 8, 1, 1, 1, 1, 2, 1, 1, 1]
def nthO {α : Type} : List α → Nat → Option α
  | [], _ => none
  | x :: _, 0 => some x
  | _ :: l, n + 1 => nthO l n
def fkO (c j : Nat) : Option (Nat × Nat × Nat × Nat) := match nthO fkT c with
  | some l => nthO l j
  | none => none
def fkd (c j : Nat) : Nat × Nat × Nat × Nat := match fkO c j with
  | some q => q
  | none => (9, 0, 0, 0)
def akO (c j : Nat) : Option (Nat × Nat) := match nthO akT c with
  | some l => nthO l j
  | none => none
def akd (c j : Nat) : Nat × Nat := match akO c j with
  | some q => q
  | none => (0, 0)
/-- the kind of an array and its length, the row of the script (13, 0, 1) among them -/
def arO (N c j : Nat) : Option (Nat × Nat) := match j with
  | 0 => none
  | j + 1 => cond (Nat.beq c 13) (some (1, N)) (akO c j)
/-- which object an array of cells holds -/
def rafO (_ _ i : Nat) : Option RF := some (3, i + 2, 0)
def raf (c j i : Nat) : RF := match rafO c j i with
  | some r => r
  | none => (0, 0, 0)
def uI (σ : ST) (c k j i : Nat) (x : Int32) : ST := (fun c' k' j' i' => if c' = c ∧ k' = k ∧ j' = j ∧ i' = i then x else σ.1 c' k' j' i', σ.2)
def uL (σ : ST) (c k j i : Nat) (x : Int64) : ST := (σ.1, fun c' k' j' i' => if c' = c ∧ k' = k ∧ j' = j ∧ i' = i then x else σ.2 c' k' j' i')
/-- a row of ints as a whole -/
def uR (σ : ST) (c k j : Nat) (f : Nat → Int32) : ST := (fun c' k' j' i' => if c' = c ∧ k' = k ∧ j' = j then f i' else σ.1 c' k' j' i', σ.2)
def aI (x : Int32) : AV := .inl x
def aJ (x : Int64) : AV := .inr (.inl x)
def aR (c k j : Nat) : AV := .inr (.inr (c, k, j))
def cat2 : AV → Nat
  | .inr (.inl _) => 2
  | _ => 1
def isLg : Option AV → Bool
  | some (.inr (.inl _)) => true
  | _ => false
/-- no long stands just ahead of place k -/
def noLg (ls : List (Option AV)) (k : Nat) : Bool := match k with
  | 0 => true
  | k + 1 => not (isLg (nth none ls k))
def inL (ls : List (Option AV)) (k : Nat) : Bool := match ls, k with
  | [], _ => false
  | _ :: _, 0 => true
  | _ :: l, k + 1 => inL l k
def stl (ls : List (Option AV)) (k : Nat) (v : Option AV) : List (Option AV) := match ls, k with
  | [], _ => []
  | _ :: l, 0 => v :: l
  | x :: l, k + 1 => x :: stl l k v
/-- the locals at a method's entry -/
def ent : Nat → List AV → List (Option AV)
  | 0, _ => []
  | n + 1, [] => none :: ent n []
  | n + 1, .inl x :: vs => some (.inl x) :: ent n vs
  | n + 1, .inr (.inr r) :: vs => some (.inr (.inr r)) :: ent n vs
  | n + 2, .inr (.inl x) :: vs => some (.inr (.inl x)) :: none :: ent n vs
  | 1, .inr (.inl _) :: _ => [none]
end
section
/-- java/util/Arrays.fill([II)V: 0 -/
def TJ7_fill_53178 : TB := ([[(.iconst 0, 0, 1, 0, 0, 0), (.istore_n 2, 1, 2, 0, 0, 0), (.aload_n 0, 2, 3, 0, 0, 0), (.arraylength, 3, 4, 0, 0, 0), (.istore_n 3, 4, 5, 0, 0, 0), (.iload_n 2, 5, 6, 0, 0, 0), (.iload_n 3, 6, 7, 0, 0, 0), (.if_icmp .ge 13, 7, 8, 14, 0, 0), (.aload_n 0, 10, 9, 0, 0, 0), (.iload_n 2, 11, 10, 0, 0, 0), (.iload_n 1, 12, 11, 0, 0, 0), (.iastore, 13, 12, 0, 0, 0), (.iinc 2 1, 14, 13, 0, 0, 0), (.goto (-12), 17, 14, 5, 0, 0), (.return_, 20, 15, 0, 0, 0)]],
   [], 0)
/-- java/util/Arrays.fill([IIII)V: 1 -/
def TJ7_fill_fda19 : TB := ([[(.aload_n 0, 0, 1, 0, 0, 0), (.arraylength, 1, 2, 0, 0, 0), (.iload_n 1, 2, 3, 0, 0, 0), (.iload_n 2, 3, 4, 0, 0, 0), (.invokestatic 13, 4, 5, 2, 3, 0), (.iload_n 1, 7, 6, 0, 0, 0), (.istore 4, 8, 7, 0, 0, 0), (.iload 4, 10, 8, 0, 0, 0), (.iload_n 2, 12, 9, 0, 0, 0), (.if_icmp .ge 14, 13, 10, 16, 0, 0), (.aload_n 0, 16, 11, 0, 0, 0), (.iload 4, 17, 12, 0, 0, 0), (.iload_n 3, 19, 13, 0, 0, 0), (.iastore, 20, 14, 0, 0, 0), (.iinc 4 1, 21, 15, 0, 0, 0), (.goto (-14), 24, 16, 7, 0, 0)],
   [(.return_, 27, 17, 0, 0, 0)]],
   [], 1)
/-- java/util/Arrays.rangeCheck(III)V: 2 -/
def TJ7_rangeCheck_23922 : TB := ([[(.iload_n 1, 0, 1, 0, 0, 0), (.iload_n 2, 1, 2, 0, 0, 0), (.if_icmp .le 44, 2, 3, 21, 0, 0), (.new 0, 5, 4, 0, 0, 0), (.new 0, 8, 5, 0, 0, 0), (.new 0, 9, 6, 0, 0, 0), (.new 0, 12, 7, 0, 0, 0), (.new 0, 13, 8, 0, 0, 0), (.new 0, 16, 9, 0, 0, 0), (.new 0, 18, 10, 0, 0, 0), (.iload_n 1, 21, 11, 0, 0, 0), (.new 0, 22, 12, 0, 0, 0), (.new 0, 25, 13, 0, 0, 0), (.new 0, 27, 14, 0, 0, 0), (.iload_n 2, 30, 15, 0, 0, 0), (.new 0, 31, 16, 0, 0, 0)],
   [(.new 0, 34, 17, 0, 0, 0), (.new 0, 36, 18, 0, 0, 0), (.new 0, 39, 19, 0, 0, 0), (.new 0, 42, 20, 0, 0, 0), (.new 0, 45, 21, 0, 0, 0), (.iload_n 1, 46, 22, 0, 0, 0), (.ifCond .ge 12, 47, 23, 28, 0, 0), (.new 0, 50, 24, 0, 0, 0), (.new 0, 53, 25, 0, 0, 0), (.iload_n 1, 54, 26, 0, 0, 0), (.new 0, 55, 27, 0, 0, 0), (.new 0, 58, 28, 0, 0, 0), (.iload_n 2, 59, 29, 0, 0, 0), (.iload_n 0, 60, 30, 0, 0, 0), (.if_icmp .le 12, 61, 31, 36, 0, 0), (.new 0, 64, 32, 0, 0, 0)],
   [(.new 0, 67, 33, 0, 0, 0), (.iload_n 2, 68, 34, 0, 0, 0), (.new 0, 69, 35, 0, 0, 0), (.new 0, 72, 36, 0, 0, 0), (.return_, 73, 37, 0, 0, 0)]],
   [], 2)
/-- HeardVotes$Acts.clear()V: 3 -/
def TX0_clear : TB := ([[(.aload_n 0, 0, 1, 0, 0, 0), (.iconst 0, 1, 2, 0, 0, 0), (.putfield 13, 2, 3, 0, 0, 0), (.aload_n 0, 5, 4, 0, 0, 0), (.iconst 0, 6, 5, 0, 0, 0), (.putfield 19, 7, 6, 0, 1, 0), (.return_, 10, 7, 0, 0, 0)]],
   [], 3)
/-- HeardVotes$Acts.keep(LHeardVotes$Rules;LHeardVotes$Net;)V: 4 -/
def TX0_keep : TB := ([[(.aload_n 1, 0, 1, 0, 0, 0), (.aload_n 0, 1, 2, 0, 0, 0), (.getfield 22, 2, 3, 0, 2, 0), (.aload_n 0, 5, 4, 0, 0, 0), (.getfield 19, 6, 5, 0, 1, 0), (.bipush 82, 9, 6, 0, 0, 0), (.imul, 11, 7, 0, 0, 0), (.invokevirtual 26, 12, 8, 57, 2, 0), (.aload_n 2, 15, 9, 0, 0, 0), (.aload_n 0, 16, 10, 0, 0, 0), (.getfield 22, 17, 11, 0, 2, 0), (.aload_n 0, 20, 12, 0, 0, 0), (.getfield 19, 21, 13, 0, 1, 0), (.bipush 82, 24, 14, 0, 0, 0), (.imul, 26, 15, 0, 0, 0), (.bipush 10, 27, 16, 0, 0, 0)],
   [(.iadd, 29, 17, 0, 0, 0), (.invokevirtual 30, 30, 18, 24, 2, 0), (.aload_n 0, 33, 19, 0, 0, 0), (.aload_n 0, 34, 20, 0, 0, 0), (.getfield 19, 35, 21, 0, 1, 0), (.iconst 1, 38, 22, 0, 0, 0), (.iadd, 39, 23, 0, 0, 0), (.bipush 10, 40, 24, 0, 0, 0), (.if_icmp .ge 12, 42, 25, 30, 0, 0), (.aload_n 0, 45, 26, 0, 0, 0), (.getfield 19, 46, 27, 0, 1, 0), (.iconst 1, 49, 28, 0, 0, 0), (.iadd, 50, 29, 0, 0, 0), (.goto 4, 51, 30, 31, 0, 0), (.iconst 0, 54, 31, 0, 0, 0), (.putfield 19, 55, 32, 0, 1, 0)],
   [(.aload_n 0, 58, 33, 0, 0, 0), (.aload_n 0, 59, 34, 0, 0, 0), (.getfield 13, 60, 35, 0, 0, 0), (.bipush 10, 63, 36, 0, 0, 0), (.if_icmp .ge 12, 65, 37, 42, 0, 0), (.aload_n 0, 68, 38, 0, 0, 0), (.getfield 13, 69, 39, 0, 0, 0), (.iconst 1, 72, 40, 0, 0, 0), (.iadd, 73, 41, 0, 0, 0), (.goto 5, 74, 42, 43, 0, 0), (.bipush 10, 77, 43, 0, 0, 0), (.putfield 13, 79, 44, 0, 0, 0), (.return_, 82, 45, 0, 0, 0)]],
   [], 4)
/-- HeardVotes$Acts.takeBack(LHeardVotes$Rules;LHeardVotes$Net;)V: 5 -/
def TX0_takeBack : TB := ([[(.aload_n 0, 0, 1, 0, 0, 0), (.aload_n 0, 1, 2, 0, 0, 0), (.getfield 19, 2, 3, 0, 1, 0), (.ifCond .le 12, 5, 4, 9, 0, 0), (.aload_n 0, 8, 5, 0, 0, 0), (.getfield 19, 9, 6, 0, 1, 0), (.iconst 1, 12, 7, 0, 0, 0), (.isub, 13, 8, 0, 0, 0), (.goto 5, 14, 9, 10, 0, 0), (.bipush 9, 17, 10, 0, 0, 0), (.putfield 19, 19, 11, 0, 1, 0), (.aload_n 1, 22, 12, 0, 0, 0), (.aload_n 0, 23, 13, 0, 0, 0), (.getfield 22, 24, 14, 0, 2, 0), (.aload_n 0, 27, 15, 0, 0, 0), (.getfield 19, 28, 16, 0, 1, 0)],
   [(.bipush 82, 31, 17, 0, 0, 0), (.imul, 33, 18, 0, 0, 0), (.invokevirtual 31, 34, 19, 58, 2, 0), (.aload_n 2, 37, 20, 0, 0, 0), (.aload_n 0, 38, 21, 0, 0, 0), (.getfield 22, 39, 22, 0, 2, 0), (.aload_n 0, 42, 23, 0, 0, 0), (.getfield 19, 43, 24, 0, 1, 0), (.bipush 82, 46, 25, 0, 0, 0), (.imul, 48, 26, 0, 0, 0), (.bipush 10, 49, 27, 0, 0, 0), (.iadd, 51, 28, 0, 0, 0), (.invokevirtual 34, 52, 29, 25, 2, 0), (.aload_n 0, 55, 30, 0, 0, 0), (.aload_n 0, 56, 31, 0, 0, 0), (.getfield 13, 57, 32, 0, 0, 0)],
   [(.ifCond .le 12, 60, 33, 38, 0, 0), (.aload_n 0, 63, 34, 0, 0, 0), (.getfield 13, 64, 35, 0, 0, 0), (.iconst 1, 67, 36, 0, 0, 0), (.isub, 68, 37, 0, 0, 0), (.goto 4, 69, 38, 39, 0, 0), (.iconst 0, 72, 39, 0, 0, 0), (.putfield 13, 73, 40, 0, 0, 0), (.return_, 76, 41, 0, 0, 0)]],
   [], 5)
/-- HeardVotes$Ballot.tally(LHeardVotes$Net;I)V: 6 -/
def TX1_tally : TB := ([[(.aload_n 0, 0, 1, 0, 0, 0), (.iconst 0, 1, 2, 0, 0, 0), (.putfield 9, 2, 3, 1, 0, 0), (.aload_n 0, 5, 4, 0, 0, 0), (.iconst 0, 6, 5, 0, 0, 0), (.putfield 15, 7, 6, 1, 1, 0), (.iconst 0, 10, 7, 0, 0, 0), (.istore_n 3, 11, 8, 0, 0, 0), (.iload_n 3, 12, 9, 0, 0, 0), (.iconst 5, 13, 10, 0, 0, 0), (.if_icmp .ge 80, 14, 11, 49, 0, 0), (.aload_n 1, 17, 12, 0, 0, 0), (.iload_n 2, 18, 13, 0, 0, 0), (.iload_n 3, 19, 14, 0, 0, 0), (.invokevirtual 51, 20, 15, 30, 2, 0), (.istore 4, 23, 16, 0, 0, 0)],
   [(.iload 4, 25, 17, 0, 0, 0), (.ifCond .lt 31, 27, 18, 32, 0, 0), (.aload_n 0, 30, 19, 0, 0, 0), (.aload_n 0, 31, 20, 0, 0, 0), (.getfield 43, 32, 21, 1, 10, 0), (.iload_n 3, 35, 22, 0, 0, 0), (.iload 4, 36, 23, 0, 0, 0), (.invokevirtual 57, 38, 24, 65, 2, 0), (.bipush 100, 41, 25, 0, 0, 0), (.aload_n 0, 43, 26, 0, 0, 0), (.getfield 47, 44, 27, 1, 11, 0), (.iload_n 3, 47, 28, 0, 0, 0), (.invokevirtual 62, 48, 29, 59, 1, 0), (.imul, 51, 30, 0, 0, 0), (.invokevirtual 68, 52, 31, 7, 2, 0), (.goto 33, 55, 32, 47, 0, 0)],
   [(.aload_n 1, 58, 33, 0, 0, 0), (.iload_n 3, 59, 34, 0, 0, 0), (.invokevirtual 72, 60, 35, 27, 1, 0), (.ifCond .eq 25, 63, 36, 47, 0, 0), (.aload_n 0, 66, 37, 0, 0, 0), (.bipush 60, 67, 38, 0, 0, 0), (.aload_n 0, 69, 39, 0, 0, 0), (.getfield 47, 70, 40, 1, 11, 0), (.getfield 76, 73, 41, 7, 4, 0), (.aload_n 0, 76, 42, 0, 0, 0), (.getfield 47, 77, 43, 1, 11, 0), (.iload_n 3, 80, 44, 0, 0, 0), (.invokevirtual 62, 81, 45, 59, 1, 0), (.imul, 84, 46, 0, 0, 0), (.invokevirtual 68, 85, 47, 7, 2, 0), (.iinc 3 1, 88, 48, 0, 0, 0)],
   [(.goto (-79), 91, 49, 8, 0, 0), (.iconst 1, 94, 50, 0, 0, 0), (.istore_n 3, 95, 51, 0, 0, 0), (.iload_n 3, 96, 52, 0, 0, 0), (.aload_n 0, 97, 53, 0, 0, 0), (.getfield 9, 98, 54, 1, 0, 0), (.if_icmp .ge 14, 101, 55, 60, 0, 0), (.aload_n 0, 104, 56, 0, 0, 0), (.iload_n 3, 105, 57, 0, 0, 0), (.invokevirtual 79, 106, 58, 8, 1, 0), (.iinc 3 1, 109, 59, 0, 0, 0), (.goto (-16), 112, 60, 51, 0, 0), (.return_, 115, 61, 0, 0, 0)]],
   [], 6)
/-- HeardVotes$Ballot.vote(II)V: 7 -/
def TX1_vote : TB := ([[(.iconst 0, 0, 1, 0, 0, 0), (.istore_n 3, 1, 2, 0, 0, 0), (.iload_n 3, 2, 3, 0, 0, 0), (.aload_n 0, 3, 4, 0, 0, 0), (.getfield 9, 4, 5, 1, 0, 0), (.if_icmp .ge 19, 7, 6, 14, 0, 0), (.aload_n 0, 10, 7, 0, 0, 0), (.getfield 28, 11, 8, 1, 5, 0), (.iload_n 3, 14, 9, 0, 0, 0), (.iaload, 15, 10, 0, 0, 0), (.iload_n 1, 16, 11, 0, 0, 0), (.if_icmp .eq 9, 17, 12, 14, 0, 0), (.iinc 3 1, 20, 13, 0, 0, 0), (.goto (-21), 23, 14, 2, 0, 0), (.iload_n 3, 26, 15, 0, 0, 0), (.iconst 5, 27, 16, 0, 0, 0)],
   [(.if_icmp .lt 4, 28, 17, 18, 0, 0), (.return_, 31, 18, 0, 0, 0), (.iload_n 3, 32, 19, 0, 0, 0), (.aload_n 0, 33, 20, 0, 0, 0), (.getfield 9, 34, 21, 1, 0, 0), (.if_icmp .ne 27, 37, 22, 38, 0, 0), (.aload_n 0, 40, 23, 0, 0, 0), (.getfield 28, 41, 24, 1, 5, 0), (.iload_n 3, 44, 25, 0, 0, 0), (.iload_n 1, 45, 26, 0, 0, 0), (.iastore, 46, 27, 0, 0, 0), (.aload_n 0, 47, 28, 0, 0, 0), (.getfield 31, 48, 29, 1, 6, 0), (.iload_n 3, 51, 30, 0, 0, 0), (.iconst 0, 52, 31, 0, 0, 0), (.iastore, 53, 32, 0, 0, 0)],
   [(.aload_n 0, 54, 33, 0, 0, 0), (.dup, 55, 34, 0, 0, 0), (.getfield 9, 56, 35, 1, 0, 0), (.iconst 1, 59, 36, 0, 0, 0), (.iadd, 60, 37, 0, 0, 0), (.putfield 9, 61, 38, 1, 0, 0), (.aload_n 0, 64, 39, 0, 0, 0), (.getfield 31, 65, 40, 1, 6, 0), (.iload_n 3, 68, 41, 0, 0, 0), (.dup2, 69, 42, 0, 0, 0), (.iaload, 70, 43, 0, 0, 0), (.iload_n 2, 71, 44, 0, 0, 0), (.iadd, 72, 45, 0, 0, 0), (.iastore, 73, 46, 0, 0, 0), (.aload_n 0, 74, 47, 0, 0, 0), (.dup, 75, 48, 0, 0, 0)],
   [(.getfield 15, 76, 49, 1, 1, 0), (.iload_n 2, 79, 50, 0, 0, 0), (.iadd, 80, 51, 0, 0, 0), (.putfield 15, 81, 52, 1, 1, 0), (.return_, 84, 53, 0, 0, 0)]],
   [], 7)
/-- HeardVotes$Ballot.moveAhead(I)V: 8 -/
def TX1_moveAhead : TB := ([[(.aload_n 0, 0, 1, 0, 0, 0), (.getfield 28, 1, 2, 1, 5, 0), (.iload_n 1, 4, 3, 0, 0, 0), (.iaload, 5, 4, 0, 0, 0), (.istore_n 2, 6, 5, 0, 0, 0), (.aload_n 0, 7, 6, 0, 0, 0), (.getfield 31, 8, 7, 1, 6, 0), (.iload_n 1, 11, 8, 0, 0, 0), (.iaload, 12, 9, 0, 0, 0), (.istore_n 3, 13, 10, 0, 0, 0), (.iload_n 1, 14, 11, 0, 0, 0), (.istore 4, 15, 12, 0, 0, 0), (.iload 4, 17, 13, 0, 0, 0), (.ifCond .le 80, 19, 14, 60, 0, 0), (.iload_n 3, 22, 15, 0, 0, 0), (.aload_n 0, 23, 16, 0, 0, 0)],
   [(.getfield 31, 24, 17, 1, 6, 0), (.iload 4, 27, 18, 0, 0, 0), (.iconst 1, 29, 19, 0, 0, 0), (.isub, 30, 20, 0, 0, 0), (.iaload, 31, 21, 0, 0, 0), (.if_icmp .gt 29, 32, 22, 38, 0, 0), (.iload_n 3, 35, 23, 0, 0, 0), (.aload_n 0, 36, 24, 0, 0, 0), (.getfield 31, 37, 25, 1, 6, 0), (.iload 4, 40, 26, 0, 0, 0), (.iconst 1, 42, 27, 0, 0, 0), (.isub, 43, 28, 0, 0, 0), (.iaload, 44, 29, 0, 0, 0), (.if_icmp .ne 54, 45, 30, 60, 0, 0), (.iload_n 2, 48, 31, 0, 0, 0), (.aload_n 0, 49, 32, 0, 0, 0)],
   [(.getfield 28, 50, 33, 1, 5, 0), (.iload 4, 53, 34, 0, 0, 0), (.iconst 1, 55, 35, 0, 0, 0), (.isub, 56, 36, 0, 0, 0), (.iaload, 57, 37, 0, 0, 0), (.if_icmp .ge 41, 58, 38, 60, 0, 0), (.aload_n 0, 61, 39, 0, 0, 0), (.getfield 28, 62, 40, 1, 5, 0), (.iload 4, 65, 41, 0, 0, 0), (.aload_n 0, 67, 42, 0, 0, 0), (.getfield 28, 68, 43, 1, 5, 0), (.iload 4, 71, 44, 0, 0, 0), (.iconst 1, 73, 45, 0, 0, 0), (.isub, 74, 46, 0, 0, 0), (.iaload, 75, 47, 0, 0, 0), (.iastore, 76, 48, 0, 0, 0)],
   [(.aload_n 0, 77, 49, 0, 0, 0), (.getfield 31, 78, 50, 1, 6, 0), (.iload 4, 81, 51, 0, 0, 0), (.aload_n 0, 83, 52, 0, 0, 0), (.getfield 31, 84, 53, 1, 6, 0), (.iload 4, 87, 54, 0, 0, 0), (.iconst 1, 89, 55, 0, 0, 0), (.isub, 90, 56, 0, 0, 0), (.iaload, 91, 57, 0, 0, 0), (.iastore, 92, 58, 0, 0, 0), (.iinc 4 (-1), 93, 59, 0, 0, 0), (.goto (-79), 96, 60, 12, 0, 0), (.aload_n 0, 99, 61, 0, 0, 0), (.getfield 28, 100, 62, 1, 5, 0), (.iload 4, 103, 63, 0, 0, 0), (.iload_n 2, 105, 64, 0, 0, 0)],
   [(.iastore, 106, 65, 0, 0, 0), (.aload_n 0, 107, 66, 0, 0, 0), (.getfield 31, 108, 67, 1, 6, 0), (.iload 4, 111, 68, 0, 0, 0), (.iload_n 3, 113, 69, 0, 0, 0), (.iastore, 114, 70, 0, 0, 0), (.return_, 115, 71, 0, 0, 0)]],
   [], 8)
/-- HeardVotes$Ballot.wordOfChoice(I)I: 9 -/
def TX1_wordOfChoice : TB := ([[(.iload_n 1, 0, 1, 0, 0, 0), (.ifCond .lt 31, 1, 2, 17, 0, 0), (.iload_n 1, 4, 3, 0, 0, 0), (.aload_n 0, 5, 4, 0, 0, 0), (.getfield 9, 6, 5, 1, 0, 0), (.if_icmp .ge 23, 9, 6, 17, 0, 0), (.aload_n 0, 12, 7, 0, 0, 0), (.getfield 28, 13, 8, 1, 5, 0), (.iload_n 1, 16, 9, 0, 0, 0), (.iaload, 17, 10, 0, 0, 0), (.bipush 60, 18, 11, 0, 0, 0), (.if_icmp .eq 12, 20, 12, 17, 0, 0), (.aload_n 0, 23, 13, 0, 0, 0), (.getfield 28, 24, 14, 1, 5, 0), (.iload_n 1, 27, 15, 0, 0, 0), (.iaload, 28, 16, 0, 0, 0)],
   [(.goto 5, 29, 17, 18, 0, 0), (.bipush (-2), 32, 18, 0, 0, 0), (.ireturn, 34, 19, 0, 0, 0)]],
   [], 9)
/-- HeardVotes$Ballot.pointsOfChoice(I)I: 10 -/
def TX1_pointsOfChoice : TB := ([[(.iload_n 1, 0, 1, 0, 0, 0), (.ifCond .lt 20, 1, 2, 11, 0, 0), (.iload_n 1, 4, 3, 0, 0, 0), (.aload_n 0, 5, 4, 0, 0, 0), (.getfield 9, 6, 5, 1, 0, 0), (.if_icmp .ge 12, 9, 6, 11, 0, 0), (.aload_n 0, 12, 7, 0, 0, 0), (.getfield 31, 13, 8, 1, 6, 0), (.iload_n 1, 16, 9, 0, 0, 0), (.iaload, 17, 10, 0, 0, 0), (.goto 4, 18, 11, 12, 0, 0), (.iconst 0, 21, 12, 0, 0, 0), (.ireturn, 22, 13, 0, 0, 0)]],
   [], 10)
/-- HeardVotes$Ballot.doubtPoints()I: 11 -/
def TX1_doubtPoints : TB := ([[(.aload_n 0, 0, 1, 0, 0, 0), (.getfield 15, 1, 2, 1, 1, 0), (.aload_n 0, 4, 3, 0, 0, 0), (.iconst 0, 5, 4, 0, 0, 0), (.invokevirtual 83, 6, 5, 10, 1, 0), (.isub, 9, 6, 0, 0, 0), (.aload_n 0, 10, 7, 0, 0, 0), (.iconst 1, 11, 8, 0, 0, 0), (.invokevirtual 83, 12, 9, 10, 1, 0), (.iadd, 15, 10, 0, 0, 0), (.ireturn, 16, 11, 0, 0, 0)]],
   [], 11)
/-- HeardVotes$Ballot.listHeard(LHeardVotes$Net;)V: 12 -/
def TX1_listHeard : TB := ([[(.aload_n 0, 0, 1, 0, 0, 0), (.iconst 0, 1, 2, 0, 0, 0), (.putfield 18, 2, 3, 1, 2, 0), (.iconst 0, 5, 4, 0, 0, 0), (.istore_n 2, 6, 5, 0, 0, 0), (.iload_n 2, 7, 6, 0, 0, 0), (.aload_n 1, 8, 7, 0, 0, 0), (.getfield 86, 9, 8, 3, 0, 0), (.if_icmp .ge 64, 12, 9, 43, 0, 0), (.aload_n 0, 15, 10, 0, 0, 0), (.aload_n 1, 16, 11, 0, 0, 0), (.iload_n 2, 17, 12, 0, 0, 0), (.invokevirtual 89, 18, 13, 6, 2, 0), (.aload_n 0, 21, 14, 0, 0, 0), (.iconst 0, 22, 15, 0, 0, 0), (.invokevirtual 93, 23, 16, 9, 1, 0)],
   [(.istore_n 3, 26, 17, 0, 0, 0), (.iload_n 3, 27, 18, 0, 0, 0), (.ifCond .lt 42, 28, 19, 41, 0, 0), (.aload_n 0, 31, 20, 0, 0, 0), (.getfield 18, 32, 21, 1, 2, 0), (.bipush 60, 35, 22, 0, 0, 0), (.if_icmp .ge 33, 37, 23, 41, 0, 0), (.aload_n 0, 40, 24, 0, 0, 0), (.getfield 21, 41, 25, 1, 3, 0), (.aload_n 0, 44, 26, 0, 0, 0), (.getfield 18, 45, 27, 1, 2, 0), (.iload_n 3, 48, 28, 0, 0, 0), (.iastore, 49, 29, 0, 0, 0), (.aload_n 0, 50, 30, 0, 0, 0), (.getfield 25, 51, 31, 1, 4, 0), (.aload_n 0, 54, 32, 0, 0, 0)],
   [(.getfield 18, 55, 33, 1, 2, 0), (.iload_n 2, 58, 34, 0, 0, 0), (.iastore, 59, 35, 0, 0, 0), (.aload_n 0, 60, 36, 0, 0, 0), (.dup, 61, 37, 0, 0, 0), (.getfield 18, 62, 38, 1, 2, 0), (.iconst 1, 65, 39, 0, 0, 0), (.iadd, 66, 40, 0, 0, 0), (.putfield 18, 67, 41, 1, 2, 0), (.iinc 2 1, 70, 42, 0, 0, 0), (.goto (-66), 73, 43, 5, 0, 0), (.return_, 76, 44, 0, 0, 0)]],
   [], 12)
/-- HeardVotes$Ballot.heardWord(I)I: 13 -/
def TX1_heardWord : TB := ([[(.iload_n 1, 0, 1, 0, 0, 0), (.ifCond .lt 20, 1, 2, 11, 0, 0), (.iload_n 1, 4, 3, 0, 0, 0), (.aload_n 0, 5, 4, 0, 0, 0), (.getfield 18, 6, 5, 1, 2, 0), (.if_icmp .ge 12, 9, 6, 11, 0, 0), (.aload_n 0, 12, 7, 0, 0, 0), (.getfield 21, 13, 8, 1, 3, 0), (.iload_n 1, 16, 9, 0, 0, 0), (.iaload, 17, 10, 0, 0, 0), (.goto 4, 18, 11, 12, 0, 0), (.iconst (-1), 21, 12, 0, 0, 0), (.ireturn, 22, 13, 0, 0, 0)]],
   [], 13)
/-- HeardVotes$Ballot.heardSlot(I)I: 14 -/
def TX1_heardSlot : TB := ([[(.iload_n 1, 0, 1, 0, 0, 0), (.ifCond .lt 20, 1, 2, 11, 0, 0), (.iload_n 1, 4, 3, 0, 0, 0), (.aload_n 0, 5, 4, 0, 0, 0), (.getfield 18, 6, 5, 1, 2, 0), (.if_icmp .ge 12, 9, 6, 11, 0, 0), (.aload_n 0, 12, 7, 0, 0, 0), (.getfield 25, 13, 8, 1, 4, 0), (.iload_n 1, 16, 9, 0, 0, 0), (.iaload, 17, 10, 0, 0, 0), (.goto 4, 18, 11, 12, 0, 0), (.iconst (-1), 21, 12, 0, 0, 0), (.ireturn, 22, 13, 0, 0, 0)]],
   [], 14)
/-- HeardVotes$Ballot.listDoubts(LHeardVotes$Net;)V: 15 -/
def TX1_listDoubts : TB := ([[(.iconst 0, 0, 1, 0, 0, 0), (.istore_n 2, 1, 2, 0, 0, 0), (.iload_n 2, 2, 3, 0, 0, 0), (.aload_n 1, 3, 4, 0, 0, 0), (.getfield 86, 4, 5, 3, 0, 0), (.if_icmp .ge 90, 7, 6, 58, 0, 0), (.iload_n 2, 10, 7, 0, 0, 0), (.bipush 60, 11, 8, 0, 0, 0), (.if_icmp .ge 84, 13, 9, 58, 0, 0), (.aload_n 0, 16, 10, 0, 0, 0), (.aload_n 1, 17, 11, 0, 0, 0), (.iload_n 2, 18, 12, 0, 0, 0), (.invokevirtual 89, 19, 13, 6, 2, 0), (.aload_n 0, 22, 14, 0, 0, 0), (.getfield 34, 23, 15, 1, 7, 0), (.iload_n 2, 26, 16, 0, 0, 0)],
   [(.aload_n 0, 27, 17, 0, 0, 0), (.invokevirtual 96, 28, 18, 11, 0, 0), (.iastore, 31, 19, 0, 0, 0), (.aload_n 0, 32, 20, 0, 0, 0), (.getfield 37, 33, 21, 1, 8, 0), (.iload_n 2, 36, 22, 0, 0, 0), (.aload_n 0, 37, 23, 0, 0, 0), (.getfield 15, 38, 24, 1, 1, 0), (.iastore, 41, 25, 0, 0, 0), (.iload_n 2, 42, 26, 0, 0, 0), (.istore_n 3, 43, 27, 0, 0, 0), (.iload_n 3, 44, 28, 0, 0, 0), (.ifCond .le 39, 45, 29, 51, 0, 0), (.aload_n 0, 48, 30, 0, 0, 0), (.iload_n 2, 49, 31, 0, 0, 0), (.aload_n 0, 50, 32, 0, 0, 0)],
   [(.getfield 40, 51, 33, 1, 9, 0), (.iload_n 3, 54, 34, 0, 0, 0), (.iconst 1, 55, 35, 0, 0, 0), (.isub, 56, 36, 0, 0, 0), (.iaload, 57, 37, 0, 0, 0), (.invokevirtual 100, 58, 38, 16, 2, 0), (.ifCond .eq 23, 61, 39, 51, 0, 0), (.aload_n 0, 64, 40, 0, 0, 0), (.getfield 40, 65, 41, 1, 9, 0), (.iload_n 3, 68, 42, 0, 0, 0), (.aload_n 0, 69, 43, 0, 0, 0), (.getfield 40, 70, 44, 1, 9, 0), (.iload_n 3, 73, 45, 0, 0, 0), (.iconst 1, 74, 46, 0, 0, 0), (.isub, 75, 47, 0, 0, 0), (.iaload, 76, 48, 0, 0, 0)],
   [(.iastore, 77, 49, 0, 0, 0), (.iinc 3 (-1), 78, 50, 0, 0, 0), (.goto (-37), 81, 51, 27, 0, 0), (.aload_n 0, 84, 52, 0, 0, 0), (.getfield 40, 85, 53, 1, 9, 0), (.iload_n 3, 88, 54, 0, 0, 0), (.iload_n 2, 89, 55, 0, 0, 0), (.iastore, 90, 56, 0, 0, 0), (.iinc 2 1, 91, 57, 0, 0, 0), (.goto (-92), 94, 58, 2, 0, 0), (.return_, 97, 59, 0, 0, 0)]],
   [], 15)
/-- HeardVotes$Ballot.isMoreDoubtful(II)Z: 16 -/
def TX1_isMoreDoubtful : TB := ([[(.aload_n 0, 0, 1, 0, 0, 0), (.getfield 34, 1, 2, 1, 7, 0), (.iload_n 1, 4, 3, 0, 0, 0), (.iaload, 5, 4, 0, 0, 0), (.i2l, 6, 5, 0, 0, 0), (.aload_n 0, 7, 6, 0, 0, 0), (.getfield 37, 8, 7, 1, 8, 0), (.iload_n 2, 11, 8, 0, 0, 0), (.iaload, 12, 9, 0, 0, 0), (.i2l, 13, 10, 0, 0, 0), (.lmul, 14, 11, 0, 0, 0), (.lstore_n 3, 15, 12, 0, 0, 0), (.aload_n 0, 16, 13, 0, 0, 0), (.getfield 34, 17, 14, 1, 7, 0), (.iload_n 2, 20, 15, 0, 0, 0), (.iaload, 21, 16, 0, 0, 0)],
   [(.i2l, 22, 17, 0, 0, 0), (.aload_n 0, 23, 18, 0, 0, 0), (.getfield 37, 24, 19, 1, 8, 0), (.iload_n 1, 27, 20, 0, 0, 0), (.iaload, 28, 21, 0, 0, 0), (.i2l, 29, 22, 0, 0, 0), (.lmul, 30, 23, 0, 0, 0), (.lstore 5, 31, 24, 0, 0, 0), (.lload_n 3, 33, 25, 0, 0, 0), (.lload 5, 34, 26, 0, 0, 0), (.lcmp, 36, 27, 0, 0, 0), (.ifCond .le 7, 37, 28, 30, 0, 0), (.iconst 1, 40, 29, 0, 0, 0), (.goto 4, 41, 30, 31, 0, 0), (.iconst 0, 44, 31, 0, 0, 0), (.ireturn, 45, 32, 1, 0, 0)]],
   [], 16)
/-- HeardVotes$Ballot.mostDoubtful(I)I: 17 -/
def TX1_mostDoubtful : TB := ([[(.iload_n 1, 0, 1, 0, 0, 0), (.ifCond .lt 18, 1, 2, 10, 0, 0), (.iload_n 1, 4, 3, 0, 0, 0), (.bipush 60, 5, 4, 0, 0, 0), (.if_icmp .ge 12, 7, 5, 10, 0, 0), (.aload_n 0, 10, 6, 0, 0, 0), (.getfield 40, 11, 7, 1, 9, 0), (.iload_n 1, 14, 8, 0, 0, 0), (.iaload, 15, 9, 0, 0, 0), (.goto 4, 16, 10, 11, 0, 0), (.iconst (-1), 19, 11, 0, 0, 0), (.ireturn, 20, 12, 0, 0, 0)]],
   [], 17)
/-- HeardVotes$Ballot.isAboveHalf(I)Z: 18 -/
def TX1_isAboveHalf : TB := ([[(.iload_n 1, 0, 1, 0, 0, 0), (.ifCond .lt 30, 1, 2, 18, 0, 0), (.iload_n 1, 4, 3, 0, 0, 0), (.bipush 60, 5, 4, 0, 0, 0), (.if_icmp .ge 24, 7, 5, 18, 0, 0), (.iconst 2, 10, 6, 0, 0, 0), (.aload_n 0, 11, 7, 0, 0, 0), (.getfield 34, 12, 8, 1, 7, 0), (.iload_n 1, 15, 9, 0, 0, 0), (.iaload, 16, 10, 0, 0, 0), (.imul, 17, 11, 0, 0, 0), (.aload_n 0, 18, 12, 0, 0, 0), (.getfield 37, 19, 13, 1, 8, 0), (.iload_n 1, 22, 14, 0, 0, 0), (.iaload, 23, 15, 0, 0, 0), (.if_icmp .le 7, 24, 16, 18, 0, 0)],
   [(.iconst 1, 27, 17, 0, 0, 0), (.goto 4, 28, 18, 19, 0, 0), (.iconst 0, 31, 19, 0, 0, 0), (.ireturn, 32, 20, 1, 0, 0)]],
   [], 18)
/-- HeardVotes$Ballot.meanTime(LHeardVotes$Net;II)I: 19 -/
def TX1_meanTime : TB := ([[(.iconst 0, 0, 1, 0, 0, 0), (.istore 4, 1, 2, 0, 0, 0), (.iconst 0, 3, 3, 0, 0, 0), (.istore 5, 4, 4, 0, 0, 0), (.iconst 0, 6, 5, 0, 0, 0), (.istore 6, 7, 6, 0, 0, 0), (.iload 6, 9, 7, 0, 0, 0), (.iconst 5, 11, 8, 0, 0, 0), (.if_icmp .ge 83, 12, 9, 48, 0, 0), (.aload_n 1, 15, 10, 0, 0, 0), (.iload_n 2, 16, 11, 0, 0, 0), (.iload 6, 17, 12, 0, 0, 0), (.invokevirtual 51, 19, 13, 30, 2, 0), (.istore 7, 22, 14, 0, 0, 0), (.iload 7, 24, 15, 0, 0, 0), (.ifCond .lt 63, 26, 16, 46, 0, 0)],
   [(.iload_n 3, 29, 17, 0, 0, 0), (.iconst (-1), 30, 18, 0, 0, 0), (.if_icmp .eq 18, 31, 19, 26, 0, 0), (.aload_n 0, 34, 20, 0, 0, 0), (.getfield 43, 35, 21, 1, 10, 0), (.iload 6, 38, 22, 0, 0, 0), (.iload 7, 40, 23, 0, 0, 0), (.invokevirtual 57, 42, 24, 65, 2, 0), (.iload_n 3, 45, 25, 0, 0, 0), (.if_icmp .ne 43, 46, 26, 46, 0, 0), (.iload 4, 49, 27, 0, 0, 0), (.aload_n 0, 51, 28, 0, 0, 0), (.getfield 47, 52, 29, 1, 11, 0), (.iload 6, 55, 30, 0, 0, 0), (.invokevirtual 62, 57, 31, 59, 1, 0), (.aload_n 0, 60, 32, 0, 0, 0)],
   [(.getfield 43, 61, 33, 1, 10, 0), (.iload 6, 64, 34, 0, 0, 0), (.iload 7, 66, 35, 0, 0, 0), (.invokevirtual 104, 68, 36, 66, 2, 0), (.imul, 71, 37, 0, 0, 0), (.iadd, 72, 38, 0, 0, 0), (.istore 4, 73, 39, 0, 0, 0), (.iload 5, 75, 40, 0, 0, 0), (.aload_n 0, 77, 41, 0, 0, 0), (.getfield 47, 78, 42, 1, 11, 0), (.iload 6, 81, 43, 0, 0, 0), (.invokevirtual 62, 83, 44, 59, 1, 0), (.iadd, 86, 45, 0, 0, 0), (.istore 5, 87, 46, 0, 0, 0), (.iinc 6 1, 89, 47, 0, 0, 0), (.goto (-83), 92, 48, 6, 0, 0)],
   [(.iload 5, 95, 49, 0, 0, 0), (.ifCond .le 11, 97, 50, 54, 0, 0), (.iload 4, 100, 51, 0, 0, 0), (.iload 5, 102, 52, 0, 0, 0), (.idiv, 104, 53, 0, 0, 0), (.goto 4, 105, 54, 55, 0, 0), (.iconst 0, 108, 55, 0, 0, 0), (.ireturn, 109, 56, 0, 0, 0)]],
   [], 19)
/-- HeardVotes$Fars.forget()V: 20 -/
def TX2_forget : TB := ([[(.aload_n 0, 0, 1, 0, 0, 0), (.getfield 9, 1, 2, 2, 2, 0), (.iconst (-1), 4, 3, 0, 0, 0), (.invokestatic 23, 5, 4, 0, 2, 0), (.return_, 8, 5, 0, 0, 0)]],
   [], 20)
/-- HeardVotes$Fars.apart(II)I: 21 -/
def TX2_apart : TB := ([[(.iload_n 1, 0, 1, 0, 0, 0), (.ifCond .lt 24, 1, 2, 13, 0, 0), (.iload_n 1, 4, 3, 0, 0, 0), (.bipush 60, 5, 4, 0, 0, 0), (.if_icmp .ge 18, 7, 5, 13, 0, 0), (.iload_n 2, 10, 6, 0, 0, 0), (.ifCond .lt 14, 11, 7, 13, 0, 0), (.iload_n 2, 14, 8, 0, 0, 0), (.bipush 60, 15, 9, 0, 0, 0), (.if_icmp .ge 8, 17, 10, 13, 0, 0), (.iload_n 1, 20, 11, 0, 0, 0), (.iload_n 2, 21, 12, 0, 0, 0), (.if_icmp .ne 5, 22, 13, 15, 0, 0), (.iconst 0, 25, 14, 0, 0, 0), (.ireturn, 26, 15, 0, 0, 0), (.iload_n 1, 27, 16, 0, 0, 0)],
   [(.iload_n 2, 28, 17, 0, 0, 0), (.if_icmp .le 15, 29, 18, 28, 0, 0), (.iload_n 1, 32, 19, 0, 0, 0), (.iload_n 1, 33, 20, 0, 0, 0), (.iconst 1, 34, 21, 0, 0, 0), (.isub, 35, 22, 0, 0, 0), (.imul, 36, 23, 0, 0, 0), (.iconst 2, 37, 24, 0, 0, 0), (.idiv, 38, 25, 0, 0, 0), (.iload_n 2, 39, 26, 0, 0, 0), (.iadd, 40, 27, 0, 0, 0), (.goto 12, 41, 28, 37, 0, 0), (.iload_n 2, 44, 29, 0, 0, 0), (.iload_n 2, 45, 30, 0, 0, 0), (.iconst 1, 46, 31, 0, 0, 0), (.isub, 47, 32, 0, 0, 0)],
   [(.imul, 48, 33, 0, 0, 0), (.iconst 2, 49, 34, 0, 0, 0), (.idiv, 50, 35, 0, 0, 0), (.iload_n 1, 51, 36, 0, 0, 0), (.iadd, 52, 37, 0, 0, 0), (.istore_n 3, 53, 38, 0, 0, 0), (.aload_n 0, 54, 39, 0, 0, 0), (.getfield 9, 55, 40, 2, 2, 0), (.iload_n 3, 58, 41, 0, 0, 0), (.iaload, 59, 42, 0, 0, 0), (.iconst (-1), 60, 43, 0, 0, 0), (.if_icmp .ne 54, 61, 44, 71, 0, 0), (.aload_n 0, 64, 45, 0, 0, 0), (.getfield 9, 65, 46, 2, 2, 0), (.iload_n 3, 68, 47, 0, 0, 0), (.aload_n 0, 69, 48, 0, 0, 0)],
   [(.getfield 19, 70, 49, 2, 1, 0), (.aload_n 0, 73, 50, 0, 0, 0), (.getfield 15, 74, 51, 2, 0, 0), (.getfield 29, 77, 52, 8, 8, 0), (.iload_n 1, 80, 53, 0, 0, 0), (.bipush 6, 81, 54, 0, 0, 0), (.imul, 83, 55, 0, 0, 0), (.aload_n 0, 84, 56, 0, 0, 0), (.getfield 15, 85, 57, 2, 0, 0), (.iload_n 1, 88, 58, 0, 0, 0), (.invokevirtual 34, 89, 59, 68, 1, 0), (.aload_n 0, 92, 60, 0, 0, 0), (.getfield 15, 93, 61, 2, 0, 0), (.getfield 29, 96, 62, 8, 8, 0), (.iload_n 2, 99, 63, 0, 0, 0), (.bipush 6, 100, 64, 0, 0, 0)],
   [(.imul, 102, 65, 0, 0, 0), (.aload_n 0, 103, 66, 0, 0, 0), (.getfield 15, 104, 67, 2, 0, 0), (.iload_n 2, 107, 68, 0, 0, 0), (.invokevirtual 34, 108, 69, 68, 1, 0), (.invokevirtual 38, 111, 70, 55, 6, 0), (.iastore, 114, 71, 0, 0, 0), (.aload_n 0, 115, 72, 0, 0, 0), (.getfield 9, 116, 73, 2, 2, 0), (.iload_n 3, 119, 74, 0, 0, 0), (.iaload, 120, 75, 0, 0, 0), (.ireturn, 121, 76, 0, 0, 0)]],
   [], 21)
/-- HeardVotes$Net.clear()V: 22 -/
def TX3_clear : TB := ([[(.aload_n 0, 0, 1, 0, 0, 0), (.iconst 0, 1, 2, 0, 0, 0), (.putfield 11, 2, 3, 3, 0, 0), (.aload_n 0, 5, 4, 0, 0, 0), (.iconst 0, 6, 5, 0, 0, 0), (.putfield 15, 7, 6, 3, 1, 0), (.aload_n 0, 10, 7, 0, 0, 0), (.getfield 22, 11, 8, 3, 3, 0), (.bipush (-2), 14, 9, 0, 0, 0), (.invokestatic 31, 16, 10, 0, 2, 0), (.return_, 19, 11, 0, 0, 0)]],
   [], 22)
/-- HeardVotes$Net.copyFrom(LHeardVotes$Net;)V: 23 -/
def TX3_copyFrom : TB := ([[(.aload_n 0, 0, 1, 0, 0, 0), (.aload_n 1, 1, 2, 0, 0, 0), (.getfield 11, 2, 3, 3, 0, 0), (.putfield 11, 5, 4, 3, 0, 0), (.aload_n 0, 8, 5, 0, 0, 0), (.aload_n 1, 9, 6, 0, 0, 0), (.getfield 15, 10, 7, 3, 1, 0), (.putfield 15, 13, 8, 3, 1, 0), (.aload_n 1, 16, 9, 0, 0, 0), (.getfield 18, 17, 10, 3, 2, 0), (.iconst 0, 20, 11, 0, 0, 0), (.aload_n 0, 21, 12, 0, 0, 0), (.getfield 18, 22, 13, 3, 2, 0), (.iconst 0, 25, 14, 0, 0, 0), (.iconst 5, 26, 15, 0, 0, 0), (.invokestatic 37, 27, 16, 900, 5, 0)],
   [(.aload_n 1, 30, 17, 0, 0, 0), (.getfield 22, 31, 18, 3, 3, 0), (.iconst 0, 34, 19, 0, 0, 0), (.aload_n 0, 35, 20, 0, 0, 0), (.getfield 22, 36, 21, 3, 3, 0), (.iconst 0, 39, 22, 0, 0, 0), (.iconst 5, 40, 23, 0, 0, 0), (.invokestatic 37, 41, 24, 900, 5, 0), (.aload_n 1, 44, 25, 0, 0, 0), (.getfield 25, 45, 26, 3, 4, 0), (.iconst 0, 48, 27, 0, 0, 0), (.aload_n 0, 49, 28, 0, 0, 0), (.getfield 25, 50, 29, 3, 4, 0), (.iconst 0, 53, 30, 0, 0, 0), (.iconst 5, 54, 31, 0, 0, 0), (.invokestatic 37, 55, 32, 900, 5, 0)],
   [(.aload_n 1, 58, 33, 0, 0, 0), (.getfield 28, 59, 34, 3, 5, 0), (.iconst 0, 62, 35, 0, 0, 0), (.aload_n 0, 63, 36, 0, 0, 0), (.getfield 28, 64, 37, 3, 5, 0), (.iconst 0, 67, 38, 0, 0, 0), (.aload_n 0, 68, 39, 0, 0, 0), (.getfield 28, 69, 40, 3, 5, 0), (.arraylength, 72, 41, 0, 0, 0), (.invokestatic 37, 73, 42, 900, 5, 0), (.return_, 76, 43, 0, 0, 0)]],
   [], 23)
/-- HeardVotes$Net.keepIn([II)V: 24 -/
def TX3_keepIn : TB := ([[(.iload_n 2, 0, 1, 0, 0, 0), (.ifCond .lt 12, 1, 2, 8, 0, 0), (.iload_n 2, 4, 3, 0, 0, 0), (.aload_n 1, 5, 4, 0, 0, 0), (.arraylength, 6, 5, 0, 0, 0), (.bipush 72, 7, 6, 0, 0, 0), (.isub, 9, 7, 0, 0, 0), (.if_icmp .le 4, 10, 8, 9, 0, 0), (.return_, 13, 9, 0, 0, 0), (.aload_n 1, 14, 10, 0, 0, 0), (.iload_n 2, 15, 11, 0, 0, 0), (.aload_n 0, 16, 12, 0, 0, 0), (.getfield 11, 17, 13, 3, 0, 0), (.iastore, 20, 14, 0, 0, 0), (.aload_n 1, 21, 15, 0, 0, 0), (.iload_n 2, 22, 16, 0, 0, 0)],
   [(.iconst 1, 23, 17, 0, 0, 0), (.iadd, 24, 18, 0, 0, 0), (.aload_n 0, 25, 19, 0, 0, 0), (.getfield 15, 26, 20, 3, 1, 0), (.iastore, 29, 21, 0, 0, 0), (.aload_n 0, 30, 22, 0, 0, 0), (.getfield 18, 31, 23, 3, 2, 0), (.iconst 0, 34, 24, 0, 0, 0), (.aload_n 1, 35, 25, 0, 0, 0), (.iload_n 2, 36, 26, 0, 0, 0), (.iconst 2, 37, 27, 0, 0, 0), (.iadd, 38, 28, 0, 0, 0), (.iconst 5, 39, 29, 0, 0, 0), (.invokestatic 37, 40, 30, 900, 5, 0), (.aload_n 0, 43, 31, 0, 0, 0), (.getfield 25, 44, 32, 3, 4, 0)],
   [(.iconst 0, 47, 33, 0, 0, 0), (.aload_n 1, 48, 34, 0, 0, 0), (.iload_n 2, 49, 35, 0, 0, 0), (.bipush 7, 50, 36, 0, 0, 0), (.iadd, 52, 37, 0, 0, 0), (.iconst 5, 53, 38, 0, 0, 0), (.invokestatic 37, 54, 39, 900, 5, 0), (.aload_n 1, 57, 40, 0, 0, 0), (.iload_n 2, 58, 41, 0, 0, 0), (.bipush 12, 59, 42, 0, 0, 0), (.iadd, 61, 43, 0, 0, 0), (.iload_n 2, 62, 44, 0, 0, 0), (.bipush 72, 63, 45, 0, 0, 0), (.iadd, 65, 46, 0, 0, 0), (.bipush (-2), 66, 47, 0, 0, 0), (.invokestatic 43, 68, 48, 1, 4, 0)],
   [(.iconst 0, 71, 49, 0, 0, 0), (.istore_n 3, 72, 50, 0, 0, 0), (.iload_n 3, 73, 51, 0, 0, 0), (.aload_n 0, 74, 52, 0, 0, 0), (.getfield 11, 75, 53, 3, 0, 0), (.if_icmp .ge 61, 78, 54, 85, 0, 0), (.iconst 0, 81, 55, 0, 0, 0), (.istore 4, 82, 56, 0, 0, 0), (.iload 4, 84, 57, 0, 0, 0), (.iconst 5, 86, 58, 0, 0, 0), (.if_icmp .ge 46, 87, 59, 83, 0, 0), (.aload_n 0, 90, 60, 0, 0, 0), (.iload_n 3, 91, 61, 0, 0, 0), (.iload 4, 92, 62, 0, 0, 0), (.invokevirtual 46, 94, 63, 30, 2, 0), (.istore 5, 97, 64, 0, 0, 0)],
   [(.iload 5, 99, 65, 0, 0, 0), (.ifCond .lt 26, 101, 66, 81, 0, 0), (.iload 5, 104, 67, 0, 0, 0), (.bipush 12, 106, 68, 0, 0, 0), (.if_icmp .ge 19, 108, 69, 81, 0, 0), (.aload_n 1, 111, 70, 0, 0, 0), (.iload_n 2, 112, 71, 0, 0, 0), (.bipush 12, 113, 72, 0, 0, 0), (.iadd, 115, 73, 0, 0, 0), (.iload 4, 116, 74, 0, 0, 0), (.bipush 12, 118, 75, 0, 0, 0), (.imul, 120, 76, 0, 0, 0), (.iadd, 121, 77, 0, 0, 0), (.iload 5, 122, 78, 0, 0, 0), (.iadd, 124, 79, 0, 0, 0), (.iload_n 3, 125, 80, 0, 0, 0)],
   [(.iastore, 126, 81, 0, 0, 0), (.iinc 4 1, 127, 82, 0, 0, 0), (.goto (-46), 130, 83, 56, 0, 0), (.iinc 3 1, 133, 84, 0, 0, 0), (.goto (-63), 136, 85, 50, 0, 0), (.return_, 139, 86, 0, 0, 0)]],
   [], 24)
/-- HeardVotes$Net.takeFrom([II)V: 25 -/
def TX3_takeFrom : TB := ([[(.iload_n 2, 0, 1, 0, 0, 0), (.ifCond .lt 12, 1, 2, 8, 0, 0), (.iload_n 2, 4, 3, 0, 0, 0), (.aload_n 1, 5, 4, 0, 0, 0), (.arraylength, 6, 5, 0, 0, 0), (.bipush 72, 7, 6, 0, 0, 0), (.isub, 9, 7, 0, 0, 0), (.if_icmp .le 4, 10, 8, 9, 0, 0), (.return_, 13, 9, 0, 0, 0), (.aload_n 0, 14, 10, 0, 0, 0), (.invokevirtual 50, 15, 11, 22, 0, 0), (.aload_n 0, 18, 12, 0, 0, 0), (.aload_n 1, 19, 13, 0, 0, 0), (.iload_n 2, 20, 14, 0, 0, 0), (.iaload, 21, 15, 0, 0, 0), (.putfield 11, 22, 16, 3, 0, 0)],
   [(.iconst 0, 25, 17, 0, 0, 0), (.istore_n 3, 26, 18, 0, 0, 0), (.iload_n 3, 27, 19, 0, 0, 0), (.aload_n 1, 28, 20, 0, 0, 0), (.iload_n 2, 29, 21, 0, 0, 0), (.iconst 1, 30, 22, 0, 0, 0), (.iadd, 31, 23, 0, 0, 0), (.iaload, 32, 24, 0, 0, 0), (.if_icmp .ge 49, 33, 25, 53, 0, 0), (.iload_n 3, 36, 26, 0, 0, 0), (.iconst 5, 37, 27, 0, 0, 0), (.if_icmp .ge 44, 38, 28, 53, 0, 0), (.aload_n 1, 41, 29, 0, 0, 0), (.iload_n 2, 42, 30, 0, 0, 0), (.iconst 2, 43, 31, 0, 0, 0), (.iadd, 44, 32, 0, 0, 0)],
   [(.iload_n 3, 45, 33, 0, 0, 0), (.iadd, 46, 34, 0, 0, 0), (.iaload, 47, 35, 0, 0, 0), (.istore 4, 48, 36, 0, 0, 0), (.iload 4, 50, 37, 0, 0, 0), (.ifCond .lt 24, 52, 38, 51, 0, 0), (.iload 4, 55, 39, 0, 0, 0), (.iconst 5, 57, 40, 0, 0, 0), (.if_icmp .ge 18, 58, 41, 51, 0, 0), (.aload_n 0, 61, 42, 0, 0, 0), (.iload 4, 62, 43, 0, 0, 0), (.aload_n 1, 64, 44, 0, 0, 0), (.iload_n 2, 65, 45, 0, 0, 0), (.bipush 7, 66, 46, 0, 0, 0), (.iadd, 68, 47, 0, 0, 0), (.iload 4, 69, 48, 0, 0, 0)],
   [(.iadd, 71, 49, 0, 0, 0), (.iaload, 72, 50, 0, 0, 0), (.invokevirtual 53, 73, 51, 36, 2, 0), (.iinc 3 1, 76, 52, 0, 0, 0), (.goto (-52), 79, 53, 18, 0, 0), (.iconst 0, 82, 54, 0, 0, 0), (.istore_n 3, 83, 55, 0, 0, 0), (.iload_n 3, 84, 56, 0, 0, 0), (.aload_n 0, 85, 57, 0, 0, 0), (.getfield 11, 86, 58, 3, 0, 0), (.if_icmp .ge 14, 89, 59, 64, 0, 0), (.aload_n 0, 92, 60, 0, 0, 0), (.iload_n 3, 93, 61, 0, 0, 0), (.invokevirtual 57, 94, 62, 34, 1, 0), (.iinc 3 1, 97, 63, 0, 0, 0), (.goto (-16), 100, 64, 55, 0, 0)],
   [(.iconst 0, 103, 65, 0, 0, 0), (.istore_n 3, 104, 66, 0, 0, 0), (.iload_n 3, 105, 67, 0, 0, 0), (.bipush 60, 106, 68, 0, 0, 0), (.if_icmp .ge 29, 108, 69, 86, 0, 0), (.aload_n 0, 111, 70, 0, 0, 0), (.aload_n 1, 112, 71, 0, 0, 0), (.iload_n 2, 113, 72, 0, 0, 0), (.bipush 12, 114, 73, 0, 0, 0), (.iadd, 116, 74, 0, 0, 0), (.iload_n 3, 117, 75, 0, 0, 0), (.iadd, 118, 76, 0, 0, 0), (.iaload, 119, 77, 0, 0, 0), (.iload_n 3, 120, 78, 0, 0, 0), (.bipush 12, 121, 79, 0, 0, 0), (.idiv, 123, 80, 0, 0, 0)],
   [(.iload_n 3, 124, 81, 0, 0, 0), (.bipush 12, 125, 82, 0, 0, 0), (.irem, 127, 83, 0, 0, 0), (.invokevirtual 61, 128, 84, 33, 3, 0), (.iinc 3 1, 131, 85, 0, 0, 0), (.goto (-29), 134, 86, 66, 0, 0), (.return_, 137, 87, 0, 0, 0)]],
   [], 25)
/-- HeardVotes$Net.placeOf(I)I: 26 -/
def TX3_placeOf : TB := ([[(.iload_n 1, 0, 1, 0, 0, 0), (.ifCond .lt 17, 1, 2, 10, 0, 0), (.iload_n 1, 4, 3, 0, 0, 0), (.iconst 5, 5, 4, 0, 0, 0), (.if_icmp .ge 12, 6, 5, 10, 0, 0), (.aload_n 0, 9, 6, 0, 0, 0), (.getfield 22, 10, 7, 3, 3, 0), (.iload_n 1, 13, 8, 0, 0, 0), (.iaload, 14, 9, 0, 0, 0), (.goto 5, 15, 10, 11, 0, 0), (.bipush (-2), 18, 11, 0, 0, 0), (.ireturn, 20, 12, 0, 0, 0)]],
   [], 26)
/-- HeardVotes$Net.holds(I)Z: 27 -/
def TX3_holds : TB := ([[(.aload_n 0, 0, 1, 0, 0, 0), (.iload_n 1, 1, 2, 0, 0, 0), (.invokevirtual 65, 2, 3, 26, 1, 0), (.ifCond .lt 7, 5, 4, 6, 0, 0), (.iconst 1, 8, 5, 0, 0, 0), (.goto 4, 9, 6, 7, 0, 0), (.iconst 0, 12, 7, 0, 0, 0), (.ireturn, 13, 8, 1, 0, 0)]],
   [], 27)
/-- HeardVotes$Net.costOf(I)I: 28 -/
def TX3_costOf : TB := ([[(.iload_n 1, 0, 1, 0, 0, 0), (.ifCond .lt 17, 1, 2, 10, 0, 0), (.iload_n 1, 4, 3, 0, 0, 0), (.iconst 5, 5, 4, 0, 0, 0), (.if_icmp .ge 12, 6, 5, 10, 0, 0), (.aload_n 0, 9, 6, 0, 0, 0), (.getfield 25, 10, 7, 3, 4, 0), (.iload_n 1, 13, 8, 0, 0, 0), (.iaload, 14, 9, 0, 0, 0), (.goto 4, 15, 10, 11, 0, 0), (.iconst 0, 18, 11, 0, 0, 0), (.ireturn, 19, 12, 0, 0, 0)]],
   [], 28)
/-- HeardVotes$Net.joinedAt(I)I: 29 -/
def TX3_joinedAt : TB := ([[(.iload_n 1, 0, 1, 0, 0, 0), (.ifCond .lt 17, 1, 2, 10, 0, 0), (.iload_n 1, 4, 3, 0, 0, 0), (.iconst 5, 5, 4, 0, 0, 0), (.if_icmp .ge 12, 6, 5, 10, 0, 0), (.aload_n 0, 9, 6, 0, 0, 0), (.getfield 18, 10, 7, 3, 2, 0), (.iload_n 1, 13, 8, 0, 0, 0), (.iaload, 14, 9, 0, 0, 0), (.goto 4, 15, 10, 11, 0, 0), (.iconst (-1), 18, 11, 0, 0, 0), (.ireturn, 19, 12, 0, 0, 0)]],
   [], 29)
/-- HeardVotes$Net.thereOf(II)I: 30 -/
def TX3_thereOf : TB := ([[(.iload_n 1, 0, 1, 0, 0, 0), (.ifCond .lt 31, 1, 2, 19, 0, 0), (.iload_n 1, 4, 3, 0, 0, 0), (.bipush 60, 5, 4, 0, 0, 0), (.if_icmp .ge 25, 7, 5, 19, 0, 0), (.iload_n 2, 10, 6, 0, 0, 0), (.ifCond .lt 21, 11, 7, 19, 0, 0), (.iload_n 2, 14, 8, 0, 0, 0), (.iconst 5, 15, 9, 0, 0, 0), (.if_icmp .ge 16, 16, 10, 19, 0, 0), (.aload_n 0, 19, 11, 0, 0, 0), (.getfield 28, 20, 12, 3, 5, 0), (.iload_n 1, 23, 13, 0, 0, 0), (.iconst 5, 24, 14, 0, 0, 0), (.imul, 25, 15, 0, 0, 0), (.iload_n 2, 26, 16, 0, 0, 0)],
   [(.iadd, 27, 17, 0, 0, 0), (.iaload, 28, 18, 0, 0, 0), (.goto 5, 29, 19, 20, 0, 0), (.bipush (-2), 32, 20, 0, 0, 0), (.ireturn, 34, 21, 0, 0, 0)]],
   [], 30)
/-- HeardVotes$Net.slotOf(II)I: 31 -/
def TX3_slotOf : TB := ([[(.iconst 0, 0, 1, 0, 0, 0), (.istore_n 3, 1, 2, 0, 0, 0), (.iload_n 3, 2, 3, 0, 0, 0), (.aload_n 0, 3, 4, 0, 0, 0), (.getfield 11, 4, 5, 3, 0, 0), (.if_icmp .ge 21, 7, 6, 16, 0, 0), (.aload_n 0, 10, 7, 0, 0, 0), (.iload_n 3, 11, 8, 0, 0, 0), (.iload_n 1, 12, 9, 0, 0, 0), (.invokevirtual 46, 13, 10, 30, 2, 0), (.iload_n 2, 16, 11, 0, 0, 0), (.if_icmp .ne 5, 17, 12, 14, 0, 0), (.iload_n 3, 20, 13, 0, 0, 0), (.ireturn, 21, 14, 0, 0, 0), (.iinc 3 1, 22, 15, 0, 0, 0), (.goto (-23), 25, 16, 2, 0, 0)],
   [(.bipush (-2), 28, 17, 0, 0, 0), (.ireturn, 30, 18, 0, 0, 0)]],
   [], 31)
/-- HeardVotes$Net.wordsThere(I)I: 32 -/
def TX3_wordsThere : TB := ([[(.iconst 0, 0, 1, 0, 0, 0), (.istore_n 2, 1, 2, 0, 0, 0), (.iconst 0, 2, 3, 0, 0, 0), (.istore_n 3, 3, 4, 0, 0, 0), (.iload_n 3, 4, 5, 0, 0, 0), (.iconst 5, 5, 6, 0, 0, 0), (.if_icmp .ge 26, 6, 7, 20, 0, 0), (.iload_n 2, 9, 8, 0, 0, 0), (.aload_n 0, 10, 9, 0, 0, 0), (.iload_n 1, 11, 10, 0, 0, 0), (.iload_n 3, 12, 11, 0, 0, 0), (.invokevirtual 46, 13, 12, 30, 2, 0), (.ifCond .lt 7, 16, 13, 15, 0, 0), (.iconst 1, 19, 14, 0, 0, 0), (.goto 4, 20, 15, 16, 0, 0), (.iconst 0, 23, 16, 0, 0, 0)],
   [(.iadd, 24, 17, 0, 0, 0), (.istore_n 2, 25, 18, 0, 0, 0), (.iinc 3 1, 26, 19, 0, 0, 0), (.goto (-25), 29, 20, 4, 0, 0), (.iload_n 2, 32, 21, 0, 0, 0), (.ireturn, 33, 22, 0, 0, 0)]],
   [], 32)
/-- HeardVotes$Net.putThere(III)V: 33 -/
def TX3_putThere : TB := ([[(.iload_n 1, 0, 1, 0, 0, 0), (.ifCond .lt 29, 1, 2, 19, 0, 0), (.iload_n 1, 4, 3, 0, 0, 0), (.bipush 60, 5, 4, 0, 0, 0), (.if_icmp .ge 23, 7, 5, 19, 0, 0), (.iload_n 2, 10, 6, 0, 0, 0), (.ifCond .lt 19, 11, 7, 19, 0, 0), (.iload_n 2, 14, 8, 0, 0, 0), (.iconst 5, 15, 9, 0, 0, 0), (.if_icmp .ge 14, 16, 10, 19, 0, 0), (.aload_n 0, 19, 11, 0, 0, 0), (.getfield 28, 20, 12, 3, 5, 0), (.iload_n 1, 23, 13, 0, 0, 0), (.iconst 5, 24, 14, 0, 0, 0), (.imul, 25, 15, 0, 0, 0), (.iload_n 2, 26, 16, 0, 0, 0)],
   [(.iadd, 27, 17, 0, 0, 0), (.iload_n 3, 28, 18, 0, 0, 0), (.iastore, 29, 19, 0, 0, 0), (.return_, 30, 20, 0, 0, 0)]],
   [], 33)
/-- HeardVotes$Net.emptySlot(I)V: 34 -/
def TX3_emptySlot : TB := ([[(.iconst 0, 0, 1, 0, 0, 0), (.istore_n 2, 1, 2, 0, 0, 0), (.iload_n 2, 2, 3, 0, 0, 0), (.iconst 5, 3, 4, 0, 0, 0), (.if_icmp .ge 17, 4, 5, 12, 0, 0), (.aload_n 0, 7, 6, 0, 0, 0), (.iload_n 1, 8, 7, 0, 0, 0), (.iload_n 2, 9, 8, 0, 0, 0), (.bipush (-2), 10, 9, 0, 0, 0), (.invokevirtual 61, 12, 10, 33, 3, 0), (.iinc 2 1, 15, 11, 0, 0, 0), (.goto (-16), 18, 12, 2, 0, 0), (.return_, 21, 13, 0, 0, 0)]],
   [], 34)
/-- HeardVotes$Net.moveSlot(II)V: 35 -/
def TX3_moveSlot : TB := ([[(.iconst 0, 0, 1, 0, 0, 0), (.istore_n 3, 1, 2, 0, 0, 0), (.iload_n 3, 2, 3, 0, 0, 0), (.iconst 5, 3, 4, 0, 0, 0), (.if_icmp .ge 21, 4, 5, 15, 0, 0), (.aload_n 0, 7, 6, 0, 0, 0), (.iload_n 2, 8, 7, 0, 0, 0), (.iload_n 3, 9, 8, 0, 0, 0), (.aload_n 0, 10, 9, 0, 0, 0), (.iload_n 1, 11, 10, 0, 0, 0), (.iload_n 3, 12, 11, 0, 0, 0), (.invokevirtual 46, 13, 12, 30, 2, 0), (.invokevirtual 61, 16, 13, 33, 3, 0), (.iinc 3 1, 19, 14, 0, 0, 0), (.goto (-20), 22, 15, 2, 0, 0), (.return_, 25, 16, 0, 0, 0)]],
   [], 35)
/-- HeardVotes$Net.addJoined(II)V: 36 -/
def TX3_addJoined : TB := ([[(.iload_n 1, 0, 1, 0, 0, 0), (.ifCond .lt 60, 1, 2, 35, 0, 0), (.iload_n 1, 4, 3, 0, 0, 0), (.iconst 5, 5, 4, 0, 0, 0), (.if_icmp .ge 55, 6, 5, 35, 0, 0), (.aload_n 0, 9, 6, 0, 0, 0), (.getfield 15, 10, 7, 3, 1, 0), (.ifCond .lt 48, 13, 8, 35, 0, 0), (.aload_n 0, 16, 9, 0, 0, 0), (.getfield 15, 17, 10, 3, 1, 0), (.iconst 5, 20, 11, 0, 0, 0), (.if_icmp .ge 40, 21, 12, 35, 0, 0), (.aload_n 0, 24, 13, 0, 0, 0), (.getfield 18, 25, 14, 3, 2, 0), (.aload_n 0, 28, 15, 0, 0, 0), (.getfield 15, 29, 16, 3, 1, 0)],
   [(.iload_n 1, 32, 17, 0, 0, 0), (.iastore, 33, 18, 0, 0, 0), (.aload_n 0, 34, 19, 0, 0, 0), (.getfield 22, 35, 20, 3, 3, 0), (.iload_n 1, 38, 21, 0, 0, 0), (.aload_n 0, 39, 22, 0, 0, 0), (.getfield 15, 40, 23, 3, 1, 0), (.iastore, 43, 24, 0, 0, 0), (.aload_n 0, 44, 25, 0, 0, 0), (.getfield 25, 45, 26, 3, 4, 0), (.iload_n 1, 48, 27, 0, 0, 0), (.iload_n 2, 49, 28, 0, 0, 0), (.iastore, 50, 29, 0, 0, 0), (.aload_n 0, 51, 30, 0, 0, 0), (.dup, 52, 31, 0, 0, 0), (.getfield 15, 53, 32, 3, 1, 0)],
   [(.iconst 1, 56, 33, 0, 0, 0), (.iadd, 57, 34, 0, 0, 0), (.putfield 15, 58, 35, 3, 1, 0), (.return_, 61, 36, 0, 0, 0)]],
   [], 36)
/-- HeardVotes$Orders.forget()V: 37 -/
def TX4_forget : TB := ([[(.aload_n 0, 0, 1, 0, 0, 0), (.iconst 0, 1, 2, 0, 0, 0), (.putfield 16, 2, 3, 4, 1, 0), (.return_, 5, 4, 0, 0, 0)]],
   [], 37)
/-- HeardVotes$Orders.find()V: 38 -/
def TX4_find : TB := ([[(.aload_n 0, 0, 1, 0, 0, 0), (.getfield 16, 1, 2, 4, 1, 0), (.ifCond .ne 20, 4, 3, 13, 0, 0), (.aload_n 0, 7, 4, 0, 0, 0), (.ldc 9, 8, 5, 0, 0, 1000000), (.putfield 10, 10, 6, 4, 0, 0), (.aload_n 0, 13, 7, 0, 0, 0), (.iconst 0, 14, 8, 0, 0, 0), (.iconst 0, 15, 9, 0, 0, 0), (.invokestatic 39, 16, 10, 40, 3, 0), (.aload_n 0, 19, 11, 0, 0, 0), (.iconst 1, 20, 12, 0, 0, 0), (.putfield 16, 21, 13, 4, 1, 0), (.return_, 24, 14, 0, 0, 0)]],
   [], 38)
/-- HeardVotes$Orders.hearingAt(I)I: 39 -/
def TX4_hearingAt : TB := ([[(.iload_n 1, 0, 1, 0, 0, 0), (.ifCond .lt 17, 1, 2, 10, 0, 0), (.iload_n 1, 4, 3, 0, 0, 0), (.iconst 5, 5, 4, 0, 0, 0), (.if_icmp .ge 12, 6, 5, 10, 0, 0), (.aload_n 0, 9, 6, 0, 0, 0), (.getfield 20, 10, 7, 4, 4, 0), (.iload_n 1, 13, 8, 0, 0, 0), (.iaload, 14, 9, 0, 0, 0), (.goto 4, 15, 10, 11, 0, 0), (.iconst (-1), 18, 11, 0, 0, 0), (.ireturn, 19, 12, 0, 0, 0)]],
   [], 39)
/-- HeardVotes$Orders.goOn(LHeardVotes$Orders;II)V: 40 -/
def TX4_goOn : TB := ([[(.iload_n 1, 0, 1, 0, 0, 0), (.ifCond .lt 8, 1, 2, 5, 0, 0), (.iload_n 1, 4, 3, 0, 0, 0), (.iconst 5, 5, 4, 0, 0, 0), (.if_icmp .le 4, 6, 5, 6, 0, 0), (.return_, 9, 6, 0, 0, 0), (.aload_n 0, 10, 7, 0, 0, 0), (.getfield 26, 11, 8, 4, 5, 0), (.iload_n 1, 14, 9, 0, 0, 0), (.aaload, 15, 10, 0, 0, 0), (.astore_n 3, 16, 11, 0, 0, 0), (.aload_n 3, 17, 12, 0, 0, 0), (.ifnonnull 4, 18, 13, 14, 0, 0), (.return_, 21, 14, 0, 0, 0), (.iload_n 1, 22, 15, 0, 0, 0), (.iconst 5, 23, 16, 0, 0, 0)],
   [(.if_icmp .eq 14, 24, 17, 22, 0, 0), (.iload_n 1, 27, 18, 0, 0, 0), (.aload_n 0, 28, 19, 0, 0, 0), (.getfield 30, 29, 20, 4, 2, 0), (.getfield 43, 32, 21, 8, 0, 0), (.if_icmp .ne 10, 35, 22, 27, 0, 0), (.aload_n 0, 38, 23, 0, 0, 0), (.aload_n 3, 39, 24, 0, 0, 0), (.iload_n 2, 40, 25, 0, 0, 0), (.invokevirtual 48, 41, 26, 41, 2, 0), (.return_, 44, 27, 0, 0, 0), (.aload_n 0, 45, 28, 0, 0, 0), (.getfield 26, 46, 29, 4, 5, 0), (.iload_n 1, 49, 30, 0, 0, 0), (.iconst 1, 50, 31, 0, 0, 0), (.iadd, 51, 32, 0, 0, 0)],
   [(.aaload, 52, 33, 0, 0, 0), (.astore 4, 53, 34, 0, 0, 0), (.iconst 0, 55, 35, 0, 0, 0), (.istore 5, 56, 36, 0, 0, 0), (.iload 5, 58, 37, 0, 0, 0), (.aload_n 0, 60, 38, 0, 0, 0), (.getfield 30, 61, 39, 4, 2, 0), (.getfield 43, 64, 40, 8, 0, 0), (.if_icmp .ge 62, 67, 41, 70, 0, 0), (.aload 4, 70, 42, 0, 0, 0), (.ifnull 57, 72, 43, 70, 0, 0), (.aload_n 3, 75, 44, 0, 0, 0), (.iload 5, 76, 45, 0, 0, 0), (.invokevirtual 52, 78, 46, 27, 1, 0), (.ifCond .ne 42, 81, 47, 68, 0, 0), (.aload 4, 84, 48, 0, 0, 0)],
   [(.aload_n 3, 86, 49, 0, 0, 0), (.invokevirtual 56, 87, 50, 23, 1, 0), (.iload_n 2, 90, 51, 0, 0, 0), (.aload_n 0, 91, 52, 0, 0, 0), (.getfield 34, 92, 53, 4, 3, 0), (.aload 4, 95, 54, 0, 0, 0), (.iload 5, 97, 55, 0, 0, 0), (.invokevirtual 60, 99, 56, 81, 2, 0), (.iadd, 102, 57, 0, 0, 0), (.istore 6, 103, 58, 0, 0, 0), (.iload 6, 105, 59, 0, 0, 0), (.aload_n 0, 107, 60, 0, 0, 0), (.getfield 10, 108, 61, 4, 0, 0), (.if_icmp .ge 12, 111, 62, 68, 0, 0), (.aload_n 0, 114, 63, 0, 0, 0), (.iload_n 1, 115, 64, 0, 0, 0)],
   [(.iconst 1, 116, 65, 0, 0, 0), (.iadd, 117, 66, 0, 0, 0), (.iload 6, 118, 67, 0, 0, 0), (.invokestatic 39, 120, 68, 40, 3, 0), (.iinc 5 1, 123, 69, 0, 0, 0), (.goto (-68), 126, 70, 36, 0, 0), (.return_, 129, 71, 0, 0, 0)]],
   [], 40)
/-- HeardVotes$Orders.keepOrder(LHeardVotes$Net;I)V: 41 -/
def TX4_keepOrder : TB := ([[(.aload_n 0, 0, 1, 0, 0, 0), (.iload_n 2, 1, 2, 0, 0, 0), (.putfield 10, 2, 3, 4, 0, 0), (.iconst 0, 5, 4, 0, 0, 0), (.istore_n 3, 6, 5, 0, 0, 0), (.iload_n 3, 7, 6, 0, 0, 0), (.iconst 5, 8, 7, 0, 0, 0), (.if_icmp .ge 20, 9, 8, 17, 0, 0), (.aload_n 0, 12, 9, 0, 0, 0), (.getfield 20, 13, 10, 4, 4, 0), (.iload_n 3, 16, 11, 0, 0, 0), (.aload_n 1, 17, 12, 0, 0, 0), (.iload_n 3, 18, 13, 0, 0, 0), (.invokevirtual 66, 19, 14, 29, 1, 0), (.iastore, 22, 15, 0, 0, 0), (.iinc 3 1, 23, 16, 0, 0, 0)],
   [(.goto (-19), 26, 17, 5, 0, 0), (.return_, 29, 18, 0, 0, 0)]],
   [], 41)
/-- HeardVotes$Reader.read(I)I: 42 -/
def TX5_read : TB := ([[(.aload_n 0, 0, 1, 0, 0, 0), (.getfield 12, 1, 2, 5, 0, 0), (.invokevirtual 41, 4, 3, 61, 0, 0), (.aload_n 0, 7, 4, 0, 0, 0), (.iload_n 1, 8, 5, 0, 0, 0), (.putfield 22, 9, 6, 5, 3, 0), (.aload_n 0, 12, 7, 0, 0, 0), (.iconst 0, 13, 8, 0, 0, 0), (.putfield 25, 14, 9, 5, 4, 0), (.aload_n 0, 17, 10, 0, 0, 0), (.iconst 0, 18, 11, 0, 0, 0), (.putfield 34, 19, 12, 5, 7, 0), (.iconst 0, 22, 13, 0, 0, 0), (.istore_n 2, 23, 14, 0, 0, 0), (.iload_n 2, 24, 15, 0, 0, 0), (.aload_n 0, 25, 16, 0, 0, 0)],
   [(.getfield 22, 26, 17, 5, 3, 0), (.if_icmp .gt 43, 29, 18, 39, 0, 0), (.aload_n 0, 32, 19, 0, 0, 0), (.invokevirtual 44, 33, 20, 44, 0, 0), (.aload_n 0, 36, 21, 0, 0, 0), (.getfield 28, 37, 22, 5, 5, 0), (.iconst 1, 40, 23, 0, 0, 0), (.if_icmp .ne 14, 41, 24, 30, 0, 0), (.aload_n 0, 44, 25, 0, 0, 0), (.getfield 34, 45, 26, 5, 7, 0), (.bipush 6, 48, 27, 0, 0, 0), (.if_icmp .ne 5, 50, 28, 30, 0, 0), (.iconst 0, 53, 29, 0, 0, 0), (.ireturn, 54, 30, 0, 0, 0), (.aload_n 0, 55, 31, 0, 0, 0), (.invokevirtual 47, 56, 32, 49, 0, 0)],
   [(.istore_n 3, 59, 33, 0, 0, 0), (.iload_n 3, 60, 34, 0, 0, 0), (.ifCond .eq 5, 61, 35, 37, 0, 0), (.iload_n 3, 64, 36, 0, 0, 0), (.ireturn, 65, 37, 0, 0, 0), (.iinc 2 1, 66, 38, 0, 0, 0), (.goto (-45), 69, 39, 14, 0, 0), (.iconst 1, 72, 40, 0, 0, 0), (.ireturn, 73, 41, 0, 0, 0)]],
   [], 42)
/-- HeardVotes$Reader.ahead()I: 43 -/
def TX5_ahead : TB := ([[(.aload_n 0, 0, 1, 0, 0, 0), (.getfield 25, 1, 2, 5, 4, 0), (.ifCond .lt 38, 4, 3, 20, 0, 0), (.aload_n 0, 7, 4, 0, 0, 0), (.getfield 25, 8, 5, 5, 4, 0), (.aload_n 0, 11, 6, 0, 0, 0), (.getfield 22, 12, 7, 5, 3, 0), (.if_icmp .ge 27, 15, 8, 20, 0, 0), (.aload_n 0, 18, 9, 0, 0, 0), (.getfield 25, 19, 10, 5, 4, 0), (.aload_n 0, 22, 11, 0, 0, 0), (.getfield 37, 23, 12, 5, 2, 0), (.arraylength, 26, 13, 0, 0, 0), (.if_icmp .ge 15, 27, 14, 20, 0, 0), (.aload_n 0, 30, 15, 0, 0, 0), (.getfield 37, 31, 16, 5, 2, 0)],
   [(.aload_n 0, 34, 17, 0, 0, 0), (.getfield 25, 35, 18, 5, 4, 0), (.iaload, 38, 19, 0, 0, 0), (.goto 4, 39, 20, 21, 0, 0), (.iconst (-1), 42, 21, 0, 0, 0), (.ireturn, 43, 22, 0, 0, 0)]],
   [], 43)
/-- HeardVotes$Reader.takeToken()V: 44 -/
def TX5_takeToken : TB := ([[(.aload_n 0, 0, 1, 0, 0, 0), (.getfield 25, 1, 2, 5, 4, 0), (.aload_n 0, 4, 3, 0, 0, 0), (.getfield 22, 5, 4, 5, 3, 0), (.if_icmp .ge 25, 8, 5, 16, 0, 0), (.aload_n 0, 11, 6, 0, 0, 0), (.invokevirtual 51, 12, 7, 43, 0, 0), (.bipush 32, 15, 8, 0, 0, 0), (.if_icmp .ne 16, 17, 9, 16, 0, 0), (.aload_n 0, 20, 10, 0, 0, 0), (.dup, 21, 11, 0, 0, 0), (.getfield 25, 22, 12, 5, 4, 0), (.iconst 1, 25, 13, 0, 0, 0), (.iadd, 26, 14, 0, 0, 0), (.putfield 25, 27, 15, 5, 4, 0), (.goto (-30), 30, 16, 0, 0, 0)],
   [(.aload_n 0, 33, 17, 0, 0, 0), (.aload_n 0, 34, 18, 0, 0, 0), (.getfield 25, 35, 19, 5, 4, 0), (.putfield 18, 38, 20, 5, 1, 0), (.aload_n 0, 41, 21, 0, 0, 0), (.iconst 0, 42, 22, 0, 0, 0), (.putfield 31, 43, 23, 5, 6, 0), (.aload_n 0, 46, 24, 0, 0, 0), (.invokevirtual 51, 47, 25, 43, 0, 0), (.istore_n 1, 50, 26, 0, 0, 0), (.iload_n 1, 51, 27, 0, 0, 0), (.iconst (-1), 52, 28, 0, 0, 0), (.if_icmp .ne 11, 53, 29, 33, 0, 0), (.aload_n 0, 56, 30, 0, 0, 0), (.iconst 1, 57, 31, 0, 0, 0), (.putfield 28, 58, 32, 5, 5, 0)],
   [(.goto 66, 61, 33, 64, 0, 0), (.iload_n 1, 64, 34, 0, 0, 0), (.invokestatic 54, 65, 35, 47, 1, 0), (.ifCond .eq 10, 68, 36, 39, 0, 0), (.aload_n 0, 71, 37, 0, 0, 0), (.invokevirtual 58, 72, 38, 45, 0, 0), (.goto 52, 75, 39, 64, 0, 0), (.iload_n 1, 78, 40, 0, 0, 0), (.invokestatic 61, 79, 41, 48, 1, 0), (.ifCond .eq 10, 82, 42, 45, 0, 0), (.aload_n 0, 85, 43, 0, 0, 0), (.invokevirtual 64, 86, 44, 46, 0, 0), (.goto 38, 89, 45, 64, 0, 0), (.aload_n 0, 92, 46, 0, 0, 0), (.iload_n 1, 93, 47, 0, 0, 0), (.bipush 59, 94, 48, 0, 0, 0)],
   [(.if_icmp .ne 7, 96, 49, 51, 0, 0), (.iconst 4, 99, 50, 0, 0, 0), (.goto 14, 100, 51, 57, 0, 0), (.iload_n 1, 103, 52, 0, 0, 0), (.bipush 58, 104, 53, 0, 0, 0), (.if_icmp .ne 7, 106, 54, 56, 0, 0), (.iconst 5, 109, 55, 0, 0, 0), (.goto 4, 110, 56, 57, 0, 0), (.iconst 0, 113, 57, 0, 0, 0), (.putfield 28, 114, 58, 5, 5, 0), (.aload_n 0, 117, 59, 0, 0, 0), (.dup, 118, 60, 0, 0, 0), (.getfield 25, 119, 61, 5, 4, 0), (.iconst 1, 122, 62, 0, 0, 0), (.iadd, 123, 63, 0, 0, 0), (.putfield 25, 124, 64, 5, 4, 0)],
   [(.return_, 127, 65, 0, 0, 0)]],
   [], 44)
/-- HeardVotes$Reader.takeWord()V: 45 -/
def TX5_takeWord : TB := ([[(.aload_n 0, 0, 1, 0, 0, 0), (.getfield 25, 1, 2, 5, 4, 0), (.aload_n 0, 4, 3, 0, 0, 0), (.getfield 22, 5, 4, 5, 3, 0), (.if_icmp .ge 64, 8, 5, 40, 0, 0), (.aload_n 0, 11, 6, 0, 0, 0), (.invokevirtual 51, 12, 7, 43, 0, 0), (.invokestatic 54, 15, 8, 47, 1, 0), (.ifCond .eq 54, 18, 9, 40, 0, 0), (.aload_n 0, 21, 10, 0, 0, 0), (.getfield 25, 22, 11, 5, 4, 0), (.aload_n 0, 25, 12, 0, 0, 0), (.getfield 18, 26, 13, 5, 1, 0), (.isub, 29, 14, 0, 0, 0), (.istore_n 1, 30, 15, 0, 0, 0), (.iload_n 1, 31, 16, 0, 0, 0)],
   [(.bipush 6, 32, 17, 0, 0, 0), (.if_icmp .ge 25, 34, 18, 33, 0, 0), (.aload_n 0, 37, 19, 0, 0, 0), (.dup, 38, 20, 0, 0, 0), (.getfield 31, 39, 21, 5, 6, 0), (.aload_n 0, 42, 22, 0, 0, 0), (.invokevirtual 51, 43, 23, 43, 0, 0), (.bipush 97, 46, 24, 0, 0, 0), (.isub, 48, 25, 0, 0, 0), (.iconst 1, 49, 26, 0, 0, 0), (.iadd, 50, 27, 0, 0, 0), (.iconst 5, 51, 28, 0, 0, 0), (.iload_n 1, 52, 29, 0, 0, 0), (.imul, 53, 30, 0, 0, 0), (.ishl, 54, 31, 0, 0, 0), (.ior, 55, 32, 0, 0, 0)],
   [(.putfield 31, 56, 33, 5, 6, 0), (.aload_n 0, 59, 34, 0, 0, 0), (.dup, 60, 35, 0, 0, 0), (.getfield 25, 61, 36, 5, 4, 0), (.iconst 1, 64, 37, 0, 0, 0), (.iadd, 65, 38, 0, 0, 0), (.putfield 25, 66, 39, 5, 4, 0), (.goto (-69), 69, 40, 0, 0, 0), (.aload_n 0, 72, 41, 0, 0, 0), (.aload_n 0, 73, 42, 0, 0, 0), (.getfield 25, 74, 43, 5, 4, 0), (.aload_n 0, 77, 44, 0, 0, 0), (.getfield 18, 78, 45, 5, 1, 0), (.isub, 81, 46, 0, 0, 0), (.bipush 6, 82, 47, 0, 0, 0), (.if_icmp .gt 7, 84, 48, 50, 0, 0)],
   [(.iconst 2, 87, 49, 0, 0, 0), (.goto 4, 88, 50, 51, 0, 0), (.iconst 0, 91, 51, 0, 0, 0), (.putfield 28, 92, 52, 5, 5, 0), (.return_, 95, 53, 0, 0, 0)]],
   [], 45)
/-- HeardVotes$Reader.takeWhole()V: 46 -/
def TX5_takeWhole : TB := ([[(.aload_n 0, 0, 1, 0, 0, 0), (.getfield 25, 1, 2, 5, 4, 0), (.aload_n 0, 4, 3, 0, 0, 0), (.getfield 22, 5, 4, 5, 3, 0), (.if_icmp .ge 58, 8, 5, 34, 0, 0), (.aload_n 0, 11, 6, 0, 0, 0), (.invokevirtual 51, 12, 7, 43, 0, 0), (.invokestatic 61, 15, 8, 48, 1, 0), (.ifCond .eq 48, 18, 9, 34, 0, 0), (.aload_n 0, 21, 10, 0, 0, 0), (.getfield 25, 22, 11, 5, 4, 0), (.aload_n 0, 25, 12, 0, 0, 0), (.getfield 18, 26, 13, 5, 1, 0), (.isub, 29, 14, 0, 0, 0), (.iconst 3, 30, 15, 0, 0, 0), (.if_icmp .ge 22, 31, 16, 27, 0, 0)],
   [(.aload_n 0, 34, 17, 0, 0, 0), (.aload_n 0, 35, 18, 0, 0, 0), (.getfield 31, 36, 19, 5, 6, 0), (.bipush 10, 39, 20, 0, 0, 0), (.imul, 41, 21, 0, 0, 0), (.aload_n 0, 42, 22, 0, 0, 0), (.invokevirtual 51, 43, 23, 43, 0, 0), (.iadd, 46, 24, 0, 0, 0), (.bipush 48, 47, 25, 0, 0, 0), (.isub, 49, 26, 0, 0, 0), (.putfield 31, 50, 27, 5, 6, 0), (.aload_n 0, 53, 28, 0, 0, 0), (.dup, 54, 29, 0, 0, 0), (.getfield 25, 55, 30, 5, 4, 0), (.iconst 1, 58, 31, 0, 0, 0), (.iadd, 59, 32, 0, 0, 0)],
   [(.putfield 25, 60, 33, 5, 4, 0), (.goto (-63), 63, 34, 0, 0, 0), (.aload_n 0, 66, 35, 0, 0, 0), (.aload_n 0, 67, 36, 0, 0, 0), (.getfield 25, 68, 37, 5, 4, 0), (.aload_n 0, 71, 38, 0, 0, 0), (.getfield 18, 72, 39, 5, 1, 0), (.isub, 75, 40, 0, 0, 0), (.iconst 3, 76, 41, 0, 0, 0), (.if_icmp .gt 7, 77, 42, 44, 0, 0), (.iconst 3, 80, 43, 0, 0, 0), (.goto 4, 81, 44, 45, 0, 0), (.iconst 0, 84, 45, 0, 0, 0), (.putfield 28, 85, 46, 5, 5, 0), (.return_, 88, 47, 0, 0, 0)]],
   [], 46)
/-- HeardVotes$Reader.isLetter(I)Z: 47 -/
def TX5_isLetter : TB := ([[(.iload_n 0, 0, 1, 0, 0, 0), (.bipush 97, 1, 2, 0, 0, 0), (.if_icmp .lt 13, 3, 3, 8, 0, 0), (.iload_n 0, 6, 4, 0, 0, 0), (.bipush 123, 7, 5, 0, 0, 0), (.if_icmp .ge 7, 9, 6, 8, 0, 0), (.iconst 1, 12, 7, 0, 0, 0), (.goto 4, 13, 8, 9, 0, 0), (.iconst 0, 16, 9, 0, 0, 0), (.ireturn, 17, 10, 1, 0, 0)]],
   [], 47)
/-- HeardVotes$Reader.isDigit(I)Z: 48 -/
def TX5_isDigit : TB := ([[(.iload_n 0, 0, 1, 0, 0, 0), (.bipush 48, 1, 2, 0, 0, 0), (.if_icmp .lt 13, 3, 3, 8, 0, 0), (.iload_n 0, 6, 4, 0, 0, 0), (.bipush 58, 7, 5, 0, 0, 0), (.if_icmp .ge 7, 9, 6, 8, 0, 0), (.iconst 1, 12, 7, 0, 0, 0), (.goto 4, 13, 8, 9, 0, 0), (.iconst 0, 16, 9, 0, 0, 0), (.ireturn, 17, 10, 1, 0, 0)]],
   [], 48)
/-- HeardVotes$Reader.takeIn()I: 49 -/
def TX5_takeIn : TB := ([[(.aload_n 0, 0, 1, 0, 0, 0), (.getfield 34, 1, 2, 5, 7, 0), (.tableswitch 190 0 6 #[44, 61, 88, 105, 123, 140, 157], 4, 3, 80, 0, 0), (.aload_n 0, 48, 4, 0, 0, 0), (.getfield 28, 49, 5, 5, 5, 0), (.iconst 2, 52, 6, 0, 0, 0), (.if_icmp .ne 10, 53, 7, 10, 0, 0), (.aload_n 0, 56, 8, 0, 0, 0), (.invokevirtual 67, 57, 9, 51, 0, 0), (.goto 4, 60, 10, 11, 0, 0), (.iconst 1, 63, 11, 0, 0, 0), (.ireturn, 64, 12, 0, 0, 0), (.aload_n 0, 65, 13, 0, 0, 0), (.getfield 28, 66, 14, 5, 5, 0), (.iconst 2, 69, 15, 0, 0, 0), (.if_icmp .ne 20, 70, 16, 24, 0, 0)],
   [(.aload_n 0, 73, 17, 0, 0, 0), (.getfield 31, 74, 18, 5, 6, 0), (.ldc 70, 77, 19, 0, 0, 679716023), (.if_icmp .ne 11, 79, 20, 24, 0, 0), (.aload_n 0, 82, 21, 0, 0, 0), (.iconst 2, 83, 22, 0, 0, 0), (.invokevirtual 71, 84, 23, 50, 1, 0), (.goto 4, 87, 24, 25, 0, 0), (.iconst 1, 90, 25, 0, 0, 0), (.ireturn, 91, 26, 0, 0, 0), (.aload_n 0, 92, 27, 0, 0, 0), (.getfield 28, 93, 28, 5, 5, 0), (.iconst 3, 96, 29, 0, 0, 0), (.if_icmp .ne 10, 97, 30, 33, 0, 0), (.aload_n 0, 100, 31, 0, 0, 0), (.invokevirtual 75, 101, 32, 52, 0, 0)],
   [(.goto 4, 104, 33, 34, 0, 0), (.iconst 1, 107, 34, 0, 0, 0), (.ireturn, 108, 35, 0, 0, 0), (.aload_n 0, 109, 36, 0, 0, 0), (.getfield 28, 110, 37, 5, 5, 0), (.iconst 5, 113, 38, 0, 0, 0), (.if_icmp .ne 11, 114, 39, 43, 0, 0), (.aload_n 0, 117, 40, 0, 0, 0), (.iconst 4, 118, 41, 0, 0, 0), (.invokevirtual 71, 119, 42, 50, 1, 0), (.goto 4, 122, 43, 44, 0, 0), (.iconst 1, 125, 44, 0, 0, 0), (.ireturn, 126, 45, 0, 0, 0), (.aload_n 0, 127, 46, 0, 0, 0), (.getfield 28, 128, 47, 5, 5, 0), (.iconst 2, 131, 48, 0, 0, 0)],
   [(.if_icmp .ne 10, 132, 49, 52, 0, 0), (.aload_n 0, 135, 50, 0, 0, 0), (.invokevirtual 78, 136, 51, 53, 0, 0), (.goto 4, 139, 52, 53, 0, 0), (.iconst 1, 142, 53, 0, 0, 0), (.ireturn, 143, 54, 0, 0, 0), (.aload_n 0, 144, 55, 0, 0, 0), (.getfield 28, 145, 56, 5, 5, 0), (.iconst 3, 148, 57, 0, 0, 0), (.if_icmp .ne 10, 149, 58, 61, 0, 0), (.aload_n 0, 152, 59, 0, 0, 0), (.invokevirtual 81, 153, 60, 54, 0, 0), (.goto 4, 156, 61, 62, 0, 0), (.iconst 1, 159, 62, 0, 0, 0), (.ireturn, 160, 63, 0, 0, 0), (.aload_n 0, 161, 64, 0, 0, 0)],
   [(.getfield 28, 162, 65, 5, 5, 0), (.iconst 2, 165, 66, 0, 0, 0), (.if_icmp .ne 10, 166, 67, 70, 0, 0), (.aload_n 0, 169, 68, 0, 0, 0), (.invokevirtual 78, 170, 69, 53, 0, 0), (.goto 20, 173, 70, 79, 0, 0), (.aload_n 0, 176, 71, 0, 0, 0), (.getfield 28, 177, 72, 5, 5, 0), (.iconst 4, 180, 73, 0, 0, 0), (.if_icmp .ne 11, 181, 74, 78, 0, 0), (.aload_n 0, 184, 75, 0, 0, 0), (.iconst 0, 185, 76, 0, 0, 0), (.invokevirtual 71, 186, 77, 50, 1, 0), (.goto 4, 189, 78, 79, 0, 0), (.iconst 1, 192, 79, 0, 0, 0), (.ireturn, 193, 80, 0, 0, 0)],
   [(.iconst 1, 194, 81, 0, 0, 0), (.ireturn, 195, 82, 0, 0, 0)]],
   [(2, [(0, 3), (1, 12), (2, 26), (3, 35), (4, 45), (5, 54), (6, 63)], 80)], 49)
/-- HeardVotes$Reader.goOn(I)I: 50 -/
def TX5_goOn : TB := ([[(.aload_n 0, 0, 1, 0, 0, 0), (.iload_n 1, 1, 2, 0, 0, 0), (.putfield 34, 2, 3, 5, 7, 0), (.iconst 0, 5, 4, 0, 0, 0), (.ireturn, 6, 5, 0, 0, 0)]],
   [], 50)
/-- HeardVotes$Reader.takeName()I: 51 -/
def TX5_takeName : TB := ([[(.aload_n 0, 0, 1, 0, 0, 0), (.getfield 12, 1, 2, 5, 0, 0), (.aload_n 0, 4, 3, 0, 0, 0), (.getfield 31, 5, 4, 5, 6, 0), (.invokevirtual 84, 8, 5, 69, 1, 0), (.ifCond .eq 5, 11, 6, 8, 0, 0), (.iconst 3, 14, 7, 0, 0, 0), (.ireturn, 15, 8, 0, 0, 0), (.aload_n 0, 16, 9, 0, 0, 0), (.getfield 12, 17, 10, 5, 0, 0), (.aload_n 0, 20, 11, 0, 0, 0), (.getfield 31, 21, 12, 5, 6, 0), (.invokevirtual 87, 24, 13, 70, 1, 0), (.ifCond .eq 11, 27, 14, 18, 0, 0), (.aload_n 0, 30, 15, 0, 0, 0), (.iconst 1, 31, 16, 0, 0, 0)],
   [(.invokevirtual 71, 32, 17, 50, 1, 0), (.goto 4, 35, 18, 19, 0, 0), (.iconst 4, 38, 19, 0, 0, 0), (.ireturn, 39, 20, 0, 0, 0)]],
   [], 51)
/-- HeardVotes$Reader.takeWeight()I: 52 -/
def TX5_takeWeight : TB := ([[(.aload_n 0, 0, 1, 0, 0, 0), (.getfield 31, 1, 2, 5, 6, 0), (.iconst 1, 4, 3, 0, 0, 0), (.if_icmp .lt 12, 5, 4, 8, 0, 0), (.aload_n 0, 8, 5, 0, 0, 0), (.getfield 31, 9, 6, 5, 6, 0), (.bipush 99, 12, 7, 0, 0, 0), (.if_icmp .le 5, 14, 8, 10, 0, 0), (.iconst 2, 17, 9, 0, 0, 0), (.ireturn, 18, 10, 0, 0, 0), (.aload_n 0, 19, 11, 0, 0, 0), (.getfield 12, 20, 12, 5, 0, 0), (.aload_n 0, 23, 13, 0, 0, 0), (.getfield 31, 24, 14, 5, 6, 0), (.invokevirtual 90, 27, 15, 71, 1, 0), (.aload_n 0, 30, 16, 0, 0, 0)],
   [(.iconst 3, 31, 17, 0, 0, 0), (.invokevirtual 71, 32, 18, 50, 1, 0), (.ireturn, 35, 19, 0, 0, 0)]],
   [], 52)
/-- HeardVotes$Reader.takeHeard()I: 53 -/
def TX5_takeHeard : TB := ([[(.aload_n 0, 0, 1, 0, 0, 0), (.getfield 12, 1, 2, 5, 0, 0), (.aload_n 0, 4, 3, 0, 0, 0), (.getfield 31, 5, 4, 5, 6, 0), (.invokevirtual 94, 8, 5, 72, 1, 0), (.ifCond .eq 11, 11, 6, 10, 0, 0), (.aload_n 0, 14, 7, 0, 0, 0), (.iconst 5, 15, 8, 0, 0, 0), (.invokevirtual 71, 16, 9, 50, 1, 0), (.goto 4, 19, 10, 11, 0, 0), (.iconst 4, 22, 11, 0, 0, 0), (.ireturn, 23, 12, 0, 0, 0)]],
   [], 53)
/-- HeardVotes$Reader.takeTime()I: 54 -/
def TX5_takeTime : TB := ([[(.aload_n 0, 0, 1, 0, 0, 0), (.getfield 12, 1, 2, 5, 0, 0), (.aload_n 0, 4, 3, 0, 0, 0), (.getfield 31, 5, 4, 5, 6, 0), (.invokevirtual 97, 8, 5, 73, 1, 0), (.ifCond .eq 12, 11, 6, 10, 0, 0), (.aload_n 0, 14, 7, 0, 0, 0), (.bipush 6, 15, 8, 0, 0, 0), (.invokevirtual 71, 17, 9, 50, 1, 0), (.goto 4, 20, 10, 11, 0, 0), (.iconst 2, 23, 11, 0, 0, 0), (.ireturn, 24, 12, 0, 0, 0)]],
   [], 54)
/-- HeardVotes$Rows.changes([III[III)I: 55 -/
def TX6_changes : TB := ([[(.iload_n 2, 0, 1, 0, 0, 0), (.ifCond .lt 43, 1, 2, 23, 0, 0), (.iload_n 3, 4, 3, 0, 0, 0), (.ifCond .lt 39, 5, 4, 23, 0, 0), (.iload_n 3, 8, 5, 0, 0, 0), (.aload_n 1, 9, 6, 0, 0, 0), (.arraylength, 10, 7, 0, 0, 0), (.iload_n 2, 11, 8, 0, 0, 0), (.isub, 12, 9, 0, 0, 0), (.if_icmp .gt 31, 13, 10, 23, 0, 0), (.iload 5, 16, 11, 0, 0, 0), (.ifCond .lt 26, 18, 12, 23, 0, 0), (.iload 6, 21, 13, 0, 0, 0), (.ifCond .lt 21, 23, 14, 23, 0, 0), (.iload 6, 26, 15, 0, 0, 0), (.aload 4, 28, 16, 0, 0, 0)],
   [(.arraylength, 30, 17, 0, 0, 0), (.iload 5, 31, 18, 0, 0, 0), (.isub, 33, 19, 0, 0, 0), (.if_icmp .gt 10, 34, 20, 23, 0, 0), (.iload 6, 37, 21, 0, 0, 0), (.bipush 60, 39, 22, 0, 0, 0), (.if_icmp .le 5, 41, 23, 25, 0, 0), (.iconst 0, 44, 24, 0, 0, 0), (.ireturn, 45, 25, 0, 0, 0), (.iconst 0, 46, 26, 0, 0, 0), (.istore 7, 47, 27, 0, 0, 0), (.iload 7, 49, 28, 0, 0, 0), (.iload 6, 51, 29, 0, 0, 0), (.if_icmp .gt 18, 53, 30, 37, 0, 0), (.aload_n 0, 56, 31, 0, 0, 0), (.getfield 9, 57, 32, 6, 0, 0)],
   [(.iload 7, 60, 33, 0, 0, 0), (.iload 7, 62, 34, 0, 0, 0), (.iastore, 64, 35, 0, 0, 0), (.iinc 7 1, 65, 36, 0, 0, 0), (.goto (-19), 68, 37, 27, 0, 0), (.iconst 0, 71, 38, 0, 0, 0), (.istore 7, 72, 39, 0, 0, 0), (.iload 7, 74, 40, 0, 0, 0), (.iload_n 3, 76, 41, 0, 0, 0), (.if_icmp .ge 136, 77, 42, 116, 0, 0), (.aload_n 0, 80, 43, 0, 0, 0), (.getfield 9, 81, 44, 6, 0, 0), (.iconst 0, 84, 45, 0, 0, 0), (.iaload, 85, 46, 0, 0, 0), (.istore 8, 86, 47, 0, 0, 0), (.aload_n 0, 88, 48, 0, 0, 0)],
   [(.getfield 9, 89, 49, 6, 0, 0), (.iconst 0, 92, 50, 0, 0, 0), (.iload 7, 93, 51, 0, 0, 0), (.iconst 1, 95, 52, 0, 0, 0), (.iadd, 96, 53, 0, 0, 0), (.iastore, 97, 54, 0, 0, 0), (.iconst 0, 98, 55, 0, 0, 0), (.istore 9, 99, 56, 0, 0, 0), (.iload 9, 101, 57, 0, 0, 0), (.iload 6, 103, 58, 0, 0, 0), (.if_icmp .ge 102, 105, 59, 114, 0, 0), (.aload_n 0, 108, 60, 0, 0, 0), (.getfield 9, 109, 61, 6, 0, 0), (.iload 9, 112, 62, 0, 0, 0), (.iconst 1, 114, 63, 0, 0, 0), (.iadd, 115, 64, 0, 0, 0)],
   [(.iaload, 116, 65, 0, 0, 0), (.istore 10, 117, 66, 0, 0, 0), (.iload 10, 119, 67, 0, 0, 0), (.aload_n 0, 121, 68, 0, 0, 0), (.getfield 9, 122, 69, 6, 0, 0), (.iload 9, 125, 70, 0, 0, 0), (.iaload, 127, 71, 0, 0, 0), (.if_icmp .ge 8, 128, 72, 74, 0, 0), (.iload 10, 131, 73, 0, 0, 0), (.goto 10, 133, 74, 78, 0, 0), (.aload_n 0, 136, 75, 0, 0, 0), (.getfield 9, 137, 76, 6, 0, 0), (.iload 9, 140, 77, 0, 0, 0), (.iaload, 142, 78, 0, 0, 0), (.iconst 1, 143, 79, 0, 0, 0), (.iadd, 144, 80, 0, 0, 0)],
   [(.istore 11, 145, 81, 0, 0, 0), (.iload 8, 147, 82, 0, 0, 0), (.aload_n 1, 149, 83, 0, 0, 0), (.iload_n 2, 150, 84, 0, 0, 0), (.iload 7, 151, 85, 0, 0, 0), (.iadd, 153, 86, 0, 0, 0), (.iaload, 154, 87, 0, 0, 0), (.aload 4, 155, 88, 0, 0, 0), (.iload 5, 157, 89, 0, 0, 0), (.iload 9, 159, 90, 0, 0, 0), (.iadd, 161, 91, 0, 0, 0), (.iaload, 162, 92, 0, 0, 0), (.if_icmp .ne 7, 163, 93, 95, 0, 0), (.iconst 0, 166, 94, 0, 0, 0), (.goto 4, 167, 95, 96, 0, 0), (.iconst 1, 170, 96, 0, 0, 0)],
   [(.iadd, 171, 97, 0, 0, 0), (.istore 12, 172, 98, 0, 0, 0), (.aload_n 0, 174, 99, 0, 0, 0), (.getfield 9, 175, 100, 6, 0, 0), (.iload 9, 178, 101, 0, 0, 0), (.iconst 1, 180, 102, 0, 0, 0), (.iadd, 181, 103, 0, 0, 0), (.iload 12, 182, 104, 0, 0, 0), (.iload 11, 184, 105, 0, 0, 0), (.if_icmp .ge 8, 186, 106, 108, 0, 0), (.iload 12, 189, 107, 0, 0, 0), (.goto 5, 191, 108, 109, 0, 0), (.iload 11, 194, 109, 0, 0, 0), (.iastore, 196, 110, 0, 0, 0), (.iload 10, 197, 111, 0, 0, 0), (.istore 8, 199, 112, 0, 0, 0)],
   [(.iinc 9 1, 201, 113, 0, 0, 0), (.goto (-103), 204, 114, 56, 0, 0), (.iinc 7 1, 207, 115, 0, 0, 0), (.goto (-136), 210, 116, 39, 0, 0), (.aload_n 0, 213, 117, 0, 0, 0), (.getfield 9, 214, 118, 6, 0, 0), (.iload 6, 217, 119, 0, 0, 0), (.iaload, 219, 120, 0, 0, 0), (.ireturn, 220, 121, 0, 0, 0)]],
   [], 55)
/-- HeardVotes$Rules.begin(LHeardVotes$Speech;)V: 56 -/
def TX7_begin : TB := ([[(.aload_n 0, 0, 1, 0, 0, 0), (.iconst 3, 1, 2, 0, 0, 0), (.putfield 9, 2, 3, 7, 0, 0), (.aload_n 0, 5, 4, 0, 0, 0), (.iconst 3, 6, 5, 0, 0, 0), (.putfield 15, 7, 6, 7, 1, 0), (.aload_n 0, 10, 7, 0, 0, 0), (.iconst 4, 11, 8, 0, 0, 0), (.putfield 18, 12, 9, 7, 2, 0), (.aload_n 0, 15, 10, 0, 0, 0), (.sipush 999, 16, 11, 0, 0, 0), (.putfield 21, 19, 12, 7, 3, 0), (.aload_n 0, 22, 13, 0, 0, 0), (.bipush 100, 23, 14, 0, 0, 0), (.putfield 24, 25, 15, 7, 4, 0), (.iconst 0, 28, 16, 0, 0, 0)],
   [(.istore_n 2, 29, 17, 0, 0, 0), (.iload_n 2, 30, 18, 0, 0, 0), (.iconst 5, 31, 19, 0, 0, 0), (.if_icmp .ge 20, 32, 20, 29, 0, 0), (.aload_n 0, 35, 21, 0, 0, 0), (.getfield 27, 36, 22, 7, 5, 0), (.iload_n 2, 39, 23, 0, 0, 0), (.aload_n 1, 40, 24, 0, 0, 0), (.iload_n 2, 41, 25, 0, 0, 0), (.invokevirtual 31, 42, 26, 64, 1, 0), (.iastore, 45, 27, 0, 0, 0), (.iinc 2 1, 46, 28, 0, 0, 0), (.goto (-19), 49, 29, 17, 0, 0), (.return_, 52, 30, 0, 0, 0)]],
   [], 56)
/-- HeardVotes$Rules.keepIn([II)V: 57 -/
def TX7_keepIn : TB := ([[(.iload_n 2, 0, 1, 0, 0, 0), (.ifCond .lt 12, 1, 2, 8, 0, 0), (.iload_n 2, 4, 3, 0, 0, 0), (.aload_n 1, 5, 4, 0, 0, 0), (.arraylength, 6, 5, 0, 0, 0), (.bipush 10, 7, 6, 0, 0, 0), (.isub, 9, 7, 0, 0, 0), (.if_icmp .le 4, 10, 8, 9, 0, 0), (.return_, 13, 9, 0, 0, 0), (.aload_n 1, 14, 10, 0, 0, 0), (.iload_n 2, 15, 11, 0, 0, 0), (.aload_n 0, 16, 12, 0, 0, 0), (.getfield 9, 17, 13, 7, 0, 0), (.iastore, 20, 14, 0, 0, 0), (.aload_n 1, 21, 15, 0, 0, 0), (.iload_n 2, 22, 16, 0, 0, 0)],
   [(.iconst 1, 23, 17, 0, 0, 0), (.iadd, 24, 18, 0, 0, 0), (.aload_n 0, 25, 19, 0, 0, 0), (.getfield 15, 26, 20, 7, 1, 0), (.iastore, 29, 21, 0, 0, 0), (.aload_n 1, 30, 22, 0, 0, 0), (.iload_n 2, 31, 23, 0, 0, 0), (.iconst 2, 32, 24, 0, 0, 0), (.iadd, 33, 25, 0, 0, 0), (.aload_n 0, 34, 26, 0, 0, 0), (.getfield 18, 35, 27, 7, 2, 0), (.iastore, 38, 28, 0, 0, 0), (.aload_n 1, 39, 29, 0, 0, 0), (.iload_n 2, 40, 30, 0, 0, 0), (.iconst 3, 41, 31, 0, 0, 0), (.iadd, 42, 32, 0, 0, 0)],
   [(.aload_n 0, 43, 33, 0, 0, 0), (.getfield 21, 44, 34, 7, 3, 0), (.iastore, 47, 35, 0, 0, 0), (.aload_n 1, 48, 36, 0, 0, 0), (.iload_n 2, 49, 37, 0, 0, 0), (.iconst 4, 50, 38, 0, 0, 0), (.iadd, 51, 39, 0, 0, 0), (.aload_n 0, 52, 40, 0, 0, 0), (.getfield 24, 53, 41, 7, 4, 0), (.iastore, 56, 42, 0, 0, 0), (.aload_n 0, 57, 43, 0, 0, 0), (.getfield 27, 58, 44, 7, 5, 0), (.iconst 0, 61, 45, 0, 0, 0), (.aload_n 1, 62, 46, 0, 0, 0), (.iload_n 2, 63, 47, 0, 0, 0), (.iconst 5, 64, 48, 0, 0, 0)],
   [(.iadd, 65, 49, 0, 0, 0), (.iconst 5, 66, 50, 0, 0, 0), (.invokestatic 37, 67, 51, 900, 5, 0), (.return_, 70, 52, 0, 0, 0)]],
   [], 57)
/-- HeardVotes$Rules.takeFrom([II)V: 58 -/
def TX7_takeFrom : TB := ([[(.iload_n 2, 0, 1, 0, 0, 0), (.ifCond .lt 12, 1, 2, 8, 0, 0), (.iload_n 2, 4, 3, 0, 0, 0), (.aload_n 1, 5, 4, 0, 0, 0), (.arraylength, 6, 5, 0, 0, 0), (.bipush 10, 7, 6, 0, 0, 0), (.isub, 9, 7, 0, 0, 0), (.if_icmp .le 4, 10, 8, 9, 0, 0), (.return_, 13, 9, 0, 0, 0), (.aload_n 0, 14, 10, 0, 0, 0), (.aload_n 1, 15, 11, 0, 0, 0), (.iload_n 2, 16, 12, 0, 0, 0), (.iaload, 17, 13, 0, 0, 0), (.putfield 9, 18, 14, 7, 0, 0), (.aload_n 0, 21, 15, 0, 0, 0), (.aload_n 1, 22, 16, 0, 0, 0)],
   [(.iload_n 2, 23, 17, 0, 0, 0), (.iconst 1, 24, 18, 0, 0, 0), (.iadd, 25, 19, 0, 0, 0), (.iaload, 26, 20, 0, 0, 0), (.putfield 15, 27, 21, 7, 1, 0), (.aload_n 0, 30, 22, 0, 0, 0), (.aload_n 1, 31, 23, 0, 0, 0), (.iload_n 2, 32, 24, 0, 0, 0), (.iconst 2, 33, 25, 0, 0, 0), (.iadd, 34, 26, 0, 0, 0), (.iaload, 35, 27, 0, 0, 0), (.putfield 18, 36, 28, 7, 2, 0), (.aload_n 0, 39, 29, 0, 0, 0), (.aload_n 1, 40, 30, 0, 0, 0), (.iload_n 2, 41, 31, 0, 0, 0), (.iconst 3, 42, 32, 0, 0, 0)],
   [(.iadd, 43, 33, 0, 0, 0), (.iaload, 44, 34, 0, 0, 0), (.putfield 21, 45, 35, 7, 3, 0), (.aload_n 0, 48, 36, 0, 0, 0), (.aload_n 1, 49, 37, 0, 0, 0), (.iload_n 2, 50, 38, 0, 0, 0), (.iconst 4, 51, 39, 0, 0, 0), (.iadd, 52, 40, 0, 0, 0), (.iaload, 53, 41, 0, 0, 0), (.putfield 24, 54, 42, 7, 4, 0), (.aload_n 1, 57, 43, 0, 0, 0), (.iload_n 2, 58, 44, 0, 0, 0), (.iconst 5, 59, 45, 0, 0, 0), (.iadd, 60, 46, 0, 0, 0), (.aload_n 0, 61, 47, 0, 0, 0), (.getfield 27, 62, 48, 7, 5, 0)],
   [(.iconst 0, 65, 49, 0, 0, 0), (.iconst 5, 66, 50, 0, 0, 0), (.invokestatic 37, 67, 51, 900, 5, 0), (.return_, 70, 52, 0, 0, 0)]],
   [], 58)
/-- HeardVotes$Rules.weightOf(I)I: 59 -/
def TX7_weightOf : TB := ([[(.iload_n 1, 0, 1, 0, 0, 0), (.ifCond .lt 17, 1, 2, 10, 0, 0), (.iload_n 1, 4, 3, 0, 0, 0), (.iconst 5, 5, 4, 0, 0, 0), (.if_icmp .ge 12, 6, 5, 10, 0, 0), (.aload_n 0, 9, 6, 0, 0, 0), (.getfield 27, 10, 7, 7, 5, 0), (.iload_n 1, 13, 8, 0, 0, 0), (.iaload, 14, 9, 0, 0, 0), (.goto 4, 15, 10, 11, 0, 0), (.iconst 0, 18, 11, 0, 0, 0), (.ireturn, 19, 12, 0, 0, 0)]],
   [], 59)
/-- HeardVotes$Rules.setWeight(II)V: 60 -/
def TX7_setWeight : TB := ([[(.iload_n 1, 0, 1, 0, 0, 0), (.ifCond .lt 15, 1, 2, 10, 0, 0), (.iload_n 1, 4, 3, 0, 0, 0), (.iconst 5, 5, 4, 0, 0, 0), (.if_icmp .ge 10, 6, 5, 10, 0, 0), (.aload_n 0, 9, 6, 0, 0, 0), (.getfield 27, 10, 7, 7, 5, 0), (.iload_n 1, 13, 8, 0, 0, 0), (.iload_n 2, 14, 9, 0, 0, 0), (.iastore, 15, 10, 0, 0, 0), (.return_, 16, 11, 0, 0, 0)]],
   [], 60)
/-- HeardVotes$Speech.clear()V: 61 -/
def TX8_clear : TB := ([[(.aload_n 0, 0, 1, 0, 0, 0), (.iconst 0, 1, 2, 0, 0, 0), (.putfield 9, 2, 3, 8, 0, 0), (.aload_n 0, 5, 4, 0, 0, 0), (.iconst 0, 6, 5, 0, 0, 0), (.putfield 15, 7, 6, 8, 1, 0), (.return_, 10, 7, 0, 0, 0)]],
   [], 61)
/-- HeardVotes$Speech.copyFrom(LHeardVotes$Speech;)V: 62 -/
def TX8_copyFrom : TB := ([[(.aload_n 0, 0, 1, 0, 0, 0), (.aload_n 1, 1, 2, 0, 0, 0), (.getfield 9, 2, 3, 8, 0, 0), (.putfield 9, 5, 4, 8, 0, 0), (.aload_n 0, 8, 5, 0, 0, 0), (.aload_n 1, 9, 6, 0, 0, 0), (.getfield 15, 10, 7, 8, 1, 0), (.putfield 15, 13, 8, 8, 1, 0), (.aload_n 1, 16, 9, 0, 0, 0), (.getfield 18, 17, 10, 8, 2, 0), (.iconst 0, 20, 11, 0, 0, 0), (.aload_n 0, 21, 12, 0, 0, 0), (.getfield 18, 22, 13, 8, 2, 0), (.iconst 0, 25, 14, 0, 0, 0), (.bipush 60, 26, 15, 0, 0, 0), (.invokestatic 43, 28, 16, 900, 5, 0)],
   [(.aload_n 1, 31, 17, 0, 0, 0), (.getfield 22, 32, 18, 8, 3, 0), (.iconst 0, 35, 19, 0, 0, 0), (.aload_n 0, 36, 20, 0, 0, 0), (.getfield 22, 37, 21, 8, 3, 0), (.iconst 0, 40, 22, 0, 0, 0), (.bipush 60, 41, 23, 0, 0, 0), (.invokestatic 43, 43, 24, 900, 5, 0), (.aload_n 1, 46, 25, 0, 0, 0), (.getfield 25, 47, 26, 8, 4, 0), (.iconst 0, 50, 27, 0, 0, 0), (.aload_n 0, 51, 28, 0, 0, 0), (.getfield 25, 52, 29, 8, 4, 0), (.iconst 0, 55, 30, 0, 0, 0), (.iconst 5, 56, 31, 0, 0, 0), (.invokestatic 43, 57, 32, 900, 5, 0)],
   [(.aload_n 1, 60, 33, 0, 0, 0), (.getfield 28, 61, 34, 8, 5, 0), (.iconst 0, 64, 35, 0, 0, 0), (.aload_n 0, 65, 36, 0, 0, 0), (.getfield 28, 66, 37, 8, 5, 0), (.iconst 0, 69, 38, 0, 0, 0), (.iconst 5, 70, 39, 0, 0, 0), (.invokestatic 43, 71, 40, 900, 5, 0), (.aload_n 1, 74, 41, 0, 0, 0), (.getfield 31, 75, 42, 8, 6, 0), (.iconst 0, 78, 43, 0, 0, 0), (.aload_n 0, 79, 44, 0, 0, 0), (.getfield 31, 80, 45, 8, 6, 0), (.iconst 0, 83, 46, 0, 0, 0), (.iconst 5, 84, 47, 0, 0, 0), (.invokestatic 43, 85, 48, 900, 5, 0)],
   [(.aload_n 1, 88, 49, 0, 0, 0), (.getfield 34, 89, 50, 8, 7, 0), (.iconst 0, 92, 51, 0, 0, 0), (.aload_n 0, 93, 52, 0, 0, 0), (.getfield 34, 94, 53, 8, 7, 0), (.iconst 0, 97, 54, 0, 0, 0), (.bipush 60, 98, 55, 0, 0, 0), (.invokestatic 43, 100, 56, 900, 5, 0), (.aload_n 1, 103, 57, 0, 0, 0), (.getfield 37, 104, 58, 8, 8, 0), (.iconst 0, 107, 59, 0, 0, 0), (.aload_n 0, 108, 60, 0, 0, 0), (.getfield 37, 109, 61, 8, 8, 0), (.iconst 0, 112, 62, 0, 0, 0), (.aload_n 0, 113, 63, 0, 0, 0), (.getfield 37, 114, 64, 8, 8, 0)],
   [(.arraylength, 117, 65, 0, 0, 0), (.invokestatic 43, 118, 66, 900, 5, 0), (.aload_n 1, 121, 67, 0, 0, 0), (.getfield 40, 122, 68, 8, 9, 0), (.iconst 0, 125, 69, 0, 0, 0), (.aload_n 0, 126, 70, 0, 0, 0), (.getfield 40, 127, 71, 8, 9, 0), (.iconst 0, 130, 72, 0, 0, 0), (.bipush 60, 131, 73, 0, 0, 0), (.invokestatic 43, 133, 74, 900, 5, 0), (.return_, 136, 75, 0, 0, 0)]],
   [], 62)
/-- HeardVotes$Speech.countOf(I)I: 63 -/
def TX8_countOf : TB := ([[(.iload_n 1, 0, 1, 0, 0, 0), (.ifCond .lt 17, 1, 2, 10, 0, 0), (.iload_n 1, 4, 3, 0, 0, 0), (.iconst 5, 5, 4, 0, 0, 0), (.if_icmp .ge 12, 6, 5, 10, 0, 0), (.aload_n 0, 9, 6, 0, 0, 0), (.getfield 31, 10, 7, 8, 6, 0), (.iload_n 1, 13, 8, 0, 0, 0), (.iaload, 14, 9, 0, 0, 0), (.goto 4, 15, 10, 11, 0, 0), (.iconst 0, 18, 11, 0, 0, 0), (.ireturn, 19, 12, 0, 0, 0)]],
   [], 63)
/-- HeardVotes$Speech.weightTold(I)I: 64 -/
def TX8_weightTold : TB := ([[(.iload_n 1, 0, 1, 0, 0, 0), (.ifCond .lt 17, 1, 2, 10, 0, 0), (.iload_n 1, 4, 3, 0, 0, 0), (.iconst 5, 5, 4, 0, 0, 0), (.if_icmp .ge 12, 6, 5, 10, 0, 0), (.aload_n 0, 9, 6, 0, 0, 0), (.getfield 28, 10, 7, 8, 5, 0), (.iload_n 1, 13, 8, 0, 0, 0), (.iaload, 14, 9, 0, 0, 0), (.goto 4, 15, 10, 11, 0, 0), (.iconst 0, 18, 11, 0, 0, 0), (.ireturn, 19, 12, 0, 0, 0)]],
   [], 64)
/-- HeardVotes$Speech.wordOf(II)I: 65 -/
def TX8_wordOf : TB := ([[(.iload_n 1, 0, 1, 0, 0, 0), (.ifCond .lt 32, 1, 2, 19, 0, 0), (.iload_n 1, 4, 3, 0, 0, 0), (.iconst 5, 5, 4, 0, 0, 0), (.if_icmp .ge 27, 6, 5, 19, 0, 0), (.iload_n 2, 9, 6, 0, 0, 0), (.ifCond .lt 23, 10, 7, 19, 0, 0), (.iload_n 2, 13, 8, 0, 0, 0), (.bipush 12, 14, 9, 0, 0, 0), (.if_icmp .ge 17, 16, 10, 19, 0, 0), (.aload_n 0, 19, 11, 0, 0, 0), (.getfield 18, 20, 12, 8, 2, 0), (.iload_n 1, 23, 13, 0, 0, 0), (.bipush 12, 24, 14, 0, 0, 0), (.imul, 26, 15, 0, 0, 0), (.iload_n 2, 27, 16, 0, 0, 0)],
   [(.iadd, 28, 17, 0, 0, 0), (.iaload, 29, 18, 0, 0, 0), (.goto 4, 30, 19, 20, 0, 0), (.iconst (-1), 33, 20, 0, 0, 0), (.ireturn, 34, 21, 0, 0, 0)]],
   [], 65)
/-- HeardVotes$Speech.timeOf(II)I: 66 -/
def TX8_timeOf : TB := ([[(.iload_n 1, 0, 1, 0, 0, 0), (.ifCond .lt 32, 1, 2, 19, 0, 0), (.iload_n 1, 4, 3, 0, 0, 0), (.iconst 5, 5, 4, 0, 0, 0), (.if_icmp .ge 27, 6, 5, 19, 0, 0), (.iload_n 2, 9, 6, 0, 0, 0), (.ifCond .lt 23, 10, 7, 19, 0, 0), (.iload_n 2, 13, 8, 0, 0, 0), (.bipush 12, 14, 9, 0, 0, 0), (.if_icmp .ge 17, 16, 10, 19, 0, 0), (.aload_n 0, 19, 11, 0, 0, 0), (.getfield 22, 20, 12, 8, 3, 0), (.iload_n 1, 23, 13, 0, 0, 0), (.bipush 12, 24, 14, 0, 0, 0), (.imul, 26, 15, 0, 0, 0), (.iload_n 2, 27, 16, 0, 0, 0)],
   [(.iadd, 28, 17, 0, 0, 0), (.iaload, 29, 18, 0, 0, 0), (.goto 4, 30, 19, 20, 0, 0), (.iconst (-1), 33, 20, 0, 0, 0), (.ireturn, 34, 21, 0, 0, 0)]],
   [], 66)
/-- HeardVotes$Speech.letterOf(II)I: 67 -/
def TX8_letterOf : TB := ([[(.iload_n 1, 0, 1, 0, 0, 0), (.ifCond .lt 33, 1, 2, 19, 0, 0), (.iload_n 1, 4, 3, 0, 0, 0), (.bipush 60, 5, 4, 0, 0, 0), (.if_icmp .ge 27, 7, 5, 19, 0, 0), (.iload_n 2, 10, 6, 0, 0, 0), (.ifCond .lt 23, 11, 7, 19, 0, 0), (.iload_n 2, 14, 8, 0, 0, 0), (.bipush 6, 15, 9, 0, 0, 0), (.if_icmp .ge 17, 17, 10, 19, 0, 0), (.aload_n 0, 20, 11, 0, 0, 0), (.getfield 37, 21, 12, 8, 8, 0), (.iload_n 1, 24, 13, 0, 0, 0), (.bipush 6, 25, 14, 0, 0, 0), (.imul, 27, 15, 0, 0, 0), (.iload_n 2, 28, 16, 0, 0, 0)],
   [(.iadd, 29, 17, 0, 0, 0), (.iaload, 30, 18, 0, 0, 0), (.goto 5, 31, 19, 20, 0, 0), (.bipush (-2), 34, 20, 0, 0, 0), (.ireturn, 36, 21, 0, 0, 0)]],
   [], 67)
/-- HeardVotes$Speech.lengthOf(I)I: 68 -/
def TX8_lengthOf : TB := ([[(.iload_n 1, 0, 1, 0, 0, 0), (.ifCond .lt 18, 1, 2, 10, 0, 0), (.iload_n 1, 4, 3, 0, 0, 0), (.bipush 60, 5, 4, 0, 0, 0), (.if_icmp .ge 12, 7, 5, 10, 0, 0), (.aload_n 0, 10, 6, 0, 0, 0), (.getfield 40, 11, 7, 8, 9, 0), (.iload_n 1, 14, 8, 0, 0, 0), (.iaload, 15, 9, 0, 0, 0), (.goto 4, 16, 10, 11, 0, 0), (.iconst 0, 19, 11, 0, 0, 0), (.ireturn, 20, 12, 0, 0, 0)]],
   [], 68)
/-- HeardVotes$Speech.hasName(I)Z: 69 -/
def TX8_hasName : TB := ([[(.iconst 0, 0, 1, 0, 0, 0), (.istore_n 2, 1, 2, 0, 0, 0), (.iload_n 2, 2, 3, 0, 0, 0), (.iconst 5, 3, 4, 0, 0, 0), (.if_icmp .ge 29, 4, 5, 19, 0, 0), (.iload_n 2, 7, 6, 0, 0, 0), (.aload_n 0, 8, 7, 0, 0, 0), (.getfield 9, 9, 8, 8, 0, 0), (.if_icmp .ge 21, 12, 9, 19, 0, 0), (.aload_n 0, 15, 10, 0, 0, 0), (.getfield 25, 16, 11, 8, 4, 0), (.iload_n 2, 19, 12, 0, 0, 0), (.iaload, 20, 13, 0, 0, 0), (.iload_n 1, 21, 14, 0, 0, 0), (.if_icmp .ne 5, 22, 15, 17, 0, 0), (.iconst 1, 25, 16, 0, 0, 0)],
   [(.ireturn, 26, 17, 1, 0, 0), (.iinc 2 1, 27, 18, 0, 0, 0), (.goto (-28), 30, 19, 2, 0, 0), (.iconst 0, 33, 20, 0, 0, 0), (.ireturn, 34, 21, 1, 0, 0)]],
   [], 69)
/-- HeardVotes$Speech.addHearing(I)Z: 70 -/
def TX8_addHearing : TB := ([[(.aload_n 0, 0, 1, 0, 0, 0), (.getfield 9, 1, 2, 8, 0, 0), (.ifCond .lt 11, 4, 3, 7, 0, 0), (.aload_n 0, 7, 4, 0, 0, 0), (.getfield 9, 8, 5, 8, 0, 0), (.iconst 5, 11, 6, 0, 0, 0), (.if_icmp .lt 5, 12, 7, 9, 0, 0), (.iconst 0, 15, 8, 0, 0, 0), (.ireturn, 16, 9, 1, 0, 0), (.aload_n 0, 17, 10, 0, 0, 0), (.getfield 25, 18, 11, 8, 4, 0), (.aload_n 0, 21, 12, 0, 0, 0), (.getfield 9, 22, 13, 8, 0, 0), (.iload_n 1, 25, 14, 0, 0, 0), (.iastore, 26, 15, 0, 0, 0), (.aload_n 0, 27, 16, 0, 0, 0)],
   [(.getfield 31, 28, 17, 8, 6, 0), (.aload_n 0, 31, 18, 0, 0, 0), (.getfield 9, 32, 19, 8, 0, 0), (.iconst 0, 35, 20, 0, 0, 0), (.iastore, 36, 21, 0, 0, 0), (.aload_n 0, 37, 22, 0, 0, 0), (.dup, 38, 23, 0, 0, 0), (.getfield 9, 39, 24, 8, 0, 0), (.iconst 1, 42, 25, 0, 0, 0), (.iadd, 43, 26, 0, 0, 0), (.putfield 9, 44, 27, 8, 0, 0), (.iconst 1, 47, 28, 0, 0, 0), (.ireturn, 48, 29, 1, 0, 0)]],
   [], 70)
/-- HeardVotes$Speech.setWeight(I)V: 71 -/
def TX8_setWeight : TB := ([[(.aload_n 0, 0, 1, 0, 0, 0), (.getfield 9, 1, 2, 8, 0, 0), (.iconst 1, 4, 3, 0, 0, 0), (.isub, 5, 4, 0, 0, 0), (.istore_n 2, 6, 5, 0, 0, 0), (.iload_n 2, 7, 6, 0, 0, 0), (.ifCond .lt 15, 8, 7, 15, 0, 0), (.iload_n 2, 11, 8, 0, 0, 0), (.iconst 5, 12, 9, 0, 0, 0), (.if_icmp .ge 10, 13, 10, 15, 0, 0), (.aload_n 0, 16, 11, 0, 0, 0), (.getfield 28, 17, 12, 8, 5, 0), (.iload_n 2, 20, 13, 0, 0, 0), (.iload_n 1, 21, 14, 0, 0, 0), (.iastore, 22, 15, 0, 0, 0), (.return_, 23, 16, 0, 0, 0)]],
   [], 71)
/-- HeardVotes$Speech.addWord(I)Z: 72 -/
def TX8_addWord : TB := ([[(.aload_n 0, 0, 1, 0, 0, 0), (.getfield 9, 1, 2, 8, 0, 0), (.iconst 1, 4, 3, 0, 0, 0), (.isub, 5, 4, 0, 0, 0), (.istore_n 2, 6, 5, 0, 0, 0), (.aload_n 0, 7, 6, 0, 0, 0), (.iload_n 2, 8, 7, 0, 0, 0), (.invokevirtual 49, 9, 8, 63, 1, 0), (.istore_n 3, 12, 9, 0, 0, 0), (.iload_n 2, 13, 10, 0, 0, 0), (.ifCond .lt 18, 14, 11, 19, 0, 0), (.iload_n 2, 17, 12, 0, 0, 0), (.iconst 5, 18, 13, 0, 0, 0), (.if_icmp .ge 13, 19, 14, 19, 0, 0), (.iload_n 3, 22, 15, 0, 0, 0), (.ifCond .lt 9, 23, 16, 19, 0, 0)],
   [(.iload_n 3, 26, 17, 0, 0, 0), (.bipush 12, 27, 18, 0, 0, 0), (.if_icmp .lt 5, 29, 19, 21, 0, 0), (.iconst 0, 32, 20, 0, 0, 0), (.ireturn, 33, 21, 1, 0, 0), (.aload_n 0, 34, 22, 0, 0, 0), (.getfield 18, 35, 23, 8, 2, 0), (.iload_n 2, 38, 24, 0, 0, 0), (.bipush 12, 39, 25, 0, 0, 0), (.imul, 41, 26, 0, 0, 0), (.iload_n 3, 42, 27, 0, 0, 0), (.iadd, 43, 28, 0, 0, 0), (.aload_n 0, 44, 29, 0, 0, 0), (.iload_n 1, 45, 30, 0, 0, 0), (.invokevirtual 53, 46, 31, 74, 1, 0), (.iastore, 49, 32, 0, 0, 0)],
   [(.aload_n 0, 50, 33, 0, 0, 0), (.getfield 31, 51, 34, 8, 6, 0), (.iload_n 2, 54, 35, 0, 0, 0), (.iload_n 3, 55, 36, 0, 0, 0), (.iconst 1, 56, 37, 0, 0, 0), (.iadd, 57, 38, 0, 0, 0), (.iastore, 58, 39, 0, 0, 0), (.iconst 1, 59, 40, 0, 0, 0), (.ireturn, 60, 41, 1, 0, 0)]],
   [], 72)
/-- HeardVotes$Speech.setTime(I)Z: 73 -/
def TX8_setTime : TB := ([[(.aload_n 0, 0, 1, 0, 0, 0), (.getfield 9, 1, 2, 8, 0, 0), (.iconst 1, 4, 3, 0, 0, 0), (.isub, 5, 4, 0, 0, 0), (.istore_n 2, 6, 5, 0, 0, 0), (.aload_n 0, 7, 6, 0, 0, 0), (.iload_n 2, 8, 7, 0, 0, 0), (.invokevirtual 49, 9, 8, 63, 1, 0), (.iconst 1, 12, 9, 0, 0, 0), (.isub, 13, 10, 0, 0, 0), (.istore_n 3, 14, 11, 0, 0, 0), (.iload_n 2, 15, 12, 0, 0, 0), (.ifCond .lt 34, 16, 13, 31, 0, 0), (.iload_n 2, 19, 14, 0, 0, 0), (.iconst 5, 20, 15, 0, 0, 0), (.if_icmp .ge 29, 21, 16, 31, 0, 0)],
   [(.iload_n 3, 24, 17, 0, 0, 0), (.ifCond .lt 25, 25, 18, 31, 0, 0), (.iload_n 3, 28, 19, 0, 0, 0), (.bipush 12, 29, 20, 0, 0, 0), (.if_icmp .ge 19, 31, 21, 31, 0, 0), (.iload_n 3, 34, 22, 0, 0, 0), (.ifCond .le 17, 35, 23, 33, 0, 0), (.iload_n 1, 38, 24, 0, 0, 0), (.aload_n 0, 39, 25, 0, 0, 0), (.iload_n 2, 40, 26, 0, 0, 0), (.iload_n 3, 41, 27, 0, 0, 0), (.iconst 1, 42, 28, 0, 0, 0), (.isub, 43, 29, 0, 0, 0), (.invokevirtual 56, 44, 30, 66, 2, 0), (.if_icmp .gt 5, 47, 31, 33, 0, 0), (.iconst 0, 50, 32, 0, 0, 0)],
   [(.ireturn, 51, 33, 1, 0, 0), (.aload_n 0, 52, 34, 0, 0, 0), (.getfield 22, 53, 35, 8, 3, 0), (.iload_n 2, 56, 36, 0, 0, 0), (.bipush 12, 57, 37, 0, 0, 0), (.imul, 59, 38, 0, 0, 0), (.iload_n 3, 60, 39, 0, 0, 0), (.iadd, 61, 40, 0, 0, 0), (.iload_n 1, 62, 41, 0, 0, 0), (.iastore, 63, 42, 0, 0, 0), (.iconst 1, 64, 43, 0, 0, 0), (.ireturn, 65, 44, 1, 0, 0)]],
   [], 73)
/-- HeardVotes$Speech.numberOf(I)I: 74 -/
def TX8_numberOf : TB := ([[(.iconst 0, 0, 1, 0, 0, 0), (.istore_n 2, 1, 2, 0, 0, 0), (.iload_n 2, 2, 3, 0, 0, 0), (.bipush 60, 3, 4, 0, 0, 0), (.if_icmp .ge 42, 5, 5, 28, 0, 0), (.iload_n 2, 8, 6, 0, 0, 0), (.aload_n 0, 9, 7, 0, 0, 0), (.getfield 15, 10, 8, 8, 1, 0), (.if_icmp .lt 16, 13, 9, 18, 0, 0), (.aload_n 0, 16, 10, 0, 0, 0), (.iload_n 2, 17, 11, 0, 0, 0), (.iload_n 1, 18, 12, 0, 0, 0), (.invokevirtual 60, 19, 13, 75, 2, 0), (.aload_n 0, 22, 14, 0, 0, 0), (.iload_n 2, 23, 15, 0, 0, 0), (.iconst 1, 24, 16, 0, 0, 0)],
   [(.iadd, 25, 17, 0, 0, 0), (.putfield 15, 26, 18, 8, 1, 0), (.aload_n 0, 29, 19, 0, 0, 0), (.getfield 34, 30, 20, 8, 7, 0), (.iload_n 2, 33, 21, 0, 0, 0), (.iaload, 34, 22, 0, 0, 0), (.iload_n 1, 35, 23, 0, 0, 0), (.if_icmp .ne 5, 36, 24, 26, 0, 0), (.iload_n 2, 39, 25, 0, 0, 0), (.ireturn, 40, 26, 0, 0, 0), (.iinc 2 1, 41, 27, 0, 0, 0), (.goto (-42), 44, 28, 2, 0, 0), (.iconst (-1), 47, 29, 0, 0, 0), (.ireturn, 48, 30, 0, 0, 0)]],
   [], 74)
/-- HeardVotes$Speech.spell(II)V: 75 -/
def TX8_spell : TB := ([[(.aload_n 0, 0, 1, 0, 0, 0), (.getfield 34, 1, 2, 8, 7, 0), (.iload_n 1, 4, 3, 0, 0, 0), (.iload_n 2, 5, 4, 0, 0, 0), (.iastore, 6, 5, 0, 0, 0), (.aload_n 0, 7, 6, 0, 0, 0), (.getfield 40, 8, 7, 8, 9, 0), (.iload_n 1, 11, 8, 0, 0, 0), (.iconst 0, 12, 9, 0, 0, 0), (.iastore, 13, 10, 0, 0, 0), (.iconst 0, 14, 11, 0, 0, 0), (.istore_n 3, 15, 12, 0, 0, 0), (.iload_n 3, 16, 13, 0, 0, 0), (.bipush 6, 17, 14, 0, 0, 0), (.if_icmp .ge 63, 19, 15, 52, 0, 0), (.iload_n 2, 22, 16, 0, 0, 0)],
   [(.iconst 5, 23, 17, 0, 0, 0), (.iload_n 3, 24, 18, 0, 0, 0), (.imul, 25, 19, 0, 0, 0), (.ishr, 26, 20, 0, 0, 0), (.bipush 31, 27, 21, 0, 0, 0), (.iand, 29, 22, 0, 0, 0), (.istore 4, 30, 23, 0, 0, 0), (.aload_n 0, 32, 24, 0, 0, 0), (.getfield 37, 33, 25, 8, 8, 0), (.iload_n 1, 36, 26, 0, 0, 0), (.bipush 6, 37, 27, 0, 0, 0), (.imul, 39, 28, 0, 0, 0), (.iload_n 3, 40, 29, 0, 0, 0), (.iadd, 41, 30, 0, 0, 0), (.iload 4, 42, 31, 0, 0, 0), (.ifCond .ne 8, 44, 32, 34, 0, 0)],
   [(.bipush (-2), 47, 33, 0, 0, 0), (.goto 7, 49, 34, 37, 0, 0), (.iload 4, 52, 35, 0, 0, 0), (.iconst 1, 54, 36, 0, 0, 0), (.isub, 55, 37, 0, 0, 0), (.iastore, 56, 38, 0, 0, 0), (.aload_n 0, 57, 39, 0, 0, 0), (.getfield 40, 58, 40, 8, 9, 0), (.iload_n 1, 61, 41, 0, 0, 0), (.dup2, 62, 42, 0, 0, 0), (.iaload, 63, 43, 0, 0, 0), (.iload 4, 64, 44, 0, 0, 0), (.ifCond .ne 7, 66, 45, 47, 0, 0), (.iconst 0, 69, 46, 0, 0, 0), (.goto 4, 70, 47, 48, 0, 0), (.iconst 1, 73, 48, 0, 0, 0)],
   [(.iadd, 74, 49, 0, 0, 0), (.iastore, 75, 50, 0, 0, 0), (.iinc 3 1, 76, 51, 0, 0, 0), (.goto (-63), 79, 52, 12, 0, 0), (.return_, 82, 53, 0, 0, 0)]],
   [], 75)
/-- HeardVotes$Weaver.plan(LHeardVotes$Net;I)I: 76 -/
def TX9_plan : TB := ([[(.aload_n 0, 0, 1, 0, 0, 0), (.getfield 34, 1, 2, 9, 0, 0), (.iload_n 2, 4, 3, 0, 0, 0), (.invokevirtual 50, 5, 4, 63, 1, 0), (.istore_n 3, 8, 5, 0, 0, 0), (.aload_n 1, 9, 6, 0, 0, 0), (.getfield 56, 10, 7, 3, 0, 0), (.istore 4, 13, 8, 0, 0, 0), (.aload_n 0, 15, 9, 0, 0, 0), (.iconst 0, 16, 10, 0, 0, 0), (.putfield 21, 17, 11, 9, 7, 0), (.iload_n 3, 20, 12, 0, 0, 0), (.ifCond .lt 21, 21, 13, 21, 0, 0), (.iload_n 3, 24, 14, 0, 0, 0), (.bipush 12, 25, 15, 0, 0, 0), (.if_icmp .gt 15, 27, 16, 21, 0, 0)],
   [(.iload 4, 30, 17, 0, 0, 0), (.ifCond .lt 10, 32, 18, 21, 0, 0), (.iload 4, 35, 19, 0, 0, 0), (.bipush 60, 37, 20, 0, 0, 0), (.if_icmp .le 6, 39, 21, 23, 0, 0), (.ldc 61, 42, 22, 0, 0, 1000000), (.ireturn, 44, 23, 0, 0, 0), (.iload 4, 45, 24, 0, 0, 0), (.istore 5, 47, 25, 0, 0, 0), (.iload 5, 49, 26, 0, 0, 0), (.ifCond .lt 227, 51, 27, 146, 0, 0), (.iload 5, 54, 28, 0, 0, 0), (.iload 4, 56, 29, 0, 0, 0), (.if_icmp .ge 10, 58, 30, 34, 0, 0), (.aload_n 0, 61, 31, 0, 0, 0), (.aload_n 1, 62, 32, 0, 0, 0)],
   [(.iload 5, 63, 33, 0, 0, 0), (.invokevirtual 62, 65, 34, 77, 2, 0), (.iload_n 3, 68, 35, 0, 0, 0), (.istore 6, 69, 36, 0, 0, 0), (.iload 6, 71, 37, 0, 0, 0), (.ifCond .lt 199, 73, 38, 144, 0, 0), (.iload 6, 76, 39, 0, 0, 0), (.bipush 61, 78, 40, 0, 0, 0), (.imul, 80, 41, 0, 0, 0), (.iload 5, 81, 42, 0, 0, 0), (.iadd, 83, 43, 0, 0, 0), (.istore 7, 84, 44, 0, 0, 0), (.iload 6, 86, 45, 0, 0, 0), (.iload_n 3, 88, 46, 0, 0, 0), (.if_icmp .ne 14, 89, 47, 52, 0, 0), (.iload 5, 92, 48, 0, 0, 0)],
   [(.iload 4, 94, 49, 0, 0, 0), (.if_icmp .ne 7, 96, 50, 52, 0, 0), (.iconst 0, 99, 51, 0, 0, 0), (.goto 5, 100, 52, 53, 0, 0), (.ldc 61, 103, 53, 0, 0, 1000000), (.istore 8, 105, 54, 0, 0, 0), (.iconst 0, 107, 55, 0, 0, 0), (.istore 9, 108, 56, 0, 0, 0), (.iload 6, 110, 57, 0, 0, 0), (.iload_n 3, 112, 58, 0, 0, 0), (.if_icmp .ge 32, 113, 59, 76, 0, 0), (.iload 5, 116, 60, 0, 0, 0), (.iload 4, 118, 61, 0, 0, 0), (.if_icmp .ge 25, 120, 62, 76, 0, 0), (.aload_n 0, 123, 63, 0, 0, 0), (.iload_n 2, 124, 64, 0, 0, 0)],
   [(.iload 6, 125, 65, 0, 0, 0), (.invokevirtual 66, 127, 66, 78, 2, 0), (.aload_n 0, 130, 67, 0, 0, 0), (.getfield 11, 131, 68, 9, 4, 0), (.iload 7, 134, 69, 0, 0, 0), (.bipush 61, 136, 70, 0, 0, 0), (.iadd, 138, 71, 0, 0, 0), (.iconst 1, 139, 72, 0, 0, 0), (.iadd, 140, 73, 0, 0, 0), (.iaload, 141, 74, 0, 0, 0), (.iadd, 142, 75, 0, 0, 0), (.istore 8, 143, 76, 0, 0, 0), (.iload 5, 145, 77, 0, 0, 0), (.iload 4, 147, 78, 0, 0, 0), (.if_icmp .ge 47, 149, 79, 104, 0, 0), (.aload_n 0, 152, 80, 0, 0, 0)],
   [(.getfield 38, 153, 81, 9, 1, 0), (.getfield 70, 156, 82, 7, 1, 0), (.aload_n 0, 159, 83, 0, 0, 0), (.getfield 11, 160, 84, 9, 4, 0), (.iload 7, 163, 85, 0, 0, 0), (.iconst 1, 165, 86, 0, 0, 0), (.iadd, 166, 87, 0, 0, 0), (.iaload, 167, 88, 0, 0, 0), (.iadd, 168, 89, 0, 0, 0), (.iload 8, 169, 90, 0, 0, 0), (.if_icmp .ge 25, 171, 91, 104, 0, 0), (.aload_n 0, 174, 92, 0, 0, 0), (.getfield 38, 175, 93, 9, 1, 0), (.getfield 70, 178, 94, 7, 1, 0), (.aload_n 0, 181, 95, 0, 0, 0), (.getfield 11, 182, 96, 9, 4, 0)],
   [(.iload 7, 185, 97, 0, 0, 0), (.iconst 1, 187, 98, 0, 0, 0), (.iadd, 188, 99, 0, 0, 0), (.iaload, 189, 100, 0, 0, 0), (.iadd, 190, 101, 0, 0, 0), (.istore 8, 191, 102, 0, 0, 0), (.iconst 1, 193, 103, 0, 0, 0), (.istore 9, 194, 104, 0, 0, 0), (.iload 6, 196, 105, 0, 0, 0), (.iload_n 3, 198, 106, 0, 0, 0), (.if_icmp .ge 49, 199, 107, 132, 0, 0), (.aload_n 0, 202, 108, 0, 0, 0), (.getfield 38, 203, 109, 9, 1, 0), (.getfield 75, 206, 110, 7, 0, 0), (.aload_n 0, 209, 111, 0, 0, 0), (.getfield 11, 210, 112, 9, 4, 0)],
   [(.iload 7, 213, 113, 0, 0, 0), (.bipush 61, 215, 114, 0, 0, 0), (.iadd, 217, 115, 0, 0, 0), (.iaload, 218, 116, 0, 0, 0), (.iadd, 219, 117, 0, 0, 0), (.iload 8, 220, 118, 0, 0, 0), (.if_icmp .ge 26, 222, 119, 132, 0, 0), (.aload_n 0, 225, 120, 0, 0, 0), (.getfield 38, 226, 121, 9, 1, 0), (.getfield 75, 229, 122, 7, 0, 0), (.aload_n 0, 232, 123, 0, 0, 0), (.getfield 11, 233, 124, 9, 4, 0), (.iload 7, 236, 125, 0, 0, 0), (.bipush 61, 238, 126, 0, 0, 0), (.iadd, 240, 127, 0, 0, 0), (.iaload, 241, 128, 0, 0, 0)],
   [(.iadd, 242, 129, 0, 0, 0), (.istore 8, 243, 130, 0, 0, 0), (.iconst 2, 245, 131, 0, 0, 0), (.istore 9, 246, 132, 0, 0, 0), (.aload_n 0, 248, 133, 0, 0, 0), (.getfield 11, 249, 134, 9, 4, 0), (.iload 7, 252, 135, 0, 0, 0), (.iload 8, 254, 136, 0, 0, 0), (.iastore, 256, 137, 0, 0, 0), (.aload_n 0, 257, 138, 0, 0, 0), (.getfield 15, 258, 139, 9, 5, 0), (.iload 7, 261, 140, 0, 0, 0), (.iload 9, 263, 141, 0, 0, 0), (.iastore, 265, 142, 0, 0, 0), (.iinc 6 (-1), 266, 143, 0, 0, 0), (.goto (-198), 269, 144, 36, 0, 0)],
   [(.iinc 5 (-1), 272, 145, 0, 0, 0), (.goto (-226), 275, 146, 25, 0, 0), (.aload_n 0, 278, 147, 0, 0, 0), (.iload_n 3, 279, 148, 0, 0, 0), (.iload 4, 280, 149, 0, 0, 0), (.invokevirtual 78, 282, 150, 79, 2, 0), (.aload_n 0, 285, 151, 0, 0, 0), (.getfield 11, 286, 152, 9, 4, 0), (.iconst 0, 289, 153, 0, 0, 0), (.iaload, 290, 154, 0, 0, 0), (.ireturn, 291, 155, 0, 0, 0)]],
   [], 76)
/-- HeardVotes$Weaver.lookInto(LHeardVotes$Net;I)V: 77 -/
def TX9_lookInto : TB := ([[(.aload_n 0, 0, 1, 0, 0, 0), (.iconst 0, 1, 2, 0, 0, 0), (.putfield 28, 2, 3, 9, 9, 0), (.iconst 0, 5, 4, 0, 0, 0), (.istore_n 3, 6, 5, 0, 0, 0), (.iload_n 3, 7, 6, 0, 0, 0), (.iconst 5, 8, 7, 0, 0, 0), (.if_icmp .ge 59, 9, 8, 37, 0, 0), (.aload_n 1, 12, 9, 0, 0, 0), (.iload_n 2, 13, 10, 0, 0, 0), (.iload_n 3, 14, 11, 0, 0, 0), (.invokevirtual 82, 15, 12, 30, 2, 0), (.istore 4, 18, 13, 0, 0, 0), (.iload 4, 20, 14, 0, 0, 0), (.ifCond .lt 40, 22, 15, 35, 0, 0), (.aload_n 0, 25, 16, 0, 0, 0)],
   [(.getfield 28, 26, 17, 9, 9, 0), (.iconst 5, 29, 18, 0, 0, 0), (.if_icmp .ge 32, 30, 19, 35, 0, 0), (.aload_n 0, 33, 20, 0, 0, 0), (.getfield 25, 34, 21, 9, 8, 0), (.aload_n 0, 37, 22, 0, 0, 0), (.getfield 28, 38, 23, 9, 9, 0), (.aload_n 0, 41, 24, 0, 0, 0), (.getfield 34, 42, 25, 9, 0, 0), (.iload_n 3, 45, 26, 0, 0, 0), (.iload 4, 46, 27, 0, 0, 0), (.invokevirtual 85, 48, 28, 65, 2, 0), (.iastore, 51, 29, 0, 0, 0), (.aload_n 0, 52, 30, 0, 0, 0), (.dup, 53, 31, 0, 0, 0), (.getfield 28, 54, 32, 9, 9, 0)],
   [(.iconst 1, 57, 33, 0, 0, 0), (.iadd, 58, 34, 0, 0, 0), (.putfield 28, 59, 35, 9, 9, 0), (.iinc 3 1, 62, 36, 0, 0, 0), (.goto (-58), 65, 37, 5, 0, 0), (.aload_n 0, 68, 38, 0, 0, 0), (.aload_n 0, 69, 39, 0, 0, 0), (.getfield 46, 70, 40, 9, 3, 0), (.aload_n 1, 73, 41, 0, 0, 0), (.iload_n 2, 74, 42, 0, 0, 0), (.iconst (-1), 75, 43, 0, 0, 0), (.invokevirtual 88, 76, 44, 19, 3, 0), (.putfield 31, 79, 45, 9, 10, 0), (.return_, 82, 46, 0, 0, 0)]],
   [], 77)
/-- HeardVotes$Weaver.matchCost(II)I: 78 -/
def TX9_matchCost : TB := ([[(.aload_n 0, 0, 1, 0, 0, 0), (.getfield 34, 1, 2, 9, 0, 0), (.iload_n 1, 4, 3, 0, 0, 0), (.iload_n 2, 5, 4, 0, 0, 0), (.invokevirtual 85, 6, 5, 65, 2, 0), (.istore_n 3, 9, 6, 0, 0, 0), (.aload_n 0, 10, 7, 0, 0, 0), (.getfield 38, 11, 8, 9, 1, 0), (.getfield 94, 14, 9, 7, 2, 0), (.istore 4, 17, 10, 0, 0, 0), (.iconst 0, 19, 11, 0, 0, 0), (.istore 5, 20, 12, 0, 0, 0), (.iload 5, 22, 13, 0, 0, 0), (.aload_n 0, 24, 14, 0, 0, 0), (.getfield 28, 25, 15, 9, 9, 0), (.if_icmp .ge 47, 28, 16, 36, 0, 0)],
   [(.iload 4, 31, 17, 0, 0, 0), (.ifCond .le 42, 33, 18, 36, 0, 0), (.aload_n 0, 36, 19, 0, 0, 0), (.getfield 42, 37, 20, 9, 2, 0), (.iload_n 3, 40, 21, 0, 0, 0), (.aload_n 0, 41, 22, 0, 0, 0), (.getfield 25, 42, 23, 9, 8, 0), (.iload 5, 45, 24, 0, 0, 0), (.iaload, 47, 25, 0, 0, 0), (.invokevirtual 97, 48, 26, 21, 2, 0), (.istore 6, 51, 27, 0, 0, 0), (.iload 6, 53, 28, 0, 0, 0), (.iload 4, 55, 29, 0, 0, 0), (.if_icmp .ge 8, 57, 30, 32, 0, 0), (.iload 6, 60, 31, 0, 0, 0), (.goto 5, 62, 32, 33, 0, 0)],
   [(.iload 4, 65, 33, 0, 0, 0), (.istore 4, 67, 34, 0, 0, 0), (.iinc 5 1, 69, 35, 0, 0, 0), (.goto (-50), 72, 36, 12, 0, 0), (.aload_n 0, 75, 37, 0, 0, 0), (.getfield 34, 76, 38, 9, 0, 0), (.iload_n 1, 79, 39, 0, 0, 0), (.iload_n 2, 80, 40, 0, 0, 0), (.invokevirtual 102, 81, 41, 66, 2, 0), (.aload_n 0, 84, 42, 0, 0, 0), (.getfield 31, 85, 43, 9, 10, 0), (.isub, 88, 44, 0, 0, 0), (.istore 5, 89, 45, 0, 0, 0), (.iload 5, 91, 46, 0, 0, 0), (.ifCond .ge 9, 93, 47, 50, 0, 0), (.iload 5, 96, 48, 0, 0, 0)],
   [(.ineg, 98, 49, 0, 0, 0), (.goto 5, 99, 50, 51, 0, 0), (.iload 5, 102, 51, 0, 0, 0), (.aload_n 0, 104, 52, 0, 0, 0), (.getfield 38, 105, 53, 9, 1, 0), (.getfield 105, 108, 54, 7, 3, 0), (.if_icmp .le 10, 111, 55, 59, 0, 0), (.iload 4, 114, 56, 0, 0, 0), (.iconst 1, 116, 57, 0, 0, 0), (.iadd, 117, 58, 0, 0, 0), (.goto 5, 118, 59, 60, 0, 0), (.iload 4, 121, 60, 0, 0, 0), (.ireturn, 123, 61, 0, 0, 0)]],
   [], 78)
/-- HeardVotes$Weaver.followSteps(II)V: 79 -/
def TX9_followSteps : TB := ([[(.iconst 0, 0, 1, 0, 0, 0), (.istore_n 3, 1, 2, 0, 0, 0), (.iconst 0, 2, 3, 0, 0, 0), (.istore 4, 3, 4, 0, 0, 0), (.iconst 0, 5, 5, 0, 0, 0), (.istore 5, 6, 6, 0, 0, 0), (.iload 5, 8, 7, 0, 0, 0), (.aload_n 0, 10, 8, 0, 0, 0), (.getfield 18, 11, 9, 9, 6, 0), (.arraylength, 14, 10, 0, 0, 0), (.if_icmp .ge 87, 15, 11, 60, 0, 0), (.iload_n 3, 18, 12, 0, 0, 0), (.iload_n 1, 19, 13, 0, 0, 0), (.if_icmp .lt 9, 20, 14, 17, 0, 0), (.iload 4, 23, 15, 0, 0, 0), (.iload_n 2, 25, 16, 0, 0, 0)],
   [(.if_icmp .ge 76, 26, 17, 60, 0, 0), (.aload_n 0, 29, 18, 0, 0, 0), (.getfield 18, 30, 19, 9, 6, 0), (.iload 5, 33, 20, 0, 0, 0), (.aload_n 0, 35, 21, 0, 0, 0), (.getfield 15, 36, 22, 9, 5, 0), (.iload_n 3, 39, 23, 0, 0, 0), (.bipush 61, 40, 24, 0, 0, 0), (.imul, 42, 25, 0, 0, 0), (.iload 4, 43, 26, 0, 0, 0), (.iadd, 45, 27, 0, 0, 0), (.iaload, 46, 28, 0, 0, 0), (.iastore, 47, 29, 0, 0, 0), (.iload_n 3, 48, 30, 0, 0, 0), (.aload_n 0, 49, 31, 0, 0, 0), (.getfield 18, 50, 32, 9, 6, 0)],
   [(.iload 5, 53, 33, 0, 0, 0), (.iaload, 55, 34, 0, 0, 0), (.iconst 1, 56, 35, 0, 0, 0), (.if_icmp .ne 7, 57, 36, 38, 0, 0), (.iconst 0, 60, 37, 0, 0, 0), (.goto 4, 61, 38, 39, 0, 0), (.iconst 1, 64, 39, 0, 0, 0), (.iadd, 65, 40, 0, 0, 0), (.istore_n 3, 66, 41, 0, 0, 0), (.iload 4, 67, 42, 0, 0, 0), (.aload_n 0, 69, 43, 0, 0, 0), (.getfield 18, 70, 44, 9, 6, 0), (.iload 5, 73, 45, 0, 0, 0), (.iaload, 75, 46, 0, 0, 0), (.iconst 2, 76, 47, 0, 0, 0), (.if_icmp .ne 7, 77, 48, 50, 0, 0)],
   [(.iconst 0, 80, 49, 0, 0, 0), (.goto 4, 81, 50, 51, 0, 0), (.iconst 1, 84, 51, 0, 0, 0), (.iadd, 85, 52, 0, 0, 0), (.istore 4, 86, 53, 0, 0, 0), (.aload_n 0, 88, 54, 0, 0, 0), (.iload 5, 89, 55, 0, 0, 0), (.iconst 1, 91, 56, 0, 0, 0), (.iadd, 92, 57, 0, 0, 0), (.putfield 21, 93, 58, 9, 7, 0), (.iinc 5 1, 96, 59, 0, 0, 0), (.goto (-91), 99, 60, 6, 0, 0), (.return_, 102, 61, 0, 0, 0)]],
   [], 79)
/-- HeardVotes$Weaver.stepOf(I)I: 80 -/
def TX9_stepOf : TB := ([[(.iload_n 1, 0, 1, 0, 0, 0), (.ifCond .lt 20, 1, 2, 11, 0, 0), (.iload_n 1, 4, 3, 0, 0, 0), (.aload_n 0, 5, 4, 0, 0, 0), (.getfield 21, 6, 5, 9, 7, 0), (.if_icmp .ge 12, 9, 6, 11, 0, 0), (.aload_n 0, 12, 7, 0, 0, 0), (.getfield 18, 13, 8, 9, 6, 0), (.iload_n 1, 16, 9, 0, 0, 0), (.iaload, 17, 10, 0, 0, 0), (.goto 5, 18, 11, 12, 0, 0), (.bipush (-2), 21, 12, 0, 0, 0), (.ireturn, 23, 13, 0, 0, 0)]],
   [], 80)
/-- HeardVotes$Weaver.weave(LHeardVotes$Net;I)I: 81 -/
def TX9_weave : TB := ([[(.iload_n 2, 0, 1, 0, 0, 0), (.ifCond .lt 22, 1, 2, 11, 0, 0), (.iload_n 2, 4, 3, 0, 0, 0), (.aload_n 0, 5, 4, 0, 0, 0), (.getfield 34, 6, 5, 9, 0, 0), (.getfield 108, 9, 6, 8, 0, 0), (.if_icmp .ge 11, 12, 7, 11, 0, 0), (.aload_n 1, 15, 8, 0, 0, 0), (.iload_n 2, 16, 9, 0, 0, 0), (.invokevirtual 111, 17, 10, 27, 1, 0), (.ifCond .eq 5, 20, 11, 13, 0, 0), (.iconst 0, 23, 12, 0, 0, 0), (.ireturn, 24, 13, 0, 0, 0), (.aload_n 0, 25, 14, 0, 0, 0), (.aload_n 1, 26, 15, 0, 0, 0), (.iload_n 2, 27, 16, 0, 0, 0)],
   [(.invokevirtual 115, 28, 17, 76, 2, 0), (.istore_n 3, 31, 18, 0, 0, 0), (.aload_n 0, 32, 19, 0, 0, 0), (.getfield 34, 33, 20, 9, 0, 0), (.iload_n 2, 36, 21, 0, 0, 0), (.invokevirtual 50, 37, 22, 63, 1, 0), (.istore 4, 40, 23, 0, 0, 0), (.aload_n 1, 42, 24, 0, 0, 0), (.getfield 56, 43, 25, 3, 0, 0), (.istore 5, 46, 26, 0, 0, 0), (.aload_n 0, 48, 27, 0, 0, 0), (.getfield 21, 49, 28, 9, 7, 0), (.iconst 1, 52, 29, 0, 0, 0), (.isub, 53, 30, 0, 0, 0), (.istore 6, 54, 31, 0, 0, 0), (.iload 6, 56, 32, 0, 0, 0)],
   [(.ifCond .lt 61, 58, 33, 60, 0, 0), (.aload_n 0, 61, 34, 0, 0, 0), (.iload 6, 62, 35, 0, 0, 0), (.invokevirtual 119, 64, 36, 80, 1, 0), (.iconst 2, 67, 37, 0, 0, 0), (.if_icmp .ne 12, 68, 38, 42, 0, 0), (.aload_n 1, 71, 39, 0, 0, 0), (.iload 6, 72, 40, 0, 0, 0), (.invokevirtual 122, 74, 41, 34, 1, 0), (.goto 14, 77, 42, 47, 0, 0), (.iinc 5 (-1), 80, 43, 0, 0, 0), (.aload_n 1, 83, 44, 0, 0, 0), (.iload 5, 84, 45, 0, 0, 0), (.iload 6, 86, 46, 0, 0, 0), (.invokevirtual 126, 88, 47, 35, 2, 0), (.aload_n 0, 91, 48, 0, 0, 0)],
   [(.iload 6, 92, 49, 0, 0, 0), (.invokevirtual 119, 94, 50, 80, 1, 0), (.iconst 1, 97, 51, 0, 0, 0), (.if_icmp .eq 15, 98, 52, 58, 0, 0), (.iinc 4 (-1), 101, 53, 0, 0, 0), (.aload_n 1, 104, 54, 0, 0, 0), (.iload 6, 105, 55, 0, 0, 0), (.iload_n 2, 107, 56, 0, 0, 0), (.iload 4, 108, 57, 0, 0, 0), (.invokevirtual 129, 110, 58, 33, 3, 0), (.iinc 6 (-1), 113, 59, 0, 0, 0), (.goto (-60), 116, 60, 31, 0, 0), (.aload_n 1, 119, 61, 0, 0, 0), (.aload_n 0, 120, 62, 0, 0, 0), (.getfield 21, 121, 63, 9, 7, 0), (.putfield 56, 124, 64, 3, 0, 0)],
   [(.aload_n 1, 127, 65, 0, 0, 0), (.iload_n 2, 128, 66, 0, 0, 0), (.iload_n 3, 129, 67, 0, 0, 0), (.invokevirtual 133, 130, 68, 36, 2, 0), (.iload_n 3, 133, 69, 0, 0, 0), (.ireturn, 134, 70, 0, 0, 0)]],
   [], 81)
/-- HeardVotes$Weaver.weaveWithout(LHeardVotes$Net;ILHeardVotes$Net;)V: 82 -/
def TX9_weaveWithout : TB := ([[(.aload_n 3, 0, 1, 0, 0, 0), (.invokevirtual 136, 1, 2, 22, 0, 0), (.iconst 0, 4, 3, 0, 0, 0), (.istore 4, 5, 4, 0, 0, 0), (.iload 4, 7, 5, 0, 0, 0), (.aload_n 1, 9, 6, 0, 0, 0), (.getfield 139, 10, 7, 3, 1, 0), (.if_icmp .ge 31, 13, 8, 22, 0, 0), (.aload_n 1, 16, 9, 0, 0, 0), (.iload 4, 17, 10, 0, 0, 0), (.invokevirtual 142, 19, 11, 29, 1, 0), (.istore 5, 22, 12, 0, 0, 0), (.iload 5, 24, 13, 0, 0, 0), (.iload_n 2, 26, 14, 0, 0, 0), (.if_icmp .eq 11, 27, 15, 20, 0, 0), (.aload_n 0, 30, 16, 0, 0, 0)],
   [(.aload_n 3, 31, 17, 0, 0, 0), (.iload 5, 32, 18, 0, 0, 0), (.invokevirtual 145, 34, 19, 81, 2, 0), (.pop, 37, 20, 0, 0, 0), (.iinc 4 1, 38, 21, 0, 0, 0), (.goto (-34), 41, 22, 4, 0, 0), (.return_, 44, 23, 0, 0, 0)]],
   [], 82)
/-- HeardVotes.feed(IIIII)I: 83 -/
def TX10_feed : TB := ([[(.aload_n 0, 0, 1, 0, 0, 0), (.getfield 60, 1, 2, 10, 15, 0), (.bipush 20, 4, 3, 0, 0, 0), (.iadd, 6, 4, 0, 0, 0), (.sipush 600, 7, 5, 0, 0, 0), (.if_icmp .le 5, 10, 6, 8, 0, 0), (.iconst (-1), 13, 7, 0, 0, 0), (.ireturn, 14, 8, 0, 0, 0), (.aload_n 0, 15, 9, 0, 0, 0), (.iload_n 1, 16, 10, 0, 0, 0), (.invokevirtual 121, 17, 11, 120, 1, 0), (.aload_n 0, 20, 12, 0, 0, 0), (.iload_n 2, 21, 13, 0, 0, 0), (.invokevirtual 121, 22, 14, 120, 1, 0), (.aload_n 0, 25, 15, 0, 0, 0), (.iload_n 3, 26, 16, 0, 0, 0)],
   [(.invokevirtual 121, 27, 17, 120, 1, 0), (.aload_n 0, 30, 18, 0, 0, 0), (.iload 4, 31, 19, 0, 0, 0), (.invokevirtual 121, 33, 20, 120, 1, 0), (.aload_n 0, 36, 21, 0, 0, 0), (.iload 5, 37, 22, 0, 0, 0), (.invokevirtual 121, 39, 23, 120, 1, 0), (.aload_n 0, 42, 24, 0, 0, 0), (.getfield 60, 43, 25, 10, 15, 0), (.ireturn, 46, 26, 0, 0, 0)]],
   [], 83)
/-- HeardVotes.text(I)I: 84 -/
def TX10_text : TB := ([[(.iload_n 1, 0, 1, 0, 0, 0), (.ifCond .lt 11, 1, 2, 6, 0, 0), (.iload_n 1, 4, 3, 0, 0, 0), (.aload_n 0, 5, 4, 0, 0, 0), (.getfield 60, 6, 5, 10, 15, 0), (.if_icmp .le 9, 9, 6, 10, 0, 0), (.aload_n 0, 12, 7, 0, 0, 0), (.iconst 2, 13, 8, 0, 0, 0), (.invokevirtual 125, 14, 9, 116, 1, 0), (.ireturn, 17, 10, 0, 0, 0), (.aload_n 0, 18, 11, 0, 0, 0), (.iconst 0, 19, 12, 0, 0, 0), (.putfield 60, 20, 13, 10, 15, 0), (.aload_n 0, 23, 14, 0, 0, 0), (.aload_n 0, 24, 15, 0, 0, 0), (.getfield 81, 25, 16, 10, 10, 0)],
   [(.iload_n 1, 28, 17, 0, 0, 0), (.invokevirtual 129, 29, 18, 42, 1, 0), (.putfield 70, 32, 19, 10, 18, 0), (.aload_n 0, 35, 20, 0, 0, 0), (.getfield 70, 36, 21, 10, 18, 0), (.ifCond .eq 21, 39, 22, 32, 0, 0), (.aload_n 0, 42, 23, 0, 0, 0), (.iconst 4, 43, 24, 0, 0, 0), (.putfield 67, 44, 25, 10, 17, 0), (.aload_n 0, 47, 26, 0, 0, 0), (.aload_n 0, 48, 27, 0, 0, 0), (.getfield 81, 49, 28, 10, 10, 0), (.getfield 132, 52, 29, 5, 1, 0), (.putfield 73, 55, 30, 10, 19, 0), (.iconst (-1), 58, 31, 0, 0, 0), (.ireturn, 59, 32, 0, 0, 0)],
   [(.aload_n 0, 60, 33, 0, 0, 0), (.getfield 25, 61, 34, 10, 4, 0), (.aload_n 0, 64, 35, 0, 0, 0), (.getfield 81, 65, 36, 10, 10, 0), (.getfield 135, 68, 37, 5, 0, 0), (.invokevirtual 136, 71, 38, 62, 1, 0), (.aload_n 0, 74, 39, 0, 0, 0), (.getfield 32, 75, 40, 10, 5, 0), (.aload_n 0, 78, 41, 0, 0, 0), (.getfield 25, 79, 42, 10, 4, 0), (.invokevirtual 140, 82, 43, 56, 1, 0), (.aload_n 0, 85, 44, 0, 0, 0), (.getfield 39, 86, 45, 10, 6, 0), (.invokevirtual 143, 89, 46, 22, 0, 0), (.aload_n 0, 92, 47, 0, 0, 0), (.getfield 49, 93, 48, 10, 8, 0)],
   [(.invokevirtual 146, 96, 49, 3, 0, 0), (.aload_n 0, 99, 50, 0, 0, 0), (.getfield 90, 100, 51, 10, 11, 0), (.invokevirtual 147, 103, 52, 20, 0, 0), (.aload_n 0, 106, 53, 0, 0, 0), (.getfield 117, 107, 54, 10, 14, 0), (.invokevirtual 150, 110, 55, 37, 0, 0), (.aload_n 0, 113, 56, 0, 0, 0), (.aload_n 0, 114, 57, 0, 0, 0), (.getfield 25, 115, 58, 10, 4, 0), (.getfield 151, 118, 59, 8, 0, 0), (.invokevirtual 154, 121, 60, 118, 1, 0), (.ireturn, 124, 61, 0, 0, 0)]],
   [], 84)
/-- HeardVotes.fault()I: 85 -/
def TX10_fault : TB := ([[(.aload_n 0, 0, 1, 0, 0, 0), (.getfield 70, 1, 2, 10, 18, 0), (.ireturn, 4, 3, 0, 0, 0)]],
   [], 85)
/-- HeardVotes.where()I: 86 -/
def TX10_where : TB := ([[(.aload_n 0, 0, 1, 0, 0, 0), (.getfield 73, 1, 2, 10, 19, 0), (.ireturn, 4, 3, 0, 0, 0)]],
   [], 86)
/-- HeardVotes.about(I)I: 87 -/
def TX10_about : TB := ([[(.aload_n 0, 0, 1, 0, 0, 0), (.invokevirtual 157, 1, 2, 121, 0, 0), (.ifCond .ne 9, 4, 3, 7, 0, 0), (.aload_n 0, 7, 4, 0, 0, 0), (.iconst 1, 8, 5, 0, 0, 0), (.invokevirtual 125, 9, 6, 116, 1, 0), (.ireturn, 12, 7, 0, 0, 0), (.iload_n 1, 13, 8, 0, 0, 0), (.tableswitch 147 0 7 #[46, 58, 70, 82, 94, 117, 126, 138], 14, 9, 60, 0, 0), (.aload_n 0, 60, 10, 0, 0, 0), (.aload_n 0, 61, 11, 0, 0, 0), (.getfield 25, 62, 12, 10, 4, 0), (.getfield 151, 65, 13, 8, 0, 0), (.invokevirtual 154, 68, 14, 118, 1, 0), (.ireturn, 71, 15, 0, 0, 0), (.aload_n 0, 72, 16, 0, 0, 0)],
   [(.aload_n 0, 73, 17, 0, 0, 0), (.getfield 25, 74, 18, 10, 4, 0), (.getfield 161, 77, 19, 8, 1, 0), (.invokevirtual 154, 80, 20, 118, 1, 0), (.ireturn, 83, 21, 0, 0, 0), (.aload_n 0, 84, 22, 0, 0, 0), (.aload_n 0, 85, 23, 0, 0, 0), (.getfield 39, 86, 24, 10, 6, 0), (.getfield 164, 89, 25, 3, 1, 0), (.invokevirtual 154, 92, 26, 118, 1, 0), (.ireturn, 95, 27, 0, 0, 0), (.aload_n 0, 96, 28, 0, 0, 0), (.aload_n 0, 97, 29, 0, 0, 0), (.getfield 39, 98, 30, 10, 6, 0), (.getfield 167, 101, 31, 3, 0, 0), (.invokevirtual 154, 104, 32, 118, 1, 0)],
   [(.ireturn, 107, 33, 0, 0, 0), (.aload_n 0, 108, 34, 0, 0, 0), (.getfield 99, 109, 35, 10, 12, 0), (.aload_n 0, 112, 36, 0, 0, 0), (.getfield 39, 113, 37, 10, 6, 0), (.invokevirtual 170, 116, 38, 12, 1, 0), (.aload_n 0, 119, 39, 0, 0, 0), (.aload_n 0, 120, 40, 0, 0, 0), (.getfield 99, 121, 41, 10, 12, 0), (.getfield 174, 124, 42, 1, 2, 0), (.invokevirtual 154, 127, 43, 118, 1, 0), (.ireturn, 130, 44, 0, 0, 0), (.aload_n 0, 131, 45, 0, 0, 0), (.aload_n 0, 132, 46, 0, 0, 0), (.invokevirtual 177, 133, 47, 126, 0, 0), (.invokevirtual 154, 136, 48, 118, 1, 0)],
   [(.ireturn, 139, 49, 0, 0, 0), (.aload_n 0, 140, 50, 0, 0, 0), (.aload_n 0, 141, 51, 0, 0, 0), (.getfield 49, 142, 52, 10, 8, 0), (.getfield 181, 145, 53, 0, 0, 0), (.invokevirtual 154, 148, 54, 118, 1, 0), (.ireturn, 151, 55, 0, 0, 0), (.aload_n 0, 152, 56, 0, 0, 0), (.aload_n 0, 153, 57, 0, 0, 0), (.invokevirtual 184, 154, 58, 127, 0, 0), (.invokevirtual 154, 157, 59, 118, 1, 0), (.ireturn, 160, 60, 0, 0, 0), (.aload_n 0, 161, 61, 0, 0, 0), (.iconst 1, 162, 62, 0, 0, 0), (.invokevirtual 125, 163, 63, 116, 1, 0), (.ireturn, 166, 64, 0, 0, 0)]],
   [(8, [(0, 9), (1, 15), (2, 21), (3, 27), (4, 33), (5, 44), (6, 49), (7, 55)], 60)], 87)
/-- HeardVotes.hearing(II)I: 88 -/
def TX10_hearing : TB := ([[(.aload_n 0, 0, 1, 0, 0, 0), (.iload_n 1, 1, 2, 0, 0, 0), (.invokevirtual 187, 2, 3, 122, 1, 0), (.ifCond .ne 9, 5, 4, 8, 0, 0), (.aload_n 0, 8, 5, 0, 0, 0), (.iconst 1, 9, 6, 0, 0, 0), (.invokevirtual 125, 10, 7, 116, 1, 0), (.ireturn, 13, 8, 0, 0, 0), (.iload_n 2, 14, 9, 0, 0, 0), (.tableswitch 127 0 4 #[33, 46, 59, 72, 101], 15, 10, 58, 0, 0), (.aload_n 0, 48, 11, 0, 0, 0), (.aload_n 0, 49, 12, 0, 0, 0), (.getfield 32, 50, 13, 10, 5, 0), (.iload_n 1, 53, 14, 0, 0, 0), (.invokevirtual 191, 54, 15, 59, 1, 0), (.invokevirtual 154, 57, 16, 118, 1, 0)],
   [(.ireturn, 60, 17, 0, 0, 0), (.aload_n 0, 61, 18, 0, 0, 0), (.aload_n 0, 62, 19, 0, 0, 0), (.getfield 25, 63, 20, 10, 4, 0), (.iload_n 1, 66, 21, 0, 0, 0), (.invokevirtual 194, 67, 22, 63, 1, 0), (.invokevirtual 154, 70, 23, 118, 1, 0), (.ireturn, 73, 24, 0, 0, 0), (.aload_n 0, 74, 25, 0, 0, 0), (.aload_n 0, 75, 26, 0, 0, 0), (.getfield 39, 76, 27, 10, 6, 0), (.iload_n 1, 79, 28, 0, 0, 0), (.invokevirtual 197, 80, 29, 26, 1, 0), (.invokevirtual 154, 83, 30, 118, 1, 0), (.ireturn, 86, 31, 0, 0, 0), (.aload_n 0, 87, 32, 0, 0, 0)],
   [(.aload_n 0, 88, 33, 0, 0, 0), (.getfield 39, 89, 34, 10, 6, 0), (.iload_n 1, 92, 35, 0, 0, 0), (.invokevirtual 200, 93, 36, 27, 1, 0), (.ifCond .eq 14, 96, 37, 42, 0, 0), (.aload_n 0, 99, 38, 0, 0, 0), (.getfield 39, 100, 39, 10, 6, 0), (.iload_n 1, 103, 40, 0, 0, 0), (.invokevirtual 203, 104, 41, 28, 1, 0), (.goto 5, 107, 42, 43, 0, 0), (.bipush (-2), 110, 43, 0, 0, 0), (.invokevirtual 154, 112, 44, 118, 1, 0), (.ireturn, 115, 45, 0, 0, 0), (.aload_n 0, 116, 46, 0, 0, 0), (.aload_n 0, 117, 47, 0, 0, 0), (.getfield 39, 118, 48, 10, 6, 0)],
   [(.iload_n 1, 121, 49, 0, 0, 0), (.invokevirtual 200, 122, 50, 27, 1, 0), (.ifCond .eq 11, 125, 51, 55, 0, 0), (.aload_n 0, 128, 52, 0, 0, 0), (.iload_n 1, 129, 53, 0, 0, 0), (.invokevirtual 206, 130, 54, 128, 1, 0), (.goto 5, 133, 55, 56, 0, 0), (.bipush (-2), 136, 56, 0, 0, 0), (.invokevirtual 154, 138, 57, 118, 1, 0), (.ireturn, 141, 58, 0, 0, 0), (.aload_n 0, 142, 59, 0, 0, 0), (.iconst 1, 143, 60, 0, 0, 0), (.invokevirtual 125, 144, 61, 116, 1, 0), (.ireturn, 147, 62, 0, 0, 0)]],
   [(9, [(0, 10), (1, 17), (2, 24), (3, 31), (4, 45)], 58)], 88)
/-- HeardVotes.word(III)I: 89 -/
def TX10_word : TB := ([[(.aload_n 0, 0, 1, 0, 0, 0), (.iload_n 1, 1, 2, 0, 0, 0), (.invokevirtual 187, 2, 3, 122, 1, 0), (.ifCond .eq 19, 5, 4, 12, 0, 0), (.iload_n 2, 8, 5, 0, 0, 0), (.ifCond .lt 15, 9, 6, 12, 0, 0), (.iload_n 2, 12, 7, 0, 0, 0), (.aload_n 0, 13, 8, 0, 0, 0), (.getfield 25, 14, 9, 10, 4, 0), (.iload_n 1, 17, 10, 0, 0, 0), (.invokevirtual 194, 18, 11, 63, 1, 0), (.if_icmp .lt 9, 21, 12, 16, 0, 0), (.aload_n 0, 24, 13, 0, 0, 0), (.iconst 1, 25, 14, 0, 0, 0), (.invokevirtual 125, 26, 15, 116, 1, 0), (.ireturn, 29, 16, 0, 0, 0)],
   [(.iload_n 3, 30, 17, 0, 0, 0), (.tableswitch 67 0 2 #[25, 39, 53], 31, 18, 42, 0, 0), (.aload_n 0, 56, 19, 0, 0, 0), (.aload_n 0, 57, 20, 0, 0, 0), (.getfield 25, 58, 21, 10, 4, 0), (.iload_n 1, 61, 22, 0, 0, 0), (.iload_n 2, 62, 23, 0, 0, 0), (.invokevirtual 209, 63, 24, 65, 2, 0), (.invokevirtual 154, 66, 25, 118, 1, 0), (.ireturn, 69, 26, 0, 0, 0), (.aload_n 0, 70, 27, 0, 0, 0), (.aload_n 0, 71, 28, 0, 0, 0), (.getfield 25, 72, 29, 10, 4, 0), (.iload_n 1, 75, 30, 0, 0, 0), (.iload_n 2, 76, 31, 0, 0, 0), (.invokevirtual 213, 77, 32, 66, 2, 0)],
   [(.invokevirtual 154, 80, 33, 118, 1, 0), (.ireturn, 83, 34, 0, 0, 0), (.aload_n 0, 84, 35, 0, 0, 0), (.aload_n 0, 85, 36, 0, 0, 0), (.getfield 39, 86, 37, 10, 6, 0), (.iload_n 1, 89, 38, 0, 0, 0), (.iload_n 2, 90, 39, 0, 0, 0), (.invokevirtual 216, 91, 40, 31, 2, 0), (.invokevirtual 154, 94, 41, 118, 1, 0), (.ireturn, 97, 42, 0, 0, 0), (.aload_n 0, 98, 43, 0, 0, 0), (.iconst 1, 99, 44, 0, 0, 0), (.invokevirtual 125, 100, 45, 116, 1, 0), (.ireturn, 103, 46, 0, 0, 0)]],
   [(17, [(0, 18), (1, 26), (2, 34)], 42)], 89)
/-- HeardVotes.letter(II)I: 90 -/
def TX10_letter : TB := ([[(.aload_n 0, 0, 1, 0, 0, 0), (.iload_n 1, 1, 2, 0, 0, 0), (.invokevirtual 219, 2, 3, 123, 1, 0), (.ifCond .eq 7, 5, 4, 6, 0, 0), (.iload_n 2, 8, 5, 0, 0, 0), (.ifCond .ge 9, 9, 6, 10, 0, 0), (.aload_n 0, 12, 7, 0, 0, 0), (.iconst 1, 13, 8, 0, 0, 0), (.invokevirtual 125, 14, 9, 116, 1, 0), (.ireturn, 17, 10, 0, 0, 0), (.aload_n 0, 18, 11, 0, 0, 0), (.aload_n 0, 19, 12, 0, 0, 0), (.getfield 25, 20, 13, 10, 4, 0), (.iload_n 1, 23, 14, 0, 0, 0), (.iload_n 2, 24, 15, 0, 0, 0), (.invokevirtual 222, 25, 16, 67, 2, 0)],
   [(.invokevirtual 154, 28, 17, 118, 1, 0), (.ireturn, 31, 18, 0, 0, 0)]],
   [], 90)
/-- HeardVotes.far(II)I: 91 -/
def TX10_far : TB := ([[(.aload_n 0, 0, 1, 0, 0, 0), (.iload_n 1, 1, 2, 0, 0, 0), (.invokevirtual 219, 2, 3, 123, 1, 0), (.ifCond .eq 11, 5, 4, 8, 0, 0), (.aload_n 0, 8, 5, 0, 0, 0), (.iload_n 2, 9, 6, 0, 0, 0), (.invokevirtual 219, 10, 7, 123, 1, 0), (.ifCond .ne 9, 13, 8, 12, 0, 0), (.aload_n 0, 16, 9, 0, 0, 0), (.iconst 1, 17, 10, 0, 0, 0), (.invokevirtual 125, 18, 11, 116, 1, 0), (.ireturn, 21, 12, 0, 0, 0), (.aload_n 0, 22, 13, 0, 0, 0), (.aload_n 0, 23, 14, 0, 0, 0), (.getfield 90, 24, 15, 10, 11, 0), (.iload_n 1, 27, 16, 0, 0, 0)],
   [(.iload_n 2, 28, 17, 0, 0, 0), (.invokevirtual 225, 29, 18, 21, 2, 0), (.invokevirtual 154, 32, 19, 118, 1, 0), (.ireturn, 35, 20, 0, 0, 0)]],
   [], 91)
/-- HeardVotes.between(II)I: 92 -/
def TX10_between : TB := ([[(.aload_n 0, 0, 1, 0, 0, 0), (.iload_n 1, 1, 2, 0, 0, 0), (.invokevirtual 187, 2, 3, 122, 1, 0), (.ifCond .eq 11, 5, 4, 8, 0, 0), (.aload_n 0, 8, 5, 0, 0, 0), (.iload_n 2, 9, 6, 0, 0, 0), (.invokevirtual 187, 10, 7, 122, 1, 0), (.ifCond .ne 9, 13, 8, 12, 0, 0), (.aload_n 0, 16, 9, 0, 0, 0), (.iconst 1, 17, 10, 0, 0, 0), (.invokevirtual 125, 18, 11, 116, 1, 0), (.ireturn, 21, 12, 0, 0, 0), (.aload_n 0, 22, 13, 0, 0, 0), (.aload_n 0, 23, 14, 0, 0, 0), (.getfield 56, 24, 15, 10, 9, 0), (.aload_n 0, 27, 16, 0, 0, 0)],
   [(.getfield 25, 28, 17, 10, 4, 0), (.getfield 228, 31, 18, 8, 2, 0), (.iload_n 1, 34, 19, 0, 0, 0), (.bipush 12, 35, 20, 0, 0, 0), (.imul, 37, 21, 0, 0, 0), (.aload_n 0, 38, 22, 0, 0, 0), (.getfield 25, 39, 23, 10, 4, 0), (.iload_n 1, 42, 24, 0, 0, 0), (.invokevirtual 194, 43, 25, 63, 1, 0), (.aload_n 0, 46, 26, 0, 0, 0), (.getfield 25, 47, 27, 10, 4, 0), (.getfield 228, 50, 28, 8, 2, 0), (.iload_n 2, 53, 29, 0, 0, 0), (.bipush 12, 54, 30, 0, 0, 0), (.imul, 56, 31, 0, 0, 0), (.aload_n 0, 57, 32, 0, 0, 0)],
   [(.getfield 25, 58, 33, 10, 4, 0), (.iload_n 2, 61, 34, 0, 0, 0), (.invokevirtual 194, 62, 35, 63, 1, 0), (.invokevirtual 231, 65, 36, 55, 6, 0), (.invokevirtual 154, 68, 37, 118, 1, 0), (.ireturn, 71, 38, 0, 0, 0)]],
   [], 92)
/-- HeardVotes.costs(III)Z: 93 -/
def TX10_costs : TB := ([[(.aload_n 0, 0, 1, 0, 0, 0), (.invokevirtual 157, 1, 2, 121, 0, 0), (.ifCond .ne 9, 4, 3, 7, 0, 0), (.aload_n 0, 7, 4, 0, 0, 0), (.iconst 1, 8, 5, 0, 0, 0), (.invokevirtual 235, 9, 6, 117, 1, 0), (.ireturn, 12, 7, 1, 0, 0), (.iload_n 1, 13, 8, 0, 0, 0), (.iconst 1, 14, 9, 0, 0, 0), (.bipush 9, 15, 10, 0, 0, 0), (.invokestatic 238, 17, 11, 125, 3, 0), (.ifCond .eq 23, 20, 12, 22, 0, 0), (.iload_n 2, 23, 13, 0, 0, 0), (.iconst 1, 24, 14, 0, 0, 0), (.bipush 9, 25, 15, 0, 0, 0), (.invokestatic 238, 27, 16, 125, 3, 0)],
   [(.ifCond .eq 13, 30, 17, 22, 0, 0), (.iload_n 3, 33, 18, 0, 0, 0), (.iconst 0, 34, 19, 0, 0, 0), (.bipush 9, 35, 20, 0, 0, 0), (.invokestatic 238, 37, 21, 125, 3, 0), (.ifCond .ne 9, 40, 22, 26, 0, 0), (.aload_n 0, 43, 23, 0, 0, 0), (.iconst 2, 44, 24, 0, 0, 0), (.invokevirtual 235, 45, 25, 117, 1, 0), (.ireturn, 48, 26, 1, 0, 0), (.aload_n 0, 49, 27, 0, 0, 0), (.invokevirtual 242, 50, 28, 119, 0, 0), (.aload_n 0, 53, 29, 0, 0, 0), (.getfield 32, 54, 30, 10, 5, 0), (.iload_n 1, 57, 31, 0, 0, 0), (.putfield 245, 58, 32, 7, 0, 0)],
   [(.aload_n 0, 61, 33, 0, 0, 0), (.getfield 32, 62, 34, 10, 5, 0), (.iload_n 2, 65, 35, 0, 0, 0), (.putfield 248, 66, 36, 7, 1, 0), (.aload_n 0, 69, 37, 0, 0, 0), (.getfield 32, 70, 38, 10, 5, 0), (.iload_n 3, 73, 39, 0, 0, 0), (.putfield 251, 74, 40, 7, 2, 0), (.iconst 1, 77, 41, 0, 0, 0), (.ireturn, 78, 42, 1, 0, 0)]],
   [], 93)
/-- HeardVotes.window(I)Z: 94 -/
def TX10_window : TB := ([[(.aload_n 0, 0, 1, 0, 0, 0), (.invokevirtual 157, 1, 2, 121, 0, 0), (.ifCond .ne 9, 4, 3, 7, 0, 0), (.aload_n 0, 7, 4, 0, 0, 0), (.iconst 1, 8, 5, 0, 0, 0), (.invokevirtual 235, 9, 6, 117, 1, 0), (.ireturn, 12, 7, 1, 0, 0), (.iload_n 1, 13, 8, 0, 0, 0), (.iconst 0, 14, 9, 0, 0, 0), (.sipush 999, 15, 10, 0, 0, 0), (.invokestatic 238, 18, 11, 125, 3, 0), (.ifCond .ne 9, 21, 12, 16, 0, 0), (.aload_n 0, 24, 13, 0, 0, 0), (.iconst 2, 25, 14, 0, 0, 0), (.invokevirtual 235, 26, 15, 117, 1, 0), (.ireturn, 29, 16, 1, 0, 0)],
   [(.aload_n 0, 30, 17, 0, 0, 0), (.invokevirtual 242, 31, 18, 119, 0, 0), (.aload_n 0, 34, 19, 0, 0, 0), (.getfield 32, 35, 20, 10, 5, 0), (.iload_n 1, 38, 21, 0, 0, 0), (.putfield 254, 39, 22, 7, 3, 0), (.iconst 1, 42, 23, 0, 0, 0), (.ireturn, 43, 24, 1, 0, 0)]],
   [], 94)
/-- HeardVotes.share(I)Z: 95 -/
def TX10_share : TB := ([[(.aload_n 0, 0, 1, 0, 0, 0), (.invokevirtual 157, 1, 2, 121, 0, 0), (.ifCond .ne 9, 4, 3, 7, 0, 0), (.aload_n 0, 7, 4, 0, 0, 0), (.iconst 1, 8, 5, 0, 0, 0), (.invokevirtual 235, 9, 6, 117, 1, 0), (.ireturn, 12, 7, 1, 0, 0), (.iload_n 1, 13, 8, 0, 0, 0), (.iconst 0, 14, 9, 0, 0, 0), (.sipush 200, 15, 10, 0, 0, 0), (.invokestatic 238, 18, 11, 125, 3, 0), (.ifCond .ne 9, 21, 12, 16, 0, 0), (.aload_n 0, 24, 13, 0, 0, 0), (.iconst 2, 25, 14, 0, 0, 0), (.invokevirtual 235, 26, 15, 117, 1, 0), (.ireturn, 29, 16, 1, 0, 0)],
   [(.aload_n 0, 30, 17, 0, 0, 0), (.invokevirtual 242, 31, 18, 119, 0, 0), (.aload_n 0, 34, 19, 0, 0, 0), (.getfield 32, 35, 20, 10, 5, 0), (.iload_n 1, 38, 21, 0, 0, 0), (.putfield 257, 39, 22, 7, 4, 0), (.iconst 1, 42, 23, 0, 0, 0), (.ireturn, 43, 24, 1, 0, 0)]],
   [], 95)
/-- HeardVotes.weight(II)I: 96 -/
def TX10_weight : TB := ([[(.aload_n 0, 0, 1, 0, 0, 0), (.iload_n 1, 1, 2, 0, 0, 0), (.invokevirtual 187, 2, 3, 122, 1, 0), (.ifCond .ne 9, 5, 4, 8, 0, 0), (.aload_n 0, 8, 5, 0, 0, 0), (.iconst 1, 9, 6, 0, 0, 0), (.invokevirtual 125, 10, 7, 116, 1, 0), (.ireturn, 13, 8, 0, 0, 0), (.iload_n 2, 14, 9, 0, 0, 0), (.iconst 1, 15, 10, 0, 0, 0), (.bipush 99, 16, 11, 0, 0, 0), (.invokestatic 238, 18, 12, 125, 3, 0), (.ifCond .ne 9, 21, 13, 17, 0, 0), (.aload_n 0, 24, 14, 0, 0, 0), (.iconst 2, 25, 15, 0, 0, 0), (.invokevirtual 125, 26, 16, 116, 1, 0)],
   [(.ireturn, 29, 17, 0, 0, 0), (.aload_n 0, 30, 18, 0, 0, 0), (.invokevirtual 242, 31, 19, 119, 0, 0), (.aload_n 0, 34, 20, 0, 0, 0), (.getfield 32, 35, 21, 10, 5, 0), (.iload_n 1, 38, 22, 0, 0, 0), (.invokevirtual 191, 39, 23, 59, 1, 0), (.istore_n 3, 42, 24, 0, 0, 0), (.aload_n 0, 43, 25, 0, 0, 0), (.getfield 32, 44, 26, 10, 5, 0), (.iload_n 1, 47, 27, 0, 0, 0), (.iload_n 2, 48, 28, 0, 0, 0), (.invokevirtual 260, 49, 29, 60, 2, 0), (.iload_n 3, 52, 30, 0, 0, 0), (.ireturn, 53, 31, 0, 0, 0)]],
   [], 96)
/-- HeardVotes.join(I)I: 97 -/
def TX10_join : TB := ([[(.aload_n 0, 0, 1, 0, 0, 0), (.iload_n 1, 1, 2, 0, 0, 0), (.invokevirtual 187, 2, 3, 122, 1, 0), (.ifCond .ne 9, 5, 4, 8, 0, 0), (.aload_n 0, 8, 5, 0, 0, 0), (.iconst 1, 9, 6, 0, 0, 0), (.invokevirtual 125, 10, 7, 116, 1, 0), (.ireturn, 13, 8, 0, 0, 0), (.aload_n 0, 14, 9, 0, 0, 0), (.getfield 39, 15, 10, 10, 6, 0), (.iload_n 1, 18, 11, 0, 0, 0), (.invokevirtual 200, 19, 12, 27, 1, 0), (.ifCond .eq 9, 22, 13, 17, 0, 0), (.aload_n 0, 25, 14, 0, 0, 0), (.iconst 5, 26, 15, 0, 0, 0), (.invokevirtual 125, 27, 16, 116, 1, 0)],
   [(.ireturn, 30, 17, 0, 0, 0), (.aload_n 0, 31, 18, 0, 0, 0), (.invokevirtual 242, 32, 19, 119, 0, 0), (.aload_n 0, 35, 20, 0, 0, 0), (.getfield 108, 36, 21, 10, 13, 0), (.aload_n 0, 39, 22, 0, 0, 0), (.getfield 39, 40, 23, 10, 6, 0), (.iload_n 1, 43, 24, 0, 0, 0), (.invokevirtual 264, 44, 25, 81, 2, 0), (.ireturn, 47, 26, 0, 0, 0)]],
   [], 97)
/-- HeardVotes.joinAll(I)I: 98 -/
def TX10_joinAll : TB := ([[(.aload_n 0, 0, 1, 0, 0, 0), (.invokevirtual 157, 1, 2, 121, 0, 0), (.ifCond .eq 12, 4, 3, 8, 0, 0), (.iload_n 1, 7, 4, 0, 0, 0), (.iconst 0, 8, 5, 0, 0, 0), (.iconst 2, 9, 6, 0, 0, 0), (.invokestatic 238, 10, 7, 125, 3, 0), (.ifCond .ne 9, 13, 8, 12, 0, 0), (.aload_n 0, 16, 9, 0, 0, 0), (.iconst 1, 17, 10, 0, 0, 0), (.invokevirtual 125, 18, 11, 116, 1, 0), (.ireturn, 21, 12, 0, 0, 0), (.aload_n 0, 22, 13, 0, 0, 0), (.invokevirtual 242, 23, 14, 119, 0, 0), (.iconst 0, 26, 15, 0, 0, 0), (.istore_n 2, 27, 16, 0, 0, 0)],
   [(.aload_n 0, 28, 17, 0, 0, 0), (.getfield 25, 29, 18, 10, 4, 0), (.getfield 151, 32, 19, 8, 0, 0), (.aload_n 0, 35, 20, 0, 0, 0), (.getfield 39, 36, 21, 10, 6, 0), (.getfield 164, 39, 22, 3, 1, 0), (.isub, 42, 23, 0, 0, 0), (.istore_n 3, 43, 24, 0, 0, 0), (.iconst 0, 44, 25, 0, 0, 0), (.istore 4, 45, 26, 0, 0, 0), (.iload 4, 47, 27, 0, 0, 0), (.iload_n 3, 49, 28, 0, 0, 0), (.if_icmp .ge 28, 50, 29, 42, 0, 0), (.iload_n 2, 53, 30, 0, 0, 0), (.aload_n 0, 54, 31, 0, 0, 0), (.getfield 108, 55, 32, 10, 13, 0)],
   [(.aload_n 0, 58, 33, 0, 0, 0), (.getfield 39, 59, 34, 10, 6, 0), (.aload_n 0, 62, 35, 0, 0, 0), (.iload_n 1, 63, 36, 0, 0, 0), (.invokevirtual 268, 64, 37, 130, 1, 0), (.invokevirtual 264, 67, 38, 81, 2, 0), (.iadd, 70, 39, 0, 0, 0), (.istore_n 2, 71, 40, 0, 0, 0), (.iinc 4 1, 72, 41, 0, 0, 0), (.goto (-28), 75, 42, 26, 0, 0), (.iload_n 2, 78, 43, 0, 0, 0), (.ireturn, 79, 44, 0, 0, 0)]],
   [], 98)
/-- HeardVotes.drop(I)I: 99 -/
def TX10_drop : TB := ([[(.aload_n 0, 0, 1, 0, 0, 0), (.iload_n 1, 1, 2, 0, 0, 0), (.invokevirtual 187, 2, 3, 122, 1, 0), (.ifCond .ne 9, 5, 4, 8, 0, 0), (.aload_n 0, 8, 5, 0, 0, 0), (.iconst 1, 9, 6, 0, 0, 0), (.invokevirtual 125, 10, 7, 116, 1, 0), (.ireturn, 13, 8, 0, 0, 0), (.aload_n 0, 14, 9, 0, 0, 0), (.getfield 39, 15, 10, 10, 6, 0), (.iload_n 1, 18, 11, 0, 0, 0), (.invokevirtual 200, 19, 12, 27, 1, 0), (.ifCond .ne 9, 22, 13, 17, 0, 0), (.aload_n 0, 25, 14, 0, 0, 0), (.iconst 5, 26, 15, 0, 0, 0), (.invokevirtual 125, 27, 16, 116, 1, 0)],
   [(.ireturn, 30, 17, 0, 0, 0), (.aload_n 0, 31, 18, 0, 0, 0), (.invokevirtual 242, 32, 19, 119, 0, 0), (.aload_n 0, 35, 20, 0, 0, 0), (.getfield 108, 36, 21, 10, 13, 0), (.aload_n 0, 39, 22, 0, 0, 0), (.getfield 39, 40, 23, 10, 6, 0), (.iload_n 1, 43, 24, 0, 0, 0), (.aload_n 0, 44, 25, 0, 0, 0), (.getfield 43, 45, 26, 10, 7, 0), (.invokevirtual 271, 48, 27, 82, 3, 0), (.aload_n 0, 51, 28, 0, 0, 0), (.getfield 39, 52, 29, 10, 6, 0), (.aload_n 0, 55, 30, 0, 0, 0), (.getfield 43, 56, 31, 10, 7, 0), (.invokevirtual 275, 59, 32, 23, 1, 0)],
   [(.aload_n 0, 62, 33, 0, 0, 0), (.getfield 39, 63, 34, 10, 6, 0), (.getfield 167, 66, 35, 3, 0, 0), (.ireturn, 69, 36, 0, 0, 0)]],
   [], 99)
/-- HeardVotes.weigh()I: 100 -/
def TX10_weigh : TB := ([[(.aload_n 0, 0, 1, 0, 0, 0), (.invokevirtual 157, 1, 2, 121, 0, 0), (.ifCond .ne 9, 4, 3, 7, 0, 0), (.aload_n 0, 7, 4, 0, 0, 0), (.iconst 1, 8, 5, 0, 0, 0), (.invokevirtual 125, 9, 6, 116, 1, 0), (.ireturn, 12, 7, 0, 0, 0), (.aload_n 0, 13, 8, 0, 0, 0), (.invokevirtual 242, 14, 9, 119, 0, 0), (.iconst 0, 17, 10, 0, 0, 0), (.istore_n 1, 18, 11, 0, 0, 0), (.iload_n 1, 19, 12, 0, 0, 0), (.iconst 5, 20, 13, 0, 0, 0), (.if_icmp .ge 42, 21, 14, 33, 0, 0), (.aload_n 0, 24, 15, 0, 0, 0), (.getfield 16, 25, 16, 10, 2, 0)],
   [(.iload_n 1, 28, 17, 0, 0, 0), (.aload_n 0, 29, 18, 0, 0, 0), (.getfield 39, 30, 19, 10, 6, 0), (.iload_n 1, 33, 20, 0, 0, 0), (.invokevirtual 200, 34, 21, 27, 1, 0), (.ifCond .eq 11, 37, 22, 26, 0, 0), (.aload_n 0, 40, 23, 0, 0, 0), (.iload_n 1, 41, 24, 0, 0, 0), (.invokevirtual 277, 42, 25, 129, 1, 0), (.goto 11, 45, 26, 30, 0, 0), (.aload_n 0, 48, 27, 0, 0, 0), (.getfield 32, 49, 28, 10, 5, 0), (.iload_n 1, 52, 29, 0, 0, 0), (.invokevirtual 191, 53, 30, 59, 1, 0), (.iastore, 56, 31, 0, 0, 0), (.iinc 1 1, 57, 32, 0, 0, 0)],
   [(.goto (-41), 60, 33, 11, 0, 0), (.iconst 0, 63, 34, 0, 0, 0), (.istore_n 1, 64, 35, 0, 0, 0), (.iconst 0, 65, 36, 0, 0, 0), (.istore_n 2, 66, 37, 0, 0, 0), (.iload_n 2, 67, 38, 0, 0, 0), (.iconst 5, 68, 39, 0, 0, 0), (.if_icmp .ge 48, 69, 40, 65, 0, 0), (.iload_n 1, 72, 41, 0, 0, 0), (.aload_n 0, 73, 42, 0, 0, 0), (.getfield 16, 74, 43, 10, 2, 0), (.iload_n 2, 77, 44, 0, 0, 0), (.iaload, 78, 45, 0, 0, 0), (.aload_n 0, 79, 46, 0, 0, 0), (.getfield 32, 80, 47, 10, 5, 0), (.iload_n 2, 83, 48, 0, 0, 0)],
   [(.invokevirtual 191, 84, 49, 59, 1, 0), (.if_icmp .ne 7, 87, 50, 52, 0, 0), (.iconst 0, 90, 51, 0, 0, 0), (.goto 4, 91, 52, 53, 0, 0), (.iconst 1, 94, 53, 0, 0, 0), (.iadd, 95, 54, 0, 0, 0), (.istore_n 1, 96, 55, 0, 0, 0), (.aload_n 0, 97, 56, 0, 0, 0), (.getfield 32, 98, 57, 10, 5, 0), (.iload_n 2, 101, 58, 0, 0, 0), (.aload_n 0, 102, 59, 0, 0, 0), (.getfield 16, 103, 60, 10, 2, 0), (.iload_n 2, 106, 61, 0, 0, 0), (.iaload, 107, 62, 0, 0, 0), (.invokevirtual 260, 108, 63, 60, 2, 0), (.iinc 2 1, 111, 64, 0, 0, 0)],
   [(.goto (-47), 114, 65, 37, 0, 0), (.iload_n 1, 117, 66, 0, 0, 0), (.ireturn, 118, 67, 0, 0, 0)]],
   [], 100)
/-- HeardVotes.undo()I: 101 -/
def TX10_undo : TB := ([[(.aload_n 0, 0, 1, 0, 0, 0), (.invokevirtual 157, 1, 2, 121, 0, 0), (.ifCond .ne 9, 4, 3, 7, 0, 0), (.aload_n 0, 7, 4, 0, 0, 0), (.iconst 1, 8, 5, 0, 0, 0), (.invokevirtual 125, 9, 6, 116, 1, 0), (.ireturn, 12, 7, 0, 0, 0), (.aload_n 0, 13, 8, 0, 0, 0), (.getfield 49, 14, 9, 10, 8, 0), (.getfield 181, 17, 10, 0, 0, 0), (.ifCond .gt 9, 20, 11, 15, 0, 0), (.aload_n 0, 23, 12, 0, 0, 0), (.iconst 5, 24, 13, 0, 0, 0), (.invokevirtual 125, 25, 14, 116, 1, 0), (.ireturn, 28, 15, 0, 0, 0), (.aload_n 0, 29, 16, 0, 0, 0)],
   [(.getfield 49, 30, 17, 10, 8, 0), (.aload_n 0, 33, 18, 0, 0, 0), (.getfield 32, 34, 19, 10, 5, 0), (.aload_n 0, 37, 20, 0, 0, 0), (.getfield 39, 38, 21, 10, 6, 0), (.invokevirtual 280, 41, 22, 5, 2, 0), (.aload_n 0, 44, 23, 0, 0, 0), (.getfield 117, 45, 24, 10, 14, 0), (.invokevirtual 150, 48, 25, 37, 0, 0), (.aload_n 0, 51, 26, 0, 0, 0), (.aload_n 0, 52, 27, 0, 0, 0), (.getfield 49, 53, 28, 10, 8, 0), (.getfield 181, 56, 29, 0, 0, 0), (.invokevirtual 154, 59, 30, 118, 1, 0), (.ireturn, 62, 31, 0, 0, 0)]],
   [], 101)
/-- HeardVotes.slot(II)I: 102 -/
def TX10_slot : TB := ([[(.aload_n 0, 0, 1, 0, 0, 0), (.iload_n 1, 1, 2, 0, 0, 0), (.invokevirtual 284, 2, 3, 124, 1, 0), (.ifCond .ne 9, 5, 4, 8, 0, 0), (.aload_n 0, 8, 5, 0, 0, 0), (.iconst 1, 9, 6, 0, 0, 0), (.invokevirtual 125, 10, 7, 116, 1, 0), (.ireturn, 13, 8, 0, 0, 0), (.aload_n 0, 14, 9, 0, 0, 0), (.getfield 99, 15, 10, 10, 12, 0), (.aload_n 0, 18, 11, 0, 0, 0), (.getfield 39, 19, 12, 10, 6, 0), (.iload_n 1, 22, 13, 0, 0, 0), (.invokevirtual 287, 23, 14, 6, 2, 0), (.iload_n 2, 26, 15, 0, 0, 0), (.tableswitch 143 0 7 #[45, 58, 70, 88, 100, 113, 123, 133], 27, 16, 70, 0, 0)],
   [(.aload_n 0, 72, 17, 0, 0, 0), (.aload_n 0, 73, 18, 0, 0, 0), (.getfield 39, 74, 19, 10, 6, 0), (.iload_n 1, 77, 20, 0, 0, 0), (.invokevirtual 291, 78, 21, 32, 1, 0), (.invokevirtual 154, 81, 22, 118, 1, 0), (.ireturn, 84, 23, 0, 0, 0), (.aload_n 0, 85, 24, 0, 0, 0), (.aload_n 0, 86, 25, 0, 0, 0), (.getfield 99, 87, 26, 10, 12, 0), (.getfield 294, 90, 27, 1, 0, 0), (.invokevirtual 154, 93, 28, 118, 1, 0), (.ireturn, 96, 29, 0, 0, 0), (.aload_n 0, 97, 30, 0, 0, 0), (.aload_n 0, 98, 31, 0, 0, 0), (.getfield 99, 99, 32, 10, 12, 0)],
   [(.aload_n 0, 102, 33, 0, 0, 0), (.getfield 39, 103, 34, 10, 6, 0), (.iload_n 1, 106, 35, 0, 0, 0), (.iconst (-1), 107, 36, 0, 0, 0), (.invokevirtual 297, 108, 37, 19, 3, 0), (.invokevirtual 154, 111, 38, 118, 1, 0), (.ireturn, 114, 39, 0, 0, 0), (.aload_n 0, 115, 40, 0, 0, 0), (.aload_n 0, 116, 41, 0, 0, 0), (.getfield 99, 117, 42, 10, 12, 0), (.getfield 301, 120, 43, 1, 1, 0), (.invokevirtual 154, 123, 44, 118, 1, 0), (.ireturn, 126, 45, 0, 0, 0), (.aload_n 0, 127, 46, 0, 0, 0), (.aload_n 0, 128, 47, 0, 0, 0), (.getfield 99, 129, 48, 10, 12, 0)],
   [(.iconst 0, 132, 49, 0, 0, 0), (.invokevirtual 304, 133, 50, 9, 1, 0), (.invokevirtual 154, 136, 51, 118, 1, 0), (.ireturn, 139, 52, 0, 0, 0), (.aload_n 0, 140, 53, 0, 0, 0), (.aload_n 0, 141, 54, 0, 0, 0), (.iload_n 1, 142, 55, 0, 0, 0), (.invokevirtual 307, 143, 56, 131, 1, 0), (.invokevirtual 154, 146, 57, 118, 1, 0), (.ireturn, 149, 58, 0, 0, 0), (.aload_n 0, 150, 59, 0, 0, 0), (.aload_n 0, 151, 60, 0, 0, 0), (.iload_n 1, 152, 61, 0, 0, 0), (.invokevirtual 310, 153, 62, 132, 1, 0), (.invokevirtual 154, 156, 63, 118, 1, 0), (.ireturn, 159, 64, 0, 0, 0)],
   [(.aload_n 0, 160, 65, 0, 0, 0), (.aload_n 0, 161, 66, 0, 0, 0), (.iload_n 1, 162, 67, 0, 0, 0), (.invokevirtual 313, 163, 68, 133, 1, 0), (.invokevirtual 154, 166, 69, 118, 1, 0), (.ireturn, 169, 70, 0, 0, 0), (.aload_n 0, 170, 71, 0, 0, 0), (.iconst 1, 171, 72, 0, 0, 0), (.invokevirtual 125, 172, 73, 116, 1, 0), (.ireturn, 175, 74, 0, 0, 0)]],
   [(15, [(0, 16), (1, 23), (2, 29), (3, 39), (4, 45), (5, 52), (6, 58), (7, 64)], 70)], 102)
/-- HeardVotes.at(II)I: 103 -/
def TX10_at : TB := ([[(.aload_n 0, 0, 1, 0, 0, 0), (.iload_n 1, 1, 2, 0, 0, 0), (.invokevirtual 284, 2, 3, 124, 1, 0), (.ifCond .eq 11, 5, 4, 8, 0, 0), (.aload_n 0, 8, 5, 0, 0, 0), (.iload_n 2, 9, 6, 0, 0, 0), (.invokevirtual 187, 10, 7, 122, 1, 0), (.ifCond .ne 9, 13, 8, 12, 0, 0), (.aload_n 0, 16, 9, 0, 0, 0), (.iconst 1, 17, 10, 0, 0, 0), (.invokevirtual 125, 18, 11, 116, 1, 0), (.ireturn, 21, 12, 0, 0, 0), (.aload_n 0, 22, 13, 0, 0, 0), (.aload_n 0, 23, 14, 0, 0, 0), (.getfield 39, 24, 15, 10, 6, 0), (.iload_n 1, 27, 16, 0, 0, 0)],
   [(.iload_n 2, 28, 17, 0, 0, 0), (.invokevirtual 316, 29, 18, 30, 2, 0), (.invokevirtual 154, 32, 19, 118, 1, 0), (.ireturn, 35, 20, 0, 0, 0)]],
   [], 103)
/-- HeardVotes.choice(III)I: 104 -/
def TX10_choice : TB := ([[(.aload_n 0, 0, 1, 0, 0, 0), (.iload_n 1, 1, 2, 0, 0, 0), (.invokevirtual 284, 2, 3, 124, 1, 0), (.ifCond .ne 9, 5, 4, 8, 0, 0), (.aload_n 0, 8, 5, 0, 0, 0), (.iconst 1, 9, 6, 0, 0, 0), (.invokevirtual 125, 10, 7, 116, 1, 0), (.ireturn, 13, 8, 0, 0, 0), (.aload_n 0, 14, 9, 0, 0, 0), (.getfield 99, 15, 10, 10, 12, 0), (.aload_n 0, 18, 11, 0, 0, 0), (.getfield 39, 19, 12, 10, 6, 0), (.iload_n 1, 22, 13, 0, 0, 0), (.invokevirtual 287, 23, 14, 6, 2, 0), (.iload_n 2, 26, 15, 0, 0, 0), (.ifCond .lt 14, 27, 16, 21, 0, 0)],
   [(.iload_n 2, 30, 17, 0, 0, 0), (.aload_n 0, 31, 18, 0, 0, 0), (.getfield 99, 32, 19, 10, 12, 0), (.getfield 294, 35, 20, 1, 0, 0), (.if_icmp .lt 9, 38, 21, 25, 0, 0), (.aload_n 0, 41, 22, 0, 0, 0), (.iconst 1, 42, 23, 0, 0, 0), (.invokevirtual 125, 43, 24, 116, 1, 0), (.ireturn, 46, 25, 0, 0, 0), (.aload_n 0, 47, 26, 0, 0, 0), (.getfield 99, 48, 27, 10, 12, 0), (.iload_n 2, 51, 28, 0, 0, 0), (.invokevirtual 319, 52, 29, 10, 1, 0), (.istore 4, 55, 30, 0, 0, 0), (.iload_n 3, 57, 31, 0, 0, 0), (.tableswitch 93 0 3 #[30, 43, 50, 69], 58, 32, 63, 0, 0)],
   [(.aload_n 0, 88, 33, 0, 0, 0), (.aload_n 0, 89, 34, 0, 0, 0), (.getfield 99, 90, 35, 10, 12, 0), (.iload_n 2, 93, 36, 0, 0, 0), (.invokevirtual 304, 94, 37, 9, 1, 0), (.invokevirtual 154, 97, 38, 118, 1, 0), (.ireturn, 100, 39, 0, 0, 0), (.aload_n 0, 101, 40, 0, 0, 0), (.iload 4, 102, 41, 0, 0, 0), (.invokevirtual 154, 104, 42, 118, 1, 0), (.ireturn, 107, 43, 0, 0, 0), (.aload_n 0, 108, 44, 0, 0, 0), (.iload 4, 109, 45, 0, 0, 0), (.iload 4, 111, 46, 0, 0, 0), (.aload_n 0, 113, 47, 0, 0, 0), (.getfield 99, 114, 48, 10, 12, 0)],
   [(.getfield 301, 117, 49, 1, 1, 0), (.invokestatic 322, 120, 50, 136, 3, 0), (.invokevirtual 154, 123, 51, 118, 1, 0), (.ireturn, 126, 52, 0, 0, 0), (.aload_n 0, 127, 53, 0, 0, 0), (.aload_n 0, 128, 54, 0, 0, 0), (.getfield 99, 129, 55, 10, 12, 0), (.getfield 301, 132, 56, 1, 1, 0), (.iload 4, 135, 57, 0, 0, 0), (.aload_n 0, 137, 58, 0, 0, 0), (.getfield 99, 138, 59, 10, 12, 0), (.getfield 301, 141, 60, 1, 1, 0), (.invokestatic 322, 144, 61, 136, 3, 0), (.invokevirtual 154, 147, 62, 118, 1, 0), (.ireturn, 150, 63, 0, 0, 0), (.aload_n 0, 151, 64, 0, 0, 0)],
   [(.iconst 1, 152, 65, 0, 0, 0), (.invokevirtual 125, 153, 66, 116, 1, 0), (.ireturn, 156, 67, 0, 0, 0)]],
   [(31, [(0, 32), (1, 39), (2, 43), (3, 52)], 63)], 104)
/-- HeardVotes.doubt(II)I: 105 -/
def TX10_doubt : TB := ([[(.aload_n 0, 0, 1, 0, 0, 0), (.iload_n 1, 1, 2, 0, 0, 0), (.invokevirtual 284, 2, 3, 124, 1, 0), (.ifCond .ne 9, 5, 4, 8, 0, 0), (.aload_n 0, 8, 5, 0, 0, 0), (.iconst 1, 9, 6, 0, 0, 0), (.invokevirtual 125, 10, 7, 116, 1, 0), (.ireturn, 13, 8, 0, 0, 0), (.aload_n 0, 14, 9, 0, 0, 0), (.getfield 99, 15, 10, 10, 12, 0), (.aload_n 0, 18, 11, 0, 0, 0), (.getfield 39, 19, 12, 10, 6, 0), (.iload_n 1, 22, 13, 0, 0, 0), (.invokevirtual 287, 23, 14, 6, 2, 0), (.aload_n 0, 26, 15, 0, 0, 0), (.getfield 99, 27, 16, 10, 12, 0)],
   [(.invokevirtual 326, 30, 17, 11, 0, 0), (.istore_n 3, 33, 18, 0, 0, 0), (.iload_n 2, 34, 19, 0, 0, 0), (.lookupswitch 65 #[(0, 25), (1, 42)], 35, 20, 40, 0, 0), (.aload_n 0, 60, 21, 0, 0, 0), (.iload_n 3, 61, 22, 0, 0, 0), (.iload_n 3, 62, 23, 0, 0, 0), (.aload_n 0, 63, 24, 0, 0, 0), (.getfield 99, 64, 25, 10, 12, 0), (.getfield 301, 67, 26, 1, 1, 0), (.invokestatic 322, 70, 27, 136, 3, 0), (.invokevirtual 154, 73, 28, 118, 1, 0), (.ireturn, 76, 29, 0, 0, 0), (.aload_n 0, 77, 30, 0, 0, 0), (.aload_n 0, 78, 31, 0, 0, 0), (.getfield 99, 79, 32, 10, 12, 0)],
   [(.getfield 301, 82, 33, 1, 1, 0), (.iload_n 3, 85, 34, 0, 0, 0), (.aload_n 0, 86, 35, 0, 0, 0), (.getfield 99, 87, 36, 10, 12, 0), (.getfield 301, 90, 37, 1, 1, 0), (.invokestatic 322, 93, 38, 136, 3, 0), (.invokevirtual 154, 96, 39, 118, 1, 0), (.ireturn, 99, 40, 0, 0, 0), (.aload_n 0, 100, 41, 0, 0, 0), (.iconst 1, 101, 42, 0, 0, 0), (.invokevirtual 125, 102, 43, 116, 1, 0), (.ireturn, 105, 44, 0, 0, 0)]],
   [(19, [(0, 20), (1, 29)], 40)], 105)
/-- HeardVotes.doubtful(I)I: 106 -/
def TX10_doubtful : TB := ([[(.aload_n 0, 0, 1, 0, 0, 0), (.iload_n 1, 1, 2, 0, 0, 0), (.invokevirtual 284, 2, 3, 124, 1, 0), (.ifCond .ne 9, 5, 4, 8, 0, 0), (.aload_n 0, 8, 5, 0, 0, 0), (.iconst 1, 9, 6, 0, 0, 0), (.invokevirtual 125, 10, 7, 116, 1, 0), (.ireturn, 13, 8, 0, 0, 0), (.aload_n 0, 14, 9, 0, 0, 0), (.getfield 99, 15, 10, 10, 12, 0), (.aload_n 0, 18, 11, 0, 0, 0), (.getfield 39, 19, 12, 10, 6, 0), (.invokevirtual 329, 22, 13, 15, 1, 0), (.aload_n 0, 25, 14, 0, 0, 0), (.aload_n 0, 26, 15, 0, 0, 0), (.getfield 99, 27, 16, 10, 12, 0)],
   [(.iload_n 1, 30, 17, 0, 0, 0), (.invokevirtual 332, 31, 18, 17, 1, 0), (.invokevirtual 154, 34, 19, 118, 1, 0), (.ireturn, 37, 20, 0, 0, 0)]],
   [], 106)
/-- HeardVotes.heard(II)I: 107 -/
def TX10_heard : TB := ([[(.aload_n 0, 0, 1, 0, 0, 0), (.getfield 99, 1, 2, 10, 12, 0), (.aload_n 0, 4, 3, 0, 0, 0), (.getfield 39, 5, 4, 10, 6, 0), (.invokevirtual 170, 8, 5, 12, 1, 0), (.aload_n 0, 11, 6, 0, 0, 0), (.getfield 99, 12, 7, 10, 12, 0), (.iload_n 1, 15, 8, 0, 0, 0), (.invokevirtual 335, 16, 9, 14, 1, 0), (.istore_n 3, 19, 10, 0, 0, 0), (.iload_n 3, 20, 11, 0, 0, 0), (.iconst (-1), 21, 12, 0, 0, 0), (.if_icmp .ne 9, 22, 13, 17, 0, 0), (.aload_n 0, 25, 14, 0, 0, 0), (.iconst 1, 26, 15, 0, 0, 0), (.invokevirtual 125, 27, 16, 116, 1, 0)],
   [(.ireturn, 30, 17, 0, 0, 0), (.aload_n 0, 31, 18, 0, 0, 0), (.getfield 99, 32, 19, 10, 12, 0), (.iload_n 1, 35, 20, 0, 0, 0), (.invokevirtual 338, 36, 21, 13, 1, 0), (.istore 4, 39, 22, 0, 0, 0), (.iload_n 2, 41, 23, 0, 0, 0), (.tableswitch 58 0 2 #[26, 33, 52], 42, 24, 42, 0, 0), (.aload_n 0, 68, 25, 0, 0, 0), (.iload 4, 69, 26, 0, 0, 0), (.invokevirtual 154, 71, 27, 118, 1, 0), (.ireturn, 74, 28, 0, 0, 0), (.aload_n 0, 75, 29, 0, 0, 0), (.aload_n 0, 76, 30, 0, 0, 0), (.getfield 99, 77, 31, 10, 12, 0), (.aload_n 0, 80, 32, 0, 0, 0)],
   [(.getfield 39, 81, 33, 10, 6, 0), (.iload_n 3, 84, 34, 0, 0, 0), (.iload 4, 85, 35, 0, 0, 0), (.invokevirtual 297, 87, 36, 19, 3, 0), (.invokevirtual 154, 90, 37, 118, 1, 0), (.ireturn, 93, 38, 0, 0, 0), (.aload_n 0, 94, 39, 0, 0, 0), (.iload_n 3, 95, 40, 0, 0, 0), (.invokevirtual 154, 96, 41, 118, 1, 0), (.ireturn, 99, 42, 0, 0, 0), (.aload_n 0, 100, 43, 0, 0, 0), (.iconst 1, 101, 44, 0, 0, 0), (.invokevirtual 125, 102, 45, 116, 1, 0), (.ireturn, 105, 46, 0, 0, 0)]],
   [(23, [(0, 24), (1, 28), (2, 38)], 42)], 107)
/-- HeardVotes.errors(I)I: 108 -/
def TX10_errors : TB := ([[(.aload_n 0, 0, 1, 0, 0, 0), (.iload_n 1, 1, 2, 0, 0, 0), (.invokevirtual 187, 2, 3, 122, 1, 0), (.ifCond .ne 9, 5, 4, 8, 0, 0), (.aload_n 0, 8, 5, 0, 0, 0), (.iconst 1, 9, 6, 0, 0, 0), (.invokevirtual 125, 10, 7, 116, 1, 0), (.ireturn, 13, 8, 0, 0, 0), (.aload_n 0, 14, 9, 0, 0, 0), (.getfield 99, 15, 10, 10, 12, 0), (.aload_n 0, 18, 11, 0, 0, 0), (.getfield 39, 19, 12, 10, 6, 0), (.invokevirtual 170, 22, 13, 12, 1, 0), (.aload_n 0, 25, 14, 0, 0, 0), (.aload_n 0, 26, 15, 0, 0, 0), (.getfield 56, 27, 16, 10, 9, 0)],
   [(.aload_n 0, 30, 17, 0, 0, 0), (.getfield 99, 31, 18, 10, 12, 0), (.getfield 341, 34, 19, 1, 3, 0), (.iconst 0, 37, 20, 0, 0, 0), (.aload_n 0, 38, 21, 0, 0, 0), (.getfield 99, 39, 22, 10, 12, 0), (.getfield 174, 42, 23, 1, 2, 0), (.aload_n 0, 45, 24, 0, 0, 0), (.getfield 25, 46, 25, 10, 4, 0), (.getfield 228, 49, 26, 8, 2, 0), (.iload_n 1, 52, 27, 0, 0, 0), (.bipush 12, 53, 28, 0, 0, 0), (.imul, 55, 29, 0, 0, 0), (.aload_n 0, 56, 30, 0, 0, 0), (.getfield 25, 57, 31, 10, 4, 0), (.iload_n 1, 60, 32, 0, 0, 0)],
   [(.invokevirtual 194, 61, 33, 63, 1, 0), (.invokevirtual 231, 64, 34, 55, 6, 0), (.invokevirtual 154, 67, 35, 118, 1, 0), (.ireturn, 70, 36, 0, 0, 0)]],
   [], 108)
/-- HeardVotes.cost(I)I: 109 -/
def TX10_cost : TB := ([[(.aload_n 0, 0, 1, 0, 0, 0), (.iload_n 1, 1, 2, 0, 0, 0), (.invokevirtual 187, 2, 3, 122, 1, 0), (.ifCond .ne 9, 5, 4, 8, 0, 0), (.aload_n 0, 8, 5, 0, 0, 0), (.iconst 1, 9, 6, 0, 0, 0), (.invokevirtual 125, 10, 7, 116, 1, 0), (.ireturn, 13, 8, 0, 0, 0), (.aload_n 0, 14, 9, 0, 0, 0), (.getfield 39, 15, 10, 10, 6, 0), (.iload_n 1, 18, 11, 0, 0, 0), (.invokevirtual 200, 19, 12, 27, 1, 0), (.ifCond .eq 9, 22, 13, 17, 0, 0), (.aload_n 0, 25, 14, 0, 0, 0), (.iconst 5, 26, 15, 0, 0, 0), (.invokevirtual 125, 27, 16, 116, 1, 0)],
   [(.ireturn, 30, 17, 0, 0, 0), (.aload_n 0, 31, 18, 0, 0, 0), (.aload_n 0, 32, 19, 0, 0, 0), (.getfield 108, 33, 20, 10, 13, 0), (.aload_n 0, 36, 21, 0, 0, 0), (.getfield 39, 37, 22, 10, 6, 0), (.iload_n 1, 40, 23, 0, 0, 0), (.invokevirtual 344, 41, 24, 76, 2, 0), (.invokevirtual 154, 44, 25, 118, 1, 0), (.ireturn, 47, 26, 0, 0, 0)]],
   [], 109)
/-- HeardVotes.way(II)I: 110 -/
def TX10_way : TB := ([[(.aload_n 0, 0, 1, 0, 0, 0), (.iload_n 1, 1, 2, 0, 0, 0), (.invokevirtual 187, 2, 3, 122, 1, 0), (.ifCond .eq 7, 5, 4, 6, 0, 0), (.iload_n 2, 8, 5, 0, 0, 0), (.ifCond .ge 9, 9, 6, 10, 0, 0), (.aload_n 0, 12, 7, 0, 0, 0), (.iconst 1, 13, 8, 0, 0, 0), (.invokevirtual 125, 14, 9, 116, 1, 0), (.ireturn, 17, 10, 0, 0, 0), (.aload_n 0, 18, 11, 0, 0, 0), (.getfield 39, 19, 12, 10, 6, 0), (.iload_n 1, 22, 13, 0, 0, 0), (.invokevirtual 200, 23, 14, 27, 1, 0), (.ifCond .eq 9, 26, 15, 19, 0, 0), (.aload_n 0, 29, 16, 0, 0, 0)],
   [(.iconst 5, 30, 17, 0, 0, 0), (.invokevirtual 125, 31, 18, 116, 1, 0), (.ireturn, 34, 19, 0, 0, 0), (.aload_n 0, 35, 20, 0, 0, 0), (.getfield 108, 36, 21, 10, 13, 0), (.aload_n 0, 39, 22, 0, 0, 0), (.getfield 39, 40, 23, 10, 6, 0), (.iload_n 1, 43, 24, 0, 0, 0), (.invokevirtual 344, 44, 25, 76, 2, 0), (.pop, 47, 26, 0, 0, 0), (.aload_n 0, 48, 27, 0, 0, 0), (.aload_n 0, 49, 28, 0, 0, 0), (.getfield 108, 50, 29, 10, 13, 0), (.iload_n 2, 53, 30, 0, 0, 0), (.invokevirtual 347, 54, 31, 80, 1, 0), (.invokevirtual 154, 57, 32, 118, 1, 0)],
   [(.ireturn, 60, 33, 0, 0, 0)]],
   [], 110)
/-- HeardVotes.without(I)I: 111 -/
def TX10_without : TB := ([[(.aload_n 0, 0, 1, 0, 0, 0), (.iload_n 1, 1, 2, 0, 0, 0), (.invokevirtual 187, 2, 3, 122, 1, 0), (.ifCond .ne 9, 5, 4, 8, 0, 0), (.aload_n 0, 8, 5, 0, 0, 0), (.iconst 1, 9, 6, 0, 0, 0), (.invokevirtual 125, 10, 7, 116, 1, 0), (.ireturn, 13, 8, 0, 0, 0), (.aload_n 0, 14, 9, 0, 0, 0), (.getfield 39, 15, 10, 10, 6, 0), (.iload_n 1, 18, 11, 0, 0, 0), (.invokevirtual 200, 19, 12, 27, 1, 0), (.ifCond .ne 9, 22, 13, 17, 0, 0), (.aload_n 0, 25, 14, 0, 0, 0), (.iconst 5, 26, 15, 0, 0, 0), (.invokevirtual 125, 27, 16, 116, 1, 0)],
   [(.ireturn, 30, 17, 0, 0, 0), (.aload_n 0, 31, 18, 0, 0, 0), (.getfield 99, 32, 19, 10, 12, 0), (.aload_n 0, 35, 20, 0, 0, 0), (.getfield 39, 36, 21, 10, 6, 0), (.invokevirtual 170, 39, 22, 12, 1, 0), (.aload_n 0, 42, 23, 0, 0, 0), (.getfield 99, 43, 24, 10, 12, 0), (.getfield 174, 46, 25, 1, 2, 0), (.istore_n 2, 49, 26, 0, 0, 0), (.aload_n 0, 50, 27, 0, 0, 0), (.getfield 99, 51, 28, 10, 12, 0), (.getfield 341, 54, 29, 1, 3, 0), (.iconst 0, 57, 30, 0, 0, 0), (.aload_n 0, 58, 31, 0, 0, 0), (.getfield 19, 59, 32, 10, 3, 0)],
   [(.iconst 0, 62, 33, 0, 0, 0), (.bipush 60, 63, 34, 0, 0, 0), (.invokestatic 350, 65, 35, 900, 5, 0), (.aload_n 0, 68, 36, 0, 0, 0), (.getfield 108, 69, 37, 10, 13, 0), (.aload_n 0, 72, 38, 0, 0, 0), (.getfield 39, 73, 39, 10, 6, 0), (.iload_n 1, 76, 40, 0, 0, 0), (.aload_n 0, 77, 41, 0, 0, 0), (.getfield 43, 78, 42, 10, 7, 0), (.invokevirtual 271, 81, 43, 82, 3, 0), (.aload_n 0, 84, 44, 0, 0, 0), (.getfield 99, 85, 45, 10, 12, 0), (.aload_n 0, 88, 46, 0, 0, 0), (.getfield 43, 89, 47, 10, 7, 0), (.invokevirtual 170, 92, 48, 12, 1, 0)],
   [(.aload_n 0, 95, 49, 0, 0, 0), (.aload_n 0, 96, 50, 0, 0, 0), (.getfield 56, 97, 51, 10, 9, 0), (.aload_n 0, 100, 52, 0, 0, 0), (.getfield 19, 101, 53, 10, 3, 0), (.iconst 0, 104, 54, 0, 0, 0), (.iload_n 2, 105, 55, 0, 0, 0), (.aload_n 0, 106, 56, 0, 0, 0), (.getfield 99, 107, 57, 10, 12, 0), (.getfield 341, 110, 58, 1, 3, 0), (.iconst 0, 113, 59, 0, 0, 0), (.aload_n 0, 114, 60, 0, 0, 0), (.getfield 99, 115, 61, 10, 12, 0), (.getfield 174, 118, 62, 1, 2, 0), (.invokevirtual 231, 121, 63, 55, 6, 0), (.invokevirtual 154, 124, 64, 118, 1, 0)],
   [(.ireturn, 127, 65, 0, 0, 0)]],
   [], 111)
/-- HeardVotes.best(I)I: 112 -/
def TX10_best : TB := ([[(.aload_n 0, 0, 1, 0, 0, 0), (.invokevirtual 157, 1, 2, 121, 0, 0), (.ifCond .eq 19, 4, 3, 11, 0, 0), (.iload_n 1, 7, 4, 0, 0, 0), (.iconst (-1), 8, 5, 0, 0, 0), (.if_icmp .lt 14, 9, 6, 11, 0, 0), (.iload_n 1, 12, 7, 0, 0, 0), (.aload_n 0, 13, 8, 0, 0, 0), (.getfield 25, 14, 9, 10, 4, 0), (.getfield 151, 17, 10, 8, 0, 0), (.if_icmp .lt 9, 20, 11, 15, 0, 0), (.aload_n 0, 23, 12, 0, 0, 0), (.iconst 1, 24, 13, 0, 0, 0), (.invokevirtual 125, 25, 14, 116, 1, 0), (.ireturn, 28, 15, 0, 0, 0), (.aload_n 0, 29, 16, 0, 0, 0)],
   [(.getfield 117, 30, 17, 10, 14, 0), (.invokevirtual 356, 33, 18, 38, 0, 0), (.aload_n 0, 36, 19, 0, 0, 0), (.iload_n 1, 37, 20, 0, 0, 0), (.iconst (-1), 38, 21, 0, 0, 0), (.if_icmp .ne 13, 39, 22, 26, 0, 0), (.aload_n 0, 42, 23, 0, 0, 0), (.getfield 117, 43, 24, 10, 14, 0), (.getfield 359, 46, 25, 4, 0, 0), (.goto 11, 49, 26, 30, 0, 0), (.aload_n 0, 52, 27, 0, 0, 0), (.getfield 117, 53, 28, 10, 14, 0), (.iload_n 1, 56, 29, 0, 0, 0), (.invokevirtual 362, 57, 30, 39, 1, 0), (.invokevirtual 154, 60, 31, 118, 1, 0), (.ireturn, 63, 32, 0, 0, 0)]],
   [], 112)
/-- HeardVotes.write()I: 113 -/
def TX10_write : TB := ([[(.aload_n 0, 0, 1, 0, 0, 0), (.invokevirtual 157, 1, 2, 121, 0, 0), (.ifCond .ne 9, 4, 3, 7, 0, 0), (.aload_n 0, 7, 4, 0, 0, 0), (.iconst 1, 8, 5, 0, 0, 0), (.invokevirtual 125, 9, 6, 116, 1, 0), (.ireturn, 12, 7, 0, 0, 0), (.aload_n 0, 13, 8, 0, 0, 0), (.getfield 99, 14, 9, 10, 12, 0), (.aload_n 0, 17, 10, 0, 0, 0), (.getfield 39, 18, 11, 10, 6, 0), (.invokevirtual 170, 21, 12, 12, 1, 0), (.aload_n 0, 24, 13, 0, 0, 0), (.getfield 99, 25, 14, 10, 12, 0), (.aload_n 0, 28, 15, 0, 0, 0), (.getfield 39, 29, 16, 10, 6, 0)],
   [(.invokevirtual 329, 32, 17, 15, 1, 0), (.aload_n 0, 35, 18, 0, 0, 0), (.iconst 0, 36, 19, 0, 0, 0), (.putfield 64, 37, 20, 10, 16, 0), (.iconst 0, 40, 21, 0, 0, 0), (.istore_n 1, 41, 22, 0, 0, 0), (.iload_n 1, 42, 23, 0, 0, 0), (.aload_n 0, 43, 24, 0, 0, 0), (.getfield 99, 44, 25, 10, 12, 0), (.getfield 174, 47, 26, 1, 2, 0), (.if_icmp .ge 55, 50, 27, 51, 0, 0), (.iload_n 1, 53, 28, 0, 0, 0), (.ifCond .le 9, 54, 29, 32, 0, 0), (.aload_n 0, 57, 30, 0, 0, 0), (.bipush 32, 58, 31, 0, 0, 0), (.invokevirtual 365, 60, 32, 135, 1, 0)],
   [(.aload_n 0, 63, 33, 0, 0, 0), (.aload_n 0, 64, 34, 0, 0, 0), (.getfield 99, 65, 35, 10, 12, 0), (.iload_n 1, 68, 36, 0, 0, 0), (.invokevirtual 338, 69, 37, 13, 1, 0), (.invokevirtual 368, 72, 38, 134, 1, 0), (.aload_n 0, 75, 39, 0, 0, 0), (.getfield 99, 76, 40, 10, 12, 0), (.aload_n 0, 79, 41, 0, 0, 0), (.getfield 99, 80, 42, 10, 12, 0), (.iload_n 1, 83, 43, 0, 0, 0), (.invokevirtual 335, 84, 44, 14, 1, 0), (.invokevirtual 371, 87, 45, 18, 1, 0), (.ifCond .eq 9, 90, 46, 49, 0, 0), (.aload_n 0, 93, 47, 0, 0, 0), (.bipush 63, 94, 48, 0, 0, 0)],
   [(.invokevirtual 365, 96, 49, 135, 1, 0), (.iinc 1 1, 99, 50, 0, 0, 0), (.goto (-60), 102, 51, 22, 0, 0), (.aload_n 0, 105, 52, 0, 0, 0), (.aload_n 0, 106, 53, 0, 0, 0), (.getfield 64, 107, 54, 10, 16, 0), (.invokevirtual 154, 110, 55, 118, 1, 0), (.ireturn, 113, 56, 0, 0, 0)]],
   [], 113)
/-- HeardVotes.size()I: 114 -/
def TX10_size : TB := ([[(.aload_n 0, 0, 1, 0, 0, 0), (.getfield 60, 1, 2, 10, 15, 0), (.ireturn, 4, 3, 0, 0, 0)]],
   [], 114)
/-- HeardVotes.trouble()I: 115 -/
def TX10_trouble : TB := ([[(.aload_n 0, 0, 1, 0, 0, 0), (.getfield 67, 1, 2, 10, 17, 0), (.ireturn, 4, 3, 0, 0, 0)]],
   [], 115)
/-- HeardVotes.refused(I)I: 116 -/
def TX10_refused : TB := ([[(.aload_n 0, 0, 1, 0, 0, 0), (.iload_n 1, 1, 2, 0, 0, 0), (.putfield 67, 2, 3, 10, 17, 0), (.aload_n 0, 5, 4, 0, 0, 0), (.iconst (-1), 6, 5, 0, 0, 0), (.putfield 73, 7, 6, 10, 19, 0), (.iconst (-1), 10, 7, 0, 0, 0), (.ireturn, 11, 8, 0, 0, 0)]],
   [], 116)
/-- HeardVotes.refusedAct(I)Z: 117 -/
def TX10_refusedAct : TB := ([[(.aload_n 0, 0, 1, 0, 0, 0), (.iload_n 1, 1, 2, 0, 0, 0), (.invokevirtual 125, 2, 3, 116, 1, 0), (.pop, 5, 4, 0, 0, 0), (.iconst 0, 6, 5, 0, 0, 0), (.ireturn, 7, 6, 1, 0, 0)]],
   [], 117)
/-- HeardVotes.answered(I)I: 118 -/
def TX10_answered : TB := ([[(.aload_n 0, 0, 1, 0, 0, 0), (.iconst 0, 1, 2, 0, 0, 0), (.putfield 67, 2, 3, 10, 17, 0), (.aload_n 0, 5, 4, 0, 0, 0), (.iconst (-1), 6, 5, 0, 0, 0), (.putfield 73, 7, 6, 10, 19, 0), (.iload_n 1, 10, 7, 0, 0, 0), (.ireturn, 11, 8, 0, 0, 0)]],
   [], 118)
/-- HeardVotes.beginAct()V: 119 -/
def TX10_beginAct : TB := ([[(.aload_n 0, 0, 1, 0, 0, 0), (.iconst 0, 1, 2, 0, 0, 0), (.invokevirtual 154, 2, 3, 118, 1, 0), (.pop, 5, 4, 0, 0, 0), (.aload_n 0, 6, 5, 0, 0, 0), (.getfield 49, 7, 6, 10, 8, 0), (.aload_n 0, 10, 7, 0, 0, 0), (.getfield 32, 11, 8, 10, 5, 0), (.aload_n 0, 14, 9, 0, 0, 0), (.getfield 39, 15, 10, 10, 6, 0), (.invokevirtual 381, 18, 11, 4, 2, 0), (.aload_n 0, 21, 12, 0, 0, 0), (.getfield 117, 22, 13, 10, 14, 0), (.invokevirtual 150, 25, 14, 37, 0, 0), (.return_, 28, 15, 0, 0, 0)]],
   [], 119)
/-- HeardVotes.putNumber(I)V: 120 -/
def TX10_putNumber : TB := ([[(.bipush 24, 0, 1, 0, 0, 0), (.istore_n 2, 2, 2, 0, 0, 0), (.iload_n 2, 3, 3, 0, 0, 0), (.ifCond .lt 54, 4, 4, 31, 0, 0), (.aload_n 0, 7, 5, 0, 0, 0), (.getfield 60, 8, 6, 10, 15, 0), (.ifCond .lt 41, 11, 7, 29, 0, 0), (.aload_n 0, 14, 8, 0, 0, 0), (.getfield 60, 15, 9, 10, 15, 0), (.aload_n 0, 18, 10, 0, 0, 0), (.getfield 9, 19, 11, 10, 0, 0), (.arraylength, 22, 12, 0, 0, 0), (.if_icmp .ge 29, 23, 13, 29, 0, 0), (.aload_n 0, 26, 14, 0, 0, 0), (.getfield 9, 27, 15, 10, 0, 0), (.aload_n 0, 30, 16, 0, 0, 0)],
   [(.getfield 60, 31, 17, 10, 15, 0), (.iload_n 1, 34, 18, 0, 0, 0), (.iload_n 2, 35, 19, 0, 0, 0), (.iushr, 36, 20, 0, 0, 0), (.sipush 255, 37, 21, 0, 0, 0), (.iand, 40, 22, 0, 0, 0), (.iastore, 41, 23, 0, 0, 0), (.aload_n 0, 42, 24, 0, 0, 0), (.dup, 43, 25, 0, 0, 0), (.getfield 60, 44, 26, 10, 15, 0), (.iconst 1, 47, 27, 0, 0, 0), (.iadd, 48, 28, 0, 0, 0), (.putfield 60, 49, 29, 10, 15, 0), (.iinc 2 (-8), 52, 30, 0, 0, 0), (.goto (-52), 55, 31, 2, 0, 0), (.return_, 58, 32, 0, 0, 0)]],
   [], 120)
/-- HeardVotes.isTold()Z: 121 -/
def TX10_isTold : TB := ([[(.aload_n 0, 0, 1, 0, 0, 0), (.getfield 25, 1, 2, 10, 4, 0), (.getfield 151, 4, 3, 8, 0, 0), (.ifCond .le 7, 7, 4, 6, 0, 0), (.iconst 1, 10, 5, 0, 0, 0), (.goto 4, 11, 6, 7, 0, 0), (.iconst 0, 14, 7, 0, 0, 0), (.ireturn, 15, 8, 1, 0, 0)]],
   [], 121)
/-- HeardVotes.isHearing(I)Z: 122 -/
def TX10_isHearing : TB := ([[(.iload_n 1, 0, 1, 0, 0, 0), (.ifCond .lt 18, 1, 2, 9, 0, 0), (.iload_n 1, 4, 3, 0, 0, 0), (.aload_n 0, 5, 4, 0, 0, 0), (.getfield 25, 6, 5, 10, 4, 0), (.getfield 151, 9, 6, 8, 0, 0), (.if_icmp .ge 7, 12, 7, 9, 0, 0), (.iconst 1, 15, 8, 0, 0, 0), (.goto 4, 16, 9, 10, 0, 0), (.iconst 0, 19, 10, 0, 0, 0), (.ireturn, 20, 11, 1, 0, 0)]],
   [], 122)
/-- HeardVotes.isWord(I)Z: 123 -/
def TX10_isWord : TB := ([[(.iload_n 1, 0, 1, 0, 0, 0), (.ifCond .lt 18, 1, 2, 9, 0, 0), (.iload_n 1, 4, 3, 0, 0, 0), (.aload_n 0, 5, 4, 0, 0, 0), (.getfield 25, 6, 5, 10, 4, 0), (.getfield 161, 9, 6, 8, 1, 0), (.if_icmp .ge 7, 12, 7, 9, 0, 0), (.iconst 1, 15, 8, 0, 0, 0), (.goto 4, 16, 9, 10, 0, 0), (.iconst 0, 19, 10, 0, 0, 0), (.ireturn, 20, 11, 1, 0, 0)]],
   [], 123)
/-- HeardVotes.isSlot(I)Z: 124 -/
def TX10_isSlot : TB := ([[(.iload_n 1, 0, 1, 0, 0, 0), (.ifCond .lt 18, 1, 2, 9, 0, 0), (.iload_n 1, 4, 3, 0, 0, 0), (.aload_n 0, 5, 4, 0, 0, 0), (.getfield 39, 6, 5, 10, 6, 0), (.getfield 167, 9, 6, 3, 0, 0), (.if_icmp .ge 7, 12, 7, 9, 0, 0), (.iconst 1, 15, 8, 0, 0, 0), (.goto 4, 16, 9, 10, 0, 0), (.iconst 0, 19, 10, 0, 0, 0), (.ireturn, 20, 11, 1, 0, 0)]],
   [], 124)
/-- HeardVotes.isWithin(III)Z: 125 -/
def TX10_isWithin : TB := ([[(.iload_n 0, 0, 1, 0, 0, 0), (.iload_n 1, 1, 2, 0, 0, 0), (.if_icmp .lt 12, 2, 3, 8, 0, 0), (.iload_n 0, 5, 4, 0, 0, 0), (.iload_n 2, 6, 5, 0, 0, 0), (.if_icmp .gt 7, 7, 6, 8, 0, 0), (.iconst 1, 10, 7, 0, 0, 0), (.goto 4, 11, 8, 9, 0, 0), (.iconst 0, 14, 9, 0, 0, 0), (.ireturn, 15, 10, 1, 0, 0)]],
   [], 125)
/-- HeardVotes.costsOfJoined()I: 126 -/
def TX10_costsOfJoined : TB := ([[(.iconst 0, 0, 1, 0, 0, 0), (.istore_n 1, 1, 2, 0, 0, 0), (.iconst 0, 2, 3, 0, 0, 0), (.istore_n 2, 3, 4, 0, 0, 0), (.iload_n 2, 4, 5, 0, 0, 0), (.iconst 5, 5, 6, 0, 0, 0), (.if_icmp .ge 35, 6, 7, 23, 0, 0), (.iload_n 1, 9, 8, 0, 0, 0), (.aload_n 0, 10, 9, 0, 0, 0), (.getfield 39, 11, 10, 10, 6, 0), (.iload_n 2, 14, 11, 0, 0, 0), (.invokevirtual 200, 15, 12, 27, 1, 0), (.ifCond .eq 14, 18, 13, 18, 0, 0), (.aload_n 0, 21, 14, 0, 0, 0), (.getfield 39, 22, 15, 10, 6, 0), (.iload_n 2, 25, 16, 0, 0, 0)],
   [(.invokevirtual 203, 26, 17, 28, 1, 0), (.goto 4, 29, 18, 19, 0, 0), (.iconst 0, 32, 19, 0, 0, 0), (.iadd, 33, 20, 0, 0, 0), (.istore_n 1, 34, 21, 0, 0, 0), (.iinc 2 1, 35, 22, 0, 0, 0), (.goto (-34), 38, 23, 4, 0, 0), (.iload_n 1, 41, 24, 0, 0, 0), (.ireturn, 42, 25, 0, 0, 0)]],
   [], 126)
/-- HeardVotes.weightsOfJoined()I: 127 -/
def TX10_weightsOfJoined : TB := ([[(.iconst 0, 0, 1, 0, 0, 0), (.istore_n 1, 1, 2, 0, 0, 0), (.iconst 0, 2, 3, 0, 0, 0), (.istore_n 2, 3, 4, 0, 0, 0), (.iload_n 2, 4, 5, 0, 0, 0), (.iconst 5, 5, 6, 0, 0, 0), (.if_icmp .ge 35, 6, 7, 23, 0, 0), (.iload_n 1, 9, 8, 0, 0, 0), (.aload_n 0, 10, 9, 0, 0, 0), (.getfield 39, 11, 10, 10, 6, 0), (.iload_n 2, 14, 11, 0, 0, 0), (.invokevirtual 200, 15, 12, 27, 1, 0), (.ifCond .eq 14, 18, 13, 18, 0, 0), (.aload_n 0, 21, 14, 0, 0, 0), (.getfield 32, 22, 15, 10, 5, 0), (.iload_n 2, 25, 16, 0, 0, 0)],
   [(.invokevirtual 191, 26, 17, 59, 1, 0), (.goto 4, 29, 18, 19, 0, 0), (.iconst 0, 32, 19, 0, 0, 0), (.iadd, 33, 20, 0, 0, 0), (.istore_n 1, 34, 21, 0, 0, 0), (.iinc 2 1, 35, 22, 0, 0, 0), (.goto (-34), 38, 23, 4, 0, 0), (.iload_n 1, 41, 24, 0, 0, 0), (.ireturn, 42, 25, 0, 0, 0)]],
   [], 127)
/-- HeardVotes.winnersOf(I)I: 128 -/
def TX10_winnersOf : TB := ([[(.iconst 0, 0, 1, 0, 0, 0), (.istore_n 2, 1, 2, 0, 0, 0), (.iconst 0, 2, 3, 0, 0, 0), (.istore_n 3, 3, 4, 0, 0, 0), (.iload_n 3, 4, 5, 0, 0, 0), (.aload_n 0, 5, 6, 0, 0, 0), (.getfield 39, 6, 7, 10, 6, 0), (.getfield 167, 9, 8, 3, 0, 0), (.if_icmp .ge 66, 12, 9, 41, 0, 0), (.aload_n 0, 15, 10, 0, 0, 0), (.getfield 39, 16, 11, 10, 6, 0), (.iload_n 3, 19, 12, 0, 0, 0), (.iload_n 1, 20, 13, 0, 0, 0), (.invokevirtual 316, 21, 14, 30, 2, 0), (.istore 4, 24, 15, 0, 0, 0), (.iload 4, 26, 16, 0, 0, 0)],
   [(.ifCond .lt 44, 28, 17, 39, 0, 0), (.aload_n 0, 31, 18, 0, 0, 0), (.getfield 99, 32, 19, 10, 12, 0), (.aload_n 0, 35, 20, 0, 0, 0), (.getfield 39, 36, 21, 10, 6, 0), (.iload_n 3, 39, 22, 0, 0, 0), (.invokevirtual 287, 40, 23, 6, 2, 0), (.iload_n 2, 43, 24, 0, 0, 0), (.aload_n 0, 44, 25, 0, 0, 0), (.getfield 25, 45, 26, 10, 4, 0), (.iload_n 1, 48, 27, 0, 0, 0), (.iload 4, 49, 28, 0, 0, 0), (.invokevirtual 209, 51, 29, 65, 2, 0), (.aload_n 0, 54, 30, 0, 0, 0), (.getfield 99, 55, 31, 10, 12, 0), (.iconst 0, 58, 32, 0, 0, 0)],
   [(.invokevirtual 304, 59, 33, 9, 1, 0), (.if_icmp .ne 7, 62, 34, 36, 0, 0), (.iconst 1, 65, 35, 0, 0, 0), (.goto 4, 66, 36, 37, 0, 0), (.iconst 0, 69, 37, 0, 0, 0), (.iadd, 70, 38, 0, 0, 0), (.istore_n 2, 71, 39, 0, 0, 0), (.iinc 3 1, 72, 40, 0, 0, 0), (.goto (-71), 75, 41, 4, 0, 0), (.iload_n 2, 78, 42, 0, 0, 0), (.ireturn, 79, 43, 0, 0, 0)]],
   [], 128)
/-- HeardVotes.weightByRight(I)I: 129 -/
def TX10_weightByRight : TB := ([[(.aload_n 0, 0, 1, 0, 0, 0), (.getfield 25, 1, 2, 10, 4, 0), (.iload_n 1, 4, 3, 0, 0, 0), (.invokevirtual 194, 5, 4, 63, 1, 0), (.istore_n 2, 8, 5, 0, 0, 0), (.iload_n 2, 9, 6, 0, 0, 0), (.ifCond .le 18, 10, 7, 17, 0, 0), (.bipush 98, 13, 8, 0, 0, 0), (.aload_n 0, 15, 9, 0, 0, 0), (.iload_n 1, 16, 10, 0, 0, 0), (.invokevirtual 206, 17, 11, 128, 1, 0), (.imul, 20, 12, 0, 0, 0), (.iload_n 2, 21, 13, 0, 0, 0), (.idiv, 22, 14, 0, 0, 0), (.iconst 1, 23, 15, 0, 0, 0), (.iadd, 24, 16, 0, 0, 0)],
   [(.goto 4, 25, 17, 18, 0, 0), (.iconst 1, 28, 18, 0, 0, 0), (.ireturn, 29, 19, 0, 0, 0)]],
   [], 129)
/-- HeardVotes.nextToJoin(I)I: 130 -/
def TX10_nextToJoin : TB := ([[(.iconst (-1), 0, 1, 0, 0, 0), (.istore_n 2, 1, 2, 0, 0, 0), (.iconst 0, 2, 3, 0, 0, 0), (.istore_n 3, 3, 4, 0, 0, 0), (.iconst 0, 4, 5, 0, 0, 0), (.istore 4, 5, 6, 0, 0, 0), (.iload 4, 7, 7, 0, 0, 0), (.aload_n 0, 9, 8, 0, 0, 0), (.getfield 25, 10, 9, 10, 4, 0), (.getfield 151, 13, 10, 8, 0, 0), (.if_icmp .ge 80, 16, 11, 48, 0, 0), (.aload_n 0, 19, 12, 0, 0, 0), (.getfield 39, 20, 13, 10, 6, 0), (.iload 4, 23, 14, 0, 0, 0), (.invokevirtual 200, 25, 15, 27, 1, 0), (.ifCond .ne 62, 28, 16, 46, 0, 0)],
   [(.iload_n 1, 31, 17, 0, 0, 0), (.ifCond .ne 8, 32, 18, 20, 0, 0), (.iload 4, 35, 19, 0, 0, 0), (.goto 34, 37, 20, 35, 0, 0), (.iload_n 1, 40, 21, 0, 0, 0), (.iconst 1, 41, 22, 0, 0, 0), (.if_icmp .ne 16, 42, 23, 29, 0, 0), (.aload_n 0, 45, 24, 0, 0, 0), (.getfield 32, 46, 25, 10, 5, 0), (.iload 4, 49, 26, 0, 0, 0), (.invokevirtual 191, 51, 27, 59, 1, 0), (.ineg, 54, 28, 0, 0, 0), (.goto 16, 55, 29, 35, 0, 0), (.aload_n 0, 58, 30, 0, 0, 0), (.getfield 108, 59, 31, 10, 13, 0), (.aload_n 0, 62, 32, 0, 0, 0)],
   [(.getfield 39, 63, 33, 10, 6, 0), (.iload 4, 66, 34, 0, 0, 0), (.invokevirtual 344, 68, 35, 76, 2, 0), (.istore 5, 71, 36, 0, 0, 0), (.iload_n 2, 73, 37, 0, 0, 0), (.iconst (-1), 74, 38, 0, 0, 0), (.if_icmp .eq 9, 75, 39, 42, 0, 0), (.iload 5, 78, 40, 0, 0, 0), (.iload_n 3, 80, 41, 0, 0, 0), (.if_icmp .ge 9, 81, 42, 46, 0, 0), (.iload 4, 84, 43, 0, 0, 0), (.istore_n 2, 86, 44, 0, 0, 0), (.iload 5, 87, 45, 0, 0, 0), (.istore_n 3, 89, 46, 0, 0, 0), (.iinc 4 1, 90, 47, 0, 0, 0), (.goto (-86), 93, 48, 6, 0, 0)],
   [(.iload_n 2, 96, 49, 0, 0, 0), (.ireturn, 97, 50, 0, 0, 0)]],
   [], 130)
/-- HeardVotes.placeInHeard(I)I: 131 -/
def TX10_placeInHeard : TB := ([[(.aload_n 0, 0, 1, 0, 0, 0), (.getfield 99, 1, 2, 10, 12, 0), (.aload_n 0, 4, 3, 0, 0, 0), (.getfield 39, 5, 4, 10, 6, 0), (.invokevirtual 170, 8, 5, 12, 1, 0), (.iconst 0, 11, 6, 0, 0, 0), (.istore_n 2, 12, 7, 0, 0, 0), (.iload_n 2, 13, 8, 0, 0, 0), (.aload_n 0, 14, 9, 0, 0, 0), (.getfield 99, 15, 10, 10, 12, 0), (.getfield 174, 18, 11, 1, 2, 0), (.if_icmp .ge 23, 21, 12, 22, 0, 0), (.aload_n 0, 24, 13, 0, 0, 0), (.getfield 99, 25, 14, 10, 12, 0), (.iload_n 2, 28, 15, 0, 0, 0), (.invokevirtual 335, 29, 16, 14, 1, 0)],
   [(.iload_n 1, 32, 17, 0, 0, 0), (.if_icmp .ne 5, 33, 18, 20, 0, 0), (.iload_n 2, 36, 19, 0, 0, 0), (.ireturn, 37, 20, 0, 0, 0), (.iinc 2 1, 38, 21, 0, 0, 0), (.goto (-28), 41, 22, 7, 0, 0), (.bipush (-2), 44, 23, 0, 0, 0), (.ireturn, 46, 24, 0, 0, 0)]],
   [], 131)
/-- HeardVotes.leastTime(I)I: 132 -/
def TX10_leastTime : TB := ([[(.sipush 999, 0, 1, 0, 0, 0), (.istore_n 2, 3, 2, 0, 0, 0), (.iconst 0, 4, 3, 0, 0, 0), (.istore_n 3, 5, 4, 0, 0, 0), (.iload_n 3, 6, 5, 0, 0, 0), (.iconst 5, 7, 6, 0, 0, 0), (.if_icmp .ge 50, 8, 7, 30, 0, 0), (.aload_n 0, 11, 8, 0, 0, 0), (.getfield 39, 12, 9, 10, 6, 0), (.iload_n 1, 15, 10, 0, 0, 0), (.iload_n 3, 16, 11, 0, 0, 0), (.invokevirtual 316, 17, 12, 30, 2, 0), (.istore 4, 20, 13, 0, 0, 0), (.iload 4, 22, 14, 0, 0, 0), (.ifCond .lt 28, 24, 15, 28, 0, 0), (.aload_n 0, 27, 16, 0, 0, 0)],
   [(.getfield 25, 28, 17, 10, 4, 0), (.iload_n 3, 31, 18, 0, 0, 0), (.iload 4, 32, 19, 0, 0, 0), (.invokevirtual 213, 34, 20, 66, 2, 0), (.iload_n 2, 37, 21, 0, 0, 0), (.if_icmp .ge 14, 38, 22, 28, 0, 0), (.aload_n 0, 41, 23, 0, 0, 0), (.getfield 25, 42, 24, 10, 4, 0), (.iload_n 3, 45, 25, 0, 0, 0), (.iload 4, 46, 26, 0, 0, 0), (.invokevirtual 213, 48, 27, 66, 2, 0), (.istore_n 2, 51, 28, 0, 0, 0), (.iinc 3 1, 52, 29, 0, 0, 0), (.goto (-49), 55, 30, 4, 0, 0), (.iload_n 2, 58, 31, 0, 0, 0), (.ireturn, 59, 32, 0, 0, 0)]],
   [], 132)
/-- HeardVotes.greatestTime(I)I: 133 -/
def TX10_greatestTime : TB := ([[(.iconst 0, 0, 1, 0, 0, 0), (.istore_n 2, 1, 2, 0, 0, 0), (.iconst 0, 2, 3, 0, 0, 0), (.istore_n 3, 3, 4, 0, 0, 0), (.iload_n 3, 4, 5, 0, 0, 0), (.iconst 5, 5, 6, 0, 0, 0), (.if_icmp .ge 50, 6, 7, 30, 0, 0), (.aload_n 0, 9, 8, 0, 0, 0), (.getfield 39, 10, 9, 10, 6, 0), (.iload_n 1, 13, 10, 0, 0, 0), (.iload_n 3, 14, 11, 0, 0, 0), (.invokevirtual 316, 15, 12, 30, 2, 0), (.istore 4, 18, 13, 0, 0, 0), (.iload 4, 20, 14, 0, 0, 0), (.ifCond .lt 28, 22, 15, 28, 0, 0), (.aload_n 0, 25, 16, 0, 0, 0)],
   [(.getfield 25, 26, 17, 10, 4, 0), (.iload_n 3, 29, 18, 0, 0, 0), (.iload 4, 30, 19, 0, 0, 0), (.invokevirtual 213, 32, 20, 66, 2, 0), (.iload_n 2, 35, 21, 0, 0, 0), (.if_icmp .le 14, 36, 22, 28, 0, 0), (.aload_n 0, 39, 23, 0, 0, 0), (.getfield 25, 40, 24, 10, 4, 0), (.iload_n 3, 43, 25, 0, 0, 0), (.iload 4, 44, 26, 0, 0, 0), (.invokevirtual 213, 46, 27, 66, 2, 0), (.istore_n 2, 49, 28, 0, 0, 0), (.iinc 3 1, 50, 29, 0, 0, 0), (.goto (-49), 53, 30, 4, 0, 0), (.iload_n 2, 56, 31, 0, 0, 0), (.ireturn, 57, 32, 0, 0, 0)]],
   [], 133)
/-- HeardVotes.writeWord(I)V: 134 -/
def TX10_writeWord : TB := ([[(.iconst 0, 0, 1, 0, 0, 0), (.istore_n 2, 1, 2, 0, 0, 0), (.iload_n 2, 2, 3, 0, 0, 0), (.bipush 6, 3, 4, 0, 0, 0), (.if_icmp .ge 31, 5, 5, 20, 0, 0), (.aload_n 0, 8, 6, 0, 0, 0), (.getfield 25, 9, 7, 10, 4, 0), (.iload_n 1, 12, 8, 0, 0, 0), (.iload_n 2, 13, 9, 0, 0, 0), (.invokevirtual 222, 14, 10, 67, 2, 0), (.istore_n 3, 17, 11, 0, 0, 0), (.iload_n 3, 18, 12, 0, 0, 0), (.ifCond .lt 11, 19, 13, 18, 0, 0), (.aload_n 0, 22, 14, 0, 0, 0), (.bipush 97, 23, 15, 0, 0, 0), (.iload_n 3, 25, 16, 0, 0, 0)],
   [(.iadd, 26, 17, 0, 0, 0), (.invokevirtual 365, 27, 18, 135, 1, 0), (.iinc 2 1, 30, 19, 0, 0, 0), (.goto (-31), 33, 20, 2, 0, 0), (.return_, 36, 21, 0, 0, 0)]],
   [], 134)
/-- HeardVotes.putWritten(I)V: 135 -/
def TX10_putWritten : TB := ([[(.aload_n 0, 0, 1, 0, 0, 0), (.getfield 64, 1, 2, 10, 16, 0), (.ifCond .lt 35, 4, 3, 21, 0, 0), (.aload_n 0, 7, 4, 0, 0, 0), (.getfield 64, 8, 5, 10, 16, 0), (.aload_n 0, 11, 6, 0, 0, 0), (.getfield 13, 12, 7, 10, 1, 0), (.arraylength, 15, 8, 0, 0, 0), (.if_icmp .ge 23, 16, 9, 21, 0, 0), (.aload_n 0, 19, 10, 0, 0, 0), (.getfield 13, 20, 11, 10, 1, 0), (.aload_n 0, 23, 12, 0, 0, 0), (.getfield 64, 24, 13, 10, 16, 0), (.iload_n 1, 27, 14, 0, 0, 0), (.iastore, 28, 15, 0, 0, 0), (.aload_n 0, 29, 16, 0, 0, 0)],
   [(.dup, 30, 17, 0, 0, 0), (.getfield 64, 31, 18, 10, 16, 0), (.iconst 1, 34, 19, 0, 0, 0), (.iadd, 35, 20, 0, 0, 0), (.putfield 64, 36, 21, 10, 16, 0), (.return_, 39, 22, 0, 0, 0)]],
   [], 135)
/-- HeardVotes.lessened(III)I: 136 -/
def TX10_lessened : TB := ([[(.iload_n 1, 0, 1, 0, 0, 0), (.istore_n 3, 1, 2, 0, 0, 0), (.iload_n 2, 2, 3, 0, 0, 0), (.istore 4, 3, 4, 0, 0, 0), (.iconst 0, 5, 5, 0, 0, 0), (.istore 5, 6, 6, 0, 0, 0), (.iload 5, 8, 7, 0, 0, 0), (.bipush 64, 10, 8, 0, 0, 0), (.if_icmp .ge 27, 12, 9, 21, 0, 0), (.iload 4, 15, 10, 0, 0, 0), (.ifCond .eq 22, 17, 11, 21, 0, 0), (.iload_n 3, 20, 12, 0, 0, 0), (.iload 4, 21, 13, 0, 0, 0), (.irem, 23, 14, 0, 0, 0), (.istore 6, 24, 15, 0, 0, 0), (.iload 4, 26, 16, 0, 0, 0)],
   [(.istore_n 3, 28, 17, 0, 0, 0), (.iload 6, 29, 18, 0, 0, 0), (.istore 4, 31, 19, 0, 0, 0), (.iinc 5 1, 33, 20, 0, 0, 0), (.goto (-28), 36, 21, 6, 0, 0), (.iload_n 3, 39, 22, 0, 0, 0), (.ifCond .le 9, 40, 23, 27, 0, 0), (.iload_n 0, 43, 24, 0, 0, 0), (.iload_n 3, 44, 25, 0, 0, 0), (.idiv, 45, 26, 0, 0, 0), (.goto 4, 46, 27, 28, 0, 0), (.iload_n 0, 49, 28, 0, 0, 0), (.ireturn, 50, 29, 0, 0, 0)]],
   [], 136)
/-- HeardVotesModel.thrown()I: 137 -/
def TX11_thrown : TB := ([[(.aload_n 0, 0, 1, 0, 0, 0), (.getfield 96, 1, 2, 11, 0, 0), (.ireturn, 4, 3, 0, 0, 0)]],
   [], 137)
/-- HeardVotesModel.refused(I)I: 138 -/
def TX11_refused : TB := ([[(.aload_n 0, 0, 1, 0, 0, 0), (.iload_n 1, 1, 2, 0, 0, 0), (.putfield 99, 2, 3, 11, 1, 0), (.aload_n 0, 5, 4, 0, 0, 0), (.iconst (-1), 6, 5, 0, 0, 0), (.putfield 9, 7, 6, 11, 2, 0), (.iconst (-1), 10, 7, 0, 0, 0), (.ireturn, 11, 8, 0, 0, 0)]],
   [], 138)
/-- HeardVotesModel.good(I)I: 139 -/
def TX11_good : TB := ([[(.aload_n 0, 0, 1, 0, 0, 0), (.iconst 0, 1, 2, 0, 0, 0), (.putfield 99, 2, 3, 11, 1, 0), (.aload_n 0, 5, 4, 0, 0, 0), (.iconst (-1), 6, 5, 0, 0, 0), (.putfield 9, 7, 6, 11, 2, 0), (.iload_n 1, 10, 7, 0, 0, 0), (.ireturn, 11, 8, 0, 0, 0)]],
   [], 139)
/-- HeardVotesModel.done(I)Z: 140 -/
def TX11_done : TB := ([[(.aload_n 0, 0, 1, 0, 0, 0), (.iload_n 1, 1, 2, 0, 0, 0), (.putfield 99, 2, 3, 11, 1, 0), (.aload_n 0, 5, 4, 0, 0, 0), (.iconst (-1), 6, 5, 0, 0, 0), (.putfield 9, 7, 6, 11, 2, 0), (.iload_n 1, 10, 7, 0, 0, 0), (.ifCond .ne 7, 11, 8, 10, 0, 0), (.iconst 1, 14, 9, 0, 0, 0), (.goto 4, 15, 10, 11, 0, 0), (.iconst 0, 18, 11, 0, 0, 0), (.ireturn, 19, 12, 1, 0, 0)]],
   [], 140)
/-- HeardVotesModel.in(III)Z: 141 -/
def TX11_in : TB := ([[(.iload_n 0, 0, 1, 0, 0, 0), (.iload_n 1, 1, 2, 0, 0, 0), (.if_icmp .lt 12, 2, 3, 8, 0, 0), (.iload_n 0, 5, 4, 0, 0, 0), (.iload_n 2, 6, 5, 0, 0, 0), (.if_icmp .gt 7, 7, 6, 8, 0, 0), (.iconst 1, 10, 7, 0, 0, 0), (.goto 4, 11, 8, 9, 0, 0), (.iconst 0, 14, 9, 0, 0, 0), (.ireturn, 15, 10, 1, 0, 0)]],
   [], 141)
/-- HeardVotesModel.common(II)I: 142 -/
def TX11_common : TB := ([[(.iload_n 0, 0, 1, 0, 0, 0), (.istore_n 2, 1, 2, 0, 0, 0), (.iload_n 1, 2, 3, 0, 0, 0), (.istore_n 3, 3, 4, 0, 0, 0), (.iload_n 3, 4, 5, 0, 0, 0), (.ifCond .eq 16, 5, 6, 15, 0, 0), (.iload_n 2, 8, 7, 0, 0, 0), (.iload_n 3, 9, 8, 0, 0, 0), (.irem, 10, 9, 0, 0, 0), (.istore 4, 11, 10, 0, 0, 0), (.iload_n 3, 13, 11, 0, 0, 0), (.istore_n 2, 14, 12, 0, 0, 0), (.iload 4, 15, 13, 0, 0, 0), (.istore_n 3, 17, 14, 0, 0, 0), (.goto (-14), 18, 15, 4, 0, 0), (.iload_n 2, 21, 16, 0, 0, 0)],
   [(.ireturn, 22, 17, 0, 0, 0)]],
   [], 142)
/-- HeardVotesModel.feed(IIIII)I: 143 -/
def TX11_feed : TB := ([[(.aload_n 0, 0, 1, 0, 0, 0), (.iconst 0, 1, 2, 0, 0, 0), (.putfield 96, 2, 3, 11, 0, 0), (.aload_n 0, 5, 4, 0, 0, 0), (.getfield 102, 6, 5, 11, 4, 0), (.bipush 20, 9, 6, 0, 0, 0), (.iadd, 11, 7, 0, 0, 0), (.sipush 600, 12, 8, 0, 0, 0), (.if_icmp .le 5, 15, 9, 11, 0, 0), (.iconst (-1), 18, 10, 0, 0, 0), (.ireturn, 19, 11, 0, 0, 0), (.iconst 0, 20, 12, 0, 0, 0), (.istore 6, 21, 13, 0, 0, 0), (.iload 6, 23, 14, 0, 0, 0), (.bipush 20, 25, 15, 0, 0, 0), (.if_icmp .ge 86, 27, 16, 58, 0, 0)],
   [(.iload 6, 30, 17, 0, 0, 0), (.iconst 4, 32, 18, 0, 0, 0), (.if_icmp .ge 7, 33, 19, 21, 0, 0), (.iload_n 1, 36, 20, 0, 0, 0), (.goto 39, 37, 21, 37, 0, 0), (.iload 6, 40, 22, 0, 0, 0), (.bipush 8, 42, 23, 0, 0, 0), (.if_icmp .ge 7, 44, 24, 26, 0, 0), (.iload_n 2, 47, 25, 0, 0, 0), (.goto 28, 48, 26, 37, 0, 0), (.iload 6, 51, 27, 0, 0, 0), (.bipush 12, 53, 28, 0, 0, 0), (.if_icmp .ge 7, 55, 29, 31, 0, 0), (.iload_n 3, 58, 30, 0, 0, 0), (.goto 17, 59, 31, 37, 0, 0), (.iload 6, 62, 32, 0, 0, 0)],
   [(.bipush 16, 64, 33, 0, 0, 0), (.if_icmp .ge 8, 66, 34, 36, 0, 0), (.iload 4, 69, 35, 0, 0, 0), (.goto 5, 71, 36, 37, 0, 0), (.iload 5, 74, 37, 0, 0, 0), (.istore 7, 76, 38, 0, 0, 0), (.aload_n 0, 78, 39, 0, 0, 0), (.getfield 13, 79, 40, 11, 3, 0), (.aload_n 0, 82, 41, 0, 0, 0), (.getfield 102, 83, 42, 11, 4, 0), (.iload 6, 86, 43, 0, 0, 0), (.iadd, 88, 44, 0, 0, 0), (.iload 7, 89, 45, 0, 0, 0), (.bipush 24, 91, 46, 0, 0, 0), (.bipush 8, 93, 47, 0, 0, 0), (.iload 6, 95, 48, 0, 0, 0)],
   [(.iconst 4, 97, 49, 0, 0, 0), (.irem, 98, 50, 0, 0, 0), (.imul, 99, 51, 0, 0, 0), (.isub, 100, 52, 0, 0, 0), (.ishr, 101, 53, 0, 0, 0), (.sipush 255, 102, 54, 0, 0, 0), (.iand, 105, 55, 0, 0, 0), (.iastore, 106, 56, 0, 0, 0), (.iinc 6 1, 107, 57, 0, 0, 0), (.goto (-87), 110, 58, 13, 0, 0), (.aload_n 0, 113, 59, 0, 0, 0), (.dup, 114, 60, 0, 0, 0), (.getfield 102, 115, 61, 11, 4, 0), (.bipush 20, 118, 62, 0, 0, 0), (.iadd, 120, 63, 0, 0, 0), (.putfield 102, 121, 64, 11, 4, 0)],
   [(.aload_n 0, 124, 65, 0, 0, 0), (.getfield 102, 125, 66, 11, 4, 0), (.ireturn, 128, 67, 0, 0, 0)]],
   [], 143)
/-- HeardVotesModel.flaw(I)V: 144 -/
def TX11_flaw : TB := ([[(.aload_n 0, 0, 1, 0, 0, 0), (.getfield 105, 1, 2, 11, 7, 0), (.ifCond .le 4, 4, 3, 4, 0, 0), (.return_, 7, 4, 0, 0, 0), (.aload_n 0, 8, 5, 0, 0, 0), (.iload_n 1, 9, 6, 0, 0, 0), (.putfield 105, 10, 7, 11, 7, 0), (.aload_n 0, 13, 8, 0, 0, 0), (.aload_n 0, 14, 9, 0, 0, 0), (.getfield 108, 15, 10, 11, 10, 0), (.putfield 111, 18, 11, 11, 8, 0), (.return_, 21, 12, 0, 0, 0)]],
   [], 144)
/-- HeardVotesModel.isLetterAt(I)Z: 145 -/
def TX11_isLetterAt : TB := ([[(.iload_n 1, 0, 1, 0, 0, 0), (.aload_n 0, 1, 2, 0, 0, 0), (.getfield 114, 2, 3, 11, 5, 0), (.if_icmp .ge 23, 5, 4, 14, 0, 0), (.aload_n 0, 8, 5, 0, 0, 0), (.getfield 13, 9, 6, 11, 3, 0), (.iload_n 1, 12, 7, 0, 0, 0), (.iaload, 13, 8, 0, 0, 0), (.bipush 97, 14, 9, 0, 0, 0), (.bipush 122, 16, 10, 0, 0, 0), (.invokestatic 117, 18, 11, 141, 3, 0), (.ifCond .eq 7, 21, 12, 14, 0, 0), (.iconst 1, 24, 13, 0, 0, 0), (.goto 4, 25, 14, 15, 0, 0), (.iconst 0, 28, 15, 0, 0, 0), (.ireturn, 29, 16, 1, 0, 0)]],
   [], 145)
/-- HeardVotesModel.isDigitAt(I)Z: 146 -/
def TX11_isDigitAt : TB := ([[(.iload_n 1, 0, 1, 0, 0, 0), (.aload_n 0, 1, 2, 0, 0, 0), (.getfield 114, 2, 3, 11, 5, 0), (.if_icmp .ge 23, 5, 4, 14, 0, 0), (.aload_n 0, 8, 5, 0, 0, 0), (.getfield 13, 9, 6, 11, 3, 0), (.iload_n 1, 12, 7, 0, 0, 0), (.iaload, 13, 8, 0, 0, 0), (.bipush 48, 14, 9, 0, 0, 0), (.bipush 57, 16, 10, 0, 0, 0), (.invokestatic 117, 18, 11, 141, 3, 0), (.ifCond .eq 7, 21, 12, 14, 0, 0), (.iconst 1, 24, 13, 0, 0, 0), (.goto 4, 25, 14, 15, 0, 0), (.iconst 0, 28, 15, 0, 0, 0), (.ireturn, 29, 16, 1, 0, 0)]],
   [], 146)
/-- HeardVotesModel.goOn()V: 147 -/
def TX11_goOn : TB := ([[(.aload_n 0, 0, 1, 0, 0, 0), (.getfield 105, 1, 2, 11, 7, 0), (.ifCond .le 4, 4, 3, 4, 0, 0), (.return_, 7, 4, 0, 0, 0), (.aload_n 0, 8, 5, 0, 0, 0), (.getfield 121, 9, 6, 11, 6, 0), (.aload_n 0, 12, 7, 0, 0, 0), (.getfield 114, 13, 8, 11, 5, 0), (.if_icmp .ge 30, 16, 9, 23, 0, 0), (.aload_n 0, 19, 10, 0, 0, 0), (.getfield 13, 20, 11, 11, 3, 0), (.aload_n 0, 23, 12, 0, 0, 0), (.getfield 121, 24, 13, 11, 6, 0), (.iaload, 27, 14, 0, 0, 0), (.bipush 32, 28, 15, 0, 0, 0), (.if_icmp .ne 16, 30, 16, 23, 0, 0)],
   [(.aload_n 0, 33, 17, 0, 0, 0), (.dup, 34, 18, 0, 0, 0), (.getfield 121, 35, 19, 11, 6, 0), (.iconst 1, 38, 20, 0, 0, 0), (.iadd, 39, 21, 0, 0, 0), (.putfield 121, 40, 22, 11, 6, 0), (.goto (-35), 43, 23, 4, 0, 0), (.aload_n 0, 46, 24, 0, 0, 0), (.aload_n 0, 47, 25, 0, 0, 0), (.getfield 121, 48, 26, 11, 6, 0), (.putfield 108, 51, 27, 11, 10, 0), (.aload_n 0, 54, 28, 0, 0, 0), (.getfield 121, 55, 29, 11, 6, 0), (.aload_n 0, 58, 30, 0, 0, 0), (.getfield 114, 59, 31, 11, 5, 0), (.if_icmp .ne 11, 62, 32, 36, 0, 0)],
   [(.aload_n 0, 65, 33, 0, 0, 0), (.iconst 1, 66, 34, 0, 0, 0), (.putfield 124, 67, 35, 11, 9, 0), (.goto 264, 70, 36, 173, 0, 0), (.aload_n 0, 73, 37, 0, 0, 0), (.aload_n 0, 74, 38, 0, 0, 0), (.getfield 121, 75, 39, 11, 6, 0), (.invokevirtual 127, 78, 40, 145, 1, 0), (.ifCond .eq 101, 81, 41, 93, 0, 0), (.aload_n 0, 84, 42, 0, 0, 0), (.lconst 0, 85, 43, 0, 0, 0), (.putfield 131, 86, 44, 11, 13, 0), (.aload_n 0, 89, 45, 0, 0, 0), (.aload_n 0, 90, 46, 0, 0, 0), (.getfield 121, 91, 47, 11, 6, 0), (.invokevirtual 127, 94, 48, 145, 1, 0)],
   [(.ifCond .eq 59, 97, 49, 80, 0, 0), (.aload_n 0, 100, 50, 0, 0, 0), (.getfield 121, 101, 51, 11, 6, 0), (.aload_n 0, 104, 52, 0, 0, 0), (.getfield 108, 105, 53, 11, 10, 0), (.isub, 108, 54, 0, 0, 0), (.bipush 6, 109, 55, 0, 0, 0), (.if_icmp .ge 32, 111, 56, 73, 0, 0), (.aload_n 0, 114, 57, 0, 0, 0), (.aload_n 0, 115, 58, 0, 0, 0), (.getfield 131, 116, 59, 11, 13, 0), (.ldc2_w 135, 119, 60, 0, 0, 32), (.lmul, 122, 61, 0, 0, 0), (.aload_n 0, 123, 62, 0, 0, 0), (.getfield 13, 124, 63, 11, 3, 0), (.aload_n 0, 127, 64, 0, 0, 0)],
   [(.getfield 121, 128, 65, 11, 6, 0), (.iaload, 131, 66, 0, 0, 0), (.i2l, 132, 67, 0, 0, 0), (.ladd, 133, 68, 0, 0, 0), (.ldc2_w 137, 134, 69, 0, 0, 97), (.lsub, 137, 70, 0, 0, 0), (.lconst 1, 138, 71, 0, 0, 0), (.ladd, 139, 72, 0, 0, 0), (.putfield 131, 140, 73, 11, 13, 0), (.aload_n 0, 143, 74, 0, 0, 0), (.dup, 144, 75, 0, 0, 0), (.getfield 121, 145, 76, 11, 6, 0), (.iconst 1, 148, 77, 0, 0, 0), (.iadd, 149, 78, 0, 0, 0), (.putfield 121, 150, 79, 11, 6, 0), (.goto (-64), 153, 80, 44, 0, 0)],
   [(.aload_n 0, 156, 81, 0, 0, 0), (.aload_n 0, 157, 82, 0, 0, 0), (.getfield 121, 158, 83, 11, 6, 0), (.aload_n 0, 161, 84, 0, 0, 0), (.getfield 108, 162, 85, 11, 10, 0), (.isub, 165, 86, 0, 0, 0), (.bipush 6, 166, 87, 0, 0, 0), (.if_icmp .le 7, 168, 88, 90, 0, 0), (.iconst 0, 171, 89, 0, 0, 0), (.goto 4, 172, 90, 91, 0, 0), (.iconst 2, 175, 91, 0, 0, 0), (.putfield 124, 176, 92, 11, 9, 0), (.goto 155, 179, 93, 173, 0, 0), (.aload_n 0, 182, 94, 0, 0, 0), (.aload_n 0, 183, 95, 0, 0, 0), (.getfield 121, 184, 96, 11, 6, 0)],
   [(.invokevirtual 139, 187, 97, 146, 1, 0), (.ifCond .eq 94, 190, 98, 147, 0, 0), (.aload_n 0, 193, 99, 0, 0, 0), (.iconst 0, 194, 100, 0, 0, 0), (.putfield 142, 195, 101, 11, 12, 0), (.aload_n 0, 198, 102, 0, 0, 0), (.aload_n 0, 199, 103, 0, 0, 0), (.getfield 121, 200, 104, 11, 6, 0), (.invokevirtual 139, 203, 105, 146, 1, 0), (.ifCond .eq 53, 206, 106, 134, 0, 0), (.aload_n 0, 209, 107, 0, 0, 0), (.getfield 121, 210, 108, 11, 6, 0), (.aload_n 0, 213, 109, 0, 0, 0), (.getfield 108, 214, 110, 11, 10, 0), (.isub, 217, 111, 0, 0, 0), (.iconst 3, 218, 112, 0, 0, 0)],
   [(.if_icmp .ge 27, 219, 113, 127, 0, 0), (.aload_n 0, 222, 114, 0, 0, 0), (.bipush 10, 223, 115, 0, 0, 0), (.aload_n 0, 225, 116, 0, 0, 0), (.getfield 142, 226, 117, 11, 12, 0), (.imul, 229, 118, 0, 0, 0), (.aload_n 0, 230, 119, 0, 0, 0), (.getfield 13, 231, 120, 11, 3, 0), (.aload_n 0, 234, 121, 0, 0, 0), (.getfield 121, 235, 122, 11, 6, 0), (.iaload, 238, 123, 0, 0, 0), (.iadd, 239, 124, 0, 0, 0), (.bipush 48, 240, 125, 0, 0, 0), (.isub, 242, 126, 0, 0, 0), (.putfield 142, 243, 127, 11, 12, 0), (.aload_n 0, 246, 128, 0, 0, 0)],
   [(.dup, 247, 129, 0, 0, 0), (.getfield 121, 248, 130, 11, 6, 0), (.iconst 1, 251, 131, 0, 0, 0), (.iadd, 252, 132, 0, 0, 0), (.putfield 121, 253, 133, 11, 6, 0), (.goto (-58), 256, 134, 101, 0, 0), (.aload_n 0, 259, 135, 0, 0, 0), (.aload_n 0, 260, 136, 0, 0, 0), (.getfield 121, 261, 137, 11, 6, 0), (.aload_n 0, 264, 138, 0, 0, 0), (.getfield 108, 265, 139, 11, 10, 0), (.isub, 268, 140, 0, 0, 0), (.iconst 3, 269, 141, 0, 0, 0), (.if_icmp .le 7, 270, 142, 144, 0, 0), (.iconst 0, 273, 143, 0, 0, 0), (.goto 4, 274, 144, 145, 0, 0)],
   [(.iconst 3, 277, 145, 0, 0, 0), (.putfield 124, 278, 146, 11, 9, 0), (.goto 53, 281, 147, 173, 0, 0), (.aload_n 0, 284, 148, 0, 0, 0), (.aload_n 0, 285, 149, 0, 0, 0), (.getfield 13, 286, 150, 11, 3, 0), (.aload_n 0, 289, 151, 0, 0, 0), (.getfield 121, 290, 152, 11, 6, 0), (.iaload, 293, 153, 0, 0, 0), (.putfield 145, 294, 154, 11, 11, 0), (.aload_n 0, 297, 155, 0, 0, 0), (.aload_n 0, 298, 156, 0, 0, 0), (.getfield 145, 299, 157, 11, 11, 0), (.bipush 59, 302, 158, 0, 0, 0), (.if_icmp .eq 12, 304, 159, 163, 0, 0), (.aload_n 0, 307, 160, 0, 0, 0)],
   [(.getfield 145, 308, 161, 11, 11, 0), (.bipush 58, 311, 162, 0, 0, 0), (.if_icmp .ne 7, 313, 163, 165, 0, 0), (.iconst 4, 316, 164, 0, 0, 0), (.goto 4, 317, 165, 166, 0, 0), (.iconst 0, 320, 166, 0, 0, 0), (.putfield 124, 321, 167, 11, 9, 0), (.aload_n 0, 324, 168, 0, 0, 0), (.dup, 325, 169, 0, 0, 0), (.getfield 121, 326, 170, 11, 6, 0), (.iconst 1, 329, 171, 0, 0, 0), (.iadd, 330, 172, 0, 0, 0), (.putfield 121, 331, 173, 11, 6, 0), (.return_, 334, 174, 0, 0, 0)]],
   [], 147)
/-- HeardVotesModel.isSign(I)Z: 148 -/
def TX11_isSign : TB := ([[(.aload_n 0, 0, 1, 0, 0, 0), (.getfield 105, 1, 2, 11, 7, 0), (.ifCond .ne 23, 4, 3, 13, 0, 0), (.aload_n 0, 7, 4, 0, 0, 0), (.getfield 124, 8, 5, 11, 9, 0), (.iconst 4, 11, 6, 0, 0, 0), (.if_icmp .ne 15, 12, 7, 13, 0, 0), (.aload_n 0, 15, 8, 0, 0, 0), (.getfield 145, 16, 9, 11, 11, 0), (.iload_n 1, 19, 10, 0, 0, 0), (.if_icmp .ne 7, 20, 11, 13, 0, 0), (.iconst 1, 23, 12, 0, 0, 0), (.goto 4, 24, 13, 14, 0, 0), (.iconst 0, 27, 14, 0, 0, 0), (.ireturn, 28, 15, 1, 0, 0)]],
   [], 148)
/-- HeardVotesModel.fault()I: 149 -/
def TX11_fault : TB := ([[(.aload_n 0, 0, 1, 0, 0, 0), (.iconst 0, 1, 2, 0, 0, 0), (.putfield 96, 2, 3, 11, 0, 0), (.aload_n 0, 5, 4, 0, 0, 0), (.getfield 105, 6, 5, 11, 7, 0), (.ireturn, 9, 6, 0, 0, 0)]],
   [], 149)
/-- HeardVotesModel.where()I: 150 -/
def TX11_where : TB := ([[(.aload_n 0, 0, 1, 0, 0, 0), (.iconst 0, 1, 2, 0, 0, 0), (.putfield 96, 2, 3, 11, 0, 0), (.aload_n 0, 5, 4, 0, 0, 0), (.getfield 9, 6, 5, 11, 2, 0), (.ireturn, 9, 6, 0, 0, 0)]],
   [], 150)
/-- HeardVotesModel.readWhole(II)I: 151 -/
def TX11_readWhole : TB := ([[(.aload_n 0, 0, 1, 0, 0, 0), (.getfield 124, 1, 2, 11, 9, 0), (.iconst 3, 4, 3, 0, 0, 0), (.if_icmp .eq 11, 5, 4, 8, 0, 0), (.aload_n 0, 8, 5, 0, 0, 0), (.iconst 1, 9, 6, 0, 0, 0), (.invokevirtual 158, 10, 7, 144, 1, 0), (.goto 20, 13, 8, 17, 0, 0), (.aload_n 0, 16, 9, 0, 0, 0), (.getfield 142, 17, 10, 11, 12, 0), (.iload_n 1, 20, 11, 0, 0, 0), (.iload_n 2, 21, 12, 0, 0, 0), (.invokestatic 117, 22, 13, 141, 3, 0), (.ifCond .ne 8, 25, 14, 17, 0, 0), (.aload_n 0, 28, 15, 0, 0, 0), (.iconst 2, 29, 16, 0, 0, 0)],
   [(.invokevirtual 158, 30, 17, 144, 1, 0), (.aload_n 0, 33, 18, 0, 0, 0), (.getfield 142, 34, 19, 11, 12, 0), (.istore_n 3, 37, 20, 0, 0, 0), (.aload_n 0, 38, 21, 0, 0, 0), (.invokevirtual 162, 39, 22, 147, 0, 0), (.iload_n 3, 42, 23, 0, 0, 0), (.ireturn, 43, 24, 0, 0, 0)]],
   [], 151)
/-- HeardVotesModel.find([JIJ)I: 152 -/
def TX11_find : TB := ([[(.iconst 0, 0, 1, 0, 0, 0), (.istore 4, 1, 2, 0, 0, 0), (.iload 4, 3, 3, 0, 0, 0), (.iload_n 1, 5, 4, 0, 0, 0), (.if_icmp .ge 21, 6, 5, 15, 0, 0), (.aload_n 0, 9, 6, 0, 0, 0), (.iload 4, 10, 7, 0, 0, 0), (.laload, 12, 8, 0, 0, 0), (.lload_n 2, 13, 9, 0, 0, 0), (.lcmp, 14, 10, 0, 0, 0), (.ifCond .ne 6, 15, 11, 13, 0, 0), (.iload 4, 18, 12, 0, 0, 0), (.ireturn, 20, 13, 0, 0, 0), (.iinc 4 1, 21, 14, 0, 0, 0), (.goto (-21), 24, 15, 2, 0, 0), (.iconst (-1), 27, 16, 0, 0, 0)],
   [(.ireturn, 28, 17, 0, 0, 0)]],
   [], 152)
/-- HeardVotesModel.readLine()V: 153 -/
def TX11_readLine : TB := ([[(.aload_n 0, 0, 1, 0, 0, 0), (.getfield 165, 1, 2, 11, 23, 0), (.istore_n 1, 4, 3, 0, 0, 0), (.aload_n 0, 5, 4, 0, 0, 0), (.getfield 124, 6, 5, 11, 9, 0), (.iconst 2, 9, 6, 0, 0, 0), (.if_icmp .eq 11, 10, 7, 11, 0, 0), (.aload_n 0, 13, 8, 0, 0, 0), (.iconst 1, 14, 9, 0, 0, 0), (.invokevirtual 158, 15, 10, 144, 1, 0), (.goto 37, 18, 11, 29, 0, 0), (.aload_n 0, 21, 12, 0, 0, 0), (.getfield 17, 22, 13, 11, 14, 0), (.iload_n 1, 25, 14, 0, 0, 0), (.aload_n 0, 26, 15, 0, 0, 0), (.getfield 131, 27, 16, 11, 13, 0)],
   [(.invokestatic 168, 30, 17, 152, 3, 0), (.iconst (-1), 33, 18, 0, 0, 0), (.if_icmp .eq 11, 34, 19, 23, 0, 0), (.aload_n 0, 37, 20, 0, 0, 0), (.iconst 3, 38, 21, 0, 0, 0), (.invokevirtual 158, 39, 22, 144, 1, 0), (.goto 13, 42, 23, 29, 0, 0), (.iload_n 1, 45, 24, 0, 0, 0), (.iconst 5, 46, 25, 0, 0, 0), (.if_icmp .ne 8, 47, 26, 29, 0, 0), (.aload_n 0, 50, 27, 0, 0, 0), (.iconst 4, 51, 28, 0, 0, 0), (.invokevirtual 158, 52, 29, 144, 1, 0), (.aload_n 0, 55, 30, 0, 0, 0), (.getfield 105, 56, 31, 11, 7, 0), (.ifCond .le 4, 59, 32, 33, 0, 0)],
   [(.return_, 62, 33, 0, 0, 0), (.aload_n 0, 63, 34, 0, 0, 0), (.getfield 17, 64, 35, 11, 14, 0), (.iload_n 1, 67, 36, 0, 0, 0), (.aload_n 0, 68, 37, 0, 0, 0), (.getfield 131, 69, 38, 11, 13, 0), (.lastore, 72, 39, 0, 0, 0), (.aload_n 0, 73, 40, 0, 0, 0), (.invokevirtual 162, 74, 41, 147, 0, 0), (.aload_n 0, 77, 42, 0, 0, 0), (.getfield 124, 78, 43, 11, 9, 0), (.iconst 2, 81, 44, 0, 0, 0), (.if_icmp .ne 16, 82, 45, 51, 0, 0), (.aload_n 0, 85, 46, 0, 0, 0), (.getfield 131, 86, 47, 11, 13, 0), (.ldc 172, 89, 49, 1, 0, 777297172)],
   [(.invokestatic 174, 91, 49, 902, 1, 0), (.lcmp, 94, 50, 0, 0, 0), (.ifCond .eq 8, 95, 51, 54, 0, 0), (.aload_n 0, 98, 52, 0, 0, 0), (.iconst 1, 99, 53, 0, 0, 0), (.invokevirtual 158, 100, 54, 144, 1, 0), (.aload_n 0, 103, 55, 0, 0, 0), (.invokevirtual 162, 104, 56, 147, 0, 0), (.aload_n 0, 107, 57, 0, 0, 0), (.getfield 27, 108, 58, 11, 17, 0), (.iload_n 1, 111, 59, 0, 0, 0), (.aload_n 0, 112, 60, 0, 0, 0), (.iconst 1, 113, 61, 0, 0, 0), (.bipush 99, 114, 62, 0, 0, 0), (.invokevirtual 178, 116, 63, 151, 2, 0), (.iastore, 119, 64, 0, 0, 0)],
   [(.aload_n 0, 120, 65, 0, 0, 0), (.bipush 58, 121, 66, 0, 0, 0), (.invokevirtual 182, 123, 67, 148, 1, 0), (.ifCond .ne 8, 126, 68, 71, 0, 0), (.aload_n 0, 129, 69, 0, 0, 0), (.iconst 1, 130, 70, 0, 0, 0), (.invokevirtual 158, 131, 71, 144, 1, 0), (.aload_n 0, 134, 72, 0, 0, 0), (.invokevirtual 162, 135, 73, 147, 0, 0), (.aload_n 0, 138, 74, 0, 0, 0), (.getfield 30, 139, 75, 11, 18, 0), (.iload_n 1, 142, 76, 0, 0, 0), (.iconst 0, 143, 77, 0, 0, 0), (.iastore, 144, 78, 0, 0, 0), (.iconst (-1), 145, 79, 0, 0, 0), (.istore_n 2, 146, 80, 0, 0, 0)],
   [(.aload_n 0, 147, 81, 0, 0, 0), (.getfield 105, 148, 82, 11, 7, 0), (.ifCond .ne 7, 151, 83, 85, 0, 0), (.iconst 1, 154, 84, 0, 0, 0), (.goto 4, 155, 85, 86, 0, 0), (.iconst 0, 158, 86, 0, 0, 0), (.istore_n 3, 159, 87, 0, 0, 0), (.iload_n 3, 160, 88, 0, 0, 0), (.ifCond .eq 137, 161, 89, 167, 0, 0), (.aload_n 0, 164, 90, 0, 0, 0), (.getfield 124, 165, 91, 11, 9, 0), (.iconst 2, 168, 92, 0, 0, 0), (.if_icmp .eq 11, 169, 93, 97, 0, 0), (.aload_n 0, 172, 94, 0, 0, 0), (.iconst 1, 173, 95, 0, 0, 0), (.invokevirtual 158, 174, 96, 144, 1, 0)],
   [(.goto 19, 177, 97, 106, 0, 0), (.aload_n 0, 180, 98, 0, 0, 0), (.getfield 30, 181, 99, 11, 18, 0), (.iload_n 1, 184, 100, 0, 0, 0), (.iaload, 185, 101, 0, 0, 0), (.bipush 12, 186, 102, 0, 0, 0), (.if_icmp .ne 8, 188, 103, 106, 0, 0), (.aload_n 0, 191, 104, 0, 0, 0), (.iconst 4, 192, 105, 0, 0, 0), (.invokevirtual 158, 193, 106, 144, 1, 0), (.aload_n 0, 196, 107, 0, 0, 0), (.getfield 131, 197, 108, 11, 13, 0), (.lstore 4, 200, 109, 0, 0, 0), (.aload_n 0, 202, 110, 0, 0, 0), (.invokevirtual 162, 203, 111, 147, 0, 0), (.aload_n 0, 206, 112, 0, 0, 0)],
   [(.iload_n 2, 207, 113, 0, 0, 0), (.iconst 1, 208, 114, 0, 0, 0), (.iadd, 209, 115, 0, 0, 0), (.sipush 999, 210, 116, 0, 0, 0), (.invokevirtual 178, 213, 117, 151, 2, 0), (.istore 6, 216, 118, 0, 0, 0), (.aload_n 0, 218, 119, 0, 0, 0), (.getfield 105, 219, 120, 11, 7, 0), (.ifCond .ne 49, 222, 121, 153, 0, 0), (.aload_n 0, 225, 122, 0, 0, 0), (.getfield 21, 226, 123, 11, 15, 0), (.bipush 12, 229, 124, 0, 0, 0), (.iload_n 1, 231, 125, 0, 0, 0), (.imul, 232, 126, 0, 0, 0), (.aload_n 0, 233, 127, 0, 0, 0), (.getfield 30, 234, 128, 11, 18, 0)],
   [(.iload_n 1, 237, 129, 0, 0, 0), (.iaload, 238, 130, 0, 0, 0), (.iadd, 239, 131, 0, 0, 0), (.lload 4, 240, 132, 0, 0, 0), (.lastore, 242, 133, 0, 0, 0), (.aload_n 0, 243, 134, 0, 0, 0), (.getfield 33, 244, 135, 11, 19, 0), (.bipush 12, 247, 136, 0, 0, 0), (.iload_n 1, 249, 137, 0, 0, 0), (.imul, 250, 138, 0, 0, 0), (.aload_n 0, 251, 139, 0, 0, 0), (.getfield 30, 252, 140, 11, 18, 0), (.iload_n 1, 255, 141, 0, 0, 0), (.iaload, 256, 142, 0, 0, 0), (.iadd, 257, 143, 0, 0, 0), (.iload 6, 258, 144, 0, 0, 0)],
   [(.iastore, 260, 145, 0, 0, 0), (.aload_n 0, 261, 146, 0, 0, 0), (.getfield 30, 262, 147, 11, 18, 0), (.iload_n 1, 265, 148, 0, 0, 0), (.dup2, 266, 149, 0, 0, 0), (.iaload, 267, 150, 0, 0, 0), (.iconst 1, 268, 151, 0, 0, 0), (.iadd, 269, 152, 0, 0, 0), (.iastore, 270, 153, 0, 0, 0), (.iload 6, 271, 154, 0, 0, 0), (.istore_n 2, 273, 155, 0, 0, 0), (.aload_n 0, 274, 156, 0, 0, 0), (.getfield 105, 275, 157, 11, 7, 0), (.ifCond .ne 15, 278, 158, 164, 0, 0), (.aload_n 0, 281, 159, 0, 0, 0), (.getfield 124, 282, 160, 11, 9, 0)],
   [(.iconst 2, 285, 161, 0, 0, 0), (.if_icmp .ne 7, 286, 162, 164, 0, 0), (.iconst 1, 289, 163, 0, 0, 0), (.goto 4, 290, 164, 165, 0, 0), (.iconst 0, 293, 165, 0, 0, 0), (.istore_n 3, 294, 166, 0, 0, 0), (.goto (-135), 295, 167, 87, 0, 0), (.aload_n 0, 298, 168, 0, 0, 0), (.getfield 105, 299, 169, 11, 7, 0), (.ifCond .ne 13, 302, 170, 176, 0, 0), (.aload_n 0, 305, 171, 0, 0, 0), (.dup, 306, 172, 0, 0, 0), (.getfield 165, 307, 173, 11, 23, 0), (.iconst 1, 310, 174, 0, 0, 0), (.iadd, 311, 175, 0, 0, 0), (.putfield 165, 312, 176, 11, 23, 0)],
   [(.return_, 315, 177, 0, 0, 0)]],
   [], 153)
/-- HeardVotesModel.text(I)I: 154 -/
def TX11_text : TB := ([[(.aload_n 0, 0, 1, 0, 0, 0), (.iconst 0, 1, 2, 0, 0, 0), (.putfield 96, 2, 3, 11, 0, 0), (.iload_n 1, 5, 4, 0, 0, 0), (.iconst 0, 6, 5, 0, 0, 0), (.aload_n 0, 7, 6, 0, 0, 0), (.getfield 102, 8, 7, 11, 4, 0), (.invokestatic 117, 11, 8, 141, 3, 0), (.ifCond .ne 9, 14, 9, 13, 0, 0), (.aload_n 0, 17, 10, 0, 0, 0), (.iconst 2, 18, 11, 0, 0, 0), (.invokevirtual 185, 19, 12, 138, 1, 0), (.ireturn, 22, 13, 0, 0, 0), (.aload_n 0, 23, 14, 0, 0, 0), (.iload_n 1, 24, 15, 0, 0, 0), (.putfield 114, 25, 16, 11, 5, 0)],
   [(.aload_n 0, 28, 17, 0, 0, 0), (.iconst 0, 29, 18, 0, 0, 0), (.putfield 102, 30, 19, 11, 4, 0), (.aload_n 0, 33, 20, 0, 0, 0), (.iconst 0, 34, 21, 0, 0, 0), (.putfield 121, 35, 22, 11, 6, 0), (.aload_n 0, 38, 23, 0, 0, 0), (.iconst 0, 39, 24, 0, 0, 0), (.putfield 105, 40, 25, 11, 7, 0), (.aload_n 0, 43, 26, 0, 0, 0), (.iconst 0, 44, 27, 0, 0, 0), (.putfield 165, 45, 28, 11, 23, 0), (.aload_n 0, 48, 29, 0, 0, 0), (.invokevirtual 162, 49, 30, 147, 0, 0), (.aload_n 0, 52, 31, 0, 0, 0), (.invokevirtual 189, 53, 32, 153, 0, 0)],
   [(.aload_n 0, 56, 33, 0, 0, 0), (.bipush 59, 57, 34, 0, 0, 0), (.invokevirtual 182, 59, 35, 148, 1, 0), (.ifCond .eq 14, 62, 36, 41, 0, 0), (.aload_n 0, 65, 37, 0, 0, 0), (.invokevirtual 162, 66, 38, 147, 0, 0), (.aload_n 0, 69, 39, 0, 0, 0), (.invokevirtual 189, 70, 40, 153, 0, 0), (.goto (-17), 73, 41, 32, 0, 0), (.aload_n 0, 76, 42, 0, 0, 0), (.getfield 105, 77, 43, 11, 7, 0), (.ifCond .ne 16, 80, 44, 51, 0, 0), (.aload_n 0, 83, 45, 0, 0, 0), (.getfield 124, 84, 46, 11, 9, 0), (.iconst 1, 87, 47, 0, 0, 0), (.if_icmp .eq 8, 88, 48, 51, 0, 0)],
   [(.aload_n 0, 91, 49, 0, 0, 0), (.iconst 1, 92, 50, 0, 0, 0), (.invokevirtual 158, 93, 51, 144, 1, 0), (.aload_n 0, 96, 52, 0, 0, 0), (.getfield 105, 97, 53, 11, 7, 0), (.ifCond .le 18, 100, 54, 63, 0, 0), (.aload_n 0, 103, 55, 0, 0, 0), (.iconst 4, 104, 56, 0, 0, 0), (.putfield 99, 105, 57, 11, 1, 0), (.aload_n 0, 108, 58, 0, 0, 0), (.aload_n 0, 109, 59, 0, 0, 0), (.getfield 111, 110, 60, 11, 8, 0), (.putfield 9, 113, 61, 11, 2, 0), (.iconst (-1), 116, 62, 0, 0, 0), (.ireturn, 117, 63, 0, 0, 0), (.aload_n 0, 118, 64, 0, 0, 0)],
   [(.invokevirtual 192, 119, 65, 155, 0, 0), (.aload_n 0, 122, 66, 0, 0, 0), (.aload_n 0, 123, 67, 0, 0, 0), (.getfield 195, 124, 68, 11, 24, 0), (.invokevirtual 198, 127, 69, 139, 1, 0), (.ireturn, 130, 70, 0, 0, 0)]],
   [], 154)
/-- HeardVotesModel.holds()V: 155 -/
def TX11_holds : TB := ([[(.aload_n 0, 0, 1, 0, 0, 0), (.aload_n 0, 1, 2, 0, 0, 0), (.getfield 165, 2, 3, 11, 23, 0), (.putfield 195, 5, 4, 11, 24, 0), (.aload_n 0, 8, 5, 0, 0, 0), (.iconst 0, 9, 6, 0, 0, 0), (.putfield 201, 10, 7, 11, 25, 0), (.iconst 0, 13, 8, 0, 0, 0), (.istore_n 1, 14, 9, 0, 0, 0), (.iload_n 1, 15, 10, 0, 0, 0), (.aload_n 0, 16, 11, 0, 0, 0), (.getfield 195, 17, 12, 11, 24, 0), (.if_icmp .ge 136, 20, 13, 93, 0, 0), (.aload_n 0, 23, 14, 0, 0, 0), (.getfield 36, 24, 15, 11, 20, 0), (.iload_n 1, 27, 16, 0, 0, 0)],
   [(.aload_n 0, 28, 17, 0, 0, 0), (.getfield 30, 29, 18, 11, 18, 0), (.iload_n 1, 32, 19, 0, 0, 0), (.iaload, 33, 20, 0, 0, 0), (.iastore, 34, 21, 0, 0, 0), (.aload_n 0, 35, 22, 0, 0, 0), (.getfield 45, 36, 23, 11, 26, 0), (.iconst 5, 39, 24, 0, 0, 0), (.iload_n 1, 40, 25, 0, 0, 0), (.iadd, 41, 26, 0, 0, 0), (.aload_n 0, 42, 27, 0, 0, 0), (.getfield 27, 43, 28, 11, 17, 0), (.iload_n 1, 46, 29, 0, 0, 0), (.iaload, 47, 30, 0, 0, 0), (.iastore, 48, 31, 0, 0, 0), (.iconst 0, 49, 32, 0, 0, 0)],
   [(.istore_n 2, 50, 33, 0, 0, 0), (.iload_n 2, 51, 34, 0, 0, 0), (.aload_n 0, 52, 35, 0, 0, 0), (.getfield 36, 53, 36, 11, 20, 0), (.iload_n 1, 56, 37, 0, 0, 0), (.iaload, 57, 38, 0, 0, 0), (.if_icmp .ge 92, 58, 39, 91, 0, 0), (.bipush 12, 61, 40, 0, 0, 0), (.iload_n 1, 63, 41, 0, 0, 0), (.imul, 64, 42, 0, 0, 0), (.iload_n 2, 65, 43, 0, 0, 0), (.iadd, 66, 44, 0, 0, 0), (.istore_n 3, 67, 45, 0, 0, 0), (.aload_n 0, 68, 46, 0, 0, 0), (.getfield 24, 69, 47, 11, 16, 0), (.aload_n 0, 72, 48, 0, 0, 0)],
   [(.getfield 201, 73, 49, 11, 25, 0), (.aload_n 0, 76, 50, 0, 0, 0), (.getfield 21, 77, 51, 11, 15, 0), (.iload_n 3, 80, 52, 0, 0, 0), (.laload, 81, 53, 0, 0, 0), (.invokestatic 168, 82, 54, 152, 3, 0), (.istore 4, 85, 55, 0, 0, 0), (.iload 4, 87, 56, 0, 0, 0), (.iconst (-1), 89, 57, 0, 0, 0), (.if_icmp .ne 34, 90, 58, 76, 0, 0), (.aload_n 0, 93, 59, 0, 0, 0), (.getfield 24, 94, 60, 11, 16, 0), (.aload_n 0, 97, 61, 0, 0, 0), (.getfield 201, 98, 62, 11, 25, 0), (.aload_n 0, 101, 63, 0, 0, 0), (.getfield 21, 102, 64, 11, 15, 0)],
   [(.iload_n 3, 105, 65, 0, 0, 0), (.laload, 106, 66, 0, 0, 0), (.lastore, 107, 67, 0, 0, 0), (.aload_n 0, 108, 68, 0, 0, 0), (.getfield 201, 109, 69, 11, 25, 0), (.istore 4, 112, 70, 0, 0, 0), (.aload_n 0, 114, 71, 0, 0, 0), (.dup, 115, 72, 0, 0, 0), (.getfield 201, 116, 73, 11, 25, 0), (.iconst 1, 119, 74, 0, 0, 0), (.iadd, 120, 75, 0, 0, 0), (.putfield 201, 121, 76, 11, 25, 0), (.aload_n 0, 124, 77, 0, 0, 0), (.getfield 39, 125, 78, 11, 21, 0), (.iload_n 3, 128, 79, 0, 0, 0), (.iload 4, 129, 80, 0, 0, 0)],
   [(.iastore, 131, 81, 0, 0, 0), (.aload_n 0, 132, 82, 0, 0, 0), (.getfield 42, 133, 83, 11, 22, 0), (.iload_n 3, 136, 84, 0, 0, 0), (.aload_n 0, 137, 85, 0, 0, 0), (.getfield 33, 138, 86, 11, 19, 0), (.iload_n 3, 141, 87, 0, 0, 0), (.iaload, 142, 88, 0, 0, 0), (.iastore, 143, 89, 0, 0, 0), (.iinc 2 1, 144, 90, 0, 0, 0), (.goto (-96), 147, 91, 33, 0, 0), (.iinc 1 1, 150, 92, 0, 0, 0), (.goto (-138), 153, 93, 9, 0, 0), (.aload_n 0, 156, 94, 0, 0, 0), (.getfield 45, 157, 95, 11, 26, 0), (.iconst 0, 160, 96, 0, 0, 0)],
   [(.iconst 3, 161, 97, 0, 0, 0), (.iastore, 162, 98, 0, 0, 0), (.aload_n 0, 163, 99, 0, 0, 0), (.getfield 45, 164, 100, 11, 26, 0), (.iconst 1, 167, 101, 0, 0, 0), (.iconst 3, 168, 102, 0, 0, 0), (.iastore, 169, 103, 0, 0, 0), (.aload_n 0, 170, 104, 0, 0, 0), (.getfield 45, 171, 105, 11, 26, 0), (.iconst 2, 174, 106, 0, 0, 0), (.iconst 4, 175, 107, 0, 0, 0), (.iastore, 176, 108, 0, 0, 0), (.aload_n 0, 177, 109, 0, 0, 0), (.getfield 45, 178, 110, 11, 26, 0), (.iconst 3, 181, 111, 0, 0, 0), (.sipush 999, 182, 112, 0, 0, 0)],
   [(.iastore, 185, 113, 0, 0, 0), (.aload_n 0, 186, 114, 0, 0, 0), (.getfield 45, 187, 115, 11, 26, 0), (.iconst 4, 190, 116, 0, 0, 0), (.bipush 100, 191, 117, 0, 0, 0), (.iastore, 193, 118, 0, 0, 0), (.aload_n 0, 194, 119, 0, 0, 0), (.getfield 45, 195, 120, 11, 26, 0), (.invokestatic 204, 198, 121, 156, 1, 0), (.aload_n 0, 201, 122, 0, 0, 0), (.iconst 0, 202, 123, 0, 0, 0), (.putfield 208, 203, 124, 11, 29, 0), (.return_, 206, 125, 0, 0, 0)]],
   [], 155)
/-- HeardVotesModel.empties([I)V: 156 -/
def TX11_empties : TB := ([[(.aload_n 0, 0, 1, 0, 0, 0), (.bipush 10, 1, 2, 0, 0, 0), (.iconst 0, 3, 3, 0, 0, 0), (.iastore, 4, 4, 0, 0, 0), (.aload_n 0, 5, 5, 0, 0, 0), (.bipush 21, 6, 6, 0, 0, 0), (.iconst 0, 8, 7, 0, 0, 0), (.iastore, 9, 8, 0, 0, 0), (.return_, 10, 9, 0, 0, 0)]],
   [], 156)
/-- HeardVotesModel.copies()V: 157 -/
def TX11_copies : TB := ([[(.iconst 0, 0, 1, 0, 0, 0), (.istore_n 1, 1, 2, 0, 0, 0), (.iload_n 1, 2, 3, 0, 0, 0), (.sipush 322, 3, 4, 0, 0, 0), (.if_icmp .ge 21, 6, 5, 15, 0, 0), (.aload_n 0, 9, 6, 0, 0, 0), (.getfield 48, 10, 7, 11, 27, 0), (.iload_n 1, 13, 8, 0, 0, 0), (.aload_n 0, 14, 9, 0, 0, 0), (.getfield 45, 15, 10, 11, 26, 0), (.iload_n 1, 18, 11, 0, 0, 0), (.iaload, 19, 12, 0, 0, 0), (.iastore, 20, 13, 0, 0, 0), (.iinc 1 1, 21, 14, 0, 0, 0), (.goto (-22), 24, 15, 2, 0, 0), (.return_, 27, 16, 0, 0, 0)]],
   [], 157)
/-- HeardVotesModel.acted()V: 158 -/
def TX11_acted : TB := ([[(.aload_n 0, 0, 1, 0, 0, 0), (.invokevirtual 211, 1, 2, 159, 0, 0), (.iconst 0, 4, 3, 0, 0, 0), (.istore_n 1, 5, 4, 0, 0, 0), (.iload_n 1, 6, 5, 0, 0, 0), (.sipush 322, 7, 6, 0, 0, 0), (.if_icmp .ge 21, 10, 7, 17, 0, 0), (.aload_n 0, 13, 8, 0, 0, 0), (.getfield 45, 14, 9, 11, 26, 0), (.iload_n 1, 17, 10, 0, 0, 0), (.aload_n 0, 18, 11, 0, 0, 0), (.getfield 48, 19, 12, 11, 27, 0), (.iload_n 1, 22, 13, 0, 0, 0), (.iaload, 23, 14, 0, 0, 0), (.iastore, 24, 15, 0, 0, 0), (.iinc 1 1, 25, 16, 0, 0, 0)],
   [(.goto (-22), 28, 17, 4, 0, 0), (.return_, 31, 18, 0, 0, 0)]],
   [], 158)
/-- HeardVotesModel.remembers()V: 159 -/
def TX11_remembers : TB := ([[(.aload_n 0, 0, 1, 0, 0, 0), (.getfield 208, 1, 2, 11, 29, 0), (.bipush 10, 4, 3, 0, 0, 0), (.if_icmp .ne 49, 6, 4, 30, 0, 0), (.aload_n 0, 9, 5, 0, 0, 0), (.dup, 10, 6, 0, 0, 0), (.getfield 208, 11, 7, 11, 29, 0), (.iconst 1, 14, 8, 0, 0, 0), (.isub, 15, 9, 0, 0, 0), (.putfield 208, 16, 10, 11, 29, 0), (.iconst 0, 19, 11, 0, 0, 0), (.istore_n 1, 20, 12, 0, 0, 0), (.iload_n 1, 21, 13, 0, 0, 0), (.sipush 322, 22, 14, 0, 0, 0), (.aload_n 0, 25, 15, 0, 0, 0), (.getfield 208, 26, 16, 11, 29, 0)],
   [(.imul, 29, 17, 0, 0, 0), (.if_icmp .ge 25, 30, 18, 30, 0, 0), (.aload_n 0, 33, 19, 0, 0, 0), (.getfield 51, 34, 20, 11, 28, 0), (.iload_n 1, 37, 21, 0, 0, 0), (.aload_n 0, 38, 22, 0, 0, 0), (.getfield 51, 39, 23, 11, 28, 0), (.iload_n 1, 42, 24, 0, 0, 0), (.sipush 322, 43, 25, 0, 0, 0), (.iadd, 46, 26, 0, 0, 0), (.iaload, 47, 27, 0, 0, 0), (.iastore, 48, 28, 0, 0, 0), (.iinc 1 1, 49, 29, 0, 0, 0), (.goto (-31), 52, 30, 12, 0, 0), (.iconst 0, 55, 31, 0, 0, 0), (.istore_n 1, 56, 32, 0, 0, 0)],
   [(.iload_n 1, 57, 33, 0, 0, 0), (.sipush 322, 58, 34, 0, 0, 0), (.if_icmp .ge 30, 61, 35, 50, 0, 0), (.aload_n 0, 64, 36, 0, 0, 0), (.getfield 51, 65, 37, 11, 28, 0), (.sipush 322, 68, 38, 0, 0, 0), (.aload_n 0, 71, 39, 0, 0, 0), (.getfield 208, 72, 40, 11, 29, 0), (.imul, 75, 41, 0, 0, 0), (.iload_n 1, 76, 42, 0, 0, 0), (.iadd, 77, 43, 0, 0, 0), (.aload_n 0, 78, 44, 0, 0, 0), (.getfield 45, 79, 45, 11, 26, 0), (.iload_n 1, 82, 46, 0, 0, 0), (.iaload, 83, 47, 0, 0, 0), (.iastore, 84, 48, 0, 0, 0)],
   [(.iinc 1 1, 85, 49, 0, 0, 0), (.goto (-31), 88, 50, 32, 0, 0), (.aload_n 0, 91, 51, 0, 0, 0), (.dup, 92, 52, 0, 0, 0), (.getfield 208, 93, 53, 11, 29, 0), (.iconst 1, 96, 54, 0, 0, 0), (.iadd, 97, 55, 0, 0, 0), (.putfield 208, 98, 56, 11, 29, 0), (.return_, 101, 57, 0, 0, 0)]],
   [], 159)
/-- HeardVotesModel.undo()I: 160 -/
def TX11_undo : TB := ([[(.aload_n 0, 0, 1, 0, 0, 0), (.iconst 0, 1, 2, 0, 0, 0), (.putfield 96, 2, 3, 11, 0, 0), (.aload_n 0, 5, 4, 0, 0, 0), (.getfield 195, 6, 5, 11, 24, 0), (.ifCond .ne 9, 9, 6, 10, 0, 0), (.aload_n 0, 12, 7, 0, 0, 0), (.iconst 1, 13, 8, 0, 0, 0), (.invokevirtual 185, 14, 9, 138, 1, 0), (.ireturn, 17, 10, 0, 0, 0), (.aload_n 0, 18, 11, 0, 0, 0), (.getfield 208, 19, 12, 11, 29, 0), (.ifCond .ne 9, 22, 13, 17, 0, 0), (.aload_n 0, 25, 14, 0, 0, 0), (.iconst 5, 26, 15, 0, 0, 0), (.invokevirtual 185, 27, 16, 138, 1, 0)],
   [(.ireturn, 30, 17, 0, 0, 0), (.aload_n 0, 31, 18, 0, 0, 0), (.dup, 32, 19, 0, 0, 0), (.getfield 208, 33, 20, 11, 29, 0), (.iconst 1, 36, 21, 0, 0, 0), (.isub, 37, 22, 0, 0, 0), (.putfield 208, 38, 23, 11, 29, 0), (.iconst 0, 41, 24, 0, 0, 0), (.istore_n 1, 42, 25, 0, 0, 0), (.iload_n 1, 43, 26, 0, 0, 0), (.sipush 322, 44, 27, 0, 0, 0), (.if_icmp .ge 30, 47, 28, 43, 0, 0), (.aload_n 0, 50, 29, 0, 0, 0), (.getfield 45, 51, 30, 11, 26, 0), (.iload_n 1, 54, 31, 0, 0, 0), (.aload_n 0, 55, 32, 0, 0, 0)],
   [(.getfield 51, 56, 33, 11, 28, 0), (.sipush 322, 59, 34, 0, 0, 0), (.aload_n 0, 62, 35, 0, 0, 0), (.getfield 208, 63, 36, 11, 29, 0), (.imul, 66, 37, 0, 0, 0), (.iload_n 1, 67, 38, 0, 0, 0), (.iadd, 68, 39, 0, 0, 0), (.iaload, 69, 40, 0, 0, 0), (.iastore, 70, 41, 0, 0, 0), (.iinc 1 1, 71, 42, 0, 0, 0), (.goto (-31), 74, 43, 25, 0, 0), (.aload_n 0, 77, 44, 0, 0, 0), (.aload_n 0, 78, 45, 0, 0, 0), (.getfield 208, 79, 46, 11, 29, 0), (.invokevirtual 198, 82, 47, 139, 1, 0), (.ireturn, 85, 48, 0, 0, 0)]],
   [], 160)
/-- HeardVotesModel.there([III)I: 161 -/
def TX11_there : TB := ([[(.aload_n 0, 0, 1, 0, 0, 0), (.bipush 22, 1, 2, 0, 0, 0), (.iconst 5, 3, 3, 0, 0, 0), (.iload_n 1, 4, 4, 0, 0, 0), (.imul, 5, 5, 0, 0, 0), (.iadd, 6, 6, 0, 0, 0), (.iload_n 2, 7, 7, 0, 0, 0), (.iadd, 8, 8, 0, 0, 0), (.iaload, 9, 9, 0, 0, 0), (.ireturn, 10, 10, 0, 0, 0)]],
   [], 161)
/-- HeardVotesModel.placeOf([II)I: 162 -/
def TX11_placeOf : TB := ([[(.iconst 0, 0, 1, 0, 0, 0), (.istore_n 2, 1, 2, 0, 0, 0), (.iload_n 2, 2, 3, 0, 0, 0), (.aload_n 0, 3, 4, 0, 0, 0), (.bipush 10, 4, 5, 0, 0, 0), (.iaload, 6, 6, 0, 0, 0), (.if_icmp .ge 21, 7, 7, 18, 0, 0), (.aload_n 0, 10, 8, 0, 0, 0), (.bipush 11, 11, 9, 0, 0, 0), (.iload_n 2, 13, 10, 0, 0, 0), (.iadd, 14, 11, 0, 0, 0), (.iaload, 15, 12, 0, 0, 0), (.iload_n 1, 16, 13, 0, 0, 0), (.if_icmp .ne 5, 17, 14, 16, 0, 0), (.iload_n 2, 20, 15, 0, 0, 0), (.ireturn, 21, 16, 0, 0, 0)],
   [(.iinc 2 1, 22, 17, 0, 0, 0), (.goto (-23), 25, 18, 2, 0, 0), (.iconst (-1), 28, 19, 0, 0, 0), (.ireturn, 29, 20, 0, 0, 0)]],
   [], 162)
/-- HeardVotesModel.apart(II)I: 163 -/
def TX11_apart : TB := ([[(.iconst 0, 0, 1, 0, 0, 0), (.istore_n 3, 1, 2, 0, 0, 0), (.iload_n 3, 2, 3, 0, 0, 0), (.iload_n 2, 3, 4, 0, 0, 0), (.if_icmp .gt 16, 4, 5, 12, 0, 0), (.aload_n 0, 7, 6, 0, 0, 0), (.getfield 54, 8, 7, 11, 30, 0), (.iload_n 3, 11, 8, 0, 0, 0), (.iload_n 3, 12, 9, 0, 0, 0), (.iastore, 13, 10, 0, 0, 0), (.iinc 3 1, 14, 11, 0, 0, 0), (.goto (-15), 17, 12, 2, 0, 0), (.iconst 1, 20, 13, 0, 0, 0), (.istore_n 3, 21, 14, 0, 0, 0), (.iload_n 3, 22, 15, 0, 0, 0), (.iload_n 1, 23, 16, 0, 0, 0)],
   [(.if_icmp .gt 143, 24, 17, 97, 0, 0), (.aload_n 0, 27, 18, 0, 0, 0), (.getfield 54, 28, 19, 11, 30, 0), (.iconst 0, 31, 20, 0, 0, 0), (.iaload, 32, 21, 0, 0, 0), (.istore 4, 33, 22, 0, 0, 0), (.aload_n 0, 35, 23, 0, 0, 0), (.getfield 54, 36, 24, 11, 30, 0), (.iconst 0, 39, 25, 0, 0, 0), (.iload_n 3, 40, 26, 0, 0, 0), (.iastore, 41, 27, 0, 0, 0), (.iconst 1, 42, 28, 0, 0, 0), (.istore 5, 43, 29, 0, 0, 0), (.iload 5, 45, 30, 0, 0, 0), (.iload_n 2, 47, 31, 0, 0, 0), (.if_icmp .gt 113, 48, 32, 95, 0, 0)],
   [(.iload 4, 51, 33, 0, 0, 0), (.aload_n 0, 53, 34, 0, 0, 0), (.getfield 57, 54, 35, 11, 31, 0), (.iload_n 3, 57, 36, 0, 0, 0), (.iconst 1, 58, 37, 0, 0, 0), (.isub, 59, 38, 0, 0, 0), (.iaload, 60, 39, 0, 0, 0), (.aload_n 0, 61, 40, 0, 0, 0), (.getfield 60, 62, 41, 11, 32, 0), (.iload 5, 65, 42, 0, 0, 0), (.iconst 1, 67, 43, 0, 0, 0), (.isub, 68, 44, 0, 0, 0), (.iaload, 69, 45, 0, 0, 0), (.if_icmp .ne 7, 70, 46, 48, 0, 0), (.iconst 0, 73, 47, 0, 0, 0), (.goto 4, 74, 48, 49, 0, 0)],
   [(.iconst 1, 77, 49, 0, 0, 0), (.iadd, 78, 50, 0, 0, 0), (.istore 6, 79, 51, 0, 0, 0), (.aload_n 0, 81, 52, 0, 0, 0), (.getfield 54, 82, 53, 11, 30, 0), (.iload 5, 85, 54, 0, 0, 0), (.iaload, 87, 55, 0, 0, 0), (.istore 4, 88, 56, 0, 0, 0), (.aload_n 0, 90, 57, 0, 0, 0), (.getfield 54, 91, 58, 11, 30, 0), (.iload 5, 94, 59, 0, 0, 0), (.iconst 1, 96, 60, 0, 0, 0), (.isub, 97, 61, 0, 0, 0), (.iaload, 98, 62, 0, 0, 0), (.aload_n 0, 99, 63, 0, 0, 0), (.getfield 54, 100, 64, 11, 30, 0)],
   [(.iload 5, 103, 65, 0, 0, 0), (.iaload, 105, 66, 0, 0, 0), (.if_icmp .ge 17, 106, 67, 76, 0, 0), (.aload_n 0, 109, 68, 0, 0, 0), (.getfield 54, 110, 69, 11, 30, 0), (.iload 5, 113, 70, 0, 0, 0), (.iconst 1, 115, 71, 0, 0, 0), (.isub, 116, 72, 0, 0, 0), (.iaload, 117, 73, 0, 0, 0), (.iconst 1, 118, 74, 0, 0, 0), (.iadd, 119, 75, 0, 0, 0), (.goto 12, 120, 76, 82, 0, 0), (.aload_n 0, 123, 77, 0, 0, 0), (.getfield 54, 124, 78, 11, 30, 0), (.iload 5, 127, 79, 0, 0, 0), (.iaload, 129, 80, 0, 0, 0)],
   [(.iconst 1, 130, 81, 0, 0, 0), (.iadd, 131, 82, 0, 0, 0), (.istore 7, 132, 83, 0, 0, 0), (.aload_n 0, 134, 84, 0, 0, 0), (.getfield 54, 135, 85, 11, 30, 0), (.iload 5, 138, 86, 0, 0, 0), (.iload 6, 140, 87, 0, 0, 0), (.iload 7, 142, 88, 0, 0, 0), (.if_icmp .ge 8, 144, 89, 91, 0, 0), (.iload 6, 147, 90, 0, 0, 0), (.goto 5, 149, 91, 92, 0, 0), (.iload 7, 152, 92, 0, 0, 0), (.iastore, 154, 93, 0, 0, 0), (.iinc 5 1, 155, 94, 0, 0, 0), (.goto (-113), 158, 95, 29, 0, 0), (.iinc 3 1, 161, 96, 0, 0, 0)],
   [(.goto (-142), 164, 97, 14, 0, 0), (.aload_n 0, 167, 98, 0, 0, 0), (.getfield 54, 168, 99, 11, 30, 0), (.iload_n 2, 171, 100, 0, 0, 0), (.iaload, 172, 101, 0, 0, 0), (.ireturn, 173, 102, 0, 0, 0)]],
   [], 163)
/-- HeardVotesModel.lettersIn(J)I: 164 -/
def TX11_lettersIn : TB := ([[(.iconst 0, 0, 1, 0, 0, 0), (.istore_n 2, 1, 2, 0, 0, 0), (.lload_n 0, 2, 3, 0, 0, 0), (.lstore_n 3, 3, 4, 0, 0, 0), (.lload_n 3, 4, 5, 0, 0, 0), (.lconst 0, 5, 6, 0, 0, 0), (.lcmp, 6, 7, 0, 0, 0), (.ifCond .le 15, 7, 8, 14, 0, 0), (.iinc 2 1, 10, 9, 0, 0, 0), (.lload_n 3, 13, 10, 0, 0, 0), (.ldc2_w 135, 14, 11, 0, 0, 32), (.ldiv, 17, 12, 0, 0, 0), (.lstore_n 3, 18, 13, 0, 0, 0), (.goto (-15), 19, 14, 4, 0, 0), (.iload_n 2, 22, 15, 0, 0, 0), (.ireturn, 23, 16, 0, 0, 0)]],
   [], 164)
/-- HeardVotesModel.letterIn(JI)I: 165 -/
def TX11_letterIn : TB := ([[(.lload_n 0, 0, 1, 0, 0, 0), (.lstore_n 3, 1, 2, 0, 0, 0), (.lload_n 0, 2, 3, 0, 0, 0), (.invokestatic 214, 3, 4, 164, 1, 0), (.iconst 1, 6, 5, 0, 0, 0), (.isub, 7, 6, 0, 0, 0), (.istore 5, 8, 7, 0, 0, 0), (.iload 5, 10, 8, 0, 0, 0), (.iload_n 2, 12, 9, 0, 0, 0), (.if_icmp .le 15, 13, 10, 16, 0, 0), (.lload_n 3, 16, 11, 0, 0, 0), (.ldc2_w 135, 17, 12, 0, 0, 32), (.ldiv, 20, 13, 0, 0, 0), (.lstore_n 3, 21, 14, 0, 0, 0), (.iinc 5 (-1), 22, 15, 0, 0, 0), (.goto (-15), 25, 16, 7, 0, 0)],
   [(.lload_n 3, 28, 17, 0, 0, 0), (.ldc2_w 135, 29, 18, 0, 0, 32), (.lrem, 32, 19, 0, 0, 0), (.l2i, 33, 20, 0, 0, 0), (.iconst 1, 34, 21, 0, 0, 0), (.isub, 35, 22, 0, 0, 0), (.ireturn, 36, 23, 0, 0, 0)]],
   [], 165)
/-- HeardVotesModel.farOf(II)I: 166 -/
def TX11_farOf : TB := ([[(.aload_n 0, 0, 1, 0, 0, 0), (.getfield 24, 1, 2, 11, 16, 0), (.iload_n 1, 4, 3, 0, 0, 0), (.laload, 5, 4, 0, 0, 0), (.invokestatic 214, 6, 5, 164, 1, 0), (.istore_n 3, 9, 6, 0, 0, 0), (.aload_n 0, 10, 7, 0, 0, 0), (.getfield 24, 11, 8, 11, 16, 0), (.iload_n 2, 14, 9, 0, 0, 0), (.laload, 15, 10, 0, 0, 0), (.invokestatic 214, 16, 11, 164, 1, 0), (.istore 4, 19, 12, 0, 0, 0), (.iconst 0, 21, 13, 0, 0, 0), (.istore 5, 22, 14, 0, 0, 0), (.iload 5, 24, 15, 0, 0, 0), (.iload_n 3, 26, 16, 0, 0, 0)],
   [(.if_icmp .ge 27, 27, 17, 29, 0, 0), (.aload_n 0, 30, 18, 0, 0, 0), (.getfield 57, 31, 19, 11, 31, 0), (.iload 5, 34, 20, 0, 0, 0), (.aload_n 0, 36, 21, 0, 0, 0), (.getfield 24, 37, 22, 11, 16, 0), (.iload_n 1, 40, 23, 0, 0, 0), (.laload, 41, 24, 0, 0, 0), (.iload 5, 42, 25, 0, 0, 0), (.invokestatic 218, 44, 26, 165, 2, 0), (.iastore, 47, 27, 0, 0, 0), (.iinc 5 1, 48, 28, 0, 0, 0), (.goto (-27), 51, 29, 14, 0, 0), (.iconst 0, 54, 30, 0, 0, 0), (.istore 5, 55, 31, 0, 0, 0), (.iload 5, 57, 32, 0, 0, 0)],
   [(.iload 4, 59, 33, 0, 0, 0), (.if_icmp .ge 27, 61, 34, 46, 0, 0), (.aload_n 0, 64, 35, 0, 0, 0), (.getfield 60, 65, 36, 11, 32, 0), (.iload 5, 68, 37, 0, 0, 0), (.aload_n 0, 70, 38, 0, 0, 0), (.getfield 24, 71, 39, 11, 16, 0), (.iload_n 2, 74, 40, 0, 0, 0), (.laload, 75, 41, 0, 0, 0), (.iload 5, 76, 42, 0, 0, 0), (.invokestatic 218, 78, 43, 165, 2, 0), (.iastore, 81, 44, 0, 0, 0), (.iinc 5 1, 82, 45, 0, 0, 0), (.goto (-28), 85, 46, 31, 0, 0), (.aload_n 0, 88, 47, 0, 0, 0), (.iload_n 3, 89, 48, 0, 0, 0)],
   [(.iload 4, 90, 49, 0, 0, 0), (.invokevirtual 222, 92, 50, 163, 2, 0), (.ireturn, 95, 51, 0, 0, 0)]],
   [], 166)
/-- HeardVotesModel.timeOf([II)I: 167 -/
def TX11_timeOf : TB := ([[(.iconst 0, 0, 1, 0, 0, 0), (.istore_n 3, 1, 2, 0, 0, 0), (.iconst 0, 2, 3, 0, 0, 0), (.istore 4, 3, 4, 0, 0, 0), (.iconst 0, 5, 5, 0, 0, 0), (.istore 5, 6, 6, 0, 0, 0), (.iload 5, 8, 7, 0, 0, 0), (.aload_n 0, 10, 8, 0, 0, 0), (.getfield 195, 11, 9, 11, 24, 0), (.if_icmp .ge 60, 14, 10, 45, 0, 0), (.aload_n 1, 17, 11, 0, 0, 0), (.iload_n 2, 18, 12, 0, 0, 0), (.iload 5, 19, 13, 0, 0, 0), (.invokestatic 225, 21, 14, 161, 3, 0), (.istore 6, 24, 15, 0, 0, 0), (.iload 6, 26, 16, 0, 0, 0)],
   [(.ifCond .ge 6, 28, 17, 18, 0, 0), (.goto 37, 31, 18, 43, 0, 0), (.iload_n 3, 34, 19, 0, 0, 0), (.aload_n 1, 35, 20, 0, 0, 0), (.iconst 5, 36, 21, 0, 0, 0), (.iload 5, 37, 22, 0, 0, 0), (.iadd, 39, 23, 0, 0, 0), (.iaload, 40, 24, 0, 0, 0), (.aload_n 0, 41, 25, 0, 0, 0), (.getfield 42, 42, 26, 11, 22, 0), (.bipush 12, 45, 27, 0, 0, 0), (.iload 5, 47, 28, 0, 0, 0), (.imul, 49, 29, 0, 0, 0), (.iload 6, 50, 30, 0, 0, 0), (.iadd, 52, 31, 0, 0, 0), (.iaload, 53, 32, 0, 0, 0)],
   [(.imul, 54, 33, 0, 0, 0), (.iadd, 55, 34, 0, 0, 0), (.istore_n 3, 56, 35, 0, 0, 0), (.iload 4, 57, 36, 0, 0, 0), (.aload_n 1, 59, 37, 0, 0, 0), (.iconst 5, 60, 38, 0, 0, 0), (.iload 5, 61, 39, 0, 0, 0), (.iadd, 63, 40, 0, 0, 0), (.iaload, 64, 41, 0, 0, 0), (.iadd, 65, 42, 0, 0, 0), (.istore 4, 66, 43, 0, 0, 0), (.iinc 5 1, 68, 44, 0, 0, 0), (.goto (-63), 71, 45, 6, 0, 0), (.iload_n 3, 74, 46, 0, 0, 0), (.iload 4, 75, 47, 0, 0, 0), (.idiv, 77, 48, 0, 0, 0)],
   [(.ireturn, 78, 49, 0, 0, 0)]],
   [], 167)
/-- HeardVotesModel.match([IIII)I: 168 -/
def TX11_match : TB := ([[(.bipush 12, 0, 1, 0, 0, 0), (.iload_n 2, 2, 2, 0, 0, 0), (.imul, 3, 3, 0, 0, 0), (.iload_n 3, 4, 4, 0, 0, 0), (.iadd, 5, 5, 0, 0, 0), (.istore 5, 6, 6, 0, 0, 0), (.aload_n 1, 8, 7, 0, 0, 0), (.iconst 2, 9, 8, 0, 0, 0), (.iaload, 10, 9, 0, 0, 0), (.istore 6, 11, 10, 0, 0, 0), (.iconst 0, 13, 11, 0, 0, 0), (.istore 7, 14, 12, 0, 0, 0), (.iload 7, 16, 13, 0, 0, 0), (.aload_n 0, 18, 14, 0, 0, 0), (.getfield 195, 19, 15, 11, 24, 0), (.if_icmp .ge 69, 22, 16, 48, 0, 0)],
   [(.aload_n 1, 25, 17, 0, 0, 0), (.iload 4, 26, 18, 0, 0, 0), (.iload 7, 28, 19, 0, 0, 0), (.invokestatic 225, 30, 20, 161, 3, 0), (.istore 8, 33, 21, 0, 0, 0), (.iload 8, 35, 22, 0, 0, 0), (.ifCond .ge 6, 37, 23, 24, 0, 0), (.goto 45, 40, 24, 46, 0, 0), (.aload_n 0, 43, 25, 0, 0, 0), (.aload_n 0, 44, 26, 0, 0, 0), (.getfield 39, 45, 27, 11, 21, 0), (.iload 5, 48, 28, 0, 0, 0), (.iaload, 50, 29, 0, 0, 0), (.aload_n 0, 51, 30, 0, 0, 0), (.getfield 39, 52, 31, 11, 21, 0), (.bipush 12, 55, 32, 0, 0, 0)],
   [(.iload 7, 57, 33, 0, 0, 0), (.imul, 59, 34, 0, 0, 0), (.iload 8, 60, 35, 0, 0, 0), (.iadd, 62, 36, 0, 0, 0), (.iaload, 63, 37, 0, 0, 0), (.invokevirtual 229, 64, 38, 166, 2, 0), (.istore 9, 67, 39, 0, 0, 0), (.iload 9, 69, 40, 0, 0, 0), (.iload 6, 71, 41, 0, 0, 0), (.if_icmp .ge 8, 73, 42, 44, 0, 0), (.iload 9, 76, 43, 0, 0, 0), (.goto 5, 78, 44, 45, 0, 0), (.iload 6, 81, 45, 0, 0, 0), (.istore 6, 83, 46, 0, 0, 0), (.iinc 7 1, 85, 47, 0, 0, 0), (.goto (-72), 88, 48, 12, 0, 0)],
   [(.aload_n 0, 91, 49, 0, 0, 0), (.getfield 42, 92, 50, 11, 22, 0), (.iload 5, 95, 51, 0, 0, 0), (.iaload, 97, 52, 0, 0, 0), (.aload_n 0, 98, 53, 0, 0, 0), (.aload_n 1, 99, 54, 0, 0, 0), (.iload 4, 100, 55, 0, 0, 0), (.invokevirtual 232, 102, 56, 167, 2, 0), (.isub, 105, 57, 0, 0, 0), (.istore 7, 106, 58, 0, 0, 0), (.iload 6, 108, 59, 0, 0, 0), (.iload 7, 110, 60, 0, 0, 0), (.aload_n 1, 112, 61, 0, 0, 0), (.iconst 3, 113, 62, 0, 0, 0), (.iaload, 114, 63, 0, 0, 0), (.if_icmp .gt 12, 115, 64, 70, 0, 0)],
   [(.iload 7, 118, 65, 0, 0, 0), (.ineg, 120, 66, 0, 0, 0), (.aload_n 1, 121, 67, 0, 0, 0), (.iconst 3, 122, 68, 0, 0, 0), (.iaload, 123, 69, 0, 0, 0), (.if_icmp .le 7, 124, 70, 72, 0, 0), (.iconst 1, 127, 71, 0, 0, 0), (.goto 4, 128, 72, 73, 0, 0), (.iconst 0, 131, 73, 0, 0, 0), (.iadd, 132, 74, 0, 0, 0), (.ireturn, 133, 75, 0, 0, 0)]],
   [], 168)
/-- HeardVotesModel.ways([II)I: 169 -/
def TX11_ways : TB := ([[(.aload_n 0, 0, 1, 0, 0, 0), (.getfield 36, 1, 2, 11, 20, 0), (.iload_n 2, 4, 3, 0, 0, 0), (.iaload, 5, 4, 0, 0, 0), (.istore_n 3, 6, 5, 0, 0, 0), (.aload_n 1, 7, 6, 0, 0, 0), (.bipush 21, 8, 7, 0, 0, 0), (.iaload, 10, 8, 0, 0, 0), (.istore 4, 11, 9, 0, 0, 0), (.iload_n 3, 13, 10, 0, 0, 0), (.istore 5, 14, 11, 0, 0, 0), (.iload 5, 16, 12, 0, 0, 0), (.ifCond .lt 244, 18, 13, 157, 0, 0), (.iload 4, 21, 14, 0, 0, 0), (.istore 6, 23, 15, 0, 0, 0), (.iload 6, 25, 16, 0, 0, 0)],
   [(.ifCond .lt 229, 27, 17, 155, 0, 0), (.iload 5, 30, 18, 0, 0, 0), (.iload_n 3, 32, 19, 0, 0, 0), (.if_icmp .ne 14, 33, 20, 25, 0, 0), (.iload 6, 36, 21, 0, 0, 0), (.iload 4, 38, 22, 0, 0, 0), (.if_icmp .ne 7, 40, 23, 25, 0, 0), (.iconst 0, 43, 24, 0, 0, 0), (.goto 4, 44, 25, 26, 0, 0), (.iconst (-1), 47, 26, 0, 0, 0), (.istore 7, 48, 27, 0, 0, 0), (.iconst (-1), 50, 28, 0, 0, 0), (.istore 8, 51, 29, 0, 0, 0), (.iload 5, 53, 30, 0, 0, 0), (.iload_n 3, 55, 31, 0, 0, 0), (.if_icmp .ge 43, 56, 32, 57, 0, 0)],
   [(.iload 6, 59, 33, 0, 0, 0), (.iload 4, 61, 34, 0, 0, 0), (.if_icmp .ge 36, 63, 35, 57, 0, 0), (.aload_n 0, 66, 36, 0, 0, 0), (.aload_n 1, 67, 37, 0, 0, 0), (.iload_n 2, 68, 38, 0, 0, 0), (.iload 5, 69, 39, 0, 0, 0), (.iload 6, 71, 40, 0, 0, 0), (.invokevirtual 236, 73, 41, 168, 4, 0), (.aload_n 0, 76, 42, 0, 0, 0), (.getfield 63, 77, 43, 11, 33, 0), (.bipush 61, 80, 44, 0, 0, 0), (.iload 5, 82, 45, 0, 0, 0), (.iconst 1, 84, 46, 0, 0, 0), (.iadd, 85, 47, 0, 0, 0), (.imul, 86, 48, 0, 0, 0)],
   [(.iload 6, 87, 49, 0, 0, 0), (.iadd, 89, 50, 0, 0, 0), (.iconst 1, 90, 51, 0, 0, 0), (.iadd, 91, 52, 0, 0, 0), (.iaload, 92, 53, 0, 0, 0), (.iadd, 93, 54, 0, 0, 0), (.istore 7, 94, 55, 0, 0, 0), (.iconst 0, 96, 56, 0, 0, 0), (.istore 8, 97, 57, 0, 0, 0), (.iload 6, 99, 58, 0, 0, 0), (.iload 4, 101, 59, 0, 0, 0), (.if_icmp .ge 57, 103, 60, 96, 0, 0), (.iload 8, 106, 61, 0, 0, 0), (.iconst (-1), 108, 62, 0, 0, 0), (.if_icmp .eq 27, 109, 63, 79, 0, 0), (.aload_n 1, 112, 64, 0, 0, 0)],
   [(.iconst 1, 113, 65, 0, 0, 0), (.iaload, 114, 66, 0, 0, 0), (.aload_n 0, 115, 67, 0, 0, 0), (.getfield 63, 116, 68, 11, 33, 0), (.bipush 61, 119, 69, 0, 0, 0), (.iload 5, 121, 70, 0, 0, 0), (.imul, 123, 71, 0, 0, 0), (.iload 6, 124, 72, 0, 0, 0), (.iadd, 126, 73, 0, 0, 0), (.iconst 1, 127, 74, 0, 0, 0), (.iadd, 128, 75, 0, 0, 0), (.iaload, 129, 76, 0, 0, 0), (.iadd, 130, 77, 0, 0, 0), (.iload 7, 131, 78, 0, 0, 0), (.if_icmp .ge 27, 133, 79, 96, 0, 0), (.aload_n 1, 136, 80, 0, 0, 0)],
   [(.iconst 1, 137, 81, 0, 0, 0), (.iaload, 138, 82, 0, 0, 0), (.aload_n 0, 139, 83, 0, 0, 0), (.getfield 63, 140, 84, 11, 33, 0), (.bipush 61, 143, 85, 0, 0, 0), (.iload 5, 145, 86, 0, 0, 0), (.imul, 147, 87, 0, 0, 0), (.iload 6, 148, 88, 0, 0, 0), (.iadd, 150, 89, 0, 0, 0), (.iconst 1, 151, 90, 0, 0, 0), (.iadd, 152, 91, 0, 0, 0), (.iaload, 153, 92, 0, 0, 0), (.iadd, 154, 93, 0, 0, 0), (.istore 7, 155, 94, 0, 0, 0), (.iconst 1, 157, 95, 0, 0, 0), (.istore 8, 158, 96, 0, 0, 0)],
   [(.iload 5, 160, 97, 0, 0, 0), (.iload_n 3, 162, 98, 0, 0, 0), (.if_icmp .ge 57, 163, 99, 135, 0, 0), (.iload 8, 166, 100, 0, 0, 0), (.iconst (-1), 168, 101, 0, 0, 0), (.if_icmp .eq 27, 169, 102, 118, 0, 0), (.aload_n 1, 172, 103, 0, 0, 0), (.iconst 0, 173, 104, 0, 0, 0), (.iaload, 174, 105, 0, 0, 0), (.aload_n 0, 175, 106, 0, 0, 0), (.getfield 63, 176, 107, 11, 33, 0), (.bipush 61, 179, 108, 0, 0, 0), (.iload 5, 181, 109, 0, 0, 0), (.iconst 1, 183, 110, 0, 0, 0), (.iadd, 184, 111, 0, 0, 0), (.imul, 185, 112, 0, 0, 0)],
   [(.iload 6, 186, 113, 0, 0, 0), (.iadd, 188, 114, 0, 0, 0), (.iaload, 189, 115, 0, 0, 0), (.iadd, 190, 116, 0, 0, 0), (.iload 7, 191, 117, 0, 0, 0), (.if_icmp .ge 27, 193, 118, 135, 0, 0), (.aload_n 1, 196, 119, 0, 0, 0), (.iconst 0, 197, 120, 0, 0, 0), (.iaload, 198, 121, 0, 0, 0), (.aload_n 0, 199, 122, 0, 0, 0), (.getfield 63, 200, 123, 11, 33, 0), (.bipush 61, 203, 124, 0, 0, 0), (.iload 5, 205, 125, 0, 0, 0), (.iconst 1, 207, 126, 0, 0, 0), (.iadd, 208, 127, 0, 0, 0), (.imul, 209, 128, 0, 0, 0)],
   [(.iload 6, 210, 129, 0, 0, 0), (.iadd, 212, 130, 0, 0, 0), (.iaload, 213, 131, 0, 0, 0), (.iadd, 214, 132, 0, 0, 0), (.istore 7, 215, 133, 0, 0, 0), (.iconst 2, 217, 134, 0, 0, 0), (.istore 8, 218, 135, 0, 0, 0), (.aload_n 0, 220, 136, 0, 0, 0), (.getfield 63, 221, 137, 11, 33, 0), (.bipush 61, 224, 138, 0, 0, 0), (.iload 5, 226, 139, 0, 0, 0), (.imul, 228, 140, 0, 0, 0), (.iload 6, 229, 141, 0, 0, 0), (.iadd, 231, 142, 0, 0, 0), (.iload 7, 232, 143, 0, 0, 0), (.iastore, 234, 144, 0, 0, 0)],
   [(.aload_n 0, 235, 145, 0, 0, 0), (.getfield 66, 236, 146, 11, 34, 0), (.bipush 61, 239, 147, 0, 0, 0), (.iload 5, 241, 148, 0, 0, 0), (.imul, 243, 149, 0, 0, 0), (.iload 6, 244, 150, 0, 0, 0), (.iadd, 246, 151, 0, 0, 0), (.iload 8, 247, 152, 0, 0, 0), (.iastore, 249, 153, 0, 0, 0), (.iinc 6 (-1), 250, 154, 0, 0, 0), (.goto (-228), 253, 155, 15, 0, 0), (.iinc 5 (-1), 256, 156, 0, 0, 0), (.goto (-243), 259, 157, 11, 0, 0), (.aload_n 0, 262, 158, 0, 0, 0), (.getfield 63, 263, 159, 11, 33, 0), (.iconst 0, 266, 160, 0, 0, 0)],
   [(.iaload, 267, 161, 0, 0, 0), (.ireturn, 268, 162, 0, 0, 0)]],
   [], 169)
/-- HeardVotesModel.joins([II)I: 170 -/
def TX11_joins : TB := ([[(.aload_n 0, 0, 1, 0, 0, 0), (.aload_n 1, 1, 2, 0, 0, 0), (.iload_n 2, 2, 3, 0, 0, 0), (.invokevirtual 240, 3, 4, 169, 2, 0), (.istore_n 3, 6, 5, 0, 0, 0), (.iconst 0, 7, 6, 0, 0, 0), (.istore 4, 8, 7, 0, 0, 0), (.iconst 0, 10, 8, 0, 0, 0), (.istore 5, 11, 9, 0, 0, 0), (.iconst 0, 13, 10, 0, 0, 0), (.istore 6, 14, 11, 0, 0, 0), (.aload_n 0, 16, 12, 0, 0, 0), (.getfield 66, 17, 13, 11, 34, 0), (.iconst 0, 20, 14, 0, 0, 0), (.iaload, 21, 15, 0, 0, 0), (.istore 7, 22, 16, 0, 0, 0)],
   [(.iload 7, 24, 17, 0, 0, 0), (.iconst (-1), 26, 18, 0, 0, 0), (.if_icmp .eq 124, 27, 19, 86, 0, 0), (.iconst 0, 30, 20, 0, 0, 0), (.istore 8, 31, 21, 0, 0, 0), (.iload 8, 33, 22, 0, 0, 0), (.iconst 5, 35, 23, 0, 0, 0), (.if_icmp .ge 39, 36, 24, 43, 0, 0), (.aload_n 0, 39, 25, 0, 0, 0), (.getfield 69, 40, 26, 11, 35, 0), (.iconst 5, 43, 27, 0, 0, 0), (.iload 6, 44, 28, 0, 0, 0), (.imul, 46, 29, 0, 0, 0), (.iload 8, 47, 30, 0, 0, 0), (.iadd, 49, 31, 0, 0, 0), (.iload 7, 50, 32, 0, 0, 0)],
   [(.iconst 2, 52, 33, 0, 0, 0), (.if_icmp .ne 7, 53, 34, 36, 0, 0), (.iconst (-1), 56, 35, 0, 0, 0), (.goto 11, 57, 36, 40, 0, 0), (.aload_n 1, 60, 37, 0, 0, 0), (.iload 5, 61, 38, 0, 0, 0), (.iload 8, 63, 39, 0, 0, 0), (.invokestatic 225, 65, 40, 161, 3, 0), (.iastore, 68, 41, 0, 0, 0), (.iinc 8 1, 69, 42, 0, 0, 0), (.goto (-39), 72, 43, 21, 0, 0), (.aload_n 0, 75, 44, 0, 0, 0), (.getfield 69, 76, 45, 11, 35, 0), (.iconst 5, 79, 46, 0, 0, 0), (.iload 6, 80, 47, 0, 0, 0), (.imul, 82, 48, 0, 0, 0)],
   [(.iload_n 2, 83, 49, 0, 0, 0), (.iadd, 84, 50, 0, 0, 0), (.iload 7, 85, 51, 0, 0, 0), (.iconst 1, 87, 52, 0, 0, 0), (.if_icmp .ne 7, 88, 53, 55, 0, 0), (.iconst (-1), 91, 54, 0, 0, 0), (.goto 5, 92, 55, 56, 0, 0), (.iload 4, 95, 56, 0, 0, 0), (.iastore, 97, 57, 0, 0, 0), (.iload 4, 98, 58, 0, 0, 0), (.iload 7, 100, 59, 0, 0, 0), (.iconst 1, 102, 60, 0, 0, 0), (.if_icmp .ne 7, 103, 61, 63, 0, 0), (.iconst 0, 106, 62, 0, 0, 0), (.goto 4, 107, 63, 64, 0, 0), (.iconst 1, 110, 64, 0, 0, 0)],
   [(.iadd, 111, 65, 0, 0, 0), (.istore 4, 112, 66, 0, 0, 0), (.iload 5, 114, 67, 0, 0, 0), (.iload 7, 116, 68, 0, 0, 0), (.iconst 2, 118, 69, 0, 0, 0), (.if_icmp .ne 7, 119, 70, 72, 0, 0), (.iconst 0, 122, 71, 0, 0, 0), (.goto 4, 123, 72, 73, 0, 0), (.iconst 1, 126, 73, 0, 0, 0), (.iadd, 127, 74, 0, 0, 0), (.istore 5, 128, 75, 0, 0, 0), (.iinc 6 1, 130, 76, 0, 0, 0), (.aload_n 0, 133, 77, 0, 0, 0), (.getfield 66, 134, 78, 11, 34, 0), (.bipush 61, 137, 79, 0, 0, 0), (.iload 4, 139, 80, 0, 0, 0)],
   [(.imul, 141, 81, 0, 0, 0), (.iload 5, 142, 82, 0, 0, 0), (.iadd, 144, 83, 0, 0, 0), (.iaload, 145, 84, 0, 0, 0), (.istore 7, 146, 85, 0, 0, 0), (.goto (-124), 148, 86, 16, 0, 0), (.iconst 0, 151, 87, 0, 0, 0), (.istore 7, 152, 88, 0, 0, 0), (.iload 7, 154, 89, 0, 0, 0), (.iconst 5, 156, 90, 0, 0, 0), (.iload 6, 157, 91, 0, 0, 0), (.imul, 159, 92, 0, 0, 0), (.if_icmp .ge 23, 160, 93, 104, 0, 0), (.aload_n 1, 163, 94, 0, 0, 0), (.bipush 22, 164, 95, 0, 0, 0), (.iload 7, 166, 96, 0, 0, 0)],
   [(.iadd, 168, 97, 0, 0, 0), (.aload_n 0, 169, 98, 0, 0, 0), (.getfield 69, 170, 99, 11, 35, 0), (.iload 7, 173, 100, 0, 0, 0), (.iaload, 175, 101, 0, 0, 0), (.iastore, 176, 102, 0, 0, 0), (.iinc 7 1, 177, 103, 0, 0, 0), (.goto (-26), 180, 104, 88, 0, 0), (.aload_n 1, 183, 105, 0, 0, 0), (.bipush 21, 184, 106, 0, 0, 0), (.iload 6, 186, 107, 0, 0, 0), (.iastore, 188, 108, 0, 0, 0), (.aload_n 1, 189, 109, 0, 0, 0), (.bipush 16, 190, 110, 0, 0, 0), (.aload_n 1, 192, 111, 0, 0, 0), (.bipush 10, 193, 112, 0, 0, 0)],
   [(.iaload, 195, 113, 0, 0, 0), (.iadd, 196, 114, 0, 0, 0), (.iload_n 3, 197, 115, 0, 0, 0), (.iastore, 198, 116, 0, 0, 0), (.aload_n 1, 199, 117, 0, 0, 0), (.bipush 11, 200, 118, 0, 0, 0), (.aload_n 1, 202, 119, 0, 0, 0), (.bipush 10, 203, 120, 0, 0, 0), (.iaload, 205, 121, 0, 0, 0), (.iadd, 206, 122, 0, 0, 0), (.iload_n 2, 207, 123, 0, 0, 0), (.iastore, 208, 124, 0, 0, 0), (.aload_n 1, 209, 125, 0, 0, 0), (.bipush 10, 210, 126, 0, 0, 0), (.dup2, 212, 127, 0, 0, 0), (.iaload, 213, 128, 0, 0, 0)],
   [(.iconst 1, 214, 129, 0, 0, 0), (.iadd, 215, 130, 0, 0, 0), (.iastore, 216, 131, 0, 0, 0), (.iload_n 3, 217, 132, 0, 0, 0), (.ireturn, 218, 133, 0, 0, 0)]],
   [], 170)
/-- HeardVotesModel.votes([II)V: 171 -/
def TX11_votes : TB := ([[(.aload_n 0, 0, 1, 0, 0, 0), (.iconst 0, 1, 2, 0, 0, 0), (.putfield 243, 2, 3, 11, 38, 0), (.aload_n 0, 5, 4, 0, 0, 0), (.iconst 0, 6, 5, 0, 0, 0), (.putfield 246, 7, 6, 11, 39, 0), (.iconst (-1), 10, 7, 0, 0, 0), (.istore_n 3, 11, 8, 0, 0, 0), (.iconst 0, 12, 9, 0, 0, 0), (.istore 4, 13, 10, 0, 0, 0), (.iload 4, 15, 11, 0, 0, 0), (.aload_n 0, 17, 12, 0, 0, 0), (.getfield 195, 18, 13, 11, 24, 0), (.if_icmp .ge 86, 21, 14, 63, 0, 0), (.aload_n 1, 24, 15, 0, 0, 0), (.iload 4, 25, 16, 0, 0, 0)],
   [(.invokestatic 249, 27, 17, 162, 2, 0), (.iconst (-1), 30, 18, 0, 0, 0), (.if_icmp .ne 6, 31, 19, 20, 0, 0), (.goto 67, 34, 20, 61, 0, 0), (.aload_n 1, 37, 21, 0, 0, 0), (.iload_n 2, 38, 22, 0, 0, 0), (.iload 4, 39, 23, 0, 0, 0), (.invokestatic 225, 41, 24, 161, 3, 0), (.istore 5, 44, 25, 0, 0, 0), (.iload 5, 46, 26, 0, 0, 0), (.ifCond .ge 27, 48, 27, 44, 0, 0), (.iload_n 3, 51, 28, 0, 0, 0), (.ifCond .ge 7, 52, 29, 31, 0, 0), (.iconst 0, 55, 30, 0, 0, 0), (.goto 4, 56, 31, 32, 0, 0), (.iload_n 3, 59, 32, 0, 0, 0)],
   [(.aload_n 1, 60, 33, 0, 0, 0), (.iconst 4, 61, 34, 0, 0, 0), (.iaload, 62, 35, 0, 0, 0), (.aload_n 1, 63, 36, 0, 0, 0), (.iconst 5, 64, 37, 0, 0, 0), (.iload 4, 65, 38, 0, 0, 0), (.iadd, 67, 39, 0, 0, 0), (.iaload, 68, 40, 0, 0, 0), (.imul, 69, 41, 0, 0, 0), (.iadd, 70, 42, 0, 0, 0), (.istore_n 3, 71, 43, 0, 0, 0), (.goto 29, 72, 44, 61, 0, 0), (.aload_n 0, 75, 45, 0, 0, 0), (.aload_n 0, 76, 46, 0, 0, 0), (.getfield 39, 77, 47, 11, 21, 0), (.bipush 12, 80, 48, 0, 0, 0)],
   [(.iload 4, 82, 49, 0, 0, 0), (.imul, 84, 50, 0, 0, 0), (.iload 5, 85, 51, 0, 0, 0), (.iadd, 87, 52, 0, 0, 0), (.iaload, 88, 53, 0, 0, 0), (.bipush 100, 89, 54, 0, 0, 0), (.aload_n 1, 91, 55, 0, 0, 0), (.iconst 5, 92, 56, 0, 0, 0), (.iload 4, 93, 57, 0, 0, 0), (.iadd, 95, 58, 0, 0, 0), (.iaload, 96, 59, 0, 0, 0), (.imul, 97, 60, 0, 0, 0), (.invokevirtual 252, 98, 61, 172, 2, 0), (.iinc 4 1, 101, 62, 0, 0, 0), (.goto (-89), 104, 63, 10, 0, 0), (.iload_n 3, 107, 64, 0, 0, 0)],
   [(.ifCond .lt 10, 108, 65, 69, 0, 0), (.aload_n 0, 111, 66, 0, 0, 0), (.bipush (-2), 112, 67, 0, 0, 0), (.iload_n 3, 114, 68, 0, 0, 0), (.invokevirtual 252, 115, 69, 172, 2, 0), (.iconst 0, 118, 70, 0, 0, 0), (.istore 4, 119, 71, 0, 0, 0), (.iload 4, 121, 72, 0, 0, 0), (.aload_n 0, 123, 73, 0, 0, 0), (.getfield 243, 124, 74, 11, 38, 0), (.if_icmp .ge 25, 127, 75, 86, 0, 0), (.aload_n 0, 130, 76, 0, 0, 0), (.dup, 131, 77, 0, 0, 0), (.getfield 246, 132, 78, 11, 39, 0), (.aload_n 0, 135, 79, 0, 0, 0), (.getfield 75, 136, 80, 11, 37, 0)],
   [(.iload 4, 139, 81, 0, 0, 0), (.iaload, 141, 82, 0, 0, 0), (.iadd, 142, 83, 0, 0, 0), (.putfield 246, 143, 84, 11, 39, 0), (.iinc 4 1, 146, 85, 0, 0, 0), (.goto (-28), 149, 86, 71, 0, 0), (.iconst 1, 152, 87, 0, 0, 0), (.istore 4, 153, 88, 0, 0, 0), (.iload 4, 155, 89, 0, 0, 0), (.aload_n 0, 157, 90, 0, 0, 0), (.getfield 243, 158, 91, 11, 38, 0), (.if_icmp .ge 43, 161, 92, 110, 0, 0), (.iload 4, 164, 93, 0, 0, 0), (.istore 5, 166, 94, 0, 0, 0), (.iload 5, 168, 95, 0, 0, 0), (.ifCond .le 28, 170, 96, 108, 0, 0)],
   [(.aload_n 0, 173, 97, 0, 0, 0), (.iload 5, 174, 98, 0, 0, 0), (.iload 5, 176, 99, 0, 0, 0), (.iconst 1, 178, 100, 0, 0, 0), (.isub, 179, 101, 0, 0, 0), (.invokevirtual 256, 180, 102, 173, 2, 0), (.ifCond .eq 15, 183, 103, 108, 0, 0), (.aload_n 0, 186, 104, 0, 0, 0), (.iload 5, 187, 105, 0, 0, 0), (.invokevirtual 260, 189, 106, 174, 1, 0), (.iinc 5 (-1), 192, 107, 0, 0, 0), (.goto (-27), 195, 108, 94, 0, 0), (.iinc 4 1, 198, 109, 0, 0, 0), (.goto (-46), 201, 110, 88, 0, 0), (.return_, 204, 111, 0, 0, 0)]],
   [], 171)
/-- HeardVotesModel.gives(II)V: 172 -/
def TX11_gives : TB := ([[(.iconst 0, 0, 1, 0, 0, 0), (.istore_n 3, 1, 2, 0, 0, 0), (.iload_n 3, 2, 3, 0, 0, 0), (.aload_n 0, 3, 4, 0, 0, 0), (.getfield 243, 4, 5, 11, 38, 0), (.if_icmp .ge 33, 7, 6, 24, 0, 0), (.aload_n 0, 10, 7, 0, 0, 0), (.getfield 72, 11, 8, 11, 36, 0), (.iload_n 3, 14, 9, 0, 0, 0), (.iaload, 15, 10, 0, 0, 0), (.iload_n 1, 16, 11, 0, 0, 0), (.if_icmp .eq 6, 17, 12, 13, 0, 0), (.goto 14, 20, 13, 22, 0, 0), (.aload_n 0, 23, 14, 0, 0, 0), (.getfield 75, 24, 15, 11, 37, 0), (.iload_n 3, 27, 16, 0, 0, 0)],
   [(.dup2, 28, 17, 0, 0, 0), (.iaload, 29, 18, 0, 0, 0), (.iload_n 2, 30, 19, 0, 0, 0), (.iadd, 31, 20, 0, 0, 0), (.iastore, 32, 21, 0, 0, 0), (.return_, 33, 22, 0, 0, 0), (.iinc 3 1, 34, 23, 0, 0, 0), (.goto (-35), 37, 24, 2, 0, 0), (.aload_n 0, 40, 25, 0, 0, 0), (.getfield 72, 41, 26, 11, 36, 0), (.aload_n 0, 44, 27, 0, 0, 0), (.getfield 243, 45, 28, 11, 38, 0), (.iload_n 1, 48, 29, 0, 0, 0), (.iastore, 49, 30, 0, 0, 0), (.aload_n 0, 50, 31, 0, 0, 0), (.getfield 75, 51, 32, 11, 37, 0)],
   [(.aload_n 0, 54, 33, 0, 0, 0), (.getfield 243, 55, 34, 11, 38, 0), (.iload_n 2, 58, 35, 0, 0, 0), (.iastore, 59, 36, 0, 0, 0), (.aload_n 0, 60, 37, 0, 0, 0), (.dup, 61, 38, 0, 0, 0), (.getfield 243, 62, 39, 11, 38, 0), (.iconst 1, 65, 40, 0, 0, 0), (.iadd, 66, 41, 0, 0, 0), (.putfield 243, 67, 42, 11, 38, 0), (.return_, 70, 43, 0, 0, 0)]],
   [], 172)
/-- HeardVotesModel.isAhead(II)Z: 173 -/
def TX11_isAhead : TB := ([[(.aload_n 0, 0, 1, 0, 0, 0), (.getfield 75, 1, 2, 11, 37, 0), (.iload_n 1, 4, 3, 0, 0, 0), (.iaload, 5, 4, 0, 0, 0), (.aload_n 0, 6, 5, 0, 0, 0), (.getfield 75, 7, 6, 11, 37, 0), (.iload_n 2, 10, 7, 0, 0, 0), (.iaload, 11, 8, 0, 0, 0), (.if_icmp .eq 24, 12, 9, 22, 0, 0), (.aload_n 0, 15, 10, 0, 0, 0), (.getfield 75, 16, 11, 11, 37, 0), (.iload_n 1, 19, 12, 0, 0, 0), (.iaload, 20, 13, 0, 0, 0), (.aload_n 0, 21, 14, 0, 0, 0), (.getfield 75, 22, 15, 11, 37, 0), (.iload_n 2, 25, 16, 0, 0, 0)],
   [(.iaload, 26, 17, 0, 0, 0), (.if_icmp .le 7, 27, 18, 20, 0, 0), (.iconst 1, 30, 19, 0, 0, 0), (.goto 4, 31, 20, 21, 0, 0), (.iconst 0, 34, 21, 0, 0, 0), (.ireturn, 35, 22, 1, 0, 0), (.aload_n 0, 36, 23, 0, 0, 0), (.getfield 72, 37, 24, 11, 36, 0), (.iload_n 2, 40, 25, 0, 0, 0), (.iaload, 41, 26, 0, 0, 0), (.bipush (-2), 42, 27, 0, 0, 0), (.if_icmp .eq 29, 44, 28, 43, 0, 0), (.aload_n 0, 47, 29, 0, 0, 0), (.getfield 72, 48, 30, 11, 36, 0), (.iload_n 1, 51, 31, 0, 0, 0), (.iaload, 52, 32, 0, 0, 0)],
   [(.bipush (-2), 53, 33, 0, 0, 0), (.if_icmp .eq 22, 55, 34, 45, 0, 0), (.aload_n 0, 58, 35, 0, 0, 0), (.getfield 72, 59, 36, 11, 36, 0), (.iload_n 1, 62, 37, 0, 0, 0), (.iaload, 63, 38, 0, 0, 0), (.aload_n 0, 64, 39, 0, 0, 0), (.getfield 72, 65, 40, 11, 36, 0), (.iload_n 2, 68, 41, 0, 0, 0), (.iaload, 69, 42, 0, 0, 0), (.if_icmp .ge 7, 70, 43, 45, 0, 0), (.iconst 1, 73, 44, 0, 0, 0), (.goto 4, 74, 45, 46, 0, 0), (.iconst 0, 77, 46, 0, 0, 0), (.ireturn, 78, 47, 1, 0, 0)]],
   [], 173)
/-- HeardVotesModel.swaps(I)V: 174 -/
def TX11_swaps : TB := ([[(.aload_n 0, 0, 1, 0, 0, 0), (.getfield 72, 1, 2, 11, 36, 0), (.iload_n 1, 4, 3, 0, 0, 0), (.iaload, 5, 4, 0, 0, 0), (.istore_n 2, 6, 5, 0, 0, 0), (.aload_n 0, 7, 6, 0, 0, 0), (.getfield 75, 8, 7, 11, 37, 0), (.iload_n 1, 11, 8, 0, 0, 0), (.iaload, 12, 9, 0, 0, 0), (.istore_n 3, 13, 10, 0, 0, 0), (.aload_n 0, 14, 11, 0, 0, 0), (.getfield 72, 15, 12, 11, 36, 0), (.iload_n 1, 18, 13, 0, 0, 0), (.aload_n 0, 19, 14, 0, 0, 0), (.getfield 72, 20, 15, 11, 36, 0), (.iload_n 1, 23, 16, 0, 0, 0)],
   [(.iconst 1, 24, 17, 0, 0, 0), (.isub, 25, 18, 0, 0, 0), (.iaload, 26, 19, 0, 0, 0), (.iastore, 27, 20, 0, 0, 0), (.aload_n 0, 28, 21, 0, 0, 0), (.getfield 75, 29, 22, 11, 37, 0), (.iload_n 1, 32, 23, 0, 0, 0), (.aload_n 0, 33, 24, 0, 0, 0), (.getfield 75, 34, 25, 11, 37, 0), (.iload_n 1, 37, 26, 0, 0, 0), (.iconst 1, 38, 27, 0, 0, 0), (.isub, 39, 28, 0, 0, 0), (.iaload, 40, 29, 0, 0, 0), (.iastore, 41, 30, 0, 0, 0), (.aload_n 0, 42, 31, 0, 0, 0), (.getfield 72, 43, 32, 11, 36, 0)],
   [(.iload_n 1, 46, 33, 0, 0, 0), (.iconst 1, 47, 34, 0, 0, 0), (.isub, 48, 35, 0, 0, 0), (.iload_n 2, 49, 36, 0, 0, 0), (.iastore, 50, 37, 0, 0, 0), (.aload_n 0, 51, 38, 0, 0, 0), (.getfield 75, 52, 39, 11, 37, 0), (.iload_n 1, 55, 40, 0, 0, 0), (.iconst 1, 56, 41, 0, 0, 0), (.isub, 57, 42, 0, 0, 0), (.iload_n 3, 58, 43, 0, 0, 0), (.iastore, 59, 44, 0, 0, 0), (.return_, 60, 45, 0, 0, 0)]],
   [], 174)
/-- HeardVotesModel.winner([II)I: 175 -/
def TX11_winner : TB := ([[(.aload_n 0, 0, 1, 0, 0, 0), (.aload_n 1, 1, 2, 0, 0, 0), (.iload_n 2, 2, 3, 0, 0, 0), (.invokevirtual 263, 3, 4, 171, 2, 0), (.aload_n 0, 6, 5, 0, 0, 0), (.getfield 72, 7, 6, 11, 36, 0), (.iconst 0, 10, 7, 0, 0, 0), (.iaload, 11, 8, 0, 0, 0), (.ireturn, 12, 9, 0, 0, 0)]],
   [], 175)
/-- HeardVotesModel.doubtOf([II)I: 176 -/
def TX11_doubtOf : TB := ([[(.aload_n 0, 0, 1, 0, 0, 0), (.aload_n 1, 1, 2, 0, 0, 0), (.iload_n 2, 2, 3, 0, 0, 0), (.invokevirtual 263, 3, 4, 171, 2, 0), (.aload_n 0, 6, 5, 0, 0, 0), (.getfield 246, 7, 6, 11, 39, 0), (.aload_n 0, 10, 7, 0, 0, 0), (.getfield 75, 11, 8, 11, 37, 0), (.iconst 0, 14, 9, 0, 0, 0), (.iaload, 15, 10, 0, 0, 0), (.isub, 16, 11, 0, 0, 0), (.aload_n 0, 17, 12, 0, 0, 0), (.getfield 243, 18, 13, 11, 38, 0), (.iconst 1, 21, 14, 0, 0, 0), (.if_icmp .le 12, 22, 15, 20, 0, 0), (.aload_n 0, 25, 16, 0, 0, 0)],
   [(.getfield 75, 26, 17, 11, 37, 0), (.iconst 1, 29, 18, 0, 0, 0), (.iaload, 30, 19, 0, 0, 0), (.goto 4, 31, 20, 21, 0, 0), (.iconst 0, 34, 21, 0, 0, 0), (.iadd, 35, 22, 0, 0, 0), (.ireturn, 36, 23, 0, 0, 0)]],
   [], 176)
/-- HeardVotesModel.heardBy([I[I)I: 177 -/
def TX11_heardBy : TB := ([[(.iconst 0, 0, 1, 0, 0, 0), (.istore_n 3, 1, 2, 0, 0, 0), (.iconst 0, 2, 3, 0, 0, 0), (.istore 4, 3, 4, 0, 0, 0), (.iload 4, 5, 5, 0, 0, 0), (.aload_n 1, 7, 6, 0, 0, 0), (.bipush 21, 8, 7, 0, 0, 0), (.iaload, 10, 8, 0, 0, 0), (.if_icmp .ge 36, 11, 9, 25, 0, 0), (.aload_n 0, 14, 10, 0, 0, 0), (.aload_n 1, 15, 11, 0, 0, 0), (.iload 4, 16, 12, 0, 0, 0), (.invokevirtual 267, 18, 13, 175, 2, 0), (.istore 5, 21, 14, 0, 0, 0), (.iload 5, 23, 15, 0, 0, 0), (.bipush (-2), 25, 16, 0, 0, 0)],
   [(.if_icmp .ne 6, 27, 17, 18, 0, 0), (.goto 11, 30, 18, 23, 0, 0), (.aload_n 2, 33, 19, 0, 0, 0), (.iload_n 3, 34, 20, 0, 0, 0), (.iload 5, 35, 21, 0, 0, 0), (.iastore, 37, 22, 0, 0, 0), (.iinc 3 1, 38, 23, 0, 0, 0), (.iinc 4 1, 41, 24, 0, 0, 0), (.goto (-39), 44, 25, 4, 0, 0), (.iload_n 3, 47, 26, 0, 0, 0), (.ireturn, 48, 27, 0, 0, 0)]],
   [], 177)
/-- HeardVotesModel.slotOf(I)I: 178 -/
def TX11_slotOf : TB := ([[(.iload_n 1, 0, 1, 0, 0, 0), (.istore_n 2, 1, 2, 0, 0, 0), (.iconst 0, 2, 3, 0, 0, 0), (.istore_n 3, 3, 4, 0, 0, 0), (.iload_n 3, 4, 5, 0, 0, 0), (.aload_n 0, 5, 6, 0, 0, 0), (.getfield 45, 6, 7, 11, 26, 0), (.bipush 21, 9, 8, 0, 0, 0), (.iaload, 11, 9, 0, 0, 0), (.if_icmp .ge 39, 12, 10, 27, 0, 0), (.iload_n 1, 15, 11, 0, 0, 0), (.ifCond .lt 35, 16, 12, 27, 0, 0), (.aload_n 0, 19, 13, 0, 0, 0), (.aload_n 0, 20, 14, 0, 0, 0), (.getfield 45, 21, 15, 11, 26, 0), (.iload_n 3, 24, 16, 0, 0, 0)],
   [(.invokevirtual 267, 25, 17, 175, 2, 0), (.bipush (-2), 28, 18, 0, 0, 0), (.if_icmp .ne 6, 30, 19, 20, 0, 0), (.goto 12, 33, 20, 25, 0, 0), (.iload_n 2, 36, 21, 0, 0, 0), (.ifCond .ne 5, 37, 22, 24, 0, 0), (.iload_n 3, 40, 23, 0, 0, 0), (.ireturn, 41, 24, 0, 0, 0), (.iinc 2 (-1), 42, 25, 0, 0, 0), (.iinc 3 1, 45, 26, 0, 0, 0), (.goto (-44), 48, 27, 4, 0, 0), (.iconst (-1), 51, 28, 0, 0, 0), (.ireturn, 52, 29, 0, 0, 0)]],
   [], 178)
/-- HeardVotesModel.rightOf([II)I: 179 -/
def TX11_rightOf : TB := ([[(.iconst 0, 0, 1, 0, 0, 0), (.istore_n 3, 1, 2, 0, 0, 0), (.iconst 0, 2, 3, 0, 0, 0), (.istore 4, 3, 4, 0, 0, 0), (.iload 4, 5, 5, 0, 0, 0), (.aload_n 1, 7, 6, 0, 0, 0), (.bipush 21, 8, 7, 0, 0, 0), (.iaload, 10, 8, 0, 0, 0), (.if_icmp .ge 53, 11, 9, 37, 0, 0), (.aload_n 1, 14, 10, 0, 0, 0), (.iload 4, 15, 11, 0, 0, 0), (.iload_n 2, 17, 12, 0, 0, 0), (.invokestatic 225, 18, 13, 161, 3, 0), (.istore 5, 21, 14, 0, 0, 0), (.iload_n 3, 23, 15, 0, 0, 0), (.iload 5, 24, 16, 0, 0, 0)],
   [(.ifCond .lt 29, 26, 17, 32, 0, 0), (.aload_n 0, 29, 18, 0, 0, 0), (.getfield 39, 30, 19, 11, 21, 0), (.bipush 12, 33, 20, 0, 0, 0), (.iload_n 2, 35, 21, 0, 0, 0), (.imul, 36, 22, 0, 0, 0), (.iload 5, 37, 23, 0, 0, 0), (.iadd, 39, 24, 0, 0, 0), (.iaload, 40, 25, 0, 0, 0), (.aload_n 0, 41, 26, 0, 0, 0), (.aload_n 1, 42, 27, 0, 0, 0), (.iload 4, 43, 28, 0, 0, 0), (.invokevirtual 267, 45, 29, 175, 2, 0), (.if_icmp .ne 7, 48, 30, 32, 0, 0), (.iconst 1, 51, 31, 0, 0, 0), (.goto 4, 52, 32, 33, 0, 0)],
   [(.iconst 0, 55, 33, 0, 0, 0), (.iadd, 56, 34, 0, 0, 0), (.istore_n 3, 57, 35, 0, 0, 0), (.iinc 4 1, 58, 36, 0, 0, 0), (.goto (-56), 61, 37, 4, 0, 0), (.iload_n 3, 64, 38, 0, 0, 0), (.ireturn, 65, 39, 0, 0, 0)]],
   [], 179)
/-- HeardVotesModel.isHearing(I)Z: 180 -/
def TX11_isHearing : TB := ([[(.iload_n 1, 0, 1, 0, 0, 0), (.iconst 0, 1, 2, 0, 0, 0), (.aload_n 0, 2, 3, 0, 0, 0), (.getfield 195, 3, 4, 11, 24, 0), (.iconst 1, 6, 5, 0, 0, 0), (.isub, 7, 6, 0, 0, 0), (.invokestatic 117, 8, 7, 141, 3, 0), (.ireturn, 11, 8, 1, 0, 0)]],
   [], 180)
/-- HeardVotesModel.isSlot(I)Z: 181 -/
def TX11_isSlot : TB := ([[(.aload_n 0, 0, 1, 0, 0, 0), (.getfield 195, 1, 2, 11, 24, 0), (.ifCond .le 24, 4, 3, 15, 0, 0), (.iload_n 1, 7, 4, 0, 0, 0), (.iconst 0, 8, 5, 0, 0, 0), (.aload_n 0, 9, 6, 0, 0, 0), (.getfield 45, 10, 7, 11, 26, 0), (.bipush 21, 13, 8, 0, 0, 0), (.iaload, 15, 9, 0, 0, 0), (.iconst 1, 16, 10, 0, 0, 0), (.isub, 17, 11, 0, 0, 0), (.invokestatic 117, 18, 12, 141, 3, 0), (.ifCond .eq 7, 21, 13, 15, 0, 0), (.iconst 1, 24, 14, 0, 0, 0), (.goto 4, 25, 15, 16, 0, 0), (.iconst 0, 28, 16, 0, 0, 0)],
   [(.ireturn, 29, 17, 1, 0, 0)]],
   [], 181)
/-- HeardVotesModel.costsOf([I)I: 182 -/
def TX11_costsOf : TB := ([[(.iconst 0, 0, 1, 0, 0, 0), (.istore_n 1, 1, 2, 0, 0, 0), (.iconst 0, 2, 3, 0, 0, 0), (.istore_n 2, 3, 4, 0, 0, 0), (.iload_n 2, 4, 5, 0, 0, 0), (.aload_n 0, 5, 6, 0, 0, 0), (.bipush 10, 6, 7, 0, 0, 0), (.iaload, 8, 8, 0, 0, 0), (.if_icmp .ge 18, 9, 9, 19, 0, 0), (.iload_n 1, 12, 10, 0, 0, 0), (.aload_n 0, 13, 11, 0, 0, 0), (.bipush 16, 14, 12, 0, 0, 0), (.iload_n 2, 16, 13, 0, 0, 0), (.iadd, 17, 14, 0, 0, 0), (.iaload, 18, 15, 0, 0, 0), (.iadd, 19, 16, 0, 0, 0)],
   [(.istore_n 1, 20, 17, 0, 0, 0), (.iinc 2 1, 21, 18, 0, 0, 0), (.goto (-20), 24, 19, 4, 0, 0), (.iload_n 1, 27, 20, 0, 0, 0), (.ireturn, 28, 21, 0, 0, 0)]],
   [], 182)
/-- HeardVotesModel.about(I)I: 183 -/
def TX11_about : TB := ([[(.aload_n 0, 0, 1, 0, 0, 0), (.iconst 0, 1, 2, 0, 0, 0), (.putfield 96, 2, 3, 11, 0, 0), (.aload_n 0, 5, 4, 0, 0, 0), (.getfield 195, 6, 5, 11, 24, 0), (.ifCond .ne 9, 9, 6, 10, 0, 0), (.aload_n 0, 12, 7, 0, 0, 0), (.iconst 1, 13, 8, 0, 0, 0), (.invokevirtual 185, 14, 9, 138, 1, 0), (.ireturn, 17, 10, 0, 0, 0), (.iconst 0, 18, 11, 0, 0, 0), (.istore_n 2, 19, 12, 0, 0, 0), (.iload_n 1, 20, 13, 0, 0, 0), (.tableswitch 171 0 7 #[47, 56, 65, 77, 89, 106, 118, 127], 21, 14, 86, 0, 0), (.aload_n 0, 68, 15, 0, 0, 0), (.aload_n 0, 69, 16, 0, 0, 0)],
   [(.getfield 195, 70, 17, 11, 24, 0), (.invokevirtual 198, 73, 18, 139, 1, 0), (.ireturn, 76, 19, 0, 0, 0), (.aload_n 0, 77, 20, 0, 0, 0), (.aload_n 0, 78, 21, 0, 0, 0), (.getfield 201, 79, 22, 11, 25, 0), (.invokevirtual 198, 82, 23, 139, 1, 0), (.ireturn, 85, 24, 0, 0, 0), (.aload_n 0, 86, 25, 0, 0, 0), (.aload_n 0, 87, 26, 0, 0, 0), (.getfield 45, 88, 27, 11, 26, 0), (.bipush 10, 91, 28, 0, 0, 0), (.iaload, 93, 29, 0, 0, 0), (.invokevirtual 198, 94, 30, 139, 1, 0), (.ireturn, 97, 31, 0, 0, 0), (.aload_n 0, 98, 32, 0, 0, 0)],
   [(.aload_n 0, 99, 33, 0, 0, 0), (.getfield 45, 100, 34, 11, 26, 0), (.bipush 21, 103, 35, 0, 0, 0), (.iaload, 105, 36, 0, 0, 0), (.invokevirtual 198, 106, 37, 139, 1, 0), (.ireturn, 109, 38, 0, 0, 0), (.aload_n 0, 110, 39, 0, 0, 0), (.aload_n 0, 111, 40, 0, 0, 0), (.aload_n 0, 112, 41, 0, 0, 0), (.getfield 45, 113, 42, 11, 26, 0), (.aload_n 0, 116, 43, 0, 0, 0), (.getfield 57, 117, 44, 11, 31, 0), (.invokevirtual 270, 120, 45, 177, 2, 0), (.invokevirtual 198, 123, 46, 139, 1, 0), (.ireturn, 126, 47, 0, 0, 0), (.aload_n 0, 127, 48, 0, 0, 0)],
   [(.aload_n 0, 128, 49, 0, 0, 0), (.getfield 45, 129, 50, 11, 26, 0), (.invokestatic 274, 132, 51, 182, 1, 0), (.invokevirtual 198, 135, 52, 139, 1, 0), (.ireturn, 138, 53, 0, 0, 0), (.aload_n 0, 139, 54, 0, 0, 0), (.aload_n 0, 140, 55, 0, 0, 0), (.getfield 208, 141, 56, 11, 29, 0), (.invokevirtual 198, 144, 57, 139, 1, 0), (.ireturn, 147, 58, 0, 0, 0), (.iconst 0, 148, 59, 0, 0, 0), (.istore_n 3, 149, 60, 0, 0, 0), (.iload_n 3, 150, 61, 0, 0, 0), (.aload_n 0, 151, 62, 0, 0, 0), (.getfield 45, 152, 63, 11, 26, 0), (.bipush 10, 155, 64, 0, 0, 0)],
   [(.iaload, 157, 65, 0, 0, 0), (.if_icmp .ge 28, 158, 66, 82, 0, 0), (.iload_n 2, 161, 67, 0, 0, 0), (.aload_n 0, 162, 68, 0, 0, 0), (.getfield 45, 163, 69, 11, 26, 0), (.iconst 5, 166, 70, 0, 0, 0), (.aload_n 0, 167, 71, 0, 0, 0), (.getfield 45, 168, 72, 11, 26, 0), (.bipush 11, 171, 73, 0, 0, 0), (.iload_n 3, 173, 74, 0, 0, 0), (.iadd, 174, 75, 0, 0, 0), (.iaload, 175, 76, 0, 0, 0), (.iadd, 176, 77, 0, 0, 0), (.iaload, 177, 78, 0, 0, 0), (.iadd, 178, 79, 0, 0, 0), (.istore_n 2, 179, 80, 0, 0, 0)],
   [(.iinc 3 1, 180, 81, 0, 0, 0), (.goto (-33), 183, 82, 60, 0, 0), (.aload_n 0, 186, 83, 0, 0, 0), (.iload_n 2, 187, 84, 0, 0, 0), (.invokevirtual 198, 188, 85, 139, 1, 0), (.ireturn, 191, 86, 0, 0, 0), (.aload_n 0, 192, 87, 0, 0, 0), (.iconst 1, 193, 88, 0, 0, 0), (.invokevirtual 185, 194, 89, 138, 1, 0), (.ireturn, 197, 90, 0, 0, 0)]],
   [(13, [(0, 14), (1, 19), (2, 24), (3, 31), (4, 38), (5, 47), (6, 53), (7, 58)], 86)], 183)
/-- HeardVotesModel.hearing(II)I: 184 -/
def TX11_hearing : TB := ([[(.aload_n 0, 0, 1, 0, 0, 0), (.iconst 0, 1, 2, 0, 0, 0), (.putfield 96, 2, 3, 11, 0, 0), (.aload_n 0, 5, 4, 0, 0, 0), (.iload_n 1, 6, 5, 0, 0, 0), (.invokevirtual 278, 7, 6, 180, 1, 0), (.ifCond .ne 9, 10, 7, 11, 0, 0), (.aload_n 0, 13, 8, 0, 0, 0), (.iconst 1, 14, 9, 0, 0, 0), (.invokevirtual 185, 15, 10, 138, 1, 0), (.ireturn, 18, 11, 0, 0, 0), (.aload_n 0, 19, 12, 0, 0, 0), (.getfield 45, 20, 13, 11, 26, 0), (.iload_n 1, 23, 14, 0, 0, 0), (.invokestatic 249, 24, 15, 162, 2, 0), (.istore_n 3, 27, 16, 0, 0, 0)],
   [(.iload_n 2, 28, 17, 0, 0, 0), (.tableswitch 123 0 4 #[35, 48, 59, 75, 99], 29, 18, 70, 0, 0), (.aload_n 0, 64, 19, 0, 0, 0), (.aload_n 0, 65, 20, 0, 0, 0), (.getfield 45, 66, 21, 11, 26, 0), (.iconst 5, 69, 22, 0, 0, 0), (.iload_n 1, 70, 23, 0, 0, 0), (.iadd, 71, 24, 0, 0, 0), (.iaload, 72, 25, 0, 0, 0), (.invokevirtual 198, 73, 26, 139, 1, 0), (.ireturn, 76, 27, 0, 0, 0), (.aload_n 0, 77, 28, 0, 0, 0), (.aload_n 0, 78, 29, 0, 0, 0), (.getfield 36, 79, 30, 11, 20, 0), (.iload_n 1, 82, 31, 0, 0, 0), (.iaload, 83, 32, 0, 0, 0)],
   [(.invokevirtual 198, 84, 33, 139, 1, 0), (.ireturn, 87, 34, 0, 0, 0), (.aload_n 0, 88, 35, 0, 0, 0), (.iload_n 3, 89, 36, 0, 0, 0), (.iconst (-1), 90, 37, 0, 0, 0), (.if_icmp .ne 8, 91, 38, 40, 0, 0), (.bipush (-2), 94, 39, 0, 0, 0), (.goto 4, 96, 40, 41, 0, 0), (.iload_n 3, 99, 41, 0, 0, 0), (.invokevirtual 198, 100, 42, 139, 1, 0), (.ireturn, 103, 43, 0, 0, 0), (.aload_n 0, 104, 44, 0, 0, 0), (.iload_n 3, 105, 45, 0, 0, 0), (.iconst (-1), 106, 46, 0, 0, 0), (.if_icmp .ne 8, 107, 47, 49, 0, 0), (.bipush (-2), 110, 48, 0, 0, 0)],
   [(.goto 12, 112, 49, 55, 0, 0), (.aload_n 0, 115, 50, 0, 0, 0), (.getfield 45, 116, 51, 11, 26, 0), (.bipush 16, 119, 52, 0, 0, 0), (.iload_n 3, 121, 53, 0, 0, 0), (.iadd, 122, 54, 0, 0, 0), (.iaload, 123, 55, 0, 0, 0), (.invokevirtual 198, 124, 56, 139, 1, 0), (.ireturn, 127, 57, 0, 0, 0), (.aload_n 0, 128, 58, 0, 0, 0), (.iload_n 3, 129, 59, 0, 0, 0), (.iconst (-1), 130, 60, 0, 0, 0), (.if_icmp .ne 8, 131, 61, 63, 0, 0), (.bipush (-2), 134, 62, 0, 0, 0), (.goto 12, 136, 63, 68, 0, 0), (.aload_n 0, 139, 64, 0, 0, 0)],
   [(.aload_n 0, 140, 65, 0, 0, 0), (.getfield 45, 141, 66, 11, 26, 0), (.iload_n 1, 144, 67, 0, 0, 0), (.invokevirtual 281, 145, 68, 179, 2, 0), (.invokevirtual 198, 148, 69, 139, 1, 0), (.ireturn, 151, 70, 0, 0, 0), (.aload_n 0, 152, 71, 0, 0, 0), (.iconst 1, 153, 72, 0, 0, 0), (.invokevirtual 185, 154, 73, 138, 1, 0), (.ireturn, 157, 74, 0, 0, 0)]],
   [(17, [(0, 18), (1, 27), (2, 34), (3, 43), (4, 57)], 70)], 184)
/-- HeardVotesModel.slotWith(II)I: 185 -/
def TX11_slotWith : TB := ([[(.aload_n 0, 0, 1, 0, 0, 0), (.getfield 45, 1, 2, 11, 26, 0), (.iload_n 1, 4, 3, 0, 0, 0), (.invokestatic 249, 5, 4, 162, 2, 0), (.iconst (-1), 8, 5, 0, 0, 0), (.if_icmp .ne 6, 9, 6, 8, 0, 0), (.bipush (-2), 12, 7, 0, 0, 0), (.ireturn, 14, 8, 0, 0, 0), (.iconst 0, 15, 9, 0, 0, 0), (.istore_n 3, 16, 10, 0, 0, 0), (.aload_n 0, 17, 11, 0, 0, 0), (.getfield 45, 18, 12, 11, 26, 0), (.iload_n 3, 21, 13, 0, 0, 0), (.iload_n 1, 22, 14, 0, 0, 0), (.invokestatic 225, 23, 15, 161, 3, 0), (.iload_n 2, 26, 16, 0, 0, 0)],
   [(.if_icmp .eq 9, 27, 17, 19, 0, 0), (.iinc 3 1, 30, 18, 0, 0, 0), (.goto (-16), 33, 19, 10, 0, 0), (.iload_n 3, 36, 20, 0, 0, 0), (.ireturn, 37, 21, 0, 0, 0)]],
   [], 185)
/-- HeardVotesModel.word(III)I: 186 -/
def TX11_word : TB := ([[(.aload_n 0, 0, 1, 0, 0, 0), (.iconst 0, 1, 2, 0, 0, 0), (.putfield 96, 2, 3, 11, 0, 0), (.aload_n 0, 5, 4, 0, 0, 0), (.iload_n 1, 6, 5, 0, 0, 0), (.invokevirtual 278, 7, 6, 180, 1, 0), (.ifCond .eq 19, 10, 7, 17, 0, 0), (.iload_n 2, 13, 8, 0, 0, 0), (.iconst 0, 14, 9, 0, 0, 0), (.aload_n 0, 15, 10, 0, 0, 0), (.getfield 36, 16, 11, 11, 20, 0), (.iload_n 1, 19, 12, 0, 0, 0), (.iaload, 20, 13, 0, 0, 0), (.iconst 1, 21, 14, 0, 0, 0), (.isub, 22, 15, 0, 0, 0), (.invokestatic 117, 23, 16, 141, 3, 0)],
   [(.ifCond .ne 9, 26, 17, 21, 0, 0), (.aload_n 0, 29, 18, 0, 0, 0), (.iconst 1, 30, 19, 0, 0, 0), (.invokevirtual 185, 31, 20, 138, 1, 0), (.ireturn, 34, 21, 0, 0, 0), (.iload_n 3, 35, 22, 0, 0, 0), (.tableswitch 71 0 2 #[28, 44, 60], 36, 23, 52, 0, 0), (.aload_n 0, 64, 24, 0, 0, 0), (.aload_n 0, 65, 25, 0, 0, 0), (.getfield 39, 66, 26, 11, 21, 0), (.bipush 12, 69, 27, 0, 0, 0), (.iload_n 1, 71, 28, 0, 0, 0), (.imul, 72, 29, 0, 0, 0), (.iload_n 2, 73, 30, 0, 0, 0), (.iadd, 74, 31, 0, 0, 0), (.iaload, 75, 32, 0, 0, 0)],
   [(.invokevirtual 198, 76, 33, 139, 1, 0), (.ireturn, 79, 34, 0, 0, 0), (.aload_n 0, 80, 35, 0, 0, 0), (.aload_n 0, 81, 36, 0, 0, 0), (.getfield 42, 82, 37, 11, 22, 0), (.bipush 12, 85, 38, 0, 0, 0), (.iload_n 1, 87, 39, 0, 0, 0), (.imul, 88, 40, 0, 0, 0), (.iload_n 2, 89, 41, 0, 0, 0), (.iadd, 90, 42, 0, 0, 0), (.iaload, 91, 43, 0, 0, 0), (.invokevirtual 198, 92, 44, 139, 1, 0), (.ireturn, 95, 45, 0, 0, 0), (.aload_n 0, 96, 46, 0, 0, 0), (.aload_n 0, 97, 47, 0, 0, 0), (.iload_n 1, 98, 48, 0, 0, 0)],
   [(.iload_n 2, 99, 49, 0, 0, 0), (.invokevirtual 284, 100, 50, 185, 2, 0), (.invokevirtual 198, 103, 51, 139, 1, 0), (.ireturn, 106, 52, 0, 0, 0), (.aload_n 0, 107, 53, 0, 0, 0), (.iconst 1, 108, 54, 0, 0, 0), (.invokevirtual 185, 109, 55, 138, 1, 0), (.ireturn, 112, 56, 0, 0, 0)]],
   [(22, [(0, 23), (1, 34), (2, 45)], 52)], 186)
/-- HeardVotesModel.letter(II)I: 187 -/
def TX11_letter : TB := ([[(.aload_n 0, 0, 1, 0, 0, 0), (.iconst 0, 1, 2, 0, 0, 0), (.putfield 96, 2, 3, 11, 0, 0), (.aload_n 0, 5, 4, 0, 0, 0), (.getfield 195, 6, 5, 11, 24, 0), (.ifCond .eq 21, 9, 6, 16, 0, 0), (.iload_n 1, 12, 7, 0, 0, 0), (.iconst 0, 13, 8, 0, 0, 0), (.aload_n 0, 14, 9, 0, 0, 0), (.getfield 201, 15, 10, 11, 25, 0), (.iconst 1, 18, 11, 0, 0, 0), (.isub, 19, 12, 0, 0, 0), (.invokestatic 117, 20, 13, 141, 3, 0), (.ifCond .eq 7, 23, 14, 16, 0, 0), (.iload_n 2, 26, 15, 0, 0, 0), (.ifCond .ge 9, 27, 16, 20, 0, 0)],
   [(.aload_n 0, 30, 17, 0, 0, 0), (.iconst 1, 31, 18, 0, 0, 0), (.invokevirtual 185, 32, 19, 138, 1, 0), (.ireturn, 35, 20, 0, 0, 0), (.aload_n 0, 36, 21, 0, 0, 0), (.iload_n 2, 37, 22, 0, 0, 0), (.aload_n 0, 38, 23, 0, 0, 0), (.getfield 24, 39, 24, 11, 16, 0), (.iload_n 1, 42, 25, 0, 0, 0), (.laload, 43, 26, 0, 0, 0), (.invokestatic 214, 44, 27, 164, 1, 0), (.if_icmp .ge 16, 47, 28, 35, 0, 0), (.aload_n 0, 50, 29, 0, 0, 0), (.getfield 24, 51, 30, 11, 16, 0), (.iload_n 1, 54, 31, 0, 0, 0), (.laload, 55, 32, 0, 0, 0)],
   [(.iload_n 2, 56, 33, 0, 0, 0), (.invokestatic 218, 57, 34, 165, 2, 0), (.goto 5, 60, 35, 36, 0, 0), (.bipush (-2), 63, 36, 0, 0, 0), (.invokevirtual 198, 65, 37, 139, 1, 0), (.ireturn, 68, 38, 0, 0, 0)]],
   [], 187)
/-- HeardVotesModel.far(II)I: 188 -/
def TX11_far : TB := ([[(.aload_n 0, 0, 1, 0, 0, 0), (.iconst 0, 1, 2, 0, 0, 0), (.putfield 96, 2, 3, 11, 0, 0), (.aload_n 0, 5, 4, 0, 0, 0), (.getfield 195, 6, 5, 11, 24, 0), (.ifCond .eq 31, 9, 6, 22, 0, 0), (.iload_n 1, 12, 7, 0, 0, 0), (.iconst 0, 13, 8, 0, 0, 0), (.aload_n 0, 14, 9, 0, 0, 0), (.getfield 201, 15, 10, 11, 25, 0), (.iconst 1, 18, 11, 0, 0, 0), (.isub, 19, 12, 0, 0, 0), (.invokestatic 117, 20, 13, 141, 3, 0), (.ifCond .eq 17, 23, 14, 22, 0, 0), (.iload_n 2, 26, 15, 0, 0, 0), (.iconst 0, 27, 16, 0, 0, 0)],
   [(.aload_n 0, 28, 17, 0, 0, 0), (.getfield 201, 29, 18, 11, 25, 0), (.iconst 1, 32, 19, 0, 0, 0), (.isub, 33, 20, 0, 0, 0), (.invokestatic 117, 34, 21, 141, 3, 0), (.ifCond .ne 9, 37, 22, 26, 0, 0), (.aload_n 0, 40, 23, 0, 0, 0), (.iconst 1, 41, 24, 0, 0, 0), (.invokevirtual 185, 42, 25, 138, 1, 0), (.ireturn, 45, 26, 0, 0, 0), (.aload_n 0, 46, 27, 0, 0, 0), (.aload_n 0, 47, 28, 0, 0, 0), (.iload_n 1, 48, 29, 0, 0, 0), (.iload_n 2, 49, 30, 0, 0, 0), (.invokevirtual 229, 50, 31, 166, 2, 0), (.invokevirtual 198, 53, 32, 139, 1, 0)],
   [(.ireturn, 56, 33, 0, 0, 0)]],
   [], 188)
/-- HeardVotesModel.laysHearing(I[I)I: 189 -/
def TX11_laysHearing : TB := ([[(.iconst 0, 0, 1, 0, 0, 0), (.istore_n 3, 1, 2, 0, 0, 0), (.iload_n 3, 2, 3, 0, 0, 0), (.aload_n 0, 3, 4, 0, 0, 0), (.getfield 36, 4, 5, 11, 20, 0), (.iload_n 1, 7, 6, 0, 0, 0), (.iaload, 8, 7, 0, 0, 0), (.if_icmp .ge 23, 9, 8, 21, 0, 0), (.aload_n 2, 12, 9, 0, 0, 0), (.iload_n 3, 13, 10, 0, 0, 0), (.aload_n 0, 14, 11, 0, 0, 0), (.getfield 39, 15, 12, 11, 21, 0), (.bipush 12, 18, 13, 0, 0, 0), (.iload_n 1, 20, 14, 0, 0, 0), (.imul, 21, 15, 0, 0, 0), (.iload_n 3, 22, 16, 0, 0, 0)],
   [(.iadd, 23, 17, 0, 0, 0), (.iaload, 24, 18, 0, 0, 0), (.iastore, 25, 19, 0, 0, 0), (.iinc 3 1, 26, 20, 0, 0, 0), (.goto (-27), 29, 21, 2, 0, 0), (.aload_n 0, 32, 22, 0, 0, 0), (.getfield 36, 33, 23, 11, 20, 0), (.iload_n 1, 36, 24, 0, 0, 0), (.iaload, 37, 25, 0, 0, 0), (.ireturn, 38, 26, 0, 0, 0)]],
   [], 189)
/-- HeardVotesModel.between(II)I: 190 -/
def TX11_between : TB := ([[(.aload_n 0, 0, 1, 0, 0, 0), (.iconst 0, 1, 2, 0, 0, 0), (.putfield 96, 2, 3, 11, 0, 0), (.aload_n 0, 5, 4, 0, 0, 0), (.iload_n 1, 6, 5, 0, 0, 0), (.invokevirtual 278, 7, 6, 180, 1, 0), (.ifCond .eq 11, 10, 7, 11, 0, 0), (.aload_n 0, 13, 8, 0, 0, 0), (.iload_n 2, 14, 9, 0, 0, 0), (.invokevirtual 278, 15, 10, 180, 1, 0), (.ifCond .ne 9, 18, 11, 15, 0, 0), (.aload_n 0, 21, 12, 0, 0, 0), (.iconst 1, 22, 13, 0, 0, 0), (.invokevirtual 185, 23, 14, 138, 1, 0), (.ireturn, 26, 15, 0, 0, 0), (.aload_n 0, 27, 16, 0, 0, 0)],
   [(.iload_n 1, 28, 17, 0, 0, 0), (.aload_n 0, 29, 18, 0, 0, 0), (.getfield 57, 30, 19, 11, 31, 0), (.invokevirtual 287, 33, 20, 189, 2, 0), (.istore_n 3, 36, 21, 0, 0, 0), (.aload_n 0, 37, 22, 0, 0, 0), (.iload_n 2, 38, 23, 0, 0, 0), (.aload_n 0, 39, 24, 0, 0, 0), (.getfield 60, 40, 25, 11, 32, 0), (.invokevirtual 287, 43, 26, 189, 2, 0), (.istore 4, 46, 27, 0, 0, 0), (.aload_n 0, 48, 28, 0, 0, 0), (.aload_n 0, 49, 29, 0, 0, 0), (.iload_n 3, 50, 30, 0, 0, 0), (.iload 4, 51, 31, 0, 0, 0), (.invokevirtual 222, 53, 32, 163, 2, 0)],
   [(.invokevirtual 198, 56, 33, 139, 1, 0), (.ireturn, 59, 34, 0, 0, 0)]],
   [], 190)
/-- HeardVotesModel.costs(III)Z: 191 -/
def TX11_costs : TB := ([[(.aload_n 0, 0, 1, 0, 0, 0), (.iconst 0, 1, 2, 0, 0, 0), (.putfield 96, 2, 3, 11, 0, 0), (.aload_n 0, 5, 4, 0, 0, 0), (.getfield 195, 6, 5, 11, 24, 0), (.ifCond .ne 9, 9, 6, 10, 0, 0), (.aload_n 0, 12, 7, 0, 0, 0), (.iconst 1, 13, 8, 0, 0, 0), (.invokevirtual 291, 14, 9, 140, 1, 0), (.ireturn, 17, 10, 1, 0, 0), (.iload_n 1, 18, 11, 0, 0, 0), (.iconst 1, 19, 12, 0, 0, 0), (.bipush 9, 20, 13, 0, 0, 0), (.invokestatic 117, 22, 14, 141, 3, 0), (.ifCond .eq 23, 25, 15, 25, 0, 0), (.iload_n 2, 28, 16, 0, 0, 0)],
   [(.iconst 1, 29, 17, 0, 0, 0), (.bipush 9, 30, 18, 0, 0, 0), (.invokestatic 117, 32, 19, 141, 3, 0), (.ifCond .eq 13, 35, 20, 25, 0, 0), (.iload_n 3, 38, 21, 0, 0, 0), (.iconst 0, 39, 22, 0, 0, 0), (.bipush 9, 40, 23, 0, 0, 0), (.invokestatic 117, 42, 24, 141, 3, 0), (.ifCond .ne 9, 45, 25, 29, 0, 0), (.aload_n 0, 48, 26, 0, 0, 0), (.iconst 2, 49, 27, 0, 0, 0), (.invokevirtual 291, 50, 28, 140, 1, 0), (.ireturn, 53, 29, 1, 0, 0), (.aload_n 0, 54, 30, 0, 0, 0), (.invokevirtual 211, 55, 31, 159, 0, 0), (.aload_n 0, 58, 32, 0, 0, 0)],
   [(.getfield 45, 59, 33, 11, 26, 0), (.iconst 0, 62, 34, 0, 0, 0), (.iload_n 1, 63, 35, 0, 0, 0), (.iastore, 64, 36, 0, 0, 0), (.aload_n 0, 65, 37, 0, 0, 0), (.getfield 45, 66, 38, 11, 26, 0), (.iconst 1, 69, 39, 0, 0, 0), (.iload_n 2, 70, 40, 0, 0, 0), (.iastore, 71, 41, 0, 0, 0), (.aload_n 0, 72, 42, 0, 0, 0), (.getfield 45, 73, 43, 11, 26, 0), (.iconst 2, 76, 44, 0, 0, 0), (.iload_n 3, 77, 45, 0, 0, 0), (.iastore, 78, 46, 0, 0, 0), (.aload_n 0, 79, 47, 0, 0, 0), (.iconst 0, 80, 48, 0, 0, 0)],
   [(.invokevirtual 291, 81, 49, 140, 1, 0), (.ireturn, 84, 50, 1, 0, 0)]],
   [], 191)
/-- HeardVotesModel.puts(III)Z: 192 -/
def TX11_puts : TB := ([[(.aload_n 0, 0, 1, 0, 0, 0), (.iconst 0, 1, 2, 0, 0, 0), (.putfield 96, 2, 3, 11, 0, 0), (.aload_n 0, 5, 4, 0, 0, 0), (.getfield 195, 6, 5, 11, 24, 0), (.ifCond .ne 9, 9, 6, 10, 0, 0), (.aload_n 0, 12, 7, 0, 0, 0), (.iconst 1, 13, 8, 0, 0, 0), (.invokevirtual 291, 14, 9, 140, 1, 0), (.ireturn, 17, 10, 1, 0, 0), (.iload_n 2, 18, 11, 0, 0, 0), (.iconst 0, 19, 12, 0, 0, 0), (.iload_n 3, 20, 13, 0, 0, 0), (.invokestatic 117, 21, 14, 141, 3, 0), (.ifCond .ne 9, 24, 15, 19, 0, 0), (.aload_n 0, 27, 16, 0, 0, 0)],
   [(.iconst 2, 28, 17, 0, 0, 0), (.invokevirtual 291, 29, 18, 140, 1, 0), (.ireturn, 32, 19, 1, 0, 0), (.aload_n 0, 33, 20, 0, 0, 0), (.invokevirtual 211, 34, 21, 159, 0, 0), (.aload_n 0, 37, 22, 0, 0, 0), (.getfield 45, 38, 23, 11, 26, 0), (.iload_n 1, 41, 24, 0, 0, 0), (.iload_n 2, 42, 25, 0, 0, 0), (.iastore, 43, 26, 0, 0, 0), (.aload_n 0, 44, 27, 0, 0, 0), (.iconst 0, 45, 28, 0, 0, 0), (.invokevirtual 291, 46, 29, 140, 1, 0), (.ireturn, 49, 30, 1, 0, 0)]],
   [], 192)
/-- HeardVotesModel.window(I)Z: 193 -/
def TX11_window : TB := ([[(.aload_n 0, 0, 1, 0, 0, 0), (.iconst 3, 1, 2, 0, 0, 0), (.iload_n 1, 2, 3, 0, 0, 0), (.sipush 999, 3, 4, 0, 0, 0), (.invokevirtual 294, 6, 5, 192, 3, 0), (.ireturn, 9, 6, 1, 0, 0)]],
   [], 193)
/-- HeardVotesModel.share(I)Z: 194 -/
def TX11_share : TB := ([[(.aload_n 0, 0, 1, 0, 0, 0), (.iconst 4, 1, 2, 0, 0, 0), (.iload_n 1, 2, 3, 0, 0, 0), (.sipush 200, 3, 4, 0, 0, 0), (.invokevirtual 294, 6, 5, 192, 3, 0), (.ireturn, 9, 6, 1, 0, 0)]],
   [], 194)
/-- HeardVotesModel.weight(II)I: 195 -/
def TX11_weight : TB := ([[(.aload_n 0, 0, 1, 0, 0, 0), (.iconst 0, 1, 2, 0, 0, 0), (.putfield 96, 2, 3, 11, 0, 0), (.aload_n 0, 5, 4, 0, 0, 0), (.iload_n 1, 6, 5, 0, 0, 0), (.invokevirtual 278, 7, 6, 180, 1, 0), (.ifCond .ne 9, 10, 7, 11, 0, 0), (.aload_n 0, 13, 8, 0, 0, 0), (.iconst 1, 14, 9, 0, 0, 0), (.invokevirtual 185, 15, 10, 138, 1, 0), (.ireturn, 18, 11, 0, 0, 0), (.iload_n 2, 19, 12, 0, 0, 0), (.iconst 1, 20, 13, 0, 0, 0), (.bipush 99, 21, 14, 0, 0, 0), (.invokestatic 117, 23, 15, 141, 3, 0), (.ifCond .ne 9, 26, 16, 20, 0, 0)],
   [(.aload_n 0, 29, 17, 0, 0, 0), (.iconst 2, 30, 18, 0, 0, 0), (.invokevirtual 185, 31, 19, 138, 1, 0), (.ireturn, 34, 20, 0, 0, 0), (.aload_n 0, 35, 21, 0, 0, 0), (.invokevirtual 211, 36, 22, 159, 0, 0), (.aload_n 0, 39, 23, 0, 0, 0), (.getfield 45, 40, 24, 11, 26, 0), (.iconst 5, 43, 25, 0, 0, 0), (.iload_n 1, 44, 26, 0, 0, 0), (.iadd, 45, 27, 0, 0, 0), (.iaload, 46, 28, 0, 0, 0), (.istore_n 3, 47, 29, 0, 0, 0), (.aload_n 0, 48, 30, 0, 0, 0), (.getfield 45, 49, 31, 11, 26, 0), (.iconst 5, 52, 32, 0, 0, 0)],
   [(.iload_n 1, 53, 33, 0, 0, 0), (.iadd, 54, 34, 0, 0, 0), (.iload_n 2, 55, 35, 0, 0, 0), (.iastore, 56, 36, 0, 0, 0), (.aload_n 0, 57, 37, 0, 0, 0), (.iload_n 3, 58, 38, 0, 0, 0), (.invokevirtual 198, 59, 39, 139, 1, 0), (.ireturn, 62, 40, 0, 0, 0)]],
   [], 195)
/-- HeardVotesModel.join(I)I: 196 -/
def TX11_join : TB := ([[(.aload_n 0, 0, 1, 0, 0, 0), (.iconst 0, 1, 2, 0, 0, 0), (.putfield 96, 2, 3, 11, 0, 0), (.aload_n 0, 5, 4, 0, 0, 0), (.iload_n 1, 6, 5, 0, 0, 0), (.invokevirtual 278, 7, 6, 180, 1, 0), (.ifCond .ne 9, 10, 7, 11, 0, 0), (.aload_n 0, 13, 8, 0, 0, 0), (.iconst 1, 14, 9, 0, 0, 0), (.invokevirtual 185, 15, 10, 138, 1, 0), (.ireturn, 18, 11, 0, 0, 0), (.aload_n 0, 19, 12, 0, 0, 0), (.getfield 45, 20, 13, 11, 26, 0), (.iload_n 1, 23, 14, 0, 0, 0), (.invokestatic 249, 24, 15, 162, 2, 0), (.iconst (-1), 27, 16, 0, 0, 0)],
   [(.if_icmp .eq 9, 28, 17, 21, 0, 0), (.aload_n 0, 31, 18, 0, 0, 0), (.iconst 5, 32, 19, 0, 0, 0), (.invokevirtual 185, 33, 20, 138, 1, 0), (.ireturn, 36, 21, 0, 0, 0), (.aload_n 0, 37, 22, 0, 0, 0), (.invokevirtual 211, 38, 23, 159, 0, 0), (.aload_n 0, 41, 24, 0, 0, 0), (.aload_n 0, 42, 25, 0, 0, 0), (.aload_n 0, 43, 26, 0, 0, 0), (.getfield 45, 44, 27, 11, 26, 0), (.iload_n 1, 47, 28, 0, 0, 0), (.invokevirtual 297, 48, 29, 170, 2, 0), (.invokevirtual 198, 51, 30, 139, 1, 0), (.ireturn, 54, 31, 0, 0, 0)]],
   [], 196)
/-- HeardVotesModel.nextOne(I)I: 197 -/
def TX11_nextOne : TB := ([[(.iconst (-1), 0, 1, 0, 0, 0), (.istore_n 2, 1, 2, 0, 0, 0), (.iconst 0, 2, 3, 0, 0, 0), (.istore_n 3, 3, 4, 0, 0, 0), (.iconst 0, 4, 5, 0, 0, 0), (.istore 4, 5, 6, 0, 0, 0), (.iload 4, 7, 7, 0, 0, 0), (.aload_n 0, 9, 8, 0, 0, 0), (.getfield 195, 10, 9, 11, 24, 0), (.if_icmp .ge 84, 13, 10, 51, 0, 0), (.aload_n 0, 16, 11, 0, 0, 0), (.getfield 45, 17, 12, 11, 26, 0), (.iload 4, 20, 13, 0, 0, 0), (.invokestatic 249, 22, 14, 162, 2, 0), (.iconst (-1), 25, 15, 0, 0, 0), (.if_icmp .eq 6, 26, 16, 17, 0, 0)],
   [(.goto 62, 29, 17, 49, 0, 0), (.iload_n 1, 32, 18, 0, 0, 0), (.ifCond .ne 8, 33, 19, 21, 0, 0), (.iload 4, 36, 20, 0, 0, 0), (.goto 31, 38, 21, 37, 0, 0), (.iload_n 1, 41, 22, 0, 0, 0), (.iconst 1, 42, 23, 0, 0, 0), (.if_icmp .ne 16, 43, 24, 32, 0, 0), (.aload_n 0, 46, 25, 0, 0, 0), (.getfield 45, 47, 26, 11, 26, 0), (.iconst 5, 50, 27, 0, 0, 0), (.iload 4, 51, 28, 0, 0, 0), (.iadd, 53, 29, 0, 0, 0), (.iaload, 54, 30, 0, 0, 0), (.ineg, 55, 31, 0, 0, 0), (.goto 13, 56, 32, 37, 0, 0)],
   [(.aload_n 0, 59, 33, 0, 0, 0), (.aload_n 0, 60, 34, 0, 0, 0), (.getfield 45, 61, 35, 11, 26, 0), (.iload 4, 64, 36, 0, 0, 0), (.invokevirtual 240, 66, 37, 169, 2, 0), (.istore 5, 69, 38, 0, 0, 0), (.iload_n 2, 71, 39, 0, 0, 0), (.iconst (-1), 72, 40, 0, 0, 0), (.if_icmp .eq 12, 73, 41, 45, 0, 0), (.iload 5, 76, 42, 0, 0, 0), (.iload_n 3, 78, 43, 0, 0, 0), (.if_icmp .lt 6, 79, 44, 45, 0, 0), (.goto 9, 82, 45, 49, 0, 0), (.iload 4, 85, 46, 0, 0, 0), (.istore_n 2, 87, 47, 0, 0, 0), (.iload 5, 88, 48, 0, 0, 0)],
   [(.istore_n 3, 90, 49, 0, 0, 0), (.iinc 4 1, 91, 50, 0, 0, 0), (.goto (-87), 94, 51, 6, 0, 0), (.iload_n 2, 97, 52, 0, 0, 0), (.ireturn, 98, 53, 0, 0, 0)]],
   [], 197)
/-- HeardVotesModel.joinAll(I)I: 198 -/
def TX11_joinAll : TB := ([[(.aload_n 0, 0, 1, 0, 0, 0), (.iconst 0, 1, 2, 0, 0, 0), (.putfield 96, 2, 3, 11, 0, 0), (.aload_n 0, 5, 4, 0, 0, 0), (.getfield 195, 6, 5, 11, 24, 0), (.ifCond .eq 12, 9, 6, 11, 0, 0), (.iload_n 1, 12, 7, 0, 0, 0), (.iconst 0, 13, 8, 0, 0, 0), (.iconst 2, 14, 9, 0, 0, 0), (.invokestatic 117, 15, 10, 141, 3, 0), (.ifCond .ne 9, 18, 11, 15, 0, 0), (.aload_n 0, 21, 12, 0, 0, 0), (.iconst 1, 22, 13, 0, 0, 0), (.invokevirtual 185, 23, 14, 138, 1, 0), (.ireturn, 26, 15, 0, 0, 0), (.aload_n 0, 27, 16, 0, 0, 0)],
   [(.invokevirtual 211, 28, 17, 159, 0, 0), (.iconst 0, 31, 18, 0, 0, 0), (.istore_n 2, 32, 19, 0, 0, 0), (.aload_n 0, 33, 20, 0, 0, 0), (.iload_n 1, 34, 21, 0, 0, 0), (.invokevirtual 300, 35, 22, 197, 1, 0), (.istore_n 3, 38, 23, 0, 0, 0), (.iload_n 3, 39, 24, 0, 0, 0), (.iconst (-1), 40, 25, 0, 0, 0), (.if_icmp .eq 24, 41, 26, 39, 0, 0), (.iload_n 2, 44, 27, 0, 0, 0), (.aload_n 0, 45, 28, 0, 0, 0), (.aload_n 0, 46, 29, 0, 0, 0), (.getfield 45, 47, 30, 11, 26, 0), (.iload_n 3, 50, 31, 0, 0, 0), (.invokevirtual 297, 51, 32, 170, 2, 0)],
   [(.iadd, 54, 33, 0, 0, 0), (.istore_n 2, 55, 34, 0, 0, 0), (.aload_n 0, 56, 35, 0, 0, 0), (.iload_n 1, 57, 36, 0, 0, 0), (.invokevirtual 300, 58, 37, 197, 1, 0), (.istore_n 3, 61, 38, 0, 0, 0), (.goto (-23), 62, 39, 23, 0, 0), (.aload_n 0, 65, 40, 0, 0, 0), (.iload_n 2, 66, 41, 0, 0, 0), (.invokevirtual 198, 67, 42, 139, 1, 0), (.ireturn, 70, 43, 0, 0, 0)]],
   [], 198)
/-- HeardVotesModel.dropsOnPaper(I)V: 199 -/
def TX11_dropsOnPaper : TB := ([[(.aload_n 0, 0, 1, 0, 0, 0), (.invokevirtual 303, 1, 2, 157, 0, 0), (.aload_n 0, 4, 3, 0, 0, 0), (.getfield 48, 5, 4, 11, 27, 0), (.invokestatic 204, 8, 5, 156, 1, 0), (.iconst 0, 11, 6, 0, 0, 0), (.istore_n 2, 12, 7, 0, 0, 0), (.iload_n 2, 13, 8, 0, 0, 0), (.aload_n 0, 14, 9, 0, 0, 0), (.getfield 45, 15, 10, 11, 26, 0), (.bipush 10, 18, 11, 0, 0, 0), (.iaload, 20, 12, 0, 0, 0), (.if_icmp .ge 44, 21, 13, 36, 0, 0), (.aload_n 0, 24, 14, 0, 0, 0), (.getfield 45, 25, 15, 11, 26, 0), (.bipush 11, 28, 16, 0, 0, 0)],
   [(.iload_n 2, 30, 17, 0, 0, 0), (.iadd, 31, 18, 0, 0, 0), (.iaload, 32, 19, 0, 0, 0), (.iload_n 1, 33, 20, 0, 0, 0), (.if_icmp .ne 7, 34, 21, 23, 0, 0), (.iconst 0, 37, 22, 0, 0, 0), (.goto 20, 38, 23, 33, 0, 0), (.aload_n 0, 41, 24, 0, 0, 0), (.aload_n 0, 42, 25, 0, 0, 0), (.getfield 48, 43, 26, 11, 27, 0), (.aload_n 0, 46, 27, 0, 0, 0), (.getfield 45, 47, 28, 11, 26, 0), (.bipush 11, 50, 29, 0, 0, 0), (.iload_n 2, 52, 30, 0, 0, 0), (.iadd, 53, 31, 0, 0, 0), (.iaload, 54, 32, 0, 0, 0)],
   [(.invokevirtual 297, 55, 33, 170, 2, 0), (.istore_n 3, 58, 34, 0, 0, 0), (.iinc 2 1, 59, 35, 0, 0, 0), (.goto (-49), 62, 36, 7, 0, 0), (.return_, 65, 37, 0, 0, 0)]],
   [], 199)
/-- HeardVotesModel.drop(I)I: 200 -/
def TX11_drop : TB := ([[(.aload_n 0, 0, 1, 0, 0, 0), (.iconst 0, 1, 2, 0, 0, 0), (.putfield 96, 2, 3, 11, 0, 0), (.aload_n 0, 5, 4, 0, 0, 0), (.iload_n 1, 6, 5, 0, 0, 0), (.invokevirtual 278, 7, 6, 180, 1, 0), (.ifCond .ne 9, 10, 7, 11, 0, 0), (.aload_n 0, 13, 8, 0, 0, 0), (.iconst 1, 14, 9, 0, 0, 0), (.invokevirtual 185, 15, 10, 138, 1, 0), (.ireturn, 18, 11, 0, 0, 0), (.aload_n 0, 19, 12, 0, 0, 0), (.getfield 45, 20, 13, 11, 26, 0), (.iload_n 1, 23, 14, 0, 0, 0), (.invokestatic 249, 24, 15, 162, 2, 0), (.iconst (-1), 27, 16, 0, 0, 0)],
   [(.if_icmp .ne 9, 28, 17, 21, 0, 0), (.aload_n 0, 31, 18, 0, 0, 0), (.iconst 5, 32, 19, 0, 0, 0), (.invokevirtual 185, 33, 20, 138, 1, 0), (.ireturn, 36, 21, 0, 0, 0), (.aload_n 0, 37, 22, 0, 0, 0), (.iload_n 1, 38, 23, 0, 0, 0), (.invokevirtual 306, 39, 24, 199, 1, 0), (.aload_n 0, 42, 25, 0, 0, 0), (.invokevirtual 309, 43, 26, 158, 0, 0), (.aload_n 0, 46, 27, 0, 0, 0), (.aload_n 0, 47, 28, 0, 0, 0), (.getfield 45, 48, 29, 11, 26, 0), (.bipush 21, 51, 30, 0, 0, 0), (.iaload, 53, 31, 0, 0, 0), (.invokevirtual 198, 54, 32, 139, 1, 0)],
   [(.ireturn, 57, 33, 0, 0, 0)]],
   [], 200)
/-- HeardVotesModel.weigh()I: 201 -/
def TX11_weigh : TB := ([[(.aload_n 0, 0, 1, 0, 0, 0), (.iconst 0, 1, 2, 0, 0, 0), (.putfield 96, 2, 3, 11, 0, 0), (.aload_n 0, 5, 4, 0, 0, 0), (.getfield 195, 6, 5, 11, 24, 0), (.ifCond .ne 9, 9, 6, 10, 0, 0), (.aload_n 0, 12, 7, 0, 0, 0), (.iconst 1, 13, 8, 0, 0, 0), (.invokevirtual 185, 14, 9, 138, 1, 0), (.ireturn, 17, 10, 0, 0, 0), (.aload_n 0, 18, 11, 0, 0, 0), (.invokevirtual 303, 19, 12, 157, 0, 0), (.iconst 0, 22, 13, 0, 0, 0), (.istore_n 1, 23, 14, 0, 0, 0), (.iconst 0, 24, 15, 0, 0, 0), (.istore_n 2, 25, 16, 0, 0, 0)],
   [(.iload_n 2, 26, 17, 0, 0, 0), (.aload_n 0, 27, 18, 0, 0, 0), (.getfield 195, 28, 19, 11, 24, 0), (.if_icmp .ge 80, 31, 20, 68, 0, 0), (.aload_n 0, 34, 21, 0, 0, 0), (.getfield 45, 35, 22, 11, 26, 0), (.iload_n 2, 38, 23, 0, 0, 0), (.invokestatic 249, 39, 24, 162, 2, 0), (.iconst (-1), 42, 25, 0, 0, 0), (.if_icmp .ne 6, 43, 26, 27, 0, 0), (.goto 59, 46, 27, 66, 0, 0), (.aload_n 0, 49, 28, 0, 0, 0), (.getfield 48, 50, 29, 11, 27, 0), (.iconst 5, 53, 30, 0, 0, 0), (.iload_n 2, 54, 31, 0, 0, 0), (.iadd, 55, 32, 0, 0, 0)],
   [(.bipush 98, 56, 33, 0, 0, 0), (.aload_n 0, 58, 34, 0, 0, 0), (.aload_n 0, 59, 35, 0, 0, 0), (.getfield 45, 60, 36, 11, 26, 0), (.iload_n 2, 63, 37, 0, 0, 0), (.invokevirtual 281, 64, 38, 179, 2, 0), (.imul, 67, 39, 0, 0, 0), (.aload_n 0, 68, 40, 0, 0, 0), (.getfield 36, 69, 41, 11, 20, 0), (.iload_n 2, 72, 42, 0, 0, 0), (.iaload, 73, 43, 0, 0, 0), (.idiv, 74, 44, 0, 0, 0), (.iconst 1, 75, 45, 0, 0, 0), (.iadd, 76, 46, 0, 0, 0), (.iastore, 77, 47, 0, 0, 0), (.iload_n 1, 78, 48, 0, 0, 0)],
   [(.aload_n 0, 79, 49, 0, 0, 0), (.getfield 48, 80, 50, 11, 27, 0), (.iconst 5, 83, 51, 0, 0, 0), (.iload_n 2, 84, 52, 0, 0, 0), (.iadd, 85, 53, 0, 0, 0), (.iaload, 86, 54, 0, 0, 0), (.aload_n 0, 87, 55, 0, 0, 0), (.getfield 45, 88, 56, 11, 26, 0), (.iconst 5, 91, 57, 0, 0, 0), (.iload_n 2, 92, 58, 0, 0, 0), (.iadd, 93, 59, 0, 0, 0), (.iaload, 94, 60, 0, 0, 0), (.if_icmp .ne 7, 95, 61, 63, 0, 0), (.iconst 0, 98, 62, 0, 0, 0), (.goto 4, 99, 63, 64, 0, 0), (.iconst 1, 102, 64, 0, 0, 0)],
   [(.iadd, 103, 65, 0, 0, 0), (.istore_n 1, 104, 66, 0, 0, 0), (.iinc 2 1, 105, 67, 0, 0, 0), (.goto (-82), 108, 68, 16, 0, 0), (.aload_n 0, 111, 69, 0, 0, 0), (.invokevirtual 309, 112, 70, 158, 0, 0), (.aload_n 0, 115, 71, 0, 0, 0), (.iload_n 1, 116, 72, 0, 0, 0), (.invokevirtual 198, 117, 73, 139, 1, 0), (.ireturn, 120, 74, 0, 0, 0)]],
   [], 201)
/-- HeardVotesModel.endTime(IZ)I: 202 -/
def TX11_endTime : TB := ([[(.iconst (-1), 0, 1, 0, 0, 0), (.istore_n 3, 1, 2, 0, 0, 0), (.iconst 0, 2, 3, 0, 0, 0), (.istore 4, 3, 4, 0, 0, 0), (.iload 4, 5, 5, 0, 0, 0), (.aload_n 0, 7, 6, 0, 0, 0), (.getfield 195, 8, 7, 11, 24, 0), (.if_icmp .ge 71, 11, 8, 42, 0, 0), (.aload_n 0, 14, 9, 0, 0, 0), (.getfield 45, 15, 10, 11, 26, 0), (.iload_n 1, 18, 11, 0, 0, 0), (.iload 4, 19, 12, 0, 0, 0), (.invokestatic 225, 21, 13, 161, 3, 0), (.istore 5, 24, 14, 0, 0, 0), (.iload 5, 26, 15, 0, 0, 0), (.ifCond .ge 6, 28, 16, 17, 0, 0)],
   [(.goto 45, 31, 17, 40, 0, 0), (.aload_n 0, 34, 18, 0, 0, 0), (.getfield 42, 35, 19, 11, 22, 0), (.bipush 12, 38, 20, 0, 0, 0), (.iload 4, 40, 21, 0, 0, 0), (.imul, 42, 22, 0, 0, 0), (.iload 5, 43, 23, 0, 0, 0), (.iadd, 45, 24, 0, 0, 0), (.iaload, 46, 25, 0, 0, 0), (.istore 6, 47, 26, 0, 0, 0), (.iload_n 3, 49, 27, 0, 0, 0), (.iconst (-1), 50, 28, 0, 0, 0), (.if_icmp .eq 22, 51, 29, 38, 0, 0), (.iload_n 2, 54, 30, 0, 0, 0), (.ifCond .eq 12, 55, 31, 35, 0, 0), (.iload 6, 58, 32, 0, 0, 0)],
   [(.iload_n 3, 60, 33, 0, 0, 0), (.if_icmp .le 15, 61, 34, 40, 0, 0), (.goto 9, 64, 35, 38, 0, 0), (.iload 6, 67, 36, 0, 0, 0), (.iload_n 3, 69, 37, 0, 0, 0), (.if_icmp .ge 6, 70, 38, 40, 0, 0), (.iload 6, 73, 39, 0, 0, 0), (.istore_n 3, 75, 40, 0, 0, 0), (.iinc 4 1, 76, 41, 0, 0, 0), (.goto (-74), 79, 42, 4, 0, 0), (.iload_n 3, 82, 43, 0, 0, 0), (.ireturn, 83, 44, 0, 0, 0)]],
   [], 202)
/-- HeardVotesModel.wordsThere(I)I: 203 -/
def TX11_wordsThere : TB := ([[(.iconst 0, 0, 1, 0, 0, 0), (.istore_n 2, 1, 2, 0, 0, 0), (.iconst 0, 2, 3, 0, 0, 0), (.istore_n 3, 3, 4, 0, 0, 0), (.iload_n 3, 4, 5, 0, 0, 0), (.aload_n 0, 5, 6, 0, 0, 0), (.getfield 195, 6, 7, 11, 24, 0), (.if_icmp .ge 29, 9, 8, 22, 0, 0), (.iload_n 2, 12, 9, 0, 0, 0), (.aload_n 0, 13, 10, 0, 0, 0), (.getfield 45, 14, 11, 11, 26, 0), (.iload_n 1, 17, 12, 0, 0, 0), (.iload_n 3, 18, 13, 0, 0, 0), (.invokestatic 225, 19, 14, 161, 3, 0), (.ifCond .lt 7, 22, 15, 17, 0, 0), (.iconst 1, 25, 16, 0, 0, 0)],
   [(.goto 4, 26, 17, 18, 0, 0), (.iconst 0, 29, 18, 0, 0, 0), (.iadd, 30, 19, 0, 0, 0), (.istore_n 2, 31, 20, 0, 0, 0), (.iinc 3 1, 32, 21, 0, 0, 0), (.goto (-31), 35, 22, 4, 0, 0), (.iload_n 2, 38, 23, 0, 0, 0), (.ireturn, 39, 24, 0, 0, 0)]],
   [], 203)
/-- HeardVotesModel.placeHeard(I)I: 204 -/
def TX11_placeHeard : TB := ([[(.aload_n 0, 0, 1, 0, 0, 0), (.aload_n 0, 1, 2, 0, 0, 0), (.getfield 45, 2, 3, 11, 26, 0), (.iload_n 1, 5, 4, 0, 0, 0), (.invokevirtual 267, 6, 5, 175, 2, 0), (.bipush (-2), 9, 6, 0, 0, 0), (.if_icmp .ne 6, 11, 7, 9, 0, 0), (.bipush (-2), 14, 8, 0, 0, 0), (.ireturn, 16, 9, 0, 0, 0), (.iconst 0, 17, 10, 0, 0, 0), (.istore_n 2, 18, 11, 0, 0, 0), (.iconst 0, 19, 12, 0, 0, 0), (.istore_n 3, 20, 13, 0, 0, 0), (.iload_n 3, 21, 14, 0, 0, 0), (.iload_n 1, 22, 15, 0, 0, 0), (.if_icmp .ge 31, 23, 16, 31, 0, 0)],
   [(.iload_n 2, 26, 17, 0, 0, 0), (.aload_n 0, 27, 18, 0, 0, 0), (.aload_n 0, 28, 19, 0, 0, 0), (.getfield 45, 29, 20, 11, 26, 0), (.iload_n 3, 32, 21, 0, 0, 0), (.invokevirtual 267, 33, 22, 175, 2, 0), (.bipush (-2), 36, 23, 0, 0, 0), (.if_icmp .ne 7, 38, 24, 26, 0, 0), (.iconst 0, 41, 25, 0, 0, 0), (.goto 4, 42, 26, 27, 0, 0), (.iconst 1, 45, 27, 0, 0, 0), (.iadd, 46, 28, 0, 0, 0), (.istore_n 2, 47, 29, 0, 0, 0), (.iinc 3 1, 48, 30, 0, 0, 0), (.goto (-30), 51, 31, 13, 0, 0), (.iload_n 2, 54, 32, 0, 0, 0)],
   [(.ireturn, 55, 33, 0, 0, 0)]],
   [], 204)
/-- HeardVotesModel.slot(II)I: 205 -/
def TX11_slot : TB := ([[(.aload_n 0, 0, 1, 0, 0, 0), (.iconst 0, 1, 2, 0, 0, 0), (.putfield 96, 2, 3, 11, 0, 0), (.aload_n 0, 5, 4, 0, 0, 0), (.iload_n 1, 6, 5, 0, 0, 0), (.invokevirtual 312, 7, 6, 181, 1, 0), (.ifCond .ne 9, 10, 7, 11, 0, 0), (.aload_n 0, 13, 8, 0, 0, 0), (.iconst 1, 14, 9, 0, 0, 0), (.invokevirtual 185, 15, 10, 138, 1, 0), (.ireturn, 18, 11, 0, 0, 0), (.aload_n 0, 19, 12, 0, 0, 0), (.aload_n 0, 20, 13, 0, 0, 0), (.getfield 45, 21, 14, 11, 26, 0), (.iload_n 1, 24, 15, 0, 0, 0), (.invokevirtual 263, 25, 16, 171, 2, 0)],
   [(.iload_n 2, 28, 17, 0, 0, 0), (.tableswitch 132 0 7 #[47, 57, 66, 80, 89, 100, 110, 121], 29, 18, 69, 0, 0), (.aload_n 0, 76, 19, 0, 0, 0), (.aload_n 0, 77, 20, 0, 0, 0), (.iload_n 1, 78, 21, 0, 0, 0), (.invokevirtual 315, 79, 22, 203, 1, 0), (.invokevirtual 198, 82, 23, 139, 1, 0), (.ireturn, 85, 24, 0, 0, 0), (.aload_n 0, 86, 25, 0, 0, 0), (.aload_n 0, 87, 26, 0, 0, 0), (.getfield 243, 88, 27, 11, 38, 0), (.invokevirtual 198, 91, 28, 139, 1, 0), (.ireturn, 94, 29, 0, 0, 0), (.aload_n 0, 95, 30, 0, 0, 0), (.aload_n 0, 96, 31, 0, 0, 0), (.aload_n 0, 97, 32, 0, 0, 0)],
   [(.getfield 45, 98, 33, 11, 26, 0), (.iload_n 1, 101, 34, 0, 0, 0), (.invokevirtual 232, 102, 35, 167, 2, 0), (.invokevirtual 198, 105, 36, 139, 1, 0), (.ireturn, 108, 37, 0, 0, 0), (.aload_n 0, 109, 38, 0, 0, 0), (.aload_n 0, 110, 39, 0, 0, 0), (.getfield 246, 111, 40, 11, 39, 0), (.invokevirtual 198, 114, 41, 139, 1, 0), (.ireturn, 117, 42, 0, 0, 0), (.aload_n 0, 118, 43, 0, 0, 0), (.aload_n 0, 119, 44, 0, 0, 0), (.getfield 72, 120, 45, 11, 36, 0), (.iconst 0, 123, 46, 0, 0, 0), (.iaload, 124, 47, 0, 0, 0), (.invokevirtual 198, 125, 48, 139, 1, 0)],
   [(.ireturn, 128, 49, 0, 0, 0), (.aload_n 0, 129, 50, 0, 0, 0), (.aload_n 0, 130, 51, 0, 0, 0), (.iload_n 1, 131, 52, 0, 0, 0), (.invokevirtual 318, 132, 53, 204, 1, 0), (.invokevirtual 198, 135, 54, 139, 1, 0), (.ireturn, 138, 55, 0, 0, 0), (.aload_n 0, 139, 56, 0, 0, 0), (.aload_n 0, 140, 57, 0, 0, 0), (.iload_n 1, 141, 58, 0, 0, 0), (.iconst 0, 142, 59, 0, 0, 0), (.invokevirtual 321, 143, 60, 202, 2, 0), (.invokevirtual 198, 146, 61, 139, 1, 0), (.ireturn, 149, 62, 0, 0, 0), (.aload_n 0, 150, 63, 0, 0, 0), (.aload_n 0, 151, 64, 0, 0, 0)],
   [(.iload_n 1, 152, 65, 0, 0, 0), (.iconst 1, 153, 66, 0, 0, 0), (.invokevirtual 321, 154, 67, 202, 2, 0), (.invokevirtual 198, 157, 68, 139, 1, 0), (.ireturn, 160, 69, 0, 0, 0), (.aload_n 0, 161, 70, 0, 0, 0), (.iconst 1, 162, 71, 0, 0, 0), (.invokevirtual 185, 163, 72, 138, 1, 0), (.ireturn, 166, 73, 0, 0, 0)]],
   [(17, [(0, 18), (1, 24), (2, 29), (3, 37), (4, 42), (5, 49), (6, 55), (7, 62)], 69)], 205)
/-- HeardVotesModel.at(II)I: 206 -/
def TX11_at : TB := ([[(.aload_n 0, 0, 1, 0, 0, 0), (.iconst 0, 1, 2, 0, 0, 0), (.putfield 96, 2, 3, 11, 0, 0), (.aload_n 0, 5, 4, 0, 0, 0), (.iload_n 1, 6, 5, 0, 0, 0), (.invokevirtual 312, 7, 6, 181, 1, 0), (.ifCond .eq 11, 10, 7, 11, 0, 0), (.aload_n 0, 13, 8, 0, 0, 0), (.iload_n 2, 14, 9, 0, 0, 0), (.invokevirtual 278, 15, 10, 180, 1, 0), (.ifCond .ne 9, 18, 11, 15, 0, 0), (.aload_n 0, 21, 12, 0, 0, 0), (.iconst 1, 22, 13, 0, 0, 0), (.invokevirtual 185, 23, 14, 138, 1, 0), (.ireturn, 26, 15, 0, 0, 0), (.aload_n 0, 27, 16, 0, 0, 0)],
   [(.aload_n 0, 28, 17, 0, 0, 0), (.getfield 45, 29, 18, 11, 26, 0), (.iload_n 1, 32, 19, 0, 0, 0), (.iload_n 2, 33, 20, 0, 0, 0), (.invokestatic 225, 34, 21, 161, 3, 0), (.ifCond .lt 15, 37, 22, 28, 0, 0), (.aload_n 0, 40, 23, 0, 0, 0), (.getfield 45, 41, 24, 11, 26, 0), (.iload_n 1, 44, 25, 0, 0, 0), (.iload_n 2, 45, 26, 0, 0, 0), (.invokestatic 225, 46, 27, 161, 3, 0), (.goto 5, 49, 28, 29, 0, 0), (.bipush (-2), 52, 29, 0, 0, 0), (.invokevirtual 198, 54, 30, 139, 1, 0), (.ireturn, 57, 31, 0, 0, 0)]],
   [], 206)
/-- HeardVotesModel.choice(III)I: 207 -/
def TX11_choice : TB := ([[(.aload_n 0, 0, 1, 0, 0, 0), (.iconst 0, 1, 2, 0, 0, 0), (.putfield 96, 2, 3, 11, 0, 0), (.aload_n 0, 5, 4, 0, 0, 0), (.iload_n 1, 6, 5, 0, 0, 0), (.invokevirtual 312, 7, 6, 181, 1, 0), (.ifCond .ne 9, 10, 7, 11, 0, 0), (.aload_n 0, 13, 8, 0, 0, 0), (.iconst 1, 14, 9, 0, 0, 0), (.invokevirtual 185, 15, 10, 138, 1, 0), (.ireturn, 18, 11, 0, 0, 0), (.aload_n 0, 19, 12, 0, 0, 0), (.aload_n 0, 20, 13, 0, 0, 0), (.getfield 45, 21, 14, 11, 26, 0), (.iload_n 1, 24, 15, 0, 0, 0), (.invokevirtual 263, 25, 16, 171, 2, 0)],
   [(.iload_n 2, 28, 17, 0, 0, 0), (.iconst 0, 29, 18, 0, 0, 0), (.aload_n 0, 30, 19, 0, 0, 0), (.getfield 243, 31, 20, 11, 38, 0), (.iconst 1, 34, 21, 0, 0, 0), (.isub, 35, 22, 0, 0, 0), (.invokestatic 117, 36, 23, 141, 3, 0), (.ifCond .ne 9, 39, 24, 28, 0, 0), (.aload_n 0, 42, 25, 0, 0, 0), (.iconst 1, 43, 26, 0, 0, 0), (.invokevirtual 185, 44, 27, 138, 1, 0), (.ireturn, 47, 28, 0, 0, 0), (.aload_n 0, 48, 29, 0, 0, 0), (.getfield 75, 49, 30, 11, 37, 0), (.iload_n 2, 52, 31, 0, 0, 0), (.iaload, 53, 32, 0, 0, 0)],
   [(.aload_n 0, 54, 33, 0, 0, 0), (.getfield 246, 55, 34, 11, 39, 0), (.invokestatic 325, 58, 35, 142, 2, 0), (.istore 4, 61, 36, 0, 0, 0), (.iload_n 3, 63, 37, 0, 0, 0), (.tableswitch 80 0 3 #[32, 43, 54, 68], 64, 38, 68, 0, 0), (.aload_n 0, 96, 39, 0, 0, 0), (.aload_n 0, 97, 40, 0, 0, 0), (.getfield 72, 98, 41, 11, 36, 0), (.iload_n 2, 101, 42, 0, 0, 0), (.iaload, 102, 43, 0, 0, 0), (.invokevirtual 198, 103, 44, 139, 1, 0), (.ireturn, 106, 45, 0, 0, 0), (.aload_n 0, 107, 46, 0, 0, 0), (.aload_n 0, 108, 47, 0, 0, 0), (.getfield 75, 109, 48, 11, 37, 0)],
   [(.iload_n 2, 112, 49, 0, 0, 0), (.iaload, 113, 50, 0, 0, 0), (.invokevirtual 198, 114, 51, 139, 1, 0), (.ireturn, 117, 52, 0, 0, 0), (.aload_n 0, 118, 53, 0, 0, 0), (.aload_n 0, 119, 54, 0, 0, 0), (.getfield 75, 120, 55, 11, 37, 0), (.iload_n 2, 123, 56, 0, 0, 0), (.iaload, 124, 57, 0, 0, 0), (.iload 4, 125, 58, 0, 0, 0), (.idiv, 127, 59, 0, 0, 0), (.invokevirtual 198, 128, 60, 139, 1, 0), (.ireturn, 131, 61, 0, 0, 0), (.aload_n 0, 132, 62, 0, 0, 0), (.aload_n 0, 133, 63, 0, 0, 0), (.getfield 246, 134, 64, 11, 39, 0)],
   [(.iload 4, 137, 65, 0, 0, 0), (.idiv, 139, 66, 0, 0, 0), (.invokevirtual 198, 140, 67, 139, 1, 0), (.ireturn, 143, 68, 0, 0, 0), (.aload_n 0, 144, 69, 0, 0, 0), (.iconst 1, 145, 70, 0, 0, 0), (.invokevirtual 185, 146, 71, 138, 1, 0), (.ireturn, 149, 72, 0, 0, 0)]],
   [(37, [(0, 38), (1, 45), (2, 52), (3, 61)], 68)], 207)
/-- HeardVotesModel.doubt(II)I: 208 -/
def TX11_doubt : TB := ([[(.aload_n 0, 0, 1, 0, 0, 0), (.iconst 0, 1, 2, 0, 0, 0), (.putfield 96, 2, 3, 11, 0, 0), (.aload_n 0, 5, 4, 0, 0, 0), (.iload_n 1, 6, 5, 0, 0, 0), (.invokevirtual 312, 7, 6, 181, 1, 0), (.ifCond .eq 12, 10, 7, 12, 0, 0), (.iload_n 2, 13, 8, 0, 0, 0), (.iconst 0, 14, 9, 0, 0, 0), (.iconst 1, 15, 10, 0, 0, 0), (.invokestatic 117, 16, 11, 141, 3, 0), (.ifCond .ne 9, 19, 12, 16, 0, 0), (.aload_n 0, 22, 13, 0, 0, 0), (.iconst 1, 23, 14, 0, 0, 0), (.invokevirtual 185, 24, 15, 138, 1, 0), (.ireturn, 27, 16, 0, 0, 0)],
   [(.aload_n 0, 28, 17, 0, 0, 0), (.aload_n 0, 29, 18, 0, 0, 0), (.getfield 45, 30, 19, 11, 26, 0), (.iload_n 1, 33, 20, 0, 0, 0), (.invokevirtual 328, 34, 21, 176, 2, 0), (.istore_n 3, 37, 22, 0, 0, 0), (.iload_n 3, 38, 23, 0, 0, 0), (.aload_n 0, 39, 24, 0, 0, 0), (.getfield 246, 40, 25, 11, 39, 0), (.invokestatic 325, 43, 26, 142, 2, 0), (.istore 4, 46, 27, 0, 0, 0), (.aload_n 0, 48, 28, 0, 0, 0), (.iload_n 2, 49, 29, 0, 0, 0), (.ifCond .ne 7, 50, 30, 32, 0, 0), (.iload_n 3, 53, 31, 0, 0, 0), (.goto 7, 54, 32, 34, 0, 0)],
   [(.aload_n 0, 57, 33, 0, 0, 0), (.getfield 246, 58, 34, 11, 39, 0), (.iload 4, 61, 35, 0, 0, 0), (.idiv, 63, 36, 0, 0, 0), (.invokevirtual 198, 64, 37, 139, 1, 0), (.ireturn, 67, 38, 0, 0, 0)]],
   [], 208)
/-- HeardVotesModel.ahead(I)I: 209 -/
def TX11_ahead : TB := ([[(.iconst 0, 0, 1, 0, 0, 0), (.istore_n 2, 1, 2, 0, 0, 0), (.iconst 0, 2, 3, 0, 0, 0), (.istore_n 3, 3, 4, 0, 0, 0), (.iload_n 3, 4, 5, 0, 0, 0), (.aload_n 0, 5, 6, 0, 0, 0), (.getfield 45, 6, 7, 11, 26, 0), (.bipush 21, 9, 8, 0, 0, 0), (.iaload, 11, 9, 0, 0, 0), (.if_icmp .ge 72, 12, 10, 53, 0, 0), (.aload_n 0, 15, 11, 0, 0, 0), (.getfield 78, 16, 12, 11, 40, 0), (.iload_n 3, 19, 13, 0, 0, 0), (.iaload, 20, 14, 0, 0, 0), (.i2l, 21, 15, 0, 0, 0), (.aload_n 0, 22, 16, 0, 0, 0)],
   [(.getfield 81, 23, 17, 11, 41, 0), (.iload_n 1, 26, 18, 0, 0, 0), (.iaload, 27, 19, 0, 0, 0), (.i2l, 28, 20, 0, 0, 0), (.lmul, 29, 21, 0, 0, 0), (.lstore 4, 30, 22, 0, 0, 0), (.aload_n 0, 32, 23, 0, 0, 0), (.getfield 78, 33, 24, 11, 40, 0), (.iload_n 1, 36, 25, 0, 0, 0), (.iaload, 37, 26, 0, 0, 0), (.i2l, 38, 27, 0, 0, 0), (.aload_n 0, 39, 28, 0, 0, 0), (.getfield 81, 40, 29, 11, 41, 0), (.iload_n 3, 43, 30, 0, 0, 0), (.iaload, 44, 31, 0, 0, 0), (.i2l, 45, 32, 0, 0, 0)],
   [(.lmul, 46, 33, 0, 0, 0), (.lstore 6, 47, 34, 0, 0, 0), (.iload_n 2, 49, 35, 0, 0, 0), (.lload 4, 50, 36, 0, 0, 0), (.lload 6, 52, 37, 0, 0, 0), (.lcmp, 54, 38, 0, 0, 0), (.ifCond .gt 16, 55, 39, 46, 0, 0), (.lload 4, 58, 40, 0, 0, 0), (.lload 6, 60, 41, 0, 0, 0), (.lcmp, 62, 42, 0, 0, 0), (.ifCond .ne 12, 63, 43, 48, 0, 0), (.iload_n 3, 66, 44, 0, 0, 0), (.iload_n 1, 67, 45, 0, 0, 0), (.if_icmp .ge 7, 68, 46, 48, 0, 0), (.iconst 1, 71, 47, 0, 0, 0), (.goto 4, 72, 48, 49, 0, 0)],
   [(.iconst 0, 75, 49, 0, 0, 0), (.iadd, 76, 50, 0, 0, 0), (.istore_n 2, 77, 51, 0, 0, 0), (.iinc 3 1, 78, 52, 0, 0, 0), (.goto (-77), 81, 53, 4, 0, 0), (.iload_n 2, 84, 54, 0, 0, 0), (.ireturn, 85, 55, 0, 0, 0)]],
   [], 209)
/-- HeardVotesModel.doubtful(I)I: 210 -/
def TX11_doubtful : TB := ([[(.aload_n 0, 0, 1, 0, 0, 0), (.iconst 0, 1, 2, 0, 0, 0), (.putfield 96, 2, 3, 11, 0, 0), (.aload_n 0, 5, 4, 0, 0, 0), (.getfield 195, 6, 5, 11, 24, 0), (.ifCond .eq 20, 9, 6, 16, 0, 0), (.iload_n 1, 12, 7, 0, 0, 0), (.iconst 0, 13, 8, 0, 0, 0), (.aload_n 0, 14, 9, 0, 0, 0), (.getfield 45, 15, 10, 11, 26, 0), (.bipush 21, 18, 11, 0, 0, 0), (.iaload, 20, 12, 0, 0, 0), (.iconst 1, 21, 13, 0, 0, 0), (.isub, 22, 14, 0, 0, 0), (.invokestatic 117, 23, 15, 141, 3, 0), (.ifCond .ne 9, 26, 16, 20, 0, 0)],
   [(.aload_n 0, 29, 17, 0, 0, 0), (.iconst 1, 30, 18, 0, 0, 0), (.invokevirtual 185, 31, 19, 138, 1, 0), (.ireturn, 34, 20, 0, 0, 0), (.iconst 0, 35, 21, 0, 0, 0), (.istore_n 2, 36, 22, 0, 0, 0), (.iload_n 2, 37, 23, 0, 0, 0), (.aload_n 0, 38, 24, 0, 0, 0), (.getfield 45, 39, 25, 11, 26, 0), (.bipush 21, 42, 26, 0, 0, 0), (.iaload, 44, 27, 0, 0, 0), (.if_icmp .ge 34, 45, 28, 45, 0, 0), (.aload_n 0, 48, 29, 0, 0, 0), (.getfield 78, 49, 30, 11, 40, 0), (.iload_n 2, 52, 31, 0, 0, 0), (.aload_n 0, 53, 32, 0, 0, 0)],
   [(.aload_n 0, 54, 33, 0, 0, 0), (.getfield 45, 55, 34, 11, 26, 0), (.iload_n 2, 58, 35, 0, 0, 0), (.invokevirtual 328, 59, 36, 176, 2, 0), (.iastore, 62, 37, 0, 0, 0), (.aload_n 0, 63, 38, 0, 0, 0), (.getfield 81, 64, 39, 11, 41, 0), (.iload_n 2, 67, 40, 0, 0, 0), (.aload_n 0, 68, 41, 0, 0, 0), (.getfield 246, 69, 42, 11, 39, 0), (.iastore, 72, 43, 0, 0, 0), (.iinc 2 1, 73, 44, 0, 0, 0), (.goto (-39), 76, 45, 22, 0, 0), (.iconst 0, 79, 46, 0, 0, 0), (.istore_n 2, 80, 47, 0, 0, 0), (.aload_n 0, 81, 48, 0, 0, 0)],
   [(.iload_n 2, 82, 49, 0, 0, 0), (.invokevirtual 331, 83, 50, 209, 1, 0), (.iload_n 1, 86, 51, 0, 0, 0), (.if_icmp .eq 9, 87, 52, 54, 0, 0), (.iinc 2 1, 90, 53, 0, 0, 0), (.goto (-12), 93, 54, 47, 0, 0), (.aload_n 0, 96, 55, 0, 0, 0), (.iload_n 2, 97, 56, 0, 0, 0), (.invokevirtual 198, 98, 57, 139, 1, 0), (.ireturn, 101, 58, 0, 0, 0)]],
   [], 210)
/-- HeardVotesModel.heardAt(I)I: 211 -/
def TX11_heardAt : TB := ([[(.aload_n 0, 0, 1, 0, 0, 0), (.aload_n 0, 1, 2, 0, 0, 0), (.getfield 45, 2, 3, 11, 26, 0), (.iload_n 1, 5, 4, 0, 0, 0), (.invokevirtual 267, 6, 5, 175, 2, 0), (.istore_n 2, 9, 6, 0, 0, 0), (.iconst 0, 10, 7, 0, 0, 0), (.istore_n 3, 11, 8, 0, 0, 0), (.iconst 0, 12, 9, 0, 0, 0), (.istore 4, 13, 10, 0, 0, 0), (.iconst 0, 15, 11, 0, 0, 0), (.istore 5, 16, 12, 0, 0, 0), (.iload 5, 18, 13, 0, 0, 0), (.aload_n 0, 20, 14, 0, 0, 0), (.getfield 195, 21, 15, 11, 24, 0), (.if_icmp .ge 86, 24, 16, 64, 0, 0)],
   [(.aload_n 0, 27, 17, 0, 0, 0), (.getfield 45, 28, 18, 11, 26, 0), (.iload_n 1, 31, 19, 0, 0, 0), (.iload 5, 32, 20, 0, 0, 0), (.invokestatic 225, 34, 21, 161, 3, 0), (.istore 6, 37, 22, 0, 0, 0), (.iload 6, 39, 23, 0, 0, 0), (.ifCond .lt 63, 41, 24, 62, 0, 0), (.aload_n 0, 44, 25, 0, 0, 0), (.getfield 39, 45, 26, 11, 21, 0), (.bipush 12, 48, 27, 0, 0, 0), (.iload 5, 50, 28, 0, 0, 0), (.imul, 52, 29, 0, 0, 0), (.iload 6, 53, 30, 0, 0, 0), (.iadd, 55, 31, 0, 0, 0), (.iaload, 56, 32, 0, 0, 0)],
   [(.iload_n 2, 57, 33, 0, 0, 0), (.if_icmp .eq 6, 58, 34, 35, 0, 0), (.goto 43, 61, 35, 62, 0, 0), (.iload_n 3, 64, 36, 0, 0, 0), (.aload_n 0, 65, 37, 0, 0, 0), (.getfield 45, 66, 38, 11, 26, 0), (.iconst 5, 69, 39, 0, 0, 0), (.iload 5, 70, 40, 0, 0, 0), (.iadd, 72, 41, 0, 0, 0), (.iaload, 73, 42, 0, 0, 0), (.aload_n 0, 74, 43, 0, 0, 0), (.getfield 42, 75, 44, 11, 22, 0), (.bipush 12, 78, 45, 0, 0, 0), (.iload 5, 80, 46, 0, 0, 0), (.imul, 82, 47, 0, 0, 0), (.iload 6, 83, 48, 0, 0, 0)],
   [(.iadd, 85, 49, 0, 0, 0), (.iaload, 86, 50, 0, 0, 0), (.imul, 87, 51, 0, 0, 0), (.iadd, 88, 52, 0, 0, 0), (.istore_n 3, 89, 53, 0, 0, 0), (.iload 4, 90, 54, 0, 0, 0), (.aload_n 0, 92, 55, 0, 0, 0), (.getfield 45, 93, 56, 11, 26, 0), (.iconst 5, 96, 57, 0, 0, 0), (.iload 5, 97, 58, 0, 0, 0), (.iadd, 99, 59, 0, 0, 0), (.iaload, 100, 60, 0, 0, 0), (.iadd, 101, 61, 0, 0, 0), (.istore 4, 102, 62, 0, 0, 0), (.iinc 5 1, 104, 63, 0, 0, 0), (.goto (-89), 107, 64, 12, 0, 0)],
   [(.iload_n 3, 110, 65, 0, 0, 0), (.iload 4, 111, 66, 0, 0, 0), (.idiv, 113, 67, 0, 0, 0), (.ireturn, 114, 68, 0, 0, 0)]],
   [], 211)
/-- HeardVotesModel.heard(II)I: 212 -/
def TX11_heard : TB := ([[(.aload_n 0, 0, 1, 0, 0, 0), (.iconst 0, 1, 2, 0, 0, 0), (.putfield 96, 2, 3, 11, 0, 0), (.aload_n 0, 5, 4, 0, 0, 0), (.getfield 195, 6, 5, 11, 24, 0), (.ifCond .ne 7, 9, 6, 8, 0, 0), (.iconst (-1), 12, 7, 0, 0, 0), (.goto 8, 13, 8, 11, 0, 0), (.aload_n 0, 16, 9, 0, 0, 0), (.iload_n 1, 17, 10, 0, 0, 0), (.invokevirtual 334, 18, 11, 178, 1, 0), (.istore_n 3, 21, 12, 0, 0, 0), (.iload_n 3, 22, 13, 0, 0, 0), (.iconst (-1), 23, 14, 0, 0, 0), (.if_icmp .ne 9, 24, 15, 19, 0, 0), (.aload_n 0, 27, 16, 0, 0, 0)],
   [(.iconst 1, 28, 17, 0, 0, 0), (.invokevirtual 185, 29, 18, 138, 1, 0), (.ireturn, 32, 19, 0, 0, 0), (.iload_n 2, 33, 20, 0, 0, 0), (.tableswitch 56 0 2 #[26, 40, 50], 34, 21, 39, 0, 0), (.aload_n 0, 60, 22, 0, 0, 0), (.aload_n 0, 61, 23, 0, 0, 0), (.aload_n 0, 62, 24, 0, 0, 0), (.getfield 45, 63, 25, 11, 26, 0), (.iload_n 3, 66, 26, 0, 0, 0), (.invokevirtual 267, 67, 27, 175, 2, 0), (.invokevirtual 198, 70, 28, 139, 1, 0), (.ireturn, 73, 29, 0, 0, 0), (.aload_n 0, 74, 30, 0, 0, 0), (.aload_n 0, 75, 31, 0, 0, 0), (.iload_n 3, 76, 32, 0, 0, 0)],
   [(.invokevirtual 337, 77, 33, 211, 1, 0), (.invokevirtual 198, 80, 34, 139, 1, 0), (.ireturn, 83, 35, 0, 0, 0), (.aload_n 0, 84, 36, 0, 0, 0), (.iload_n 3, 85, 37, 0, 0, 0), (.invokevirtual 198, 86, 38, 139, 1, 0), (.ireturn, 89, 39, 0, 0, 0), (.aload_n 0, 90, 40, 0, 0, 0), (.iconst 1, 91, 41, 0, 0, 0), (.invokevirtual 185, 92, 42, 138, 1, 0), (.ireturn, 95, 43, 0, 0, 0)]],
   [(20, [(0, 21), (1, 29), (2, 35)], 39)], 212)
/-- HeardVotesModel.errors(I)I: 213 -/
def TX11_errors : TB := ([[(.aload_n 0, 0, 1, 0, 0, 0), (.iconst 0, 1, 2, 0, 0, 0), (.putfield 96, 2, 3, 11, 0, 0), (.aload_n 0, 5, 4, 0, 0, 0), (.iload_n 1, 6, 5, 0, 0, 0), (.invokevirtual 278, 7, 6, 180, 1, 0), (.ifCond .ne 9, 10, 7, 11, 0, 0), (.aload_n 0, 13, 8, 0, 0, 0), (.iconst 1, 14, 9, 0, 0, 0), (.invokevirtual 185, 15, 10, 138, 1, 0), (.ireturn, 18, 11, 0, 0, 0), (.aload_n 0, 19, 12, 0, 0, 0), (.aload_n 0, 20, 13, 0, 0, 0), (.getfield 45, 21, 14, 11, 26, 0), (.aload_n 0, 24, 15, 0, 0, 0), (.getfield 57, 25, 16, 11, 31, 0)],
   [(.invokevirtual 270, 28, 17, 177, 2, 0), (.istore_n 2, 31, 18, 0, 0, 0), (.aload_n 0, 32, 19, 0, 0, 0), (.iload_n 1, 33, 20, 0, 0, 0), (.aload_n 0, 34, 21, 0, 0, 0), (.getfield 60, 35, 22, 11, 32, 0), (.invokevirtual 287, 38, 23, 189, 2, 0), (.istore_n 3, 41, 24, 0, 0, 0), (.aload_n 0, 42, 25, 0, 0, 0), (.aload_n 0, 43, 26, 0, 0, 0), (.iload_n 2, 44, 27, 0, 0, 0), (.iload_n 3, 45, 28, 0, 0, 0), (.invokevirtual 222, 46, 29, 163, 2, 0), (.invokevirtual 198, 49, 30, 139, 1, 0), (.ireturn, 52, 31, 0, 0, 0)]],
   [], 213)
/-- HeardVotesModel.refusesPaper(I)I: 214 -/
def TX11_refusesPaper : TB := ([[(.aload_n 0, 0, 1, 0, 0, 0), (.iload_n 1, 1, 2, 0, 0, 0), (.invokevirtual 278, 2, 3, 180, 1, 0), (.ifCond .ne 7, 5, 4, 6, 0, 0), (.iconst 1, 8, 5, 0, 0, 0), (.goto 20, 9, 6, 15, 0, 0), (.aload_n 0, 12, 7, 0, 0, 0), (.getfield 45, 13, 8, 11, 26, 0), (.iload_n 1, 16, 9, 0, 0, 0), (.invokestatic 249, 17, 10, 162, 2, 0), (.iconst (-1), 20, 11, 0, 0, 0), (.if_icmp .eq 7, 21, 12, 14, 0, 0), (.iconst 5, 24, 13, 0, 0, 0), (.goto 4, 25, 14, 15, 0, 0), (.iconst 0, 28, 15, 0, 0, 0), (.ireturn, 29, 16, 0, 0, 0)]],
   [], 214)
/-- HeardVotesModel.cost(I)I: 215 -/
def TX11_cost : TB := ([[(.aload_n 0, 0, 1, 0, 0, 0), (.iconst 0, 1, 2, 0, 0, 0), (.putfield 96, 2, 3, 11, 0, 0), (.aload_n 0, 5, 4, 0, 0, 0), (.iload_n 1, 6, 5, 0, 0, 0), (.invokevirtual 340, 7, 6, 214, 1, 0), (.istore_n 2, 10, 7, 0, 0, 0), (.iload_n 2, 11, 8, 0, 0, 0), (.ifCond .le 11, 12, 9, 13, 0, 0), (.aload_n 0, 15, 10, 0, 0, 0), (.iload_n 2, 16, 11, 0, 0, 0), (.invokevirtual 185, 17, 12, 138, 1, 0), (.goto 16, 20, 13, 20, 0, 0), (.aload_n 0, 23, 14, 0, 0, 0), (.aload_n 0, 24, 15, 0, 0, 0), (.aload_n 0, 25, 16, 0, 0, 0)],
   [(.getfield 45, 26, 17, 11, 26, 0), (.iload_n 1, 29, 18, 0, 0, 0), (.invokevirtual 240, 30, 19, 169, 2, 0), (.invokevirtual 198, 33, 20, 139, 1, 0), (.ireturn, 36, 21, 0, 0, 0)]],
   [], 215)
/-- HeardVotesModel.way(II)I: 216 -/
def TX11_way : TB := ([[(.aload_n 0, 0, 1, 0, 0, 0), (.iconst 0, 1, 2, 0, 0, 0), (.putfield 96, 2, 3, 11, 0, 0), (.iload_n 2, 5, 4, 0, 0, 0), (.ifCond .ge 9, 6, 5, 9, 0, 0), (.aload_n 0, 9, 6, 0, 0, 0), (.iconst 1, 10, 7, 0, 0, 0), (.invokevirtual 185, 11, 8, 138, 1, 0), (.ireturn, 14, 9, 0, 0, 0), (.aload_n 0, 15, 10, 0, 0, 0), (.iload_n 1, 16, 11, 0, 0, 0), (.invokevirtual 340, 17, 12, 214, 1, 0), (.istore_n 3, 20, 13, 0, 0, 0), (.iload_n 3, 21, 14, 0, 0, 0), (.ifCond .le 9, 22, 15, 19, 0, 0), (.aload_n 0, 25, 16, 0, 0, 0)],
   [(.iload_n 3, 26, 17, 0, 0, 0), (.invokevirtual 185, 27, 18, 138, 1, 0), (.ireturn, 30, 19, 0, 0, 0), (.aload_n 0, 31, 20, 0, 0, 0), (.aload_n 0, 32, 21, 0, 0, 0), (.getfield 45, 33, 22, 11, 26, 0), (.iload_n 1, 36, 23, 0, 0, 0), (.invokevirtual 240, 37, 24, 169, 2, 0), (.istore 4, 40, 25, 0, 0, 0), (.iconst 0, 42, 26, 0, 0, 0), (.istore 5, 43, 27, 0, 0, 0), (.iconst 0, 45, 28, 0, 0, 0), (.istore 6, 46, 29, 0, 0, 0), (.iconst 0, 48, 30, 0, 0, 0), (.istore 7, 49, 31, 0, 0, 0), (.aload_n 0, 51, 32, 0, 0, 0)],
   [(.getfield 66, 52, 33, 11, 34, 0), (.iconst 0, 55, 34, 0, 0, 0), (.iaload, 56, 35, 0, 0, 0), (.istore 8, 57, 36, 0, 0, 0), (.iload 8, 59, 37, 0, 0, 0), (.iconst (-1), 61, 38, 0, 0, 0), (.if_icmp .eq 69, 62, 39, 75, 0, 0), (.iload 7, 65, 40, 0, 0, 0), (.iload_n 2, 67, 41, 0, 0, 0), (.if_icmp .ne 10, 68, 42, 46, 0, 0), (.aload_n 0, 71, 43, 0, 0, 0), (.iload 8, 72, 44, 0, 0, 0), (.invokevirtual 198, 74, 45, 139, 1, 0), (.ireturn, 77, 46, 0, 0, 0), (.iload 5, 78, 47, 0, 0, 0), (.iload 8, 80, 48, 0, 0, 0)],
   [(.iconst 1, 82, 49, 0, 0, 0), (.if_icmp .ne 7, 83, 50, 52, 0, 0), (.iconst 0, 86, 51, 0, 0, 0), (.goto 4, 87, 52, 53, 0, 0), (.iconst 1, 90, 53, 0, 0, 0), (.iadd, 91, 54, 0, 0, 0), (.istore 5, 92, 55, 0, 0, 0), (.iload 6, 94, 56, 0, 0, 0), (.iload 8, 96, 57, 0, 0, 0), (.iconst 2, 98, 58, 0, 0, 0), (.if_icmp .ne 7, 99, 59, 61, 0, 0), (.iconst 0, 102, 60, 0, 0, 0), (.goto 4, 103, 61, 62, 0, 0), (.iconst 1, 106, 62, 0, 0, 0), (.iadd, 107, 63, 0, 0, 0), (.istore 6, 108, 64, 0, 0, 0)],
   [(.iinc 7 1, 110, 65, 0, 0, 0), (.aload_n 0, 113, 66, 0, 0, 0), (.getfield 66, 114, 67, 11, 34, 0), (.bipush 61, 117, 68, 0, 0, 0), (.iload 5, 119, 69, 0, 0, 0), (.imul, 121, 70, 0, 0, 0), (.iload 6, 122, 71, 0, 0, 0), (.iadd, 124, 72, 0, 0, 0), (.iaload, 125, 73, 0, 0, 0), (.istore 8, 126, 74, 0, 0, 0), (.goto (-69), 128, 75, 36, 0, 0), (.aload_n 0, 131, 76, 0, 0, 0), (.bipush (-2), 132, 77, 0, 0, 0), (.invokevirtual 198, 134, 78, 139, 1, 0), (.ireturn, 137, 79, 0, 0, 0)]],
   [], 216)
/-- HeardVotesModel.without(I)I: 217 -/
def TX11_without : TB := ([[(.aload_n 0, 0, 1, 0, 0, 0), (.iconst 0, 1, 2, 0, 0, 0), (.putfield 96, 2, 3, 11, 0, 0), (.aload_n 0, 5, 4, 0, 0, 0), (.iload_n 1, 6, 5, 0, 0, 0), (.invokevirtual 278, 7, 6, 180, 1, 0), (.ifCond .ne 9, 10, 7, 11, 0, 0), (.aload_n 0, 13, 8, 0, 0, 0), (.iconst 1, 14, 9, 0, 0, 0), (.invokevirtual 185, 15, 10, 138, 1, 0), (.ireturn, 18, 11, 0, 0, 0), (.aload_n 0, 19, 12, 0, 0, 0), (.getfield 45, 20, 13, 11, 26, 0), (.iload_n 1, 23, 14, 0, 0, 0), (.invokestatic 249, 24, 15, 162, 2, 0), (.iconst (-1), 27, 16, 0, 0, 0)],
   [(.if_icmp .ne 9, 28, 17, 21, 0, 0), (.aload_n 0, 31, 18, 0, 0, 0), (.iconst 5, 32, 19, 0, 0, 0), (.invokevirtual 185, 33, 20, 138, 1, 0), (.ireturn, 36, 21, 0, 0, 0), (.aload_n 0, 37, 22, 0, 0, 0), (.iload_n 1, 38, 23, 0, 0, 0), (.invokevirtual 306, 39, 24, 199, 1, 0), (.aload_n 0, 42, 25, 0, 0, 0), (.aload_n 0, 43, 26, 0, 0, 0), (.getfield 48, 44, 27, 11, 27, 0), (.aload_n 0, 47, 28, 0, 0, 0), (.getfield 84, 48, 29, 11, 42, 0), (.invokevirtual 270, 51, 30, 177, 2, 0), (.istore_n 2, 54, 31, 0, 0, 0), (.aload_n 0, 55, 32, 0, 0, 0)],
   [(.aload_n 0, 56, 33, 0, 0, 0), (.getfield 45, 57, 34, 11, 26, 0), (.aload_n 0, 60, 35, 0, 0, 0), (.getfield 57, 61, 36, 11, 31, 0), (.invokevirtual 270, 64, 37, 177, 2, 0), (.istore_n 3, 67, 38, 0, 0, 0), (.iconst 0, 68, 39, 0, 0, 0), (.istore 4, 69, 40, 0, 0, 0), (.iload 4, 71, 41, 0, 0, 0), (.iload_n 2, 73, 42, 0, 0, 0), (.if_icmp .ge 23, 74, 43, 53, 0, 0), (.aload_n 0, 77, 44, 0, 0, 0), (.getfield 60, 78, 45, 11, 32, 0), (.iload 4, 81, 46, 0, 0, 0), (.aload_n 0, 83, 47, 0, 0, 0), (.getfield 84, 84, 48, 11, 42, 0)],
   [(.iload 4, 87, 49, 0, 0, 0), (.iaload, 89, 50, 0, 0, 0), (.iastore, 90, 51, 0, 0, 0), (.iinc 4 1, 91, 52, 0, 0, 0), (.goto (-23), 94, 53, 40, 0, 0), (.aload_n 0, 97, 54, 0, 0, 0), (.aload_n 0, 98, 55, 0, 0, 0), (.iload_n 3, 99, 56, 0, 0, 0), (.iload_n 2, 100, 57, 0, 0, 0), (.invokevirtual 222, 101, 58, 163, 2, 0), (.invokevirtual 198, 104, 59, 139, 1, 0), (.ireturn, 107, 60, 0, 0, 0)]],
   [], 217)
/-- HeardVotesModel.isIn(II)Z: 218 -/
def TX11_isIn : TB := ([[(.iconst 0, 0, 1, 0, 0, 0), (.istore_n 3, 1, 2, 0, 0, 0), (.iload_n 3, 2, 3, 0, 0, 0), (.iload_n 1, 3, 4, 0, 0, 0), (.if_icmp .ge 21, 4, 5, 15, 0, 0), (.aload_n 0, 7, 6, 0, 0, 0), (.getfield 87, 8, 7, 11, 43, 0), (.iload_n 3, 11, 8, 0, 0, 0), (.iaload, 12, 9, 0, 0, 0), (.iload_n 2, 13, 10, 0, 0, 0), (.if_icmp .ne 5, 14, 11, 13, 0, 0), (.iconst 1, 17, 12, 0, 0, 0), (.ireturn, 18, 13, 1, 0, 0), (.iinc 3 1, 19, 14, 0, 0, 0), (.goto (-20), 22, 15, 2, 0, 0), (.iconst 0, 25, 16, 0, 0, 0)],
   [(.ireturn, 26, 17, 1, 0, 0)]],
   [], 218)
/-- HeardVotesModel.tries(I)V: 219 -/
def TX11_tries : TB := ([[(.iconst 0, 0, 1, 0, 0, 0), (.istore_n 2, 1, 2, 0, 0, 0), (.iload_n 2, 2, 3, 0, 0, 0), (.aload_n 0, 3, 4, 0, 0, 0), (.getfield 195, 4, 5, 11, 24, 0), (.if_icmp .ge 43, 7, 6, 28, 0, 0), (.iload_n 1, 10, 7, 0, 0, 0), (.aload_n 0, 11, 8, 0, 0, 0), (.getfield 195, 12, 9, 11, 24, 0), (.if_icmp .ge 35, 15, 10, 28, 0, 0), (.aload_n 0, 18, 11, 0, 0, 0), (.iload_n 1, 19, 12, 0, 0, 0), (.iload_n 2, 20, 13, 0, 0, 0), (.invokevirtual 343, 21, 14, 218, 2, 0), (.ifCond .eq 6, 24, 15, 16, 0, 0), (.goto 17, 27, 16, 26, 0, 0)],
   [(.aload_n 0, 30, 17, 0, 0, 0), (.getfield 87, 31, 18, 11, 43, 0), (.iload_n 1, 34, 19, 0, 0, 0), (.iload_n 2, 35, 20, 0, 0, 0), (.iastore, 36, 21, 0, 0, 0), (.aload_n 0, 37, 22, 0, 0, 0), (.iload_n 1, 38, 23, 0, 0, 0), (.iconst 1, 39, 24, 0, 0, 0), (.iadd, 40, 25, 0, 0, 0), (.invokevirtual 346, 41, 26, 219, 1, 0), (.iinc 2 1, 44, 27, 0, 0, 0), (.goto (-45), 47, 28, 2, 0, 0), (.iload_n 1, 50, 29, 0, 0, 0), (.aload_n 0, 51, 30, 0, 0, 0), (.getfield 195, 52, 31, 11, 24, 0), (.if_icmp .ge 4, 55, 32, 33, 0, 0)],
   [(.return_, 58, 33, 0, 0, 0), (.aload_n 0, 59, 34, 0, 0, 0), (.invokevirtual 303, 60, 35, 157, 0, 0), (.aload_n 0, 63, 36, 0, 0, 0), (.getfield 48, 64, 37, 11, 27, 0), (.invokestatic 204, 67, 38, 156, 1, 0), (.iconst 0, 70, 39, 0, 0, 0), (.istore_n 2, 71, 40, 0, 0, 0), (.iconst 0, 72, 41, 0, 0, 0), (.istore_n 3, 73, 42, 0, 0, 0), (.iload_n 3, 74, 43, 0, 0, 0), (.aload_n 0, 75, 44, 0, 0, 0), (.getfield 195, 76, 45, 11, 24, 0), (.if_icmp .ge 26, 79, 46, 59, 0, 0), (.iload_n 2, 82, 47, 0, 0, 0), (.aload_n 0, 83, 48, 0, 0, 0)],
   [(.aload_n 0, 84, 49, 0, 0, 0), (.getfield 48, 85, 50, 11, 27, 0), (.aload_n 0, 88, 51, 0, 0, 0), (.getfield 87, 89, 52, 11, 43, 0), (.iload_n 3, 92, 53, 0, 0, 0), (.iaload, 93, 54, 0, 0, 0), (.invokevirtual 297, 94, 55, 170, 2, 0), (.iadd, 97, 56, 0, 0, 0), (.istore_n 2, 98, 57, 0, 0, 0), (.iinc 3 1, 99, 58, 0, 0, 0), (.goto (-28), 102, 59, 42, 0, 0), (.aload_n 0, 105, 60, 0, 0, 0), (.getfield 349, 106, 61, 11, 45, 0), (.iconst (-1), 109, 62, 0, 0, 0), (.if_icmp .eq 12, 110, 63, 68, 0, 0), (.iload_n 2, 113, 64, 0, 0, 0)],
   [(.aload_n 0, 114, 65, 0, 0, 0), (.getfield 349, 115, 66, 11, 45, 0), (.if_icmp .lt 4, 118, 67, 68, 0, 0), (.return_, 121, 68, 0, 0, 0), (.aload_n 0, 122, 69, 0, 0, 0), (.iload_n 2, 123, 70, 0, 0, 0), (.putfield 349, 124, 71, 11, 45, 0), (.iconst 0, 127, 72, 0, 0, 0), (.istore_n 3, 128, 73, 0, 0, 0), (.iload_n 3, 129, 74, 0, 0, 0), (.aload_n 0, 130, 75, 0, 0, 0), (.getfield 195, 131, 76, 11, 24, 0), (.if_icmp .ge 21, 134, 77, 87, 0, 0), (.aload_n 0, 137, 78, 0, 0, 0), (.getfield 90, 138, 79, 11, 44, 0), (.iload_n 3, 141, 80, 0, 0, 0)],
   [(.aload_n 0, 142, 81, 0, 0, 0), (.getfield 87, 143, 82, 11, 43, 0), (.iload_n 3, 146, 83, 0, 0, 0), (.iaload, 147, 84, 0, 0, 0), (.iastore, 148, 85, 0, 0, 0), (.iinc 3 1, 149, 86, 0, 0, 0), (.goto (-23), 152, 87, 73, 0, 0), (.return_, 155, 88, 0, 0, 0)]],
   [], 219)
/-- HeardVotesModel.best(I)I: 220 -/
def TX11_best : TB := ([[(.aload_n 0, 0, 1, 0, 0, 0), (.iconst 0, 1, 2, 0, 0, 0), (.putfield 96, 2, 3, 11, 0, 0), (.aload_n 0, 5, 4, 0, 0, 0), (.getfield 195, 6, 5, 11, 24, 0), (.ifCond .eq 17, 9, 6, 14, 0, 0), (.iload_n 1, 12, 7, 0, 0, 0), (.iconst (-1), 13, 8, 0, 0, 0), (.aload_n 0, 14, 9, 0, 0, 0), (.getfield 195, 15, 10, 11, 24, 0), (.iconst 1, 18, 11, 0, 0, 0), (.isub, 19, 12, 0, 0, 0), (.invokestatic 117, 20, 13, 141, 3, 0), (.ifCond .ne 9, 23, 14, 18, 0, 0), (.aload_n 0, 26, 15, 0, 0, 0), (.iconst 1, 27, 16, 0, 0, 0)],
   [(.invokevirtual 185, 28, 17, 138, 1, 0), (.ireturn, 31, 18, 0, 0, 0), (.aload_n 0, 32, 19, 0, 0, 0), (.iconst (-1), 33, 20, 0, 0, 0), (.putfield 349, 34, 21, 11, 45, 0), (.aload_n 0, 37, 22, 0, 0, 0), (.iconst 0, 38, 23, 0, 0, 0), (.invokevirtual 346, 39, 24, 219, 1, 0), (.aload_n 0, 42, 25, 0, 0, 0), (.iload_n 1, 43, 26, 0, 0, 0), (.iconst (-1), 44, 27, 0, 0, 0), (.if_icmp .ne 10, 45, 28, 31, 0, 0), (.aload_n 0, 48, 29, 0, 0, 0), (.getfield 349, 49, 30, 11, 45, 0), (.goto 9, 52, 31, 35, 0, 0), (.aload_n 0, 55, 32, 0, 0, 0)],
   [(.getfield 90, 56, 33, 11, 44, 0), (.iload_n 1, 59, 34, 0, 0, 0), (.iaload, 60, 35, 0, 0, 0), (.invokevirtual 198, 61, 36, 139, 1, 0), (.ireturn, 64, 37, 0, 0, 0)]],
   [], 220)
/-- HeardVotesModel.inks(I)V: 221 -/
def TX11_inks : TB := ([[(.aload_n 0, 0, 1, 0, 0, 0), (.getfield 93, 1, 2, 11, 46, 0), (.aload_n 0, 4, 3, 0, 0, 0), (.getfield 352, 5, 4, 11, 47, 0), (.iload_n 1, 8, 5, 0, 0, 0), (.iastore, 9, 6, 0, 0, 0), (.aload_n 0, 10, 7, 0, 0, 0), (.dup, 11, 8, 0, 0, 0), (.getfield 352, 12, 9, 11, 47, 0), (.iconst 1, 15, 10, 0, 0, 0), (.iadd, 16, 11, 0, 0, 0), (.putfield 352, 17, 12, 11, 47, 0), (.return_, 20, 13, 0, 0, 0)]],
   [], 221)
/-- HeardVotesModel.write()I: 222 -/
def TX11_write : TB := ([[(.aload_n 0, 0, 1, 0, 0, 0), (.iconst 0, 1, 2, 0, 0, 0), (.putfield 96, 2, 3, 11, 0, 0), (.aload_n 0, 5, 4, 0, 0, 0), (.getfield 195, 6, 5, 11, 24, 0), (.ifCond .ne 9, 9, 6, 10, 0, 0), (.aload_n 0, 12, 7, 0, 0, 0), (.iconst 1, 13, 8, 0, 0, 0), (.invokevirtual 185, 14, 9, 138, 1, 0), (.ireturn, 17, 10, 0, 0, 0), (.aload_n 0, 18, 11, 0, 0, 0), (.iconst 0, 19, 12, 0, 0, 0), (.putfield 352, 20, 13, 11, 47, 0), (.iconst 0, 23, 14, 0, 0, 0), (.istore_n 1, 24, 15, 0, 0, 0), (.iload_n 1, 25, 16, 0, 0, 0)],
   [(.aload_n 0, 26, 17, 0, 0, 0), (.getfield 45, 27, 18, 11, 26, 0), (.bipush 21, 30, 19, 0, 0, 0), (.iaload, 32, 20, 0, 0, 0), (.if_icmp .ge 105, 33, 21, 74, 0, 0), (.aload_n 0, 36, 22, 0, 0, 0), (.aload_n 0, 37, 23, 0, 0, 0), (.getfield 45, 38, 24, 11, 26, 0), (.iload_n 1, 41, 25, 0, 0, 0), (.invokevirtual 328, 42, 26, 176, 2, 0), (.istore_n 2, 45, 27, 0, 0, 0), (.aload_n 0, 46, 28, 0, 0, 0), (.getfield 72, 47, 29, 11, 36, 0), (.iconst 0, 50, 30, 0, 0, 0), (.iaload, 51, 31, 0, 0, 0), (.istore_n 3, 52, 32, 0, 0, 0)],
   [(.iload_n 3, 53, 33, 0, 0, 0), (.bipush (-2), 54, 34, 0, 0, 0), (.if_icmp .ne 6, 56, 35, 36, 0, 0), (.goto 73, 59, 36, 72, 0, 0), (.aload_n 0, 62, 37, 0, 0, 0), (.getfield 352, 63, 38, 11, 47, 0), (.ifCond .le 9, 66, 39, 42, 0, 0), (.aload_n 0, 69, 40, 0, 0, 0), (.bipush 32, 70, 41, 0, 0, 0), (.invokevirtual 355, 72, 42, 221, 1, 0), (.iconst 0, 75, 43, 0, 0, 0), (.istore 4, 76, 44, 0, 0, 0), (.iload 4, 78, 45, 0, 0, 0), (.aload_n 0, 80, 46, 0, 0, 0), (.getfield 24, 81, 47, 11, 16, 0), (.iload_n 3, 84, 48, 0, 0, 0)],
   [(.laload, 85, 49, 0, 0, 0), (.invokestatic 214, 86, 50, 164, 1, 0), (.if_icmp .ge 27, 89, 51, 63, 0, 0), (.aload_n 0, 92, 52, 0, 0, 0), (.bipush 97, 93, 53, 0, 0, 0), (.aload_n 0, 95, 54, 0, 0, 0), (.getfield 24, 96, 55, 11, 16, 0), (.iload_n 3, 99, 56, 0, 0, 0), (.laload, 100, 57, 0, 0, 0), (.iload 4, 101, 58, 0, 0, 0), (.invokestatic 218, 103, 59, 165, 2, 0), (.iadd, 106, 60, 0, 0, 0), (.invokevirtual 355, 107, 61, 221, 1, 0), (.iinc 4 1, 110, 62, 0, 0, 0), (.goto (-35), 113, 63, 44, 0, 0), (.iconst 2, 116, 64, 0, 0, 0)],
   [(.iload_n 2, 117, 65, 0, 0, 0), (.imul, 118, 66, 0, 0, 0), (.aload_n 0, 119, 67, 0, 0, 0), (.getfield 246, 120, 68, 11, 39, 0), (.if_icmp .le 9, 123, 69, 72, 0, 0), (.aload_n 0, 126, 70, 0, 0, 0), (.bipush 63, 127, 71, 0, 0, 0), (.invokevirtual 355, 129, 72, 221, 1, 0), (.iinc 1 1, 132, 73, 0, 0, 0), (.goto (-110), 135, 74, 15, 0, 0), (.aload_n 0, 138, 75, 0, 0, 0), (.aload_n 0, 139, 76, 0, 0, 0), (.getfield 352, 140, 77, 11, 47, 0), (.invokevirtual 198, 143, 78, 139, 1, 0), (.ireturn, 146, 79, 0, 0, 0)]],
   [], 222)
/-- HeardVotesModel.octet(I)I: 223 -/
def TX11_octet : TB := ([[(.aload_n 0, 0, 1, 0, 0, 0), (.iconst 0, 1, 2, 0, 0, 0), (.putfield 96, 2, 3, 11, 0, 0), (.iload_n 1, 5, 4, 0, 0, 0), (.iconst 0, 6, 5, 0, 0, 0), (.aload_n 0, 7, 6, 0, 0, 0), (.getfield 352, 8, 7, 11, 47, 0), (.iconst 1, 11, 8, 0, 0, 0), (.isub, 12, 9, 0, 0, 0), (.invokestatic 117, 13, 10, 141, 3, 0), (.ifCond .eq 10, 16, 11, 16, 0, 0), (.aload_n 0, 19, 12, 0, 0, 0), (.getfield 93, 20, 13, 11, 46, 0), (.iload_n 1, 23, 14, 0, 0, 0), (.iaload, 24, 15, 0, 0, 0), (.ireturn, 25, 16, 0, 0, 0)],
   [(.aload_n 0, 26, 17, 0, 0, 0), (.iconst 1, 27, 18, 0, 0, 0), (.putfield 96, 28, 19, 11, 0, 0), (.iconst 0, 31, 20, 0, 0, 0), (.ireturn, 32, 21, 0, 0, 0)]],
   [], 223)
/-- HeardVotesModel.size()I: 224 -/
def TX11_size : TB := ([[(.aload_n 0, 0, 1, 0, 0, 0), (.iconst 0, 1, 2, 0, 0, 0), (.putfield 96, 2, 3, 11, 0, 0), (.aload_n 0, 5, 4, 0, 0, 0), (.getfield 102, 6, 5, 11, 4, 0), (.ireturn, 9, 6, 0, 0, 0)]],
   [], 224)
/-- HeardVotesModel.trouble()I: 225 -/
def TX11_trouble : TB := ([[(.aload_n 0, 0, 1, 0, 0, 0), (.iconst 0, 1, 2, 0, 0, 0), (.putfield 96, 2, 3, 11, 0, 0), (.aload_n 0, 5, 4, 0, 0, 0), (.getfield 99, 6, 5, 11, 1, 0), (.ireturn, 9, 6, 0, 0, 0)]],
   [], 225)
/-- HeardVotesLaw.law([I)Z: 226 -/
def TL_law : TB := ([[(.new 8, 0, 1, 0, 0, 0), (.dup, 3, 2, 0, 0, 0), (.invokespecial 15, 4, 3, 999, 0, 0), (.astore_n 1, 7, 4, 0, 0, 0), (.new 16, 8, 5, 0, 0, 0), (.dup, 11, 6, 0, 0, 0), (.invokespecial 18, 12, 7, 999, 0, 0), (.astore_n 2, 15, 8, 0, 0, 0), (.iconst 1, 16, 9, 0, 0, 0), (.newarray .long, 17, 10, 0, 0, 0), (.astore_n 3, 19, 11, 0, 0, 0), (.iconst 0, 20, 12, 0, 0, 0), (.istore 4, 21, 13, 0, 0, 0), (.iload 4, 23, 14, 0, 0, 0), (.aload_n 0, 25, 15, 0, 0, 0), (.arraylength, 26, 16, 0, 0, 0)],
   [(.bipush 6, 27, 17, 0, 0, 0), (.isub, 29, 18, 0, 0, 0), (.if_icmp .gt 1205, 30, 19, 753, 0, 0), (.aload_n 0, 33, 20, 0, 0, 0), (.iload 4, 34, 21, 0, 0, 0), (.iaload, 36, 22, 0, 0, 0), (.bipush 63, 37, 23, 0, 0, 0), (.iand, 39, 24, 0, 0, 0), (.tableswitch 1189 0 33 #[152, 225, 250, 263, 276, 301, 338, 387, 424, 461, 498, 547, 572, 597, 634, 659, 684, 709, 722, 735, 772, 809, 858, 895, 920, 957, 982, 1007, 1044, 1069, 1094, 1107, 1163, 1176], 40, 25, 751, 0, 0), (.aload_n 1, 192, 26, 0, 0, 0), (.aload_n 0, 193, 27, 0, 0, 0), (.iload 4, 194, 28, 0, 0, 0), (.iconst 1, 196, 29, 0, 0, 0), (.iadd, 197, 30, 0, 0, 0), (.iaload, 198, 31, 0, 0, 0), (.aload_n 0, 199, 32, 0, 0, 0)],
   [(.iload 4, 200, 33, 0, 0, 0), (.iconst 2, 202, 34, 0, 0, 0), (.iadd, 203, 35, 0, 0, 0), (.iaload, 204, 36, 0, 0, 0), (.aload_n 0, 205, 37, 0, 0, 0), (.iload 4, 206, 38, 0, 0, 0), (.iconst 3, 208, 39, 0, 0, 0), (.iadd, 209, 40, 0, 0, 0), (.iaload, 210, 41, 0, 0, 0), (.aload_n 0, 211, 42, 0, 0, 0), (.iload 4, 212, 43, 0, 0, 0), (.iconst 4, 214, 44, 0, 0, 0), (.iadd, 215, 45, 0, 0, 0), (.iaload, 216, 46, 0, 0, 0), (.aload_n 0, 217, 47, 0, 0, 0), (.iload 4, 218, 48, 0, 0, 0)],
   [(.iconst 5, 220, 49, 0, 0, 0), (.iadd, 221, 50, 0, 0, 0), (.iaload, 222, 51, 0, 0, 0), (.invokevirtual 19, 223, 52, 83, 5, 0), (.aload_n 2, 226, 53, 0, 0, 0), (.aload_n 0, 227, 54, 0, 0, 0), (.iload 4, 228, 55, 0, 0, 0), (.iconst 1, 230, 56, 0, 0, 0), (.iadd, 231, 57, 0, 0, 0), (.iaload, 232, 58, 0, 0, 0), (.aload_n 0, 233, 59, 0, 0, 0), (.iload 4, 234, 60, 0, 0, 0), (.iconst 2, 236, 61, 0, 0, 0), (.iadd, 237, 62, 0, 0, 0), (.iaload, 238, 63, 0, 0, 0), (.aload_n 0, 239, 64, 0, 0, 0)],
   [(.iload 4, 240, 65, 0, 0, 0), (.iconst 3, 242, 66, 0, 0, 0), (.iadd, 243, 67, 0, 0, 0), (.iaload, 244, 68, 0, 0, 0), (.aload_n 0, 245, 69, 0, 0, 0), (.iload 4, 246, 70, 0, 0, 0), (.iconst 4, 248, 71, 0, 0, 0), (.iadd, 249, 72, 0, 0, 0), (.iaload, 250, 73, 0, 0, 0), (.aload_n 0, 251, 74, 0, 0, 0), (.iload 4, 252, 75, 0, 0, 0), (.iconst 5, 254, 76, 0, 0, 0), (.iadd, 255, 77, 0, 0, 0), (.iaload, 256, 78, 0, 0, 0), (.invokevirtual 23, 257, 79, 143, 5, 0), (.if_icmp .eq 969, 260, 80, 751, 0, 0)],
   [(.iconst 0, 263, 81, 0, 0, 0), (.ireturn, 264, 82, 1, 0, 0), (.aload_n 1, 265, 83, 0, 0, 0), (.aload_n 0, 266, 84, 0, 0, 0), (.iload 4, 267, 85, 0, 0, 0), (.iconst 1, 269, 86, 0, 0, 0), (.iadd, 270, 87, 0, 0, 0), (.iaload, 271, 88, 0, 0, 0), (.invokevirtual 24, 272, 89, 84, 1, 0), (.aload_n 2, 275, 90, 0, 0, 0), (.aload_n 0, 276, 91, 0, 0, 0), (.iload 4, 277, 92, 0, 0, 0), (.iconst 1, 279, 93, 0, 0, 0), (.iadd, 280, 94, 0, 0, 0), (.iaload, 281, 95, 0, 0, 0), (.invokevirtual 27, 282, 96, 154, 1, 0)],
   [(.if_icmp .eq 944, 285, 97, 751, 0, 0), (.iconst 0, 288, 98, 0, 0, 0), (.ireturn, 289, 99, 1, 0, 0), (.aload_n 1, 290, 100, 0, 0, 0), (.invokevirtual 28, 291, 101, 85, 0, 0), (.aload_n 2, 294, 102, 0, 0, 0), (.invokevirtual 32, 295, 103, 149, 0, 0), (.if_icmp .eq 931, 298, 104, 751, 0, 0), (.iconst 0, 301, 105, 0, 0, 0), (.ireturn, 302, 106, 1, 0, 0), (.aload_n 1, 303, 107, 0, 0, 0), (.invokevirtual 33, 304, 108, 86, 0, 0), (.aload_n 2, 307, 109, 0, 0, 0), (.invokevirtual 36, 308, 110, 150, 0, 0), (.if_icmp .eq 918, 311, 111, 751, 0, 0), (.iconst 0, 314, 112, 0, 0, 0)],
   [(.ireturn, 315, 113, 1, 0, 0), (.aload_n 1, 316, 114, 0, 0, 0), (.aload_n 0, 317, 115, 0, 0, 0), (.iload 4, 318, 116, 0, 0, 0), (.iconst 1, 320, 117, 0, 0, 0), (.iadd, 321, 118, 0, 0, 0), (.iaload, 322, 119, 0, 0, 0), (.invokevirtual 37, 323, 120, 87, 1, 0), (.aload_n 2, 326, 121, 0, 0, 0), (.aload_n 0, 327, 122, 0, 0, 0), (.iload 4, 328, 123, 0, 0, 0), (.iconst 1, 330, 124, 0, 0, 0), (.iadd, 331, 125, 0, 0, 0), (.iaload, 332, 126, 0, 0, 0), (.invokevirtual 40, 333, 127, 183, 1, 0), (.if_icmp .eq 893, 336, 128, 751, 0, 0)],
   [(.iconst 0, 339, 129, 0, 0, 0), (.ireturn, 340, 130, 1, 0, 0), (.aload_n 1, 341, 131, 0, 0, 0), (.aload_n 0, 342, 132, 0, 0, 0), (.iload 4, 343, 133, 0, 0, 0), (.iconst 1, 345, 134, 0, 0, 0), (.iadd, 346, 135, 0, 0, 0), (.iaload, 347, 136, 0, 0, 0), (.aload_n 0, 348, 137, 0, 0, 0), (.iload 4, 349, 138, 0, 0, 0), (.iconst 2, 351, 139, 0, 0, 0), (.iadd, 352, 140, 0, 0, 0), (.iaload, 353, 141, 0, 0, 0), (.invokevirtual 41, 354, 142, 88, 2, 0), (.aload_n 2, 357, 143, 0, 0, 0), (.aload_n 0, 358, 144, 0, 0, 0)],
   [(.iload 4, 359, 145, 0, 0, 0), (.iconst 1, 361, 146, 0, 0, 0), (.iadd, 362, 147, 0, 0, 0), (.iaload, 363, 148, 0, 0, 0), (.aload_n 0, 364, 149, 0, 0, 0), (.iload 4, 365, 150, 0, 0, 0), (.iconst 2, 367, 151, 0, 0, 0), (.iadd, 368, 152, 0, 0, 0), (.iaload, 369, 153, 0, 0, 0), (.invokevirtual 45, 370, 154, 184, 2, 0), (.if_icmp .eq 856, 373, 155, 751, 0, 0), (.iconst 0, 376, 156, 0, 0, 0), (.ireturn, 377, 157, 1, 0, 0), (.aload_n 1, 378, 158, 0, 0, 0), (.aload_n 0, 379, 159, 0, 0, 0), (.iload 4, 380, 160, 0, 0, 0)],
   [(.iconst 1, 382, 161, 0, 0, 0), (.iadd, 383, 162, 0, 0, 0), (.iaload, 384, 163, 0, 0, 0), (.aload_n 0, 385, 164, 0, 0, 0), (.iload 4, 386, 165, 0, 0, 0), (.iconst 2, 388, 166, 0, 0, 0), (.iadd, 389, 167, 0, 0, 0), (.iaload, 390, 168, 0, 0, 0), (.aload_n 0, 391, 169, 0, 0, 0), (.iload 4, 392, 170, 0, 0, 0), (.iconst 3, 394, 171, 0, 0, 0), (.iadd, 395, 172, 0, 0, 0), (.iaload, 396, 173, 0, 0, 0), (.invokevirtual 46, 397, 174, 89, 3, 0), (.aload_n 2, 400, 175, 0, 0, 0), (.aload_n 0, 401, 176, 0, 0, 0)],
   [(.iload 4, 402, 177, 0, 0, 0), (.iconst 1, 404, 178, 0, 0, 0), (.iadd, 405, 179, 0, 0, 0), (.iaload, 406, 180, 0, 0, 0), (.aload_n 0, 407, 181, 0, 0, 0), (.iload 4, 408, 182, 0, 0, 0), (.iconst 2, 410, 183, 0, 0, 0), (.iadd, 411, 184, 0, 0, 0), (.iaload, 412, 185, 0, 0, 0), (.aload_n 0, 413, 186, 0, 0, 0), (.iload 4, 414, 187, 0, 0, 0), (.iconst 3, 416, 188, 0, 0, 0), (.iadd, 417, 189, 0, 0, 0), (.iaload, 418, 190, 0, 0, 0), (.invokevirtual 50, 419, 191, 186, 3, 0), (.if_icmp .eq 807, 422, 192, 751, 0, 0)],
   [(.iconst 0, 425, 193, 0, 0, 0), (.ireturn, 426, 194, 1, 0, 0), (.aload_n 1, 427, 195, 0, 0, 0), (.aload_n 0, 428, 196, 0, 0, 0), (.iload 4, 429, 197, 0, 0, 0), (.iconst 1, 431, 198, 0, 0, 0), (.iadd, 432, 199, 0, 0, 0), (.iaload, 433, 200, 0, 0, 0), (.aload_n 0, 434, 201, 0, 0, 0), (.iload 4, 435, 202, 0, 0, 0), (.iconst 2, 437, 203, 0, 0, 0), (.iadd, 438, 204, 0, 0, 0), (.iaload, 439, 205, 0, 0, 0), (.invokevirtual 51, 440, 206, 90, 2, 0), (.aload_n 2, 443, 207, 0, 0, 0), (.aload_n 0, 444, 208, 0, 0, 0)],
   [(.iload 4, 445, 209, 0, 0, 0), (.iconst 1, 447, 210, 0, 0, 0), (.iadd, 448, 211, 0, 0, 0), (.iaload, 449, 212, 0, 0, 0), (.aload_n 0, 450, 213, 0, 0, 0), (.iload 4, 451, 214, 0, 0, 0), (.iconst 2, 453, 215, 0, 0, 0), (.iadd, 454, 216, 0, 0, 0), (.iaload, 455, 217, 0, 0, 0), (.invokevirtual 54, 456, 218, 187, 2, 0), (.if_icmp .eq 770, 459, 219, 751, 0, 0), (.iconst 0, 462, 220, 0, 0, 0), (.ireturn, 463, 221, 1, 0, 0), (.aload_n 1, 464, 222, 0, 0, 0), (.aload_n 0, 465, 223, 0, 0, 0), (.iload 4, 466, 224, 0, 0, 0)],
   [(.iconst 1, 468, 225, 0, 0, 0), (.iadd, 469, 226, 0, 0, 0), (.iaload, 470, 227, 0, 0, 0), (.aload_n 0, 471, 228, 0, 0, 0), (.iload 4, 472, 229, 0, 0, 0), (.iconst 2, 474, 230, 0, 0, 0), (.iadd, 475, 231, 0, 0, 0), (.iaload, 476, 232, 0, 0, 0), (.invokevirtual 55, 477, 233, 91, 2, 0), (.aload_n 2, 480, 234, 0, 0, 0), (.aload_n 0, 481, 235, 0, 0, 0), (.iload 4, 482, 236, 0, 0, 0), (.iconst 1, 484, 237, 0, 0, 0), (.iadd, 485, 238, 0, 0, 0), (.iaload, 486, 239, 0, 0, 0), (.aload_n 0, 487, 240, 0, 0, 0)],
   [(.iload 4, 488, 241, 0, 0, 0), (.iconst 2, 490, 242, 0, 0, 0), (.iadd, 491, 243, 0, 0, 0), (.iaload, 492, 244, 0, 0, 0), (.invokevirtual 58, 493, 245, 188, 2, 0), (.if_icmp .eq 733, 496, 246, 751, 0, 0), (.iconst 0, 499, 247, 0, 0, 0), (.ireturn, 500, 248, 1, 0, 0), (.aload_n 1, 501, 249, 0, 0, 0), (.aload_n 0, 502, 250, 0, 0, 0), (.iload 4, 503, 251, 0, 0, 0), (.iconst 1, 505, 252, 0, 0, 0), (.iadd, 506, 253, 0, 0, 0), (.iaload, 507, 254, 0, 0, 0), (.aload_n 0, 508, 255, 0, 0, 0), (.iload 4, 509, 256, 0, 0, 0)],
   [(.iconst 2, 511, 257, 0, 0, 0), (.iadd, 512, 258, 0, 0, 0), (.iaload, 513, 259, 0, 0, 0), (.invokevirtual 59, 514, 260, 92, 2, 0), (.aload_n 2, 517, 261, 0, 0, 0), (.aload_n 0, 518, 262, 0, 0, 0), (.iload 4, 519, 263, 0, 0, 0), (.iconst 1, 521, 264, 0, 0, 0), (.iadd, 522, 265, 0, 0, 0), (.iaload, 523, 266, 0, 0, 0), (.aload_n 0, 524, 267, 0, 0, 0), (.iload 4, 525, 268, 0, 0, 0), (.iconst 2, 527, 269, 0, 0, 0), (.iadd, 528, 270, 0, 0, 0), (.iaload, 529, 271, 0, 0, 0), (.invokevirtual 62, 530, 272, 190, 2, 0)],
   [(.if_icmp .eq 696, 533, 273, 751, 0, 0), (.iconst 0, 536, 274, 0, 0, 0), (.ireturn, 537, 275, 1, 0, 0), (.aload_n 1, 538, 276, 0, 0, 0), (.aload_n 0, 539, 277, 0, 0, 0), (.iload 4, 540, 278, 0, 0, 0), (.iconst 1, 542, 279, 0, 0, 0), (.iadd, 543, 280, 0, 0, 0), (.iaload, 544, 281, 0, 0, 0), (.aload_n 0, 545, 282, 0, 0, 0), (.iload 4, 546, 283, 0, 0, 0), (.iconst 2, 548, 284, 0, 0, 0), (.iadd, 549, 285, 0, 0, 0), (.iaload, 550, 286, 0, 0, 0), (.aload_n 0, 551, 287, 0, 0, 0), (.iload 4, 552, 288, 0, 0, 0)],
   [(.iconst 3, 554, 289, 0, 0, 0), (.iadd, 555, 290, 0, 0, 0), (.iaload, 556, 291, 0, 0, 0), (.invokevirtual 63, 557, 292, 93, 3, 0), (.aload_n 2, 560, 293, 0, 0, 0), (.aload_n 0, 561, 294, 0, 0, 0), (.iload 4, 562, 295, 0, 0, 0), (.iconst 1, 564, 296, 0, 0, 0), (.iadd, 565, 297, 0, 0, 0), (.iaload, 566, 298, 0, 0, 0), (.aload_n 0, 567, 299, 0, 0, 0), (.iload 4, 568, 300, 0, 0, 0), (.iconst 2, 570, 301, 0, 0, 0), (.iadd, 571, 302, 0, 0, 0), (.iaload, 572, 303, 0, 0, 0), (.aload_n 0, 573, 304, 0, 0, 0)],
   [(.iload 4, 574, 305, 0, 0, 0), (.iconst 3, 576, 306, 0, 0, 0), (.iadd, 577, 307, 0, 0, 0), (.iaload, 578, 308, 0, 0, 0), (.invokevirtual 67, 579, 309, 191, 3, 0), (.if_icmp .eq 647, 582, 310, 751, 0, 0), (.iconst 0, 585, 311, 0, 0, 0), (.ireturn, 586, 312, 1, 0, 0), (.aload_n 1, 587, 313, 0, 0, 0), (.aload_n 0, 588, 314, 0, 0, 0), (.iload 4, 589, 315, 0, 0, 0), (.iconst 1, 591, 316, 0, 0, 0), (.iadd, 592, 317, 0, 0, 0), (.iaload, 593, 318, 0, 0, 0), (.invokevirtual 68, 594, 319, 94, 1, 0), (.aload_n 2, 597, 320, 0, 0, 0)],
   [(.aload_n 0, 598, 321, 0, 0, 0), (.iload 4, 599, 322, 0, 0, 0), (.iconst 1, 601, 323, 0, 0, 0), (.iadd, 602, 324, 0, 0, 0), (.iaload, 603, 325, 0, 0, 0), (.invokevirtual 72, 604, 326, 193, 1, 0), (.if_icmp .eq 622, 607, 327, 751, 0, 0), (.iconst 0, 610, 328, 0, 0, 0), (.ireturn, 611, 329, 1, 0, 0), (.aload_n 1, 612, 330, 0, 0, 0), (.aload_n 0, 613, 331, 0, 0, 0), (.iload 4, 614, 332, 0, 0, 0), (.iconst 1, 616, 333, 0, 0, 0), (.iadd, 617, 334, 0, 0, 0), (.iaload, 618, 335, 0, 0, 0), (.invokevirtual 73, 619, 336, 95, 1, 0)],
   [(.aload_n 2, 622, 337, 0, 0, 0), (.aload_n 0, 623, 338, 0, 0, 0), (.iload 4, 624, 339, 0, 0, 0), (.iconst 1, 626, 340, 0, 0, 0), (.iadd, 627, 341, 0, 0, 0), (.iaload, 628, 342, 0, 0, 0), (.invokevirtual 76, 629, 343, 194, 1, 0), (.if_icmp .eq 597, 632, 344, 751, 0, 0), (.iconst 0, 635, 345, 0, 0, 0), (.ireturn, 636, 346, 1, 0, 0), (.aload_n 1, 637, 347, 0, 0, 0), (.aload_n 0, 638, 348, 0, 0, 0), (.iload 4, 639, 349, 0, 0, 0), (.iconst 1, 641, 350, 0, 0, 0), (.iadd, 642, 351, 0, 0, 0), (.iaload, 643, 352, 0, 0, 0)],
   [(.aload_n 0, 644, 353, 0, 0, 0), (.iload 4, 645, 354, 0, 0, 0), (.iconst 2, 647, 355, 0, 0, 0), (.iadd, 648, 356, 0, 0, 0), (.iaload, 649, 357, 0, 0, 0), (.invokevirtual 77, 650, 358, 96, 2, 0), (.aload_n 2, 653, 359, 0, 0, 0), (.aload_n 0, 654, 360, 0, 0, 0), (.iload 4, 655, 361, 0, 0, 0), (.iconst 1, 657, 362, 0, 0, 0), (.iadd, 658, 363, 0, 0, 0), (.iaload, 659, 364, 0, 0, 0), (.aload_n 0, 660, 365, 0, 0, 0), (.iload 4, 661, 366, 0, 0, 0), (.iconst 2, 663, 367, 0, 0, 0), (.iadd, 664, 368, 0, 0, 0)],
   [(.iaload, 665, 369, 0, 0, 0), (.invokevirtual 80, 666, 370, 195, 2, 0), (.if_icmp .eq 560, 669, 371, 751, 0, 0), (.iconst 0, 672, 372, 0, 0, 0), (.ireturn, 673, 373, 1, 0, 0), (.aload_n 1, 674, 374, 0, 0, 0), (.aload_n 0, 675, 375, 0, 0, 0), (.iload 4, 676, 376, 0, 0, 0), (.iconst 1, 678, 377, 0, 0, 0), (.iadd, 679, 378, 0, 0, 0), (.iaload, 680, 379, 0, 0, 0), (.invokevirtual 81, 681, 380, 97, 1, 0), (.aload_n 2, 684, 381, 0, 0, 0), (.aload_n 0, 685, 382, 0, 0, 0), (.iload 4, 686, 383, 0, 0, 0), (.iconst 1, 688, 384, 0, 0, 0)],
   [(.iadd, 689, 385, 0, 0, 0), (.iaload, 690, 386, 0, 0, 0), (.invokevirtual 84, 691, 387, 196, 1, 0), (.if_icmp .eq 535, 694, 388, 751, 0, 0), (.iconst 0, 697, 389, 0, 0, 0), (.ireturn, 698, 390, 1, 0, 0), (.aload_n 1, 699, 391, 0, 0, 0), (.aload_n 0, 700, 392, 0, 0, 0), (.iload 4, 701, 393, 0, 0, 0), (.iconst 1, 703, 394, 0, 0, 0), (.iadd, 704, 395, 0, 0, 0), (.iaload, 705, 396, 0, 0, 0), (.invokevirtual 85, 706, 397, 98, 1, 0), (.aload_n 2, 709, 398, 0, 0, 0), (.aload_n 0, 710, 399, 0, 0, 0), (.iload 4, 711, 400, 0, 0, 0)],
   [(.iconst 1, 713, 401, 0, 0, 0), (.iadd, 714, 402, 0, 0, 0), (.iaload, 715, 403, 0, 0, 0), (.invokevirtual 88, 716, 404, 198, 1, 0), (.if_icmp .eq 510, 719, 405, 751, 0, 0), (.iconst 0, 722, 406, 0, 0, 0), (.ireturn, 723, 407, 1, 0, 0), (.aload_n 1, 724, 408, 0, 0, 0), (.aload_n 0, 725, 409, 0, 0, 0), (.iload 4, 726, 410, 0, 0, 0), (.iconst 1, 728, 411, 0, 0, 0), (.iadd, 729, 412, 0, 0, 0), (.iaload, 730, 413, 0, 0, 0), (.invokevirtual 89, 731, 414, 99, 1, 0), (.aload_n 2, 734, 415, 0, 0, 0), (.aload_n 0, 735, 416, 0, 0, 0)],
   [(.iload 4, 736, 417, 0, 0, 0), (.iconst 1, 738, 418, 0, 0, 0), (.iadd, 739, 419, 0, 0, 0), (.iaload, 740, 420, 0, 0, 0), (.invokevirtual 92, 741, 421, 200, 1, 0), (.if_icmp .eq 485, 744, 422, 751, 0, 0), (.iconst 0, 747, 423, 0, 0, 0), (.ireturn, 748, 424, 1, 0, 0), (.aload_n 1, 749, 425, 0, 0, 0), (.invokevirtual 93, 750, 426, 100, 0, 0), (.aload_n 2, 753, 427, 0, 0, 0), (.invokevirtual 96, 754, 428, 201, 0, 0), (.if_icmp .eq 472, 757, 429, 751, 0, 0), (.iconst 0, 760, 430, 0, 0, 0), (.ireturn, 761, 431, 1, 0, 0), (.aload_n 1, 762, 432, 0, 0, 0)],
   [(.invokevirtual 97, 763, 433, 101, 0, 0), (.aload_n 2, 766, 434, 0, 0, 0), (.invokevirtual 100, 767, 435, 160, 0, 0), (.if_icmp .eq 459, 770, 436, 751, 0, 0), (.iconst 0, 773, 437, 0, 0, 0), (.ireturn, 774, 438, 1, 0, 0), (.aload_n 1, 775, 439, 0, 0, 0), (.aload_n 0, 776, 440, 0, 0, 0), (.iload 4, 777, 441, 0, 0, 0), (.iconst 1, 779, 442, 0, 0, 0), (.iadd, 780, 443, 0, 0, 0), (.iaload, 781, 444, 0, 0, 0), (.aload_n 0, 782, 445, 0, 0, 0), (.iload 4, 783, 446, 0, 0, 0), (.iconst 2, 785, 447, 0, 0, 0), (.iadd, 786, 448, 0, 0, 0)],
   [(.iaload, 787, 449, 0, 0, 0), (.invokevirtual 101, 788, 450, 102, 2, 0), (.aload_n 2, 791, 451, 0, 0, 0), (.aload_n 0, 792, 452, 0, 0, 0), (.iload 4, 793, 453, 0, 0, 0), (.iconst 1, 795, 454, 0, 0, 0), (.iadd, 796, 455, 0, 0, 0), (.iaload, 797, 456, 0, 0, 0), (.aload_n 0, 798, 457, 0, 0, 0), (.iload 4, 799, 458, 0, 0, 0), (.iconst 2, 801, 459, 0, 0, 0), (.iadd, 802, 460, 0, 0, 0), (.iaload, 803, 461, 0, 0, 0), (.invokevirtual 104, 804, 462, 205, 2, 0), (.if_icmp .eq 422, 807, 463, 751, 0, 0), (.iconst 0, 810, 464, 0, 0, 0)],
   [(.ireturn, 811, 465, 1, 0, 0), (.aload_n 1, 812, 466, 0, 0, 0), (.aload_n 0, 813, 467, 0, 0, 0), (.iload 4, 814, 468, 0, 0, 0), (.iconst 1, 816, 469, 0, 0, 0), (.iadd, 817, 470, 0, 0, 0), (.iaload, 818, 471, 0, 0, 0), (.aload_n 0, 819, 472, 0, 0, 0), (.iload 4, 820, 473, 0, 0, 0), (.iconst 2, 822, 474, 0, 0, 0), (.iadd, 823, 475, 0, 0, 0), (.iaload, 824, 476, 0, 0, 0), (.invokevirtual 105, 825, 477, 103, 2, 0), (.aload_n 2, 828, 478, 0, 0, 0), (.aload_n 0, 829, 479, 0, 0, 0), (.iload 4, 830, 480, 0, 0, 0)],
   [(.iconst 1, 832, 481, 0, 0, 0), (.iadd, 833, 482, 0, 0, 0), (.iaload, 834, 483, 0, 0, 0), (.aload_n 0, 835, 484, 0, 0, 0), (.iload 4, 836, 485, 0, 0, 0), (.iconst 2, 838, 486, 0, 0, 0), (.iadd, 839, 487, 0, 0, 0), (.iaload, 840, 488, 0, 0, 0), (.invokevirtual 108, 841, 489, 206, 2, 0), (.if_icmp .eq 385, 844, 490, 751, 0, 0), (.iconst 0, 847, 491, 0, 0, 0), (.ireturn, 848, 492, 1, 0, 0), (.aload_n 1, 849, 493, 0, 0, 0), (.aload_n 0, 850, 494, 0, 0, 0), (.iload 4, 851, 495, 0, 0, 0), (.iconst 1, 853, 496, 0, 0, 0)],
   [(.iadd, 854, 497, 0, 0, 0), (.iaload, 855, 498, 0, 0, 0), (.aload_n 0, 856, 499, 0, 0, 0), (.iload 4, 857, 500, 0, 0, 0), (.iconst 2, 859, 501, 0, 0, 0), (.iadd, 860, 502, 0, 0, 0), (.iaload, 861, 503, 0, 0, 0), (.aload_n 0, 862, 504, 0, 0, 0), (.iload 4, 863, 505, 0, 0, 0), (.iconst 3, 865, 506, 0, 0, 0), (.iadd, 866, 507, 0, 0, 0), (.iaload, 867, 508, 0, 0, 0), (.invokevirtual 109, 868, 509, 104, 3, 0), (.aload_n 2, 871, 510, 0, 0, 0), (.aload_n 0, 872, 511, 0, 0, 0), (.iload 4, 873, 512, 0, 0, 0)],
   [(.iconst 1, 875, 513, 0, 0, 0), (.iadd, 876, 514, 0, 0, 0), (.iaload, 877, 515, 0, 0, 0), (.aload_n 0, 878, 516, 0, 0, 0), (.iload 4, 879, 517, 0, 0, 0), (.iconst 2, 881, 518, 0, 0, 0), (.iadd, 882, 519, 0, 0, 0), (.iaload, 883, 520, 0, 0, 0), (.aload_n 0, 884, 521, 0, 0, 0), (.iload 4, 885, 522, 0, 0, 0), (.iconst 3, 887, 523, 0, 0, 0), (.iadd, 888, 524, 0, 0, 0), (.iaload, 889, 525, 0, 0, 0), (.invokevirtual 112, 890, 526, 207, 3, 0), (.if_icmp .eq 336, 893, 527, 751, 0, 0), (.iconst 0, 896, 528, 0, 0, 0)],
   [(.ireturn, 897, 529, 1, 0, 0), (.aload_n 1, 898, 530, 0, 0, 0), (.aload_n 0, 899, 531, 0, 0, 0), (.iload 4, 900, 532, 0, 0, 0), (.iconst 1, 902, 533, 0, 0, 0), (.iadd, 903, 534, 0, 0, 0), (.iaload, 904, 535, 0, 0, 0), (.aload_n 0, 905, 536, 0, 0, 0), (.iload 4, 906, 537, 0, 0, 0), (.iconst 2, 908, 538, 0, 0, 0), (.iadd, 909, 539, 0, 0, 0), (.iaload, 910, 540, 0, 0, 0), (.invokevirtual 113, 911, 541, 105, 2, 0), (.aload_n 2, 914, 542, 0, 0, 0), (.aload_n 0, 915, 543, 0, 0, 0), (.iload 4, 916, 544, 0, 0, 0)],
   [(.iconst 1, 918, 545, 0, 0, 0), (.iadd, 919, 546, 0, 0, 0), (.iaload, 920, 547, 0, 0, 0), (.aload_n 0, 921, 548, 0, 0, 0), (.iload 4, 922, 549, 0, 0, 0), (.iconst 2, 924, 550, 0, 0, 0), (.iadd, 925, 551, 0, 0, 0), (.iaload, 926, 552, 0, 0, 0), (.invokevirtual 116, 927, 553, 208, 2, 0), (.if_icmp .eq 299, 930, 554, 751, 0, 0), (.iconst 0, 933, 555, 0, 0, 0), (.ireturn, 934, 556, 1, 0, 0), (.aload_n 1, 935, 557, 0, 0, 0), (.aload_n 0, 936, 558, 0, 0, 0), (.iload 4, 937, 559, 0, 0, 0), (.iconst 1, 939, 560, 0, 0, 0)],
   [(.iadd, 940, 561, 0, 0, 0), (.iaload, 941, 562, 0, 0, 0), (.invokevirtual 117, 942, 563, 106, 1, 0), (.aload_n 2, 945, 564, 0, 0, 0), (.aload_n 0, 946, 565, 0, 0, 0), (.iload 4, 947, 566, 0, 0, 0), (.iconst 1, 949, 567, 0, 0, 0), (.iadd, 950, 568, 0, 0, 0), (.iaload, 951, 569, 0, 0, 0), (.invokevirtual 120, 952, 570, 210, 1, 0), (.if_icmp .eq 274, 955, 571, 751, 0, 0), (.iconst 0, 958, 572, 0, 0, 0), (.ireturn, 959, 573, 1, 0, 0), (.aload_n 1, 960, 574, 0, 0, 0), (.aload_n 0, 961, 575, 0, 0, 0), (.iload 4, 962, 576, 0, 0, 0)],
   [(.iconst 1, 964, 577, 0, 0, 0), (.iadd, 965, 578, 0, 0, 0), (.iaload, 966, 579, 0, 0, 0), (.aload_n 0, 967, 580, 0, 0, 0), (.iload 4, 968, 581, 0, 0, 0), (.iconst 2, 970, 582, 0, 0, 0), (.iadd, 971, 583, 0, 0, 0), (.iaload, 972, 584, 0, 0, 0), (.invokevirtual 121, 973, 585, 107, 2, 0), (.aload_n 2, 976, 586, 0, 0, 0), (.aload_n 0, 977, 587, 0, 0, 0), (.iload 4, 978, 588, 0, 0, 0), (.iconst 1, 980, 589, 0, 0, 0), (.iadd, 981, 590, 0, 0, 0), (.iaload, 982, 591, 0, 0, 0), (.aload_n 0, 983, 592, 0, 0, 0)],
   [(.iload 4, 984, 593, 0, 0, 0), (.iconst 2, 986, 594, 0, 0, 0), (.iadd, 987, 595, 0, 0, 0), (.iaload, 988, 596, 0, 0, 0), (.invokevirtual 124, 989, 597, 212, 2, 0), (.if_icmp .eq 237, 992, 598, 751, 0, 0), (.iconst 0, 995, 599, 0, 0, 0), (.ireturn, 996, 600, 1, 0, 0), (.aload_n 1, 997, 601, 0, 0, 0), (.aload_n 0, 998, 602, 0, 0, 0), (.iload 4, 999, 603, 0, 0, 0), (.iconst 1, 1001, 604, 0, 0, 0), (.iadd, 1002, 605, 0, 0, 0), (.iaload, 1003, 606, 0, 0, 0), (.invokevirtual 125, 1004, 607, 108, 1, 0), (.aload_n 2, 1007, 608, 0, 0, 0)],
   [(.aload_n 0, 1008, 609, 0, 0, 0), (.iload 4, 1009, 610, 0, 0, 0), (.iconst 1, 1011, 611, 0, 0, 0), (.iadd, 1012, 612, 0, 0, 0), (.iaload, 1013, 613, 0, 0, 0), (.invokevirtual 128, 1014, 614, 213, 1, 0), (.if_icmp .eq 212, 1017, 615, 751, 0, 0), (.iconst 0, 1020, 616, 0, 0, 0), (.ireturn, 1021, 617, 1, 0, 0), (.aload_n 1, 1022, 618, 0, 0, 0), (.aload_n 0, 1023, 619, 0, 0, 0), (.iload 4, 1024, 620, 0, 0, 0), (.iconst 1, 1026, 621, 0, 0, 0), (.iadd, 1027, 622, 0, 0, 0), (.iaload, 1028, 623, 0, 0, 0), (.invokevirtual 129, 1029, 624, 109, 1, 0)],
   [(.aload_n 2, 1032, 625, 0, 0, 0), (.aload_n 0, 1033, 626, 0, 0, 0), (.iload 4, 1034, 627, 0, 0, 0), (.iconst 1, 1036, 628, 0, 0, 0), (.iadd, 1037, 629, 0, 0, 0), (.iaload, 1038, 630, 0, 0, 0), (.invokevirtual 132, 1039, 631, 215, 1, 0), (.if_icmp .eq 187, 1042, 632, 751, 0, 0), (.iconst 0, 1045, 633, 0, 0, 0), (.ireturn, 1046, 634, 1, 0, 0), (.aload_n 1, 1047, 635, 0, 0, 0), (.aload_n 0, 1048, 636, 0, 0, 0), (.iload 4, 1049, 637, 0, 0, 0), (.iconst 1, 1051, 638, 0, 0, 0), (.iadd, 1052, 639, 0, 0, 0), (.iaload, 1053, 640, 0, 0, 0)],
   [(.aload_n 0, 1054, 641, 0, 0, 0), (.iload 4, 1055, 642, 0, 0, 0), (.iconst 2, 1057, 643, 0, 0, 0), (.iadd, 1058, 644, 0, 0, 0), (.iaload, 1059, 645, 0, 0, 0), (.invokevirtual 133, 1060, 646, 110, 2, 0), (.aload_n 2, 1063, 647, 0, 0, 0), (.aload_n 0, 1064, 648, 0, 0, 0), (.iload 4, 1065, 649, 0, 0, 0), (.iconst 1, 1067, 650, 0, 0, 0), (.iadd, 1068, 651, 0, 0, 0), (.iaload, 1069, 652, 0, 0, 0), (.aload_n 0, 1070, 653, 0, 0, 0), (.iload 4, 1071, 654, 0, 0, 0), (.iconst 2, 1073, 655, 0, 0, 0), (.iadd, 1074, 656, 0, 0, 0)],
   [(.iaload, 1075, 657, 0, 0, 0), (.invokevirtual 136, 1076, 658, 216, 2, 0), (.if_icmp .eq 150, 1079, 659, 751, 0, 0), (.iconst 0, 1082, 660, 0, 0, 0), (.ireturn, 1083, 661, 1, 0, 0), (.aload_n 1, 1084, 662, 0, 0, 0), (.aload_n 0, 1085, 663, 0, 0, 0), (.iload 4, 1086, 664, 0, 0, 0), (.iconst 1, 1088, 665, 0, 0, 0), (.iadd, 1089, 666, 0, 0, 0), (.iaload, 1090, 667, 0, 0, 0), (.invokevirtual 137, 1091, 668, 111, 1, 0), (.aload_n 2, 1094, 669, 0, 0, 0), (.aload_n 0, 1095, 670, 0, 0, 0), (.iload 4, 1096, 671, 0, 0, 0), (.iconst 1, 1098, 672, 0, 0, 0)],
   [(.iadd, 1099, 673, 0, 0, 0), (.iaload, 1100, 674, 0, 0, 0), (.invokevirtual 140, 1101, 675, 217, 1, 0), (.if_icmp .eq 125, 1104, 676, 751, 0, 0), (.iconst 0, 1107, 677, 0, 0, 0), (.ireturn, 1108, 678, 1, 0, 0), (.aload_n 1, 1109, 679, 0, 0, 0), (.aload_n 0, 1110, 680, 0, 0, 0), (.iload 4, 1111, 681, 0, 0, 0), (.iconst 1, 1113, 682, 0, 0, 0), (.iadd, 1114, 683, 0, 0, 0), (.iaload, 1115, 684, 0, 0, 0), (.invokevirtual 141, 1116, 685, 112, 1, 0), (.aload_n 2, 1119, 686, 0, 0, 0), (.aload_n 0, 1120, 687, 0, 0, 0), (.iload 4, 1121, 688, 0, 0, 0)],
   [(.iconst 1, 1123, 689, 0, 0, 0), (.iadd, 1124, 690, 0, 0, 0), (.iaload, 1125, 691, 0, 0, 0), (.invokevirtual 144, 1126, 692, 220, 1, 0), (.if_icmp .eq 100, 1129, 693, 751, 0, 0), (.iconst 0, 1132, 694, 0, 0, 0), (.ireturn, 1133, 695, 1, 0, 0), (.aload_n 1, 1134, 696, 0, 0, 0), (.invokevirtual 145, 1135, 697, 113, 0, 0), (.aload_n 2, 1138, 698, 0, 0, 0), (.invokevirtual 148, 1139, 699, 222, 0, 0), (.if_icmp .eq 87, 1142, 700, 751, 0, 0), (.iconst 0, 1145, 701, 0, 0, 0), (.ireturn, 1146, 702, 1, 0, 0), (.aload_n 1, 1147, 703, 0, 0, 0), (.aload_n 0, 1148, 704, 0, 0, 0)],
   [(.iload 4, 1149, 705, 0, 0, 0), (.iconst 1, 1151, 706, 0, 0, 0), (.iadd, 1152, 707, 0, 0, 0), (.iaload, 1153, 708, 0, 0, 0), (.aload_n 3, 1154, 709, 0, 0, 0), (.invokestatic 149, 1155, 710, 901, 3, 0), (.istore 5, 1158, 711, 0, 0, 0), (.aload_n 2, 1160, 712, 0, 0, 0), (.aload_n 0, 1161, 713, 0, 0, 0), (.iload 4, 1162, 714, 0, 0, 0), (.iconst 1, 1164, 715, 0, 0, 0), (.iadd, 1165, 716, 0, 0, 0), (.iaload, 1166, 717, 0, 0, 0), (.invokevirtual 154, 1167, 718, 223, 1, 0), (.istore 6, 1170, 719, 0, 0, 0), (.aload_n 2, 1172, 720, 0, 0, 0)],
   [(.invokevirtual 155, 1173, 721, 137, 0, 0), (.iload 5, 1176, 722, 0, 0, 0), (.if_icmp .eq 5, 1178, 723, 725, 0, 0), (.iconst 0, 1181, 724, 0, 0, 0), (.ireturn, 1182, 725, 1, 0, 0), (.iload 5, 1183, 726, 0, 0, 0), (.ifCond .ne 15, 1185, 727, 736, 0, 0), (.aload_n 3, 1188, 728, 0, 0, 0), (.iconst 0, 1189, 729, 0, 0, 0), (.laload, 1190, 730, 0, 0, 0), (.iload 6, 1191, 731, 0, 0, 0), (.i2l, 1193, 732, 0, 0, 0), (.lcmp, 1194, 733, 0, 0, 0), (.ifCond .eq 5, 1195, 734, 736, 0, 0), (.iconst 0, 1198, 735, 0, 0, 0), (.ireturn, 1199, 736, 1, 0, 0)],
   [(.goto 29, 1200, 737, 751, 0, 0), (.aload_n 1, 1203, 738, 0, 0, 0), (.invokevirtual 158, 1204, 739, 114, 0, 0), (.aload_n 2, 1207, 740, 0, 0, 0), (.invokevirtual 161, 1208, 741, 224, 0, 0), (.if_icmp .eq 18, 1211, 742, 751, 0, 0), (.iconst 0, 1214, 743, 0, 0, 0), (.ireturn, 1215, 744, 1, 0, 0), (.aload_n 1, 1216, 745, 0, 0, 0), (.invokevirtual 162, 1217, 746, 115, 0, 0), (.aload_n 2, 1220, 747, 0, 0, 0), (.invokevirtual 165, 1221, 748, 225, 0, 0), (.if_icmp .eq 5, 1224, 749, 751, 0, 0), (.iconst 0, 1227, 750, 0, 0, 0), (.ireturn, 1228, 751, 1, 0, 0), (.iinc 4 6, 1229, 752, 0, 0, 0)],
   [(.goto (-1209), 1232, 753, 13, 0, 0), (.iconst 1, 1235, 754, 0, 0, 0), (.ireturn, 1236, 755, 1, 0, 0)]],
   [(24, [(0, 25), (1, 82), (2, 99), (3, 106), (4, 113), (5, 130), (6, 157), (7, 194), (8, 221), (9, 248), (10, 275), (11, 312), (12, 329), (13, 346), (14, 373), (15, 390), (16, 407), (17, 424), (18, 431), (19, 438), (20, 465), (21, 492), (22, 529), (23, 556), (24, 573), (25, 600), (26, 617), (27, 634), (28, 661), (29, 678), (30, 695), (31, 702), (32, 737), (33, 744)], 751)], 226)
def tabL : List (List TB) := [[TJ7_fill_53178, TJ7_fill_fda19, TJ7_rangeCheck_23922, TX0_clear, TX0_keep, TX0_takeBack, TX1_tally, TX1_vote, TX1_moveAhead, TX1_wordOfChoice, TX1_pointsOfChoice, TX1_doubtPoints, TX1_listHeard, TX1_heardWord, TX1_heardSlot, TX1_listDoubts], [TX1_isMoreDoubtful, TX1_mostDoubtful, TX1_isAboveHalf, TX1_meanTime, TX2_forget, TX2_apart, TX3_clear, TX3_copyFrom, TX3_keepIn, TX3_takeFrom, TX3_placeOf, TX3_holds, TX3_costOf, TX3_joinedAt, TX3_thereOf, TX3_slotOf], [TX3_wordsThere, TX3_putThere, TX3_emptySlot, TX3_moveSlot, TX3_addJoined, TX4_forget, TX4_find, TX4_hearingAt, TX4_goOn, TX4_keepOrder, TX5_read, TX5_ahead, TX5_takeToken, TX5_takeWord, TX5_takeWhole, TX5_isLetter], [TX5_isDigit, TX5_takeIn, TX5_goOn, TX5_takeName, TX5_takeWeight, TX5_takeHeard, TX5_takeTime, TX6_changes, TX7_begin, TX7_keepIn, TX7_takeFrom, TX7_weightOf, TX7_setWeight, TX8_clear, TX8_copyFrom, TX8_countOf], [TX8_weightTold, TX8_wordOf, TX8_timeOf, TX8_letterOf, TX8_lengthOf, TX8_hasName, TX8_addHearing, TX8_setWeight, TX8_addWord, TX8_setTime, TX8_numberOf, TX8_spell, TX9_plan, TX9_lookInto, TX9_matchCost, TX9_followSteps], [TX9_stepOf, TX9_weave, TX9_weaveWithout, TX10_feed, TX10_text, TX10_fault, TX10_where, TX10_about, TX10_hearing, TX10_word, TX10_letter, TX10_far, TX10_between, TX10_costs, TX10_window, TX10_share], [TX10_weight, TX10_join, TX10_joinAll, TX10_drop, TX10_weigh, TX10_undo, TX10_slot, TX10_at, TX10_choice, TX10_doubt, TX10_doubtful, TX10_heard, TX10_errors, TX10_cost, TX10_way, TX10_without], [TX10_best, TX10_write, TX10_size, TX10_trouble, TX10_refused, TX10_refusedAct, TX10_answered, TX10_beginAct, TX10_putNumber, TX10_isTold, TX10_isHearing, TX10_isWord, TX10_isSlot, TX10_isWithin, TX10_costsOfJoined, TX10_weightsOfJoined], [TX10_winnersOf, TX10_weightByRight, TX10_nextToJoin, TX10_placeInHeard, TX10_leastTime, TX10_greatestTime, TX10_writeWord, TX10_putWritten, TX10_lessened, TX11_thrown, TX11_refused, TX11_good, TX11_done, TX11_in, TX11_common, TX11_feed], [TX11_flaw, TX11_isLetterAt, TX11_isDigitAt, TX11_goOn, TX11_isSign, TX11_fault, TX11_where, TX11_readWhole, TX11_find, TX11_readLine, TX11_text, TX11_holds, TX11_empties, TX11_copies, TX11_acted, TX11_remembers], [TX11_undo, TX11_there, TX11_placeOf, TX11_apart, TX11_lettersIn, TX11_letterIn, TX11_farOf, TX11_timeOf, TX11_match, TX11_ways, TX11_joins, TX11_votes, TX11_gives, TX11_isAhead, TX11_swaps, TX11_winner], [TX11_doubtOf, TX11_heardBy, TX11_slotOf, TX11_rightOf, TX11_isHearing, TX11_isSlot, TX11_costsOf, TX11_about, TX11_hearing, TX11_slotWith, TX11_word, TX11_letter, TX11_far, TX11_laysHearing, TX11_between, TX11_costs], [TX11_puts, TX11_window, TX11_share, TX11_weight, TX11_join, TX11_nextOne, TX11_joinAll, TX11_dropsOnPaper, TX11_drop, TX11_weigh, TX11_endTime, TX11_wordsThere, TX11_placeHeard, TX11_slot, TX11_at, TX11_choice], [TX11_doubt, TX11_ahead, TX11_doubtful, TX11_heardAt, TX11_heard, TX11_errors, TX11_refusesPaper, TX11_cost, TX11_way, TX11_without, TX11_isIn, TX11_tries, TX11_best, TX11_inks, TX11_write, TX11_octet], [TX11_size, TX11_trouble, TL_law]]
/-- class of a method (its number; 12 the law, 13 Arrays), its locals -/
def infL : List (List (Nat × Nat)) := [[(13, 4), (13, 5), (13, 3), (0, 1), (0, 3), (0, 3), (1, 5), (1, 4), (1, 5), (1, 2), (1, 2), (1, 1), (1, 4), (1, 2), (1, 2), (1, 4)], [(1, 7), (1, 2), (1, 2), (1, 8), (2, 1), (2, 4), (3, 1), (3, 2), (3, 6), (3, 5), (3, 2), (3, 2), (3, 2), (3, 2), (3, 3), (3, 4)], [(3, 4), (3, 4), (3, 3), (3, 4), (3, 3), (4, 1), (4, 1), (4, 2), (4, 7), (4, 4), (5, 4), (5, 1), (5, 2), (5, 2), (5, 1), (5, 1)], [(5, 1), (5, 1), (5, 2), (5, 1), (5, 1), (5, 1), (5, 1), (6, 13), (7, 3), (7, 3), (7, 3), (7, 2), (7, 3), (8, 1), (8, 2), (8, 2)], [(8, 2), (8, 3), (8, 3), (8, 3), (8, 2), (8, 3), (8, 2), (8, 3), (8, 4), (8, 4), (8, 3), (8, 5), (9, 10), (9, 5), (9, 7), (9, 6)], [(9, 2), (9, 7), (9, 6), (10, 6), (10, 2), (10, 1), (10, 1), (10, 2), (10, 3), (10, 4), (10, 3), (10, 3), (10, 3), (10, 4), (10, 2), (10, 2)], [(10, 4), (10, 2), (10, 5), (10, 2), (10, 3), (10, 1), (10, 3), (10, 3), (10, 5), (10, 4), (10, 2), (10, 5), (10, 2), (10, 2), (10, 3), (10, 3)], [(10, 2), (10, 2), (10, 1), (10, 1), (10, 2), (10, 2), (10, 2), (10, 1), (10, 3), (10, 1), (10, 2), (10, 2), (10, 2), (10, 3), (10, 3), (10, 3)], [(10, 5), (10, 3), (10, 6), (10, 3), (10, 5), (10, 5), (10, 4), (10, 2), (10, 7), (11, 1), (11, 2), (11, 2), (11, 2), (11, 3), (11, 5), (11, 8)], [(11, 2), (11, 2), (11, 2), (11, 1), (11, 2), (11, 1), (11, 1), (11, 4), (11, 5), (11, 7), (11, 2), (11, 5), (11, 1), (11, 2), (11, 2), (11, 2)], [(11, 2), (11, 3), (11, 3), (11, 8), (11, 5), (11, 6), (11, 6), (11, 7), (11, 10), (11, 9), (11, 9), (11, 6), (11, 4), (11, 3), (11, 4), (11, 3)], [(11, 3), (11, 6), (11, 4), (11, 6), (11, 2), (11, 2), (11, 3), (11, 4), (11, 4), (11, 4), (11, 4), (11, 3), (11, 3), (11, 4), (11, 5), (11, 4)], [(11, 4), (11, 2), (11, 2), (11, 4), (11, 2), (11, 6), (11, 4), (11, 4), (11, 2), (11, 3), (11, 7), (11, 4), (11, 4), (11, 3), (11, 3), (11, 5)], [(11, 5), (11, 8), (11, 3), (11, 7), (11, 4), (11, 4), (11, 2), (11, 3), (11, 9), (11, 5), (11, 4), (11, 4), (11, 2), (11, 2), (11, 5), (11, 2)], [(11, 1), (11, 1), (12, 7)]]
end
section
/-! the tables by numbers -/
def tab (i : Nat) : TB := nth ([], [], 999) (nth [] tabL (i / 16)) (i % 16)
def inf (i : Nat) : Nat × Nat := nth (99, 0) (nth [] infL (i / 16)) (i % 16)
def TB.at (M : TB) (i : Nat) : Option EN := match nthO M.1 (i / 16) with
  | some l => nthO l (i % 16)
  | none => none
def swl (M : List (Nat × List (Int32 × Nat) × Nat)) (i : Nat) : Option (List (Int32 × Nat) × Nat) := match M with
  | [] => none
  | (j, r) :: l => cond (Nat.beq j i) (some r) (swl l i)
end
section
/-- methods by their numbers: name, code, what is answered -/
def miL : List (List (MethodName × ByteArray × Option FieldType)) := [[(yJ7_fill_53178, cJ7_fill_53178, none), (yJ7_fill_fda19, cJ7_fill_fda19, none), (yJ7_rangeCheck_23922, cJ7_rangeCheck_23922, none), (yX0_clear, cX0_clear, none), (yX0_keep, cX0_keep, none), (yX0_takeBack, cX0_takeBack, none), (yX1_tally, cX1_tally, none), (yX1_vote, cX1_vote, none), (yX1_moveAhead, cX1_moveAhead, none), (yX1_wordOfChoice, cX1_wordOfChoice, some .int), (yX1_pointsOfChoice, cX1_pointsOfChoice, some .int), (yX1_doubtPoints, cX1_doubtPoints, some .int), (yX1_listHeard, cX1_listHeard, none), (yX1_heardWord, cX1_heardWord, some .int), (yX1_heardSlot, cX1_heardSlot, some .int), (yX1_listDoubts, cX1_listDoubts, none)],
  [(yX1_isMoreDoubtful, cX1_isMoreDoubtful, some .boolean), (yX1_mostDoubtful, cX1_mostDoubtful, some .int), (yX1_isAboveHalf, cX1_isAboveHalf, some .boolean), (yX1_meanTime, cX1_meanTime, some .int), (yX2_forget, cX2_forget, none), (yX2_apart, cX2_apart, some .int), (yX3_clear, cX3_clear, none), (yX3_copyFrom, cX3_copyFrom, none), (yX3_keepIn, cX3_keepIn, none), (yX3_takeFrom, cX3_takeFrom, none), (yX3_placeOf, cX3_placeOf, some .int), (yX3_holds, cX3_holds, some .boolean), (yX3_costOf, cX3_costOf, some .int), (yX3_joinedAt, cX3_joinedAt, some .int), (yX3_thereOf, cX3_thereOf, some .int), (yX3_slotOf, cX3_slotOf, some .int)],
  [(yX3_wordsThere, cX3_wordsThere, some .int), (yX3_putThere, cX3_putThere, none), (yX3_emptySlot, cX3_emptySlot, none), (yX3_moveSlot, cX3_moveSlot, none), (yX3_addJoined, cX3_addJoined, none), (yX4_forget, cX4_forget, none), (yX4_find, cX4_find, none), (yX4_hearingAt, cX4_hearingAt, some .int), (yX4_goOn, cX4_goOn, none), (yX4_keepOrder, cX4_keepOrder, none), (yX5_read, cX5_read, some .int), (yX5_ahead, cX5_ahead, some .int), (yX5_takeToken, cX5_takeToken, none), (yX5_takeWord, cX5_takeWord, none), (yX5_takeWhole, cX5_takeWhole, none), (yX5_isLetter, cX5_isLetter, some .boolean)],
  [(yX5_isDigit, cX5_isDigit, some .boolean), (yX5_takeIn, cX5_takeIn, some .int), (yX5_goOn, cX5_goOn, some .int), (yX5_takeName, cX5_takeName, some .int), (yX5_takeWeight, cX5_takeWeight, some .int), (yX5_takeHeard, cX5_takeHeard, some .int), (yX5_takeTime, cX5_takeTime, some .int), (yX6_changes, cX6_changes, some .int), (yX7_begin, cX7_begin, none), (yX7_keepIn, cX7_keepIn, none), (yX7_takeFrom, cX7_takeFrom, none), (yX7_weightOf, cX7_weightOf, some .int), (yX7_setWeight, cX7_setWeight, none), (yX8_clear, cX8_clear, none), (yX8_copyFrom, cX8_copyFrom, none), (yX8_countOf, cX8_countOf, some .int)],
  [(yX8_weightTold, cX8_weightTold, some .int), (yX8_wordOf, cX8_wordOf, some .int), (yX8_timeOf, cX8_timeOf, some .int), (yX8_letterOf, cX8_letterOf, some .int), (yX8_lengthOf, cX8_lengthOf, some .int), (yX8_hasName, cX8_hasName, some .boolean), (yX8_addHearing, cX8_addHearing, some .boolean), (yX8_setWeight, cX8_setWeight, none), (yX8_addWord, cX8_addWord, some .boolean), (yX8_setTime, cX8_setTime, some .boolean), (yX8_numberOf, cX8_numberOf, some .int), (yX8_spell, cX8_spell, none), (yX9_plan, cX9_plan, some .int), (yX9_lookInto, cX9_lookInto, none), (yX9_matchCost, cX9_matchCost, some .int), (yX9_followSteps, cX9_followSteps, none)],
  [(yX9_stepOf, cX9_stepOf, some .int), (yX9_weave, cX9_weave, some .int), (yX9_weaveWithout, cX9_weaveWithout, none), (yX10_feed, cX10_feed, some .int), (yX10_text, cX10_text, some .int), (yX10_fault, cX10_fault, some .int), (yX10_where, cX10_where, some .int), (yX10_about, cX10_about, some .int), (yX10_hearing, cX10_hearing, some .int), (yX10_word, cX10_word, some .int), (yX10_letter, cX10_letter, some .int), (yX10_far, cX10_far, some .int), (yX10_between, cX10_between, some .int), (yX10_costs, cX10_costs, some .boolean), (yX10_window, cX10_window, some .boolean), (yX10_share, cX10_share, some .boolean)],
  [(yX10_weight, cX10_weight, some .int), (yX10_join, cX10_join, some .int), (yX10_joinAll, cX10_joinAll, some .int), (yX10_drop, cX10_drop, some .int), (yX10_weigh, cX10_weigh, some .int), (yX10_undo, cX10_undo, some .int), (yX10_slot, cX10_slot, some .int), (yX10_at, cX10_at, some .int), (yX10_choice, cX10_choice, some .int), (yX10_doubt, cX10_doubt, some .int), (yX10_doubtful, cX10_doubtful, some .int), (yX10_heard, cX10_heard, some .int), (yX10_errors, cX10_errors, some .int), (yX10_cost, cX10_cost, some .int), (yX10_way, cX10_way, some .int), (yX10_without, cX10_without, some .int)],
  [(yX10_best, cX10_best, some .int), (yX10_write, cX10_write, some .int), (yX10_size, cX10_size, some .int), (yX10_trouble, cX10_trouble, some .int), (yX10_refused, cX10_refused, some .int), (yX10_refusedAct, cX10_refusedAct, some .boolean), (yX10_answered, cX10_answered, some .int), (yX10_beginAct, cX10_beginAct, none), (yX10_putNumber, cX10_putNumber, none), (yX10_isTold, cX10_isTold, some .boolean), (yX10_isHearing, cX10_isHearing, some .boolean), (yX10_isWord, cX10_isWord, some .boolean), (yX10_isSlot, cX10_isSlot, some .boolean), (yX10_isWithin, cX10_isWithin, some .boolean), (yX10_costsOfJoined, cX10_costsOfJoined, some .int), (yX10_weightsOfJoined, cX10_weightsOfJoined, some .int)],
  [(yX10_winnersOf, cX10_winnersOf, some .int), (yX10_weightByRight, cX10_weightByRight, some .int), (yX10_nextToJoin, cX10_nextToJoin, some .int), (yX10_placeInHeard, cX10_placeInHeard, some .int), (yX10_leastTime, cX10_leastTime, some .int), (yX10_greatestTime, cX10_greatestTime, some .int), (yX10_writeWord, cX10_writeWord, none), (yX10_putWritten, cX10_putWritten, none), (yX10_lessened, cX10_lessened, some .int), (yX11_thrown, cX11_thrown, some .int), (yX11_refused, cX11_refused, some .int), (yX11_good, cX11_good, some .int), (yX11_done, cX11_done, some .boolean), (yX11_in, cX11_in, some .boolean), (yX11_common, cX11_common, some .int), (yX11_feed, cX11_feed, some .int)],
  [(yX11_flaw, cX11_flaw, none), (yX11_isLetterAt, cX11_isLetterAt, some .boolean), (yX11_isDigitAt, cX11_isDigitAt, some .boolean), (yX11_goOn, cX11_goOn, none), (yX11_isSign, cX11_isSign, some .boolean), (yX11_fault, cX11_fault, some .int), (yX11_where, cX11_where, some .int), (yX11_readWhole, cX11_readWhole, some .int), (yX11_find, cX11_find, some .int), (yX11_readLine, cX11_readLine, none), (yX11_text, cX11_text, some .int), (yX11_holds, cX11_holds, none), (yX11_empties, cX11_empties, none), (yX11_copies, cX11_copies, none), (yX11_acted, cX11_acted, none), (yX11_remembers, cX11_remembers, none)],
  [(yX11_undo, cX11_undo, some .int), (yX11_there, cX11_there, some .int), (yX11_placeOf, cX11_placeOf, some .int), (yX11_apart, cX11_apart, some .int), (yX11_lettersIn, cX11_lettersIn, some .int), (yX11_letterIn, cX11_letterIn, some .int), (yX11_farOf, cX11_farOf, some .int), (yX11_timeOf, cX11_timeOf, some .int), (yX11_match, cX11_match, some .int), (yX11_ways, cX11_ways, some .int), (yX11_joins, cX11_joins, some .int), (yX11_votes, cX11_votes, none), (yX11_gives, cX11_gives, none), (yX11_isAhead, cX11_isAhead, some .boolean), (yX11_swaps, cX11_swaps, none), (yX11_winner, cX11_winner, some .int)],
  [(yX11_doubtOf, cX11_doubtOf, some .int), (yX11_heardBy, cX11_heardBy, some .int), (yX11_slotOf, cX11_slotOf, some .int), (yX11_rightOf, cX11_rightOf, some .int), (yX11_isHearing, cX11_isHearing, some .boolean), (yX11_isSlot, cX11_isSlot, some .boolean), (yX11_costsOf, cX11_costsOf, some .int), (yX11_about, cX11_about, some .int), (yX11_hearing, cX11_hearing, some .int), (yX11_slotWith, cX11_slotWith, some .int), (yX11_word, cX11_word, some .int), (yX11_letter, cX11_letter, some .int), (yX11_far, cX11_far, some .int), (yX11_laysHearing, cX11_laysHearing, some .int), (yX11_between, cX11_between, some .int), (yX11_costs, cX11_costs, some .boolean)],
  [(yX11_puts, cX11_puts, some .boolean), (yX11_window, cX11_window, some .boolean), (yX11_share, cX11_share, some .boolean), (yX11_weight, cX11_weight, some .int), (yX11_join, cX11_join, some .int), (yX11_nextOne, cX11_nextOne, some .int), (yX11_joinAll, cX11_joinAll, some .int), (yX11_dropsOnPaper, cX11_dropsOnPaper, none), (yX11_drop, cX11_drop, some .int), (yX11_weigh, cX11_weigh, some .int), (yX11_endTime, cX11_endTime, some .int), (yX11_wordsThere, cX11_wordsThere, some .int), (yX11_placeHeard, cX11_placeHeard, some .int), (yX11_slot, cX11_slot, some .int), (yX11_at, cX11_at, some .int), (yX11_choice, cX11_choice, some .int)],
  [(yX11_doubt, cX11_doubt, some .int), (yX11_ahead, cX11_ahead, some .int), (yX11_doubtful, cX11_doubtful, some .int), (yX11_heardAt, cX11_heardAt, some .int), (yX11_heard, cX11_heard, some .int), (yX11_errors, cX11_errors, some .int), (yX11_refusesPaper, cX11_refusesPaper, some .int), (yX11_cost, cX11_cost, some .int), (yX11_way, cX11_way, some .int), (yX11_without, cX11_without, some .int), (yX11_isIn, cX11_isIn, some .boolean), (yX11_tries, cX11_tries, none), (yX11_best, cX11_best, some .int), (yX11_inks, cX11_inks, none), (yX11_write, cX11_write, some .int), (yX11_octet, cX11_octet, some .int)],
  [(yX11_size, cX11_size, some .int), (yX11_trouble, cX11_trouble, some .int), (yL_law, cL_law, some .boolean)]]
def mi0 : MethodName × ByteArray × Option FieldType := (yL_law, ⟨#[]⟩, none)
def mi (i : Nat) : MethodName × ByteArray × Option FieldType := nth mi0 (nth [] miL (i / 16)) (i % 16)
def clsN (o : Nat) : String := nth "" [RX0, RX1, RX2, RX3, RX4, RX5, RX6, RX7, RX8, RX9, RX10, RX11, RL, RJ7] o
/-- links of fields, by class: entry, class, field, place in lw_tbl -/
def flT : List (List (Nat × Nat × Nat × Nat)) := [[(13, 0, 0, 233), (19, 0, 1, 235), (22, 0, 2, 236)],
  [(9, 1, 0, 312), (15, 1, 1, 314), (18, 1, 2, 316), (21, 1, 3, 318), (25, 1, 4, 320), (28, 1, 5, 321), (31, 1, 6, 322), (34, 1, 7, 323), (37, 1, 8, 324), (40, 1, 9, 325), (43, 1, 10, 326), (47, 1, 11, 327), (76, 7, 4, 178), (86, 3, 0, 206)],
  [(9, 2, 2, 298), (15, 2, 0, 296), (19, 2, 1, 297), (29, 8, 8, 135)],
  [(11, 3, 0, 203), (15, 3, 1, 207), (18, 3, 2, 210), (22, 3, 3, 211), (25, 3, 4, 212), (28, 3, 5, 213)],
  [(10, 4, 0, 403), (16, 4, 1, 405), (20, 4, 4, 408), (26, 4, 5, 409), (30, 4, 2, 406), (34, 4, 3, 407), (43, 8, 0, 123)],
  [(12, 5, 0, 262), (18, 5, 1, 264), (22, 5, 3, 267), (25, 5, 4, 268), (28, 5, 5, 269), (31, 5, 6, 270), (34, 5, 7, 271), (37, 5, 2, 266)],
  [(9, 6, 0, 250)],
  [(9, 7, 0, 165), (15, 7, 1, 168), (18, 7, 2, 171), (21, 7, 3, 174), (24, 7, 4, 177), (27, 7, 5, 180)],
  [(9, 8, 0, 121), (15, 8, 1, 125), (18, 8, 2, 127), (22, 8, 3, 129), (25, 8, 4, 130), (28, 8, 5, 131), (31, 8, 6, 132), (34, 8, 7, 133), (37, 8, 8, 134), (40, 8, 9, 136)],
  [(11, 9, 4, 363), (15, 9, 5, 364), (18, 9, 6, 365), (21, 9, 7, 366), (25, 9, 8, 367), (28, 9, 9, 368), (31, 9, 10, 369), (34, 9, 0, 359), (38, 9, 1, 360), (42, 9, 2, 361), (46, 9, 3, 362), (56, 3, 0, 204), (70, 7, 1, 169), (75, 7, 0, 166), (94, 7, 2, 172), (105, 7, 3, 175), (108, 8, 0, 124), (139, 3, 1, 209)],
  [(9, 10, 0, 423), (13, 10, 1, 424), (16, 10, 2, 425), (19, 10, 3, 426), (25, 10, 4, 427), (32, 10, 5, 428), (39, 10, 6, 429), (43, 10, 7, 430), (49, 10, 8, 431), (56, 10, 9, 432), (60, 10, 15, 438), (64, 10, 16, 439), (67, 10, 17, 440), (70, 10, 18, 441), (73, 10, 19, 442), (81, 10, 10, 433), (90, 10, 11, 434), (99, 10, 12, 435), (108, 10, 13, 436), (117, 10, 14, 437), (132, 5, 1, 265), (135, 5, 0, 263), (151, 8, 0, 122), (161, 8, 1, 126), (164, 3, 1, 208), (167, 3, 0, 205), (174, 1, 2, 317), (181, 0, 0, 234), (228, 8, 2, 128), (245, 7, 0, 167), (248, 7, 1, 170), (251, 7, 2, 173), (254, 7, 3, 176), (257, 7, 4, 179), (294, 1, 0, 313), (301, 1, 1, 315), (341, 1, 3, 319), (359, 4, 0, 404)],
  [(9, 11, 2, 1144), (13, 11, 3, 1145), (17, 11, 14, 1156), (21, 11, 15, 1157), (24, 11, 16, 1158), (27, 11, 17, 1159), (30, 11, 18, 1160), (33, 11, 19, 1161), (36, 11, 20, 1162), (39, 11, 21, 1163), (42, 11, 22, 1164), (45, 11, 26, 1168), (48, 11, 27, 1169), (51, 11, 28, 1170), (54, 11, 30, 1172), (57, 11, 31, 1173), (60, 11, 32, 1174), (63, 11, 33, 1175), (66, 11, 34, 1176), (69, 11, 35, 1177), (72, 11, 36, 1178), (75, 11, 37, 1179), (78, 11, 40, 1182), (81, 11, 41, 1183), (84, 11, 42, 1184), (87, 11, 43, 1185), (90, 11, 44, 1186), (93, 11, 46, 1188), (96, 11, 0, 1142), (99, 11, 1, 1143), (102, 11, 4, 1146), (105, 11, 7, 1149), (108, 11, 10, 1152), (111, 11, 8, 1150), (114, 11, 5, 1147), (121, 11, 6, 1148), (124, 11, 9, 1151), (131, 11, 13, 1155), (142, 11, 12, 1154), (145, 11, 11, 1153), (165, 11, 23, 1165), (195, 11, 24, 1166), (201, 11, 25, 1167), (208, 11, 29, 1171), (243, 11, 38, 1180), (246, 11, 39, 1181), (349, 11, 45, 1187), (352, 11, 47, 1189)],
  [],
  []]
/-- links of methods, by class: entry, method, place in lw_tbl -/
def mlT : List (List (Nat × Nat × Nat)) := [[(26, 57, 776), (30, 24, 781), (31, 58, 908), (34, 25, 912)],
  [(51, 30, 650), (57, 65, 654), (62, 59, 658), (68, 7, 662), (72, 27, 666), (79, 8, 674), (83, 10, 971), (89, 6, 646), (93, 9, 678), (96, 11, 980), (100, 16, 981), (104, 66, 833)],
  [(23, 0, 295), (34, 68, 744), (38, 55, 748)],
  [(31, 0, 200), (37, 900, 785), (43, 1, 786), (46, 30, 723), (50, 22, 916), (53, 36, 917), (57, 34, 918), (61, 33, 852), (65, 26, 670)],
  [(39, 40, 1023), (48, 41, 1026), (52, 27, 1031), (56, 23, 1032), (60, 81, 1033), (66, 29, 1030)],
  [(41, 61, 504), (44, 44, 508), (47, 49, 530), (51, 43, 512), (54, 47, 516), (58, 45, 519), (61, 48, 523), (64, 46, 526), (67, 51, 534), (71, 50, 546), (75, 52, 551), (78, 53, 559), (81, 54, 579), (84, 69, 538), (87, 70, 542), (90, 71, 555), (94, 72, 563), (97, 73, 583)],
  [],
  [(31, 64, 602), (37, 900, 780)],
  [(43, 900, 595), (49, 63, 567), (53, 74, 571), (56, 66, 587), (60, 75, 575)],
  [(50, 63, 821), (62, 77, 823), (66, 78, 834), (78, 79, 840), (82, 30, 827), (85, 65, 828), (88, 19, 829), (97, 21, 838), (102, 66, 839), (111, 27, 816), (115, 76, 817), (119, 80, 844), (122, 34, 848), (126, 35, 856), (129, 33, 860), (133, 36, 861), (136, 22, 882), (142, 29, 883), (145, 81, 887)],
  [(121, 120, 488), (125, 116, 496), (129, 42, 500), (136, 62, 591), (140, 56, 598), (143, 22, 606), (146, 3, 610), (147, 20, 614), (150, 37, 618), (154, 118, 622), (157, 121, 638), (170, 12, 642), (177, 126, 682), (184, 127, 691), (187, 122, 700), (191, 59, 695), (194, 63, 704), (197, 26, 705), (200, 27, 686), (203, 28, 687), (206, 128, 706), (209, 65, 712), (213, 66, 718), (216, 31, 719), (219, 123, 728), (222, 67, 732), (225, 21, 740), (231, 55, 756), (235, 117, 761), (238, 125, 765), (242, 119, 768), (260, 60, 804), (264, 81, 812), (268, 130, 869), (271, 82, 878), (275, 23, 888), (277, 129, 896), (280, 5, 904), (284, 124, 923), (287, 6, 711), (291, 32, 927), (297, 19, 931), (304, 9, 713), (307, 131, 932), (310, 132, 940), (313, 133, 944), (316, 30, 710), (319, 10, 956), (322, 136, 960), (326, 11, 967), (329, 15, 976), (332, 17, 985), (335, 14, 936), (338, 13, 993), (344, 76, 873), (347, 80, 1009), (350, 900, 1014), (356, 38, 1019), (362, 39, 1034), (365, 135, 1042), (368, 134, 1046), (371, 18, 1050), (381, 4, 772)],
  [(117, 141, 1308), (127, 145, 1319), (139, 146, 1325), (158, 144, 1333), (162, 147, 1315), (168, 152, 1337), (174, 902, 1341), (178, 151, 1392), (182, 148, 1396), (185, 138, 1311), (189, 153, 1329), (192, 155, 1400), (198, 139, 1407), (204, 156, 1404), (211, 159, 1510), (214, 164, 1476), (218, 165, 1479), (222, 163, 1490), (225, 161, 1434), (229, 166, 1486), (232, 167, 1546), (236, 168, 1542), (240, 169, 1538), (249, 162, 1431), (252, 172, 1437), (256, 173, 1441), (260, 174, 1445), (263, 171, 1427), (267, 175, 1423), (270, 177, 1419), (274, 182, 1449), (278, 180, 1456), (281, 179, 1460), (284, 185, 1468), (287, 189, 1498), (291, 140, 1506), (294, 192, 1518), (297, 170, 1534), (300, 197, 1554), (303, 157, 1566), (306, 199, 1562), (309, 158, 1570), (312, 181, 1582), (315, 203, 1586), (318, 204, 1590), (321, 202, 1594), (325, 142, 1606), (328, 176, 1613), (331, 209, 1621), (334, 178, 1629), (337, 211, 1633), (340, 214, 1645), (343, 218, 1665), (346, 219, 1661), (355, 221, 1673)],
  [(19, 83, 484), (23, 143, 1292), (24, 84, 492), (27, 154, 1304), (28, 85, 626), (32, 149, 1296), (33, 86, 630), (36, 150, 1300), (37, 87, 634), (40, 183, 1415), (41, 88, 696), (45, 184, 1452), (46, 89, 714), (50, 186, 1464), (51, 90, 724), (54, 187, 1472), (55, 91, 736), (58, 188, 1482), (59, 92, 752), (62, 190, 1494), (63, 93, 757), (67, 191, 1502), (68, 94, 792), (72, 193, 1514), (73, 95, 796), (76, 194, 1522), (77, 96, 800), (80, 195, 1526), (81, 97, 808), (84, 196, 1530), (85, 98, 865), (88, 198, 1550), (89, 99, 874), (92, 200, 1558), (93, 100, 892), (96, 201, 1574), (97, 101, 900), (100, 160, 1411), (101, 102, 919), (104, 205, 1578), (105, 103, 948), (108, 206, 1598), (109, 104, 952), (112, 207, 1602), (113, 105, 963), (116, 208, 1609), (117, 106, 972), (120, 210, 1617), (121, 107, 989), (124, 212, 1625), (125, 108, 997), (128, 213, 1637), (129, 109, 1001), (132, 215, 1641), (133, 110, 1005), (136, 216, 1649), (137, 111, 1010), (140, 217, 1653), (141, 112, 1015), (144, 220, 1657), (145, 113, 1038), (148, 222, 1669), (149, 901, 1062), (154, 223, 1677), (155, 137, 1288), (158, 114, 1054), (161, 224, 1681), (162, 115, 1058), (165, 225, 1685)],
  [(13, 2, 789)]]
/-- of a method the places of its words: code, initialised, instance and selects (kind 0) or static (kind 1) -/
def cwT : List (List (Nat × Nat × Nat × Nat × Nat)) := [[(202, 89, 201, 0, 1), (788, 89, 787, 0, 1), (791, 89, 790, 0, 1), (613, 90, 611, 612, 0), (775, 90, 773, 774, 0), (907, 90, 905, 906, 0), (649, 94, 647, 648, 0), (665, 94, 664, 16, 0), (677, 94, 676, 17, 0), (681, 94, 679, 680, 0), (959, 94, 957, 958, 0), (970, 94, 968, 969, 0), (645, 94, 643, 644, 0), (996, 94, 994, 995, 0), (939, 94, 937, 938, 0), (979, 94, 977, 978, 0)],
  [(984, 94, 983, 34, 0), (988, 94, 986, 987, 0), (1053, 94, 1051, 1052, 0), (832, 94, 830, 831, 0), (617, 93, 615, 616, 0), (743, 93, 741, 742, 0), (609, 88, 607, 608, 0), (891, 88, 889, 890, 0), (784, 88, 782, 783, 0), (915, 88, 913, 914, 0), (673, 88, 671, 672, 0), (669, 88, 667, 668, 0), (690, 88, 688, 689, 0), (886, 88, 884, 885, 0), (653, 88, 651, 652, 0), (722, 88, 720, 721, 0)],
  [(930, 88, 928, 929, 0), (855, 88, 853, 854, 0), (851, 88, 849, 850, 0), (859, 88, 857, 858, 0), (864, 88, 862, 863, 0), (621, 96, 619, 620, 0), (1022, 96, 1020, 1021, 0), (1037, 96, 1035, 1036, 0), (1025, 96, 1024, 0, 1), (1029, 96, 1028, 35, 0), (503, 92, 501, 502, 0), (515, 92, 514, 3, 0), (511, 92, 510, 2, 0), (522, 92, 521, 4, 0), (529, 92, 528, 5, 0), (518, 92, 517, 0, 1)],
  [(525, 92, 524, 0, 1), (533, 92, 532, 6, 0), (549, 92, 548, 8, 0), (537, 92, 536, 7, 0), (554, 92, 553, 9, 0), (562, 92, 561, 10, 0), (582, 92, 581, 13, 0), (751, 91, 749, 750, 0), (601, 87, 599, 600, 0), (779, 87, 777, 778, 0), (911, 87, 909, 910, 0), (661, 87, 659, 660, 0), (807, 87, 805, 806, 0), (507, 86, 505, 506, 0), (594, 86, 592, 593, 0), (570, 86, 568, 569, 0)],
  [(605, 86, 603, 604, 0), (657, 86, 655, 656, 0), (590, 86, 588, 589, 0), (735, 86, 733, 734, 0), (747, 86, 745, 746, 0), (541, 86, 539, 540, 0), (545, 86, 543, 544, 0), (558, 86, 556, 557, 0), (566, 86, 564, 565, 0), (586, 86, 584, 585, 0), (574, 86, 573, 11, 0), (578, 86, 577, 12, 0), (820, 95, 818, 819, 0), (826, 95, 825, 25, 0), (837, 95, 836, 26, 0), (843, 95, 842, 27, 0)],
  [(847, 95, 845, 846, 0), (815, 95, 813, 814, 0), (881, 95, 879, 880, 0), (487, 85, 485, 486, 0), (495, 85, 493, 494, 0), (629, 85, 627, 628, 0), (633, 85, 631, 632, 0), (637, 85, 635, 636, 0), (699, 85, 697, 698, 0), (717, 85, 715, 716, 0), (727, 85, 725, 726, 0), (739, 85, 737, 738, 0), (755, 85, 753, 754, 0), (760, 85, 758, 759, 0), (795, 85, 793, 794, 0), (799, 85, 797, 798, 0)],
  [(803, 85, 801, 802, 0), (811, 85, 809, 810, 0), (868, 85, 866, 867, 0), (877, 85, 875, 876, 0), (895, 85, 893, 894, 0), (903, 85, 901, 902, 0), (922, 85, 920, 921, 0), (951, 85, 949, 950, 0), (955, 85, 953, 954, 0), (966, 85, 964, 965, 0), (975, 85, 973, 974, 0), (992, 85, 990, 991, 0), (1000, 85, 998, 999, 0), (1004, 85, 1002, 1003, 0), (1008, 85, 1006, 1007, 0), (1013, 85, 1011, 1012, 0)],
  [(1018, 85, 1016, 1017, 0), (1041, 85, 1039, 1040, 0), (1057, 85, 1055, 1056, 0), (1061, 85, 1059, 1060, 0), (499, 85, 498, 1, 0), (764, 85, 763, 23, 0), (625, 85, 624, 14, 0), (771, 85, 770, 24, 0), (491, 85, 490, 0, 0), (641, 85, 640, 15, 0), (703, 85, 702, 20, 0), (731, 85, 730, 22, 0), (926, 85, 925, 30, 0), (767, 85, 766, 0, 1), (685, 85, 684, 18, 0), (694, 85, 693, 19, 0)],
  [(709, 85, 708, 21, 0), (899, 85, 898, 29, 0), (872, 85, 871, 28, 0), (935, 85, 934, 31, 0), (943, 85, 942, 32, 0), (947, 85, 946, 33, 0), (1049, 85, 1048, 37, 0), (1045, 85, 1044, 36, 0), (962, 85, 961, 0, 1), (1291, 97, 1289, 1290, 0), (1314, 97, 1313, 39, 0), (1410, 97, 1409, 48, 0), (1509, 97, 1508, 61, 0), (1310, 97, 1309, 0, 1), (1608, 97, 1607, 0, 1), (1295, 97, 1293, 1294, 0)],
  [(1336, 97, 1335, 44, 0), (1322, 97, 1321, 41, 0), (1328, 97, 1327, 42, 0), (1318, 97, 1317, 40, 0), (1399, 97, 1398, 46, 0), (1299, 97, 1297, 1298, 0), (1303, 97, 1301, 1302, 0), (1395, 97, 1394, 45, 0), (1339, 97, 1338, 0, 1), (1332, 97, 1331, 43, 0), (1307, 97, 1305, 1306, 0), (1403, 97, 1402, 47, 0), (1406, 97, 1405, 0, 1), (1569, 97, 1568, 70, 0), (1573, 97, 1572, 71, 0), (1513, 97, 1512, 62, 0)],
  [(1414, 97, 1412, 1413, 0), (1436, 97, 1435, 0, 1), (1433, 97, 1432, 0, 1), (1493, 97, 1492, 59, 0), (1478, 97, 1477, 0, 1), (1481, 97, 1480, 0, 1), (1489, 97, 1488, 58, 0), (1549, 97, 1548, 67, 0), (1545, 97, 1544, 66, 0), (1541, 97, 1540, 65, 0), (1537, 97, 1536, 64, 0), (1430, 97, 1429, 51, 0), (1440, 97, 1439, 52, 0), (1444, 97, 1443, 53, 0), (1448, 97, 1447, 54, 0), (1426, 97, 1425, 50, 0)],
  [(1616, 97, 1615, 76, 0), (1422, 97, 1421, 49, 0), (1632, 97, 1631, 78, 0), (1463, 97, 1462, 56, 0), (1459, 97, 1458, 55, 0), (1585, 97, 1584, 72, 0), (1451, 97, 1450, 0, 1), (1418, 97, 1416, 1417, 0), (1455, 97, 1453, 1454, 0), (1471, 97, 1470, 57, 0), (1467, 97, 1465, 1466, 0), (1475, 97, 1473, 1474, 0), (1485, 97, 1483, 1484, 0), (1501, 97, 1500, 60, 0), (1497, 97, 1495, 1496, 0), (1505, 97, 1503, 1504, 0)],
  [(1521, 97, 1520, 63, 0), (1517, 97, 1515, 1516, 0), (1525, 97, 1523, 1524, 0), (1529, 97, 1527, 1528, 0), (1533, 97, 1531, 1532, 0), (1557, 97, 1556, 68, 0), (1553, 97, 1551, 1552, 0), (1565, 97, 1564, 69, 0), (1561, 97, 1559, 1560, 0), (1577, 97, 1575, 1576, 0), (1597, 97, 1596, 75, 0), (1589, 97, 1588, 73, 0), (1593, 97, 1592, 74, 0), (1581, 97, 1579, 1580, 0), (1601, 97, 1599, 1600, 0), (1605, 97, 1603, 1604, 0)],
  [(1612, 97, 1610, 1611, 0), (1624, 97, 1623, 77, 0), (1620, 97, 1618, 1619, 0), (1636, 97, 1635, 79, 0), (1628, 97, 1626, 1627, 0), (1640, 97, 1638, 1639, 0), (1648, 97, 1647, 80, 0), (1644, 97, 1642, 1643, 0), (1652, 97, 1650, 1651, 0), (1656, 97, 1654, 1655, 0), (1668, 97, 1667, 82, 0), (1664, 97, 1663, 81, 0), (1660, 97, 1658, 1659, 0), (1676, 97, 1675, 83, 0), (1672, 97, 1670, 1671, 0), (1680, 97, 1678, 1679, 0)],
  [(1684, 97, 1682, 1683, 0), (1688, 97, 1686, 1687, 0), (0, 0, 0, 0, 2)]]
def nrT : List (List Nat) := [[2, 4, 3, 0, 2, 2, 2, 2, 1, 1, 1, 0, 1, 1, 1, 1], [2, 1, 1, 3, 0, 2, 0, 1, 2, 2, 1, 1, 1, 1, 2, 2], [1, 3, 1, 2, 2, 0, 0, 1, 3, 2, 1, 0, 0, 0, 0, 1], [1, 0, 1, 0, 0, 0, 0, 6, 1, 2, 2, 1, 2, 0, 1, 1], [1, 2, 2, 2, 1, 1, 1, 1, 1, 1, 1, 2, 2, 2, 2, 2], [1, 2, 3, 5, 1, 0, 0, 1, 2, 3, 2, 2, 2, 3, 1, 1], [2, 1, 1, 1, 0, 0, 2, 2, 3, 2, 1, 2, 1, 1, 2, 1], [1, 0, 0, 0, 1, 1, 1, 0, 1, 0, 1, 1, 1, 3, 0, 0], [1, 1, 1, 1, 1, 1, 1, 1, 3, 0, 1, 1, 1, 3, 2, 5], [1, 1, 1, 0, 1, 0, 0, 2, 3, 0, 1, 0, 1, 0, 0, 0], [0, 3, 2, 2, 1, 2, 2, 2, 4, 2, 2, 2, 2, 2, 1, 2], [2, 2, 1, 2, 1, 1, 1, 1, 2, 2, 3, 2, 2, 2, 2, 3], [3, 1, 1, 2, 1, 1, 1, 1, 1, 0, 2, 1, 1, 2, 2, 3], [2, 1, 1, 1, 2, 1, 1, 1, 2, 1, 2, 1, 1, 1, 0, 1], [0, 0, 1]]
def Tf (c : Nat) : u_T := match vwCl[c]? with
  | some q => q.2.1
  | none => TX0
def lk {α : Type} : List (Nat × α) → Nat → Option α
  | [], _ => none
  | (j, x) :: l, i => cond (Nat.beq j i) (some x) (lk l i)
def flk (o ix : Nat) : Option (Nat × Nat × Nat) := lk (nth [] flT o) ix
def mlk (o ix : Nat) : Option (Nat × Nat) := lk (nth [] mlT o) ix
def flW (o : Nat) (q : Nat × Nat × Nat × Nat) : Bool := decide (lw_tbl[q.2.2.2]? = some (Cond.fieldLink (clsN o) q.1 (Tf q.2.1 q.2.2.1).1 (Tf q.2.1 q.2.2.1).2.1 (Tf q.2.1 q.2.2.1).2.2.1)) && Nat.ble (q.2.2.1 + 1) (nth [] fkT q.2.1).length && Nat.ble (q.2.1 + 1) 12
def mlY (a : Nat) : MethodName := cond (Nat.beq a 900) arraycopyName (cond (Nat.beq a 901) yL_octet (cond (Nat.beq a 902) yX11_wordOf (mi a).1))
def mlW (o : Nat) (q : Nat × Nat × Nat) : Bool := decide (lw_tbl[q.2.2]? = some (Cond.methodLink (clsN o) q.1 (mlY q.2.1)))
theorem flT_ok : ((List.range 14).all fun o => (nth [] flT o).all (flW o)) = true := by decide +kernel
theorem mlT_ok : ((List.range 14).all fun o => (nth [] mlT o).all (mlW o)) = true := by decide +kernel
def cwd (a : Nat) : Nat × Nat × Nat × Nat × Nat := nth (0, 0, 0, 0, 9) (nth [] cwT (a / 16)) (a % 16)
def nrg (a : Nat) : Nat := nth 0 (nth [] nrT (a / 16)) (a % 16)
def cwW (a : Nat) : Bool := match cwd a with
  | (p0, p1, p2, p3, 0) => decide (lw_tbl[p0]? = some (Cond.code (mi a).1 (mi a).2.1 (inf a).2 (mi a).2.2)) && decide (lw_tbl[p1]? = some (Cond.initialized (mi a).1.cls)) && decide (lw_tbl[p2]? = some (Cond.instanceMethod (mi a).1)) && decide (lw_tbl[p3]? = some (Cond.selects (mi a).1.cls (mi a).1 (mi a).1))
  | (p0, p1, p2, _, 1) => decide (lw_tbl[p0]? = some (Cond.code (mi a).1 (mi a).2.1 (inf a).2 (mi a).2.2)) && decide (lw_tbl[p1]? = some (Cond.initialized (mi a).1.cls)) && decide (lw_tbl[p2]? = some (Cond.static (mi a).1))
  | (_, _, _, _, 2) => true
  | _ => false
/-- of a method: its words, its name, its locals -/
def cwM (a : Nat) : Bool := cwW a && decide ((mi a).1.cls = clsN (inf a).1) && decide ((mi a).1.cls ≠ "java/lang/invoke/MethodHandle") && decide ((mi a).1.cls ≠ "java/lang/invoke/VarHandle") && plainName (mi a).1.cls && decide ((parseMethodDescriptor (mi a).1.desc).map (fun d => d.parameters.length) = some (nrg a)) && Nat.ble (inf a).2 40 && Nat.beq (tab a).2.2 a
def lenI : Instr → Nat
  | .aload _ => 2
  | .iload _ => 2
  | .lload _ => 2
  | .istore _ => 2
  | .astore _ => 2
  | .lstore _ => 2
  | .bipush _ => 2
  | .ldc _ => 2
  | .newarray _ => 2
  | .sipush _ => 3
  | .ldc2_w _ => 3
  | .iinc _ _ => 3
  | .goto _ => 3
  | .if_icmp _ _ => 3
  | .ifCond _ _ => 3
  | .ifnull _ => 3
  | .ifnonnull _ => 3
  | .getfield _ => 3
  | .putfield _ => 3
  | .invokevirtual _ => 3
  | .invokestatic _ => 3
  | .invokespecial _ => 3
  | .new _ => 3
  | _ => 1
def rpc (M : TB) (i : Nat) : Nat := match M.at i with
  | some e => e.2.1
  | none => 0
def isI (r : Except DecodeError (Instr × Nat)) (x : Instr) : Bool := match r with
  | .ok (y, _) => decide (y = x)
  | .error _ => false
def swC (M : TB) (rp : Nat) (lo : Int) : Nat → List (Int32 × Nat) → List Int → Bool
  | _, [], [] => true
  | k, (v, t) :: l, o :: os => decide (v.toInt = lo + k) && decide ((rp : Int) + o = (rpc M t : Int)) && swC M rp lo (k + 1) l os
  | _, _, _ => false
def swD (M : TB) (rp : Nat) : List (Int32 × Nat) → List (Int × Int) → Bool
  | [], [] => true
  | (v, t) :: l, (w, o) :: os => decide (v.toInt = w) && decide ((rp : Int) + o = (rpc M t : Int)) && swD M rp l os
  | _, _ => false
def chT (M : TB) (rp : Nat) (df lo hi : Int) (offs : Array Int) : Option (List (Int32 × Nat) × Nat) → Bool
  | some (l, dt) => decide ((rp : Int) + df = (rpc M dt : Int)) && decide (hi + 1 = lo + (offs.size : Int)) && swC M rp lo 0 l offs.toList
  | none => false
def chU (M : TB) (rp : Nat) (df : Int) (ps : Array (Int × Int)) : Option (List (Int32 × Nat) × Nat) → Bool
  | some (l, dt) => decide ((rp : Int) + df = (rpc M dt : Int)) && (ps.toList.zip (ps.toList.drop 1)).all (fun (a, next) => a.1 < next.1) && swD M rp l ps.toList
  | none => false
def chF (o ix a b : Nat) : Bool := match flk o ix with
  | some (c, j, _) => Nat.beq c a && Nat.beq j b
  | none => false
def chL (o ix a : Nat) : Bool := match mlk o ix with
  | some (t, _) => Nat.beq t a
  | none => false
def chK (o ix : Nat) (z : Int) : Bool := match o, ix with
  | 4, 9 => decide (z = 1000000)
  | 9, 61 => decide (z = 1000000)
  | 5, 70 => decide (z = 679716023)
  | _, _ => false
def chJ (o ix : Nat) (z : Int) : Bool := match o, ix with
  | 11, 135 => decide (z = 32)
  | 11, 137 => decide (z = 97)
  | _, _ => false
def chR (a : Nat) (rt : Option FieldType) : Bool := match a with
  | 0 => decide (rt = some .int)
  | _ => decide (rt = some .boolean)
def chE (o : Nat) (rt : Option FieldType) (bs : ByteArray) (M : TB) (i : Nat) : EN → Bool
  | (ins, rp, nx, a, b, z) => match ins with
    | .tableswitch df lo hi offs => isI (decode bs rp) ins && chT M rp df lo hi offs (swl M.2.1 i)
    | .lookupswitch df ps => isI (decode bs rp) ins && chU M rp df ps (swl M.2.1 i)
    | .ireturn => decide (decode bs rp = .ok (ins, 1)) && chR a rt
    | .return_ => decide (decode bs rp = .ok (ins, 1)) && decide (rt = none)
    | .goto off => decide (decode bs rp = .ok (ins, 3)) && decide ((rp : Int) + off = (rpc M a : Int))
    | .if_icmp _ off => decide (decode bs rp = .ok (ins, 3)) && decide ((rp : Int) + off = (rpc M a : Int)) && Nat.beq (rpc M nx) (rp + 3)
    | .ifCond _ off => decide (decode bs rp = .ok (ins, 3)) && decide ((rp : Int) + off = (rpc M a : Int)) && Nat.beq (rpc M nx) (rp + 3)
    | .ifnonnull off => decide (decode bs rp = .ok (ins, 3)) && decide ((rp : Int) + off = (rpc M a : Int))
    | .getfield ix => decide (decode bs rp = .ok (ins, 3)) && Nat.beq (rpc M nx) (rp + 3) && chF o ix a b
    | .putfield ix => decide (decode bs rp = .ok (ins, 3)) && Nat.beq (rpc M nx) (rp + 3) && chF o ix a b
    | .invokevirtual ix => decide (decode bs rp = .ok (ins, 3)) && Nat.beq (rpc M nx) (rp + 3) && chL o ix a && Nat.beq b (nrg a) && Nat.beq (cwd a).2.2.2.2 0 && Nat.ble (a + 1) 227
    | .invokestatic ix => decide (decode bs rp = .ok (ins, 3)) && Nat.beq (rpc M nx) (rp + 3) && chL o ix a && (Nat.ble 900 a || Nat.beq b (nrg a) && Nat.beq (cwd a).2.2.2.2 1 && Nat.ble (a + 1) 227)
    | .ldc ix => cond (Nat.beq a 0) (decide (decode bs rp = .ok (ins, 2)) && Nat.beq (rpc M nx) (rp + 2) && chK o ix z) (decide (decode bs rp = .ok (ins, 2)) && decide (decode bs (rp + 2) = .ok (.invokestatic 174, 3)) && Nat.beq ix 172 && Nat.beq o 11 && Nat.beq (rpc M nx) (rp + 5) && decide (z = 777297172))
    | .ldc2_w ix => decide (decode bs rp = .ok (ins, 3)) && Nat.beq (rpc M nx) (rp + 3) && chJ o ix z
    | .new _ => true
    | .newarray _ => true
    | .invokespecial _ => true
    | _ => decide (decode bs rp = .ok (ins, lenI ins)) && Nat.beq (rpc M nx) (rp + lenI ins)
def szL {α : Type} : List (List α) → Nat
  | [] => 0
  | l :: r => l.length + szL r
/-- an entry holds -/
def chX (a i : Nat) : Bool := match (tab a).at i with
  | some e => chE (inf a).1 (mi a).2.2 (mi a).2.1 (tab a) i e
  | none => true
def chC (a q : Nat) : Bool := (List.range 16).all (fun r => chX a (16 * q + r))
theorem nth_out {α : Type} (z : α) : ∀ (l : List α) (n : Nat), l.length ≤ n → nth z l n = z
  | [], _, _ => rfl
  | _ :: l, 0, h => absurd h (by simp)
  | _ :: l, n + 1, h => nth_out z l n (by simpa using h)
theorem nthO_out {α : Type} : ∀ (l : List α) (n : Nat), l.length ≤ n → nthO l n = none
  | [], _, _ => rfl
  | _ :: l, 0, h => absurd h (by simp)
  | _ :: l, n + 1, h => nthO_out l n (by simpa using h)
theorem chX_of {a n : Nat} (hn : (tab a).1.length ≤ n) (h : ∀ q, q < n → chC a q = true) (i : Nat) : chX a i = true := by
  by_cases hq : i / 16 < n
  · have h1 := List.all_eq_true.mp (h (i / 16) hq) (i % 16) (List.mem_range.mpr (Nat.mod_lt _ (by decide)))
    rwa [Nat.div_add_mod] at h1
  · have e : (tab a).at i = none := by
      unfold TB.at
      rw [nthO_out _ _ (by omega)]
    unfold chX
    rw [e]
theorem chQ_of {a n : Nat} (h : (List.range n).all (chC a) = true) : ∀ q, q < n → chC a q = true := fun q hq => List.all_eq_true.mp h q (List.mem_range.mpr hq)
end
section
theorem cm_0 : cwM 0 = true := by decide +kernel
theorem c0_0 : rpc (tab 0) 0 = 0 := by decide +kernel
theorem ck_0 : ∀ i, chX 0 i = true := chX_of (n := 1) (by decide +kernel) (chQ_of (by decide +kernel))
theorem cm_1 : cwM 1 = true := by decide +kernel
theorem c0_1 : rpc (tab 1) 0 = 0 := by decide +kernel
theorem ck_1 : ∀ i, chX 1 i = true := chX_of (n := 2) (by decide +kernel) (chQ_of (by decide +kernel))
theorem cm_2 : cwM 2 = true := by decide +kernel
theorem c0_2 : rpc (tab 2) 0 = 0 := by decide +kernel
theorem ck_2 : ∀ i, chX 2 i = true := chX_of (n := 3) (by decide +kernel) (chQ_of (by decide +kernel))
theorem cm_3 : cwM 3 = true := by decide +kernel
theorem c0_3 : rpc (tab 3) 0 = 0 := by decide +kernel
theorem ck_3 : ∀ i, chX 3 i = true := chX_of (n := 1) (by decide +kernel) (chQ_of (by decide +kernel))
theorem cm_4 : cwM 4 = true := by decide +kernel
theorem c0_4 : rpc (tab 4) 0 = 0 := by decide +kernel
theorem ck_4 : ∀ i, chX 4 i = true := chX_of (n := 3) (by decide +kernel) (chQ_of (by decide +kernel))
theorem cm_5 : cwM 5 = true := by decide +kernel
theorem c0_5 : rpc (tab 5) 0 = 0 := by decide +kernel
theorem ck_5 : ∀ i, chX 5 i = true := chX_of (n := 3) (by decide +kernel) (chQ_of (by decide +kernel))
theorem cm_6 : cwM 6 = true := by decide +kernel
theorem c0_6 : rpc (tab 6) 0 = 0 := by decide +kernel
theorem cp_6_0 : chC 6 0 = true := by decide +kernel
theorem cp_6_1 : chC 6 1 = true := by decide +kernel
theorem cp_6_2 : chC 6 2 = true := by decide +kernel
theorem cp_6_3 : chC 6 3 = true := by decide +kernel
theorem ck_6 : ∀ i, chX 6 i = true := chX_of (n := 4) (by decide +kernel) (fun q hq => match q, hq with
  | 0, _ => cp_6_0
  | 1, _ => cp_6_1
  | 2, _ => cp_6_2
  | 3, _ => cp_6_3
  | q + 4, hq => absurd hq (by omega))
theorem cm_7 : cwM 7 = true := by decide +kernel
theorem c0_7 : rpc (tab 7) 0 = 0 := by decide +kernel
theorem cp_7_0 : chC 7 0 = true := by decide +kernel
theorem cp_7_1 : chC 7 1 = true := by decide +kernel
theorem cp_7_2 : chC 7 2 = true := by decide +kernel
theorem cp_7_3 : chC 7 3 = true := by decide +kernel
theorem ck_7 : ∀ i, chX 7 i = true := chX_of (n := 4) (by decide +kernel) (fun q hq => match q, hq with
  | 0, _ => cp_7_0
  | 1, _ => cp_7_1
  | 2, _ => cp_7_2
  | 3, _ => cp_7_3
  | q + 4, hq => absurd hq (by omega))
theorem cm_8 : cwM 8 = true := by decide +kernel
theorem c0_8 : rpc (tab 8) 0 = 0 := by decide +kernel
theorem cp_8_0 : chC 8 0 = true := by decide +kernel
theorem cp_8_1 : chC 8 1 = true := by decide +kernel
theorem cp_8_2 : chC 8 2 = true := by decide +kernel
theorem cp_8_3 : chC 8 3 = true := by decide +kernel
theorem cp_8_4 : chC 8 4 = true := by decide +kernel
theorem ck_8 : ∀ i, chX 8 i = true := chX_of (n := 5) (by decide +kernel) (fun q hq => match q, hq with
  | 0, _ => cp_8_0
  | 1, _ => cp_8_1
  | 2, _ => cp_8_2
  | 3, _ => cp_8_3
  | 4, _ => cp_8_4
  | q + 5, hq => absurd hq (by omega))
theorem cm_9 : cwM 9 = true := by decide +kernel
theorem c0_9 : rpc (tab 9) 0 = 0 := by decide +kernel
theorem ck_9 : ∀ i, chX 9 i = true := chX_of (n := 2) (by decide +kernel) (chQ_of (by decide +kernel))
theorem cm_10 : cwM 10 = true := by decide +kernel
theorem c0_10 : rpc (tab 10) 0 = 0 := by decide +kernel
theorem ck_10 : ∀ i, chX 10 i = true := chX_of (n := 1) (by decide +kernel) (chQ_of (by decide +kernel))
theorem cm_11 : cwM 11 = true := by decide +kernel
theorem c0_11 : rpc (tab 11) 0 = 0 := by decide +kernel
theorem ck_11 : ∀ i, chX 11 i = true := chX_of (n := 1) (by decide +kernel) (chQ_of (by decide +kernel))
theorem cm_12 : cwM 12 = true := by decide +kernel
theorem c0_12 : rpc (tab 12) 0 = 0 := by decide +kernel
theorem ck_12 : ∀ i, chX 12 i = true := chX_of (n := 3) (by decide +kernel) (chQ_of (by decide +kernel))
theorem cm_13 : cwM 13 = true := by decide +kernel
theorem c0_13 : rpc (tab 13) 0 = 0 := by decide +kernel
theorem ck_13 : ∀ i, chX 13 i = true := chX_of (n := 1) (by decide +kernel) (chQ_of (by decide +kernel))
theorem cm_14 : cwM 14 = true := by decide +kernel
theorem c0_14 : rpc (tab 14) 0 = 0 := by decide +kernel
theorem ck_14 : ∀ i, chX 14 i = true := chX_of (n := 1) (by decide +kernel) (chQ_of (by decide +kernel))
theorem cm_15 : cwM 15 = true := by decide +kernel
theorem c0_15 : rpc (tab 15) 0 = 0 := by decide +kernel
theorem cp_15_0 : chC 15 0 = true := by decide +kernel
theorem cp_15_1 : chC 15 1 = true := by decide +kernel
theorem cp_15_2 : chC 15 2 = true := by decide +kernel
theorem cp_15_3 : chC 15 3 = true := by decide +kernel
theorem ck_15 : ∀ i, chX 15 i = true := chX_of (n := 4) (by decide +kernel) (fun q hq => match q, hq with
  | 0, _ => cp_15_0
  | 1, _ => cp_15_1
  | 2, _ => cp_15_2
  | 3, _ => cp_15_3
  | q + 4, hq => absurd hq (by omega))
theorem cm_16 : cwM 16 = true := by decide +kernel
theorem c0_16 : rpc (tab 16) 0 = 0 := by decide +kernel
theorem ck_16 : ∀ i, chX 16 i = true := chX_of (n := 2) (by decide +kernel) (chQ_of (by decide +kernel))
theorem cm_17 : cwM 17 = true := by decide +kernel
theorem c0_17 : rpc (tab 17) 0 = 0 := by decide +kernel
theorem ck_17 : ∀ i, chX 17 i = true := chX_of (n := 1) (by decide +kernel) (chQ_of (by decide +kernel))
theorem cm_18 : cwM 18 = true := by decide +kernel
theorem c0_18 : rpc (tab 18) 0 = 0 := by decide +kernel
theorem ck_18 : ∀ i, chX 18 i = true := chX_of (n := 2) (by decide +kernel) (chQ_of (by decide +kernel))
theorem cm_19 : cwM 19 = true := by decide +kernel
theorem c0_19 : rpc (tab 19) 0 = 0 := by decide +kernel
theorem cp_19_0 : chC 19 0 = true := by decide +kernel
theorem cp_19_1 : chC 19 1 = true := by decide +kernel
theorem cp_19_2 : chC 19 2 = true := by decide +kernel
theorem cp_19_3 : chC 19 3 = true := by decide +kernel
theorem ck_19 : ∀ i, chX 19 i = true := chX_of (n := 4) (by decide +kernel) (fun q hq => match q, hq with
  | 0, _ => cp_19_0
  | 1, _ => cp_19_1
  | 2, _ => cp_19_2
  | 3, _ => cp_19_3
  | q + 4, hq => absurd hq (by omega))
theorem cm_20 : cwM 20 = true := by decide +kernel
theorem c0_20 : rpc (tab 20) 0 = 0 := by decide +kernel
theorem ck_20 : ∀ i, chX 20 i = true := chX_of (n := 1) (by decide +kernel) (chQ_of (by decide +kernel))
theorem cm_21 : cwM 21 = true := by decide +kernel
theorem c0_21 : rpc (tab 21) 0 = 0 := by decide +kernel
theorem cp_21_0 : chC 21 0 = true := by decide +kernel
theorem cp_21_1 : chC 21 1 = true := by decide +kernel
theorem cp_21_2 : chC 21 2 = true := by decide +kernel
theorem cp_21_3 : chC 21 3 = true := by decide +kernel
theorem cp_21_4 : chC 21 4 = true := by decide +kernel
theorem ck_21 : ∀ i, chX 21 i = true := chX_of (n := 5) (by decide +kernel) (fun q hq => match q, hq with
  | 0, _ => cp_21_0
  | 1, _ => cp_21_1
  | 2, _ => cp_21_2
  | 3, _ => cp_21_3
  | 4, _ => cp_21_4
  | q + 5, hq => absurd hq (by omega))
theorem cm_22 : cwM 22 = true := by decide +kernel
theorem c0_22 : rpc (tab 22) 0 = 0 := by decide +kernel
theorem ck_22 : ∀ i, chX 22 i = true := chX_of (n := 1) (by decide +kernel) (chQ_of (by decide +kernel))
theorem cm_23 : cwM 23 = true := by decide +kernel
theorem c0_23 : rpc (tab 23) 0 = 0 := by decide +kernel
theorem ck_23 : ∀ i, chX 23 i = true := chX_of (n := 3) (by decide +kernel) (chQ_of (by decide +kernel))
theorem cm_24 : cwM 24 = true := by decide +kernel
theorem c0_24 : rpc (tab 24) 0 = 0 := by decide +kernel
theorem cp_24_0 : chC 24 0 = true := by decide +kernel
theorem cp_24_1 : chC 24 1 = true := by decide +kernel
theorem cp_24_2 : chC 24 2 = true := by decide +kernel
theorem cp_24_3 : chC 24 3 = true := by decide +kernel
theorem cp_24_4 : chC 24 4 = true := by decide +kernel
theorem cp_24_5 : chC 24 5 = true := by decide +kernel
theorem ck_24 : ∀ i, chX 24 i = true := chX_of (n := 6) (by decide +kernel) (fun q hq => match q, hq with
  | 0, _ => cp_24_0
  | 1, _ => cp_24_1
  | 2, _ => cp_24_2
  | 3, _ => cp_24_3
  | 4, _ => cp_24_4
  | 5, _ => cp_24_5
  | q + 6, hq => absurd hq (by omega))
theorem cm_25 : cwM 25 = true := by decide +kernel
theorem c0_25 : rpc (tab 25) 0 = 0 := by decide +kernel
theorem cp_25_0 : chC 25 0 = true := by decide +kernel
theorem cp_25_1 : chC 25 1 = true := by decide +kernel
theorem cp_25_2 : chC 25 2 = true := by decide +kernel
theorem cp_25_3 : chC 25 3 = true := by decide +kernel
theorem cp_25_4 : chC 25 4 = true := by decide +kernel
theorem cp_25_5 : chC 25 5 = true := by decide +kernel
theorem ck_25 : ∀ i, chX 25 i = true := chX_of (n := 6) (by decide +kernel) (fun q hq => match q, hq with
  | 0, _ => cp_25_0
  | 1, _ => cp_25_1
  | 2, _ => cp_25_2
  | 3, _ => cp_25_3
  | 4, _ => cp_25_4
  | 5, _ => cp_25_5
  | q + 6, hq => absurd hq (by omega))
theorem cm_26 : cwM 26 = true := by decide +kernel
theorem c0_26 : rpc (tab 26) 0 = 0 := by decide +kernel
theorem ck_26 : ∀ i, chX 26 i = true := chX_of (n := 1) (by decide +kernel) (chQ_of (by decide +kernel))
theorem cm_27 : cwM 27 = true := by decide +kernel
theorem c0_27 : rpc (tab 27) 0 = 0 := by decide +kernel
theorem ck_27 : ∀ i, chX 27 i = true := chX_of (n := 1) (by decide +kernel) (chQ_of (by decide +kernel))
theorem cm_28 : cwM 28 = true := by decide +kernel
theorem c0_28 : rpc (tab 28) 0 = 0 := by decide +kernel
theorem ck_28 : ∀ i, chX 28 i = true := chX_of (n := 1) (by decide +kernel) (chQ_of (by decide +kernel))
theorem cm_29 : cwM 29 = true := by decide +kernel
theorem c0_29 : rpc (tab 29) 0 = 0 := by decide +kernel
theorem ck_29 : ∀ i, chX 29 i = true := chX_of (n := 1) (by decide +kernel) (chQ_of (by decide +kernel))
theorem cm_30 : cwM 30 = true := by decide +kernel
theorem c0_30 : rpc (tab 30) 0 = 0 := by decide +kernel
theorem ck_30 : ∀ i, chX 30 i = true := chX_of (n := 2) (by decide +kernel) (chQ_of (by decide +kernel))
theorem cm_31 : cwM 31 = true := by decide +kernel
theorem c0_31 : rpc (tab 31) 0 = 0 := by decide +kernel
theorem ck_31 : ∀ i, chX 31 i = true := chX_of (n := 2) (by decide +kernel) (chQ_of (by decide +kernel))
theorem cm_32 : cwM 32 = true := by decide +kernel
theorem c0_32 : rpc (tab 32) 0 = 0 := by decide +kernel
theorem ck_32 : ∀ i, chX 32 i = true := chX_of (n := 2) (by decide +kernel) (chQ_of (by decide +kernel))
theorem cm_33 : cwM 33 = true := by decide +kernel
theorem c0_33 : rpc (tab 33) 0 = 0 := by decide +kernel
theorem ck_33 : ∀ i, chX 33 i = true := chX_of (n := 2) (by decide +kernel) (chQ_of (by decide +kernel))
theorem cm_34 : cwM 34 = true := by decide +kernel
theorem c0_34 : rpc (tab 34) 0 = 0 := by decide +kernel
theorem ck_34 : ∀ i, chX 34 i = true := chX_of (n := 1) (by decide +kernel) (chQ_of (by decide +kernel))
theorem cm_35 : cwM 35 = true := by decide +kernel
theorem c0_35 : rpc (tab 35) 0 = 0 := by decide +kernel
theorem ck_35 : ∀ i, chX 35 i = true := chX_of (n := 1) (by decide +kernel) (chQ_of (by decide +kernel))
theorem cm_36 : cwM 36 = true := by decide +kernel
theorem c0_36 : rpc (tab 36) 0 = 0 := by decide +kernel
theorem ck_36 : ∀ i, chX 36 i = true := chX_of (n := 3) (by decide +kernel) (chQ_of (by decide +kernel))
theorem cm_37 : cwM 37 = true := by decide +kernel
theorem c0_37 : rpc (tab 37) 0 = 0 := by decide +kernel
theorem ck_37 : ∀ i, chX 37 i = true := chX_of (n := 1) (by decide +kernel) (chQ_of (by decide +kernel))
theorem cm_38 : cwM 38 = true := by decide +kernel
theorem c0_38 : rpc (tab 38) 0 = 0 := by decide +kernel
theorem ck_38 : ∀ i, chX 38 i = true := chX_of (n := 1) (by decide +kernel) (chQ_of (by decide +kernel))
theorem cm_39 : cwM 39 = true := by decide +kernel
theorem c0_39 : rpc (tab 39) 0 = 0 := by decide +kernel
theorem ck_39 : ∀ i, chX 39 i = true := chX_of (n := 1) (by decide +kernel) (chQ_of (by decide +kernel))
theorem cm_40 : cwM 40 = true := by decide +kernel
theorem c0_40 : rpc (tab 40) 0 = 0 := by decide +kernel
theorem cp_40_0 : chC 40 0 = true := by decide +kernel
theorem cp_40_1 : chC 40 1 = true := by decide +kernel
theorem cp_40_2 : chC 40 2 = true := by decide +kernel
theorem cp_40_3 : chC 40 3 = true := by decide +kernel
theorem cp_40_4 : chC 40 4 = true := by decide +kernel
theorem ck_40 : ∀ i, chX 40 i = true := chX_of (n := 5) (by decide +kernel) (fun q hq => match q, hq with
  | 0, _ => cp_40_0
  | 1, _ => cp_40_1
  | 2, _ => cp_40_2
  | 3, _ => cp_40_3
  | 4, _ => cp_40_4
  | q + 5, hq => absurd hq (by omega))
theorem cm_41 : cwM 41 = true := by decide +kernel
theorem c0_41 : rpc (tab 41) 0 = 0 := by decide +kernel
theorem ck_41 : ∀ i, chX 41 i = true := chX_of (n := 2) (by decide +kernel) (chQ_of (by decide +kernel))
theorem cm_42 : cwM 42 = true := by decide +kernel
theorem c0_42 : rpc (tab 42) 0 = 0 := by decide +kernel
theorem ck_42 : ∀ i, chX 42 i = true := chX_of (n := 3) (by decide +kernel) (chQ_of (by decide +kernel))
theorem cm_43 : cwM 43 = true := by decide +kernel
theorem c0_43 : rpc (tab 43) 0 = 0 := by decide +kernel
theorem ck_43 : ∀ i, chX 43 i = true := chX_of (n := 2) (by decide +kernel) (chQ_of (by decide +kernel))
theorem cm_44 : cwM 44 = true := by decide +kernel
theorem c0_44 : rpc (tab 44) 0 = 0 := by decide +kernel
theorem cp_44_0 : chC 44 0 = true := by decide +kernel
theorem cp_44_1 : chC 44 1 = true := by decide +kernel
theorem cp_44_2 : chC 44 2 = true := by decide +kernel
theorem cp_44_3 : chC 44 3 = true := by decide +kernel
theorem cp_44_4 : chC 44 4 = true := by decide +kernel
theorem ck_44 : ∀ i, chX 44 i = true := chX_of (n := 5) (by decide +kernel) (fun q hq => match q, hq with
  | 0, _ => cp_44_0
  | 1, _ => cp_44_1
  | 2, _ => cp_44_2
  | 3, _ => cp_44_3
  | 4, _ => cp_44_4
  | q + 5, hq => absurd hq (by omega))
theorem cm_45 : cwM 45 = true := by decide +kernel
theorem c0_45 : rpc (tab 45) 0 = 0 := by decide +kernel
theorem cp_45_0 : chC 45 0 = true := by decide +kernel
theorem cp_45_1 : chC 45 1 = true := by decide +kernel
theorem cp_45_2 : chC 45 2 = true := by decide +kernel
theorem cp_45_3 : chC 45 3 = true := by decide +kernel
theorem ck_45 : ∀ i, chX 45 i = true := chX_of (n := 4) (by decide +kernel) (fun q hq => match q, hq with
  | 0, _ => cp_45_0
  | 1, _ => cp_45_1
  | 2, _ => cp_45_2
  | 3, _ => cp_45_3
  | q + 4, hq => absurd hq (by omega))
theorem cm_46 : cwM 46 = true := by decide +kernel
theorem c0_46 : rpc (tab 46) 0 = 0 := by decide +kernel
theorem ck_46 : ∀ i, chX 46 i = true := chX_of (n := 3) (by decide +kernel) (chQ_of (by decide +kernel))
theorem cm_47 : cwM 47 = true := by decide +kernel
theorem c0_47 : rpc (tab 47) 0 = 0 := by decide +kernel
theorem ck_47 : ∀ i, chX 47 i = true := chX_of (n := 1) (by decide +kernel) (chQ_of (by decide +kernel))
theorem cm_48 : cwM 48 = true := by decide +kernel
theorem c0_48 : rpc (tab 48) 0 = 0 := by decide +kernel
theorem ck_48 : ∀ i, chX 48 i = true := chX_of (n := 1) (by decide +kernel) (chQ_of (by decide +kernel))
theorem cm_49 : cwM 49 = true := by decide +kernel
theorem c0_49 : rpc (tab 49) 0 = 0 := by decide +kernel
theorem cp_49_0 : chC 49 0 = true := by decide +kernel
theorem cp_49_1 : chC 49 1 = true := by decide +kernel
theorem cp_49_2 : chC 49 2 = true := by decide +kernel
theorem cp_49_3 : chC 49 3 = true := by decide +kernel
theorem cp_49_4 : chC 49 4 = true := by decide +kernel
theorem cp_49_5 : chC 49 5 = true := by decide +kernel
theorem ck_49 : ∀ i, chX 49 i = true := chX_of (n := 6) (by decide +kernel) (fun q hq => match q, hq with
  | 0, _ => cp_49_0
  | 1, _ => cp_49_1
  | 2, _ => cp_49_2
  | 3, _ => cp_49_3
  | 4, _ => cp_49_4
  | 5, _ => cp_49_5
  | q + 6, hq => absurd hq (by omega))
theorem cm_50 : cwM 50 = true := by decide +kernel
theorem c0_50 : rpc (tab 50) 0 = 0 := by decide +kernel
theorem ck_50 : ∀ i, chX 50 i = true := chX_of (n := 1) (by decide +kernel) (chQ_of (by decide +kernel))
theorem cm_51 : cwM 51 = true := by decide +kernel
theorem c0_51 : rpc (tab 51) 0 = 0 := by decide +kernel
theorem ck_51 : ∀ i, chX 51 i = true := chX_of (n := 2) (by decide +kernel) (chQ_of (by decide +kernel))
theorem cm_52 : cwM 52 = true := by decide +kernel
theorem c0_52 : rpc (tab 52) 0 = 0 := by decide +kernel
theorem ck_52 : ∀ i, chX 52 i = true := chX_of (n := 2) (by decide +kernel) (chQ_of (by decide +kernel))
theorem cm_53 : cwM 53 = true := by decide +kernel
theorem c0_53 : rpc (tab 53) 0 = 0 := by decide +kernel
theorem ck_53 : ∀ i, chX 53 i = true := chX_of (n := 1) (by decide +kernel) (chQ_of (by decide +kernel))
theorem cm_54 : cwM 54 = true := by decide +kernel
theorem c0_54 : rpc (tab 54) 0 = 0 := by decide +kernel
theorem ck_54 : ∀ i, chX 54 i = true := chX_of (n := 1) (by decide +kernel) (chQ_of (by decide +kernel))
theorem cm_55 : cwM 55 = true := by decide +kernel
theorem c0_55 : rpc (tab 55) 0 = 0 := by decide +kernel
theorem cp_55_0 : chC 55 0 = true := by decide +kernel
theorem cp_55_1 : chC 55 1 = true := by decide +kernel
theorem cp_55_2 : chC 55 2 = true := by decide +kernel
theorem cp_55_3 : chC 55 3 = true := by decide +kernel
theorem cp_55_4 : chC 55 4 = true := by decide +kernel
theorem cp_55_5 : chC 55 5 = true := by decide +kernel
theorem cp_55_6 : chC 55 6 = true := by decide +kernel
theorem cp_55_7 : chC 55 7 = true := by decide +kernel
theorem ck_55 : ∀ i, chX 55 i = true := chX_of (n := 8) (by decide +kernel) (fun q hq => match q, hq with
  | 0, _ => cp_55_0
  | 1, _ => cp_55_1
  | 2, _ => cp_55_2
  | 3, _ => cp_55_3
  | 4, _ => cp_55_4
  | 5, _ => cp_55_5
  | 6, _ => cp_55_6
  | 7, _ => cp_55_7
  | q + 8, hq => absurd hq (by omega))
theorem cm_56 : cwM 56 = true := by decide +kernel
theorem c0_56 : rpc (tab 56) 0 = 0 := by decide +kernel
theorem ck_56 : ∀ i, chX 56 i = true := chX_of (n := 2) (by decide +kernel) (chQ_of (by decide +kernel))
theorem cm_57 : cwM 57 = true := by decide +kernel
theorem c0_57 : rpc (tab 57) 0 = 0 := by decide +kernel
theorem cp_57_0 : chC 57 0 = true := by decide +kernel
theorem cp_57_1 : chC 57 1 = true := by decide +kernel
theorem cp_57_2 : chC 57 2 = true := by decide +kernel
theorem cp_57_3 : chC 57 3 = true := by decide +kernel
theorem ck_57 : ∀ i, chX 57 i = true := chX_of (n := 4) (by decide +kernel) (fun q hq => match q, hq with
  | 0, _ => cp_57_0
  | 1, _ => cp_57_1
  | 2, _ => cp_57_2
  | 3, _ => cp_57_3
  | q + 4, hq => absurd hq (by omega))
theorem cm_58 : cwM 58 = true := by decide +kernel
theorem c0_58 : rpc (tab 58) 0 = 0 := by decide +kernel
theorem cp_58_0 : chC 58 0 = true := by decide +kernel
theorem cp_58_1 : chC 58 1 = true := by decide +kernel
theorem cp_58_2 : chC 58 2 = true := by decide +kernel
theorem cp_58_3 : chC 58 3 = true := by decide +kernel
theorem ck_58 : ∀ i, chX 58 i = true := chX_of (n := 4) (by decide +kernel) (fun q hq => match q, hq with
  | 0, _ => cp_58_0
  | 1, _ => cp_58_1
  | 2, _ => cp_58_2
  | 3, _ => cp_58_3
  | q + 4, hq => absurd hq (by omega))
theorem cm_59 : cwM 59 = true := by decide +kernel
theorem c0_59 : rpc (tab 59) 0 = 0 := by decide +kernel
theorem ck_59 : ∀ i, chX 59 i = true := chX_of (n := 1) (by decide +kernel) (chQ_of (by decide +kernel))
theorem cm_60 : cwM 60 = true := by decide +kernel
theorem c0_60 : rpc (tab 60) 0 = 0 := by decide +kernel
theorem ck_60 : ∀ i, chX 60 i = true := chX_of (n := 1) (by decide +kernel) (chQ_of (by decide +kernel))
theorem cm_61 : cwM 61 = true := by decide +kernel
theorem c0_61 : rpc (tab 61) 0 = 0 := by decide +kernel
theorem ck_61 : ∀ i, chX 61 i = true := chX_of (n := 1) (by decide +kernel) (chQ_of (by decide +kernel))
theorem cm_62 : cwM 62 = true := by decide +kernel
theorem c0_62 : rpc (tab 62) 0 = 0 := by decide +kernel
theorem cp_62_0 : chC 62 0 = true := by decide +kernel
theorem cp_62_1 : chC 62 1 = true := by decide +kernel
theorem cp_62_2 : chC 62 2 = true := by decide +kernel
theorem cp_62_3 : chC 62 3 = true := by decide +kernel
theorem cp_62_4 : chC 62 4 = true := by decide +kernel
theorem ck_62 : ∀ i, chX 62 i = true := chX_of (n := 5) (by decide +kernel) (fun q hq => match q, hq with
  | 0, _ => cp_62_0
  | 1, _ => cp_62_1
  | 2, _ => cp_62_2
  | 3, _ => cp_62_3
  | 4, _ => cp_62_4
  | q + 5, hq => absurd hq (by omega))
theorem cm_63 : cwM 63 = true := by decide +kernel
theorem c0_63 : rpc (tab 63) 0 = 0 := by decide +kernel
theorem ck_63 : ∀ i, chX 63 i = true := chX_of (n := 1) (by decide +kernel) (chQ_of (by decide +kernel))
theorem cm_64 : cwM 64 = true := by decide +kernel
theorem c0_64 : rpc (tab 64) 0 = 0 := by decide +kernel
theorem ck_64 : ∀ i, chX 64 i = true := chX_of (n := 1) (by decide +kernel) (chQ_of (by decide +kernel))
theorem cm_65 : cwM 65 = true := by decide +kernel
theorem c0_65 : rpc (tab 65) 0 = 0 := by decide +kernel
theorem ck_65 : ∀ i, chX 65 i = true := chX_of (n := 2) (by decide +kernel) (chQ_of (by decide +kernel))
theorem cm_66 : cwM 66 = true := by decide +kernel
theorem c0_66 : rpc (tab 66) 0 = 0 := by decide +kernel
theorem ck_66 : ∀ i, chX 66 i = true := chX_of (n := 2) (by decide +kernel) (chQ_of (by decide +kernel))
theorem cm_67 : cwM 67 = true := by decide +kernel
theorem c0_67 : rpc (tab 67) 0 = 0 := by decide +kernel
theorem ck_67 : ∀ i, chX 67 i = true := chX_of (n := 2) (by decide +kernel) (chQ_of (by decide +kernel))
theorem cm_68 : cwM 68 = true := by decide +kernel
theorem c0_68 : rpc (tab 68) 0 = 0 := by decide +kernel
theorem ck_68 : ∀ i, chX 68 i = true := chX_of (n := 1) (by decide +kernel) (chQ_of (by decide +kernel))
theorem cm_69 : cwM 69 = true := by decide +kernel
theorem c0_69 : rpc (tab 69) 0 = 0 := by decide +kernel
theorem ck_69 : ∀ i, chX 69 i = true := chX_of (n := 2) (by decide +kernel) (chQ_of (by decide +kernel))
theorem cm_70 : cwM 70 = true := by decide +kernel
theorem c0_70 : rpc (tab 70) 0 = 0 := by decide +kernel
theorem ck_70 : ∀ i, chX 70 i = true := chX_of (n := 2) (by decide +kernel) (chQ_of (by decide +kernel))
theorem cm_71 : cwM 71 = true := by decide +kernel
theorem c0_71 : rpc (tab 71) 0 = 0 := by decide +kernel
theorem ck_71 : ∀ i, chX 71 i = true := chX_of (n := 1) (by decide +kernel) (chQ_of (by decide +kernel))
theorem cm_72 : cwM 72 = true := by decide +kernel
theorem c0_72 : rpc (tab 72) 0 = 0 := by decide +kernel
theorem ck_72 : ∀ i, chX 72 i = true := chX_of (n := 3) (by decide +kernel) (chQ_of (by decide +kernel))
theorem cm_73 : cwM 73 = true := by decide +kernel
theorem c0_73 : rpc (tab 73) 0 = 0 := by decide +kernel
theorem ck_73 : ∀ i, chX 73 i = true := chX_of (n := 3) (by decide +kernel) (chQ_of (by decide +kernel))
theorem cm_74 : cwM 74 = true := by decide +kernel
theorem c0_74 : rpc (tab 74) 0 = 0 := by decide +kernel
theorem ck_74 : ∀ i, chX 74 i = true := chX_of (n := 2) (by decide +kernel) (chQ_of (by decide +kernel))
theorem cm_75 : cwM 75 = true := by decide +kernel
theorem c0_75 : rpc (tab 75) 0 = 0 := by decide +kernel
theorem cp_75_0 : chC 75 0 = true := by decide +kernel
theorem cp_75_1 : chC 75 1 = true := by decide +kernel
theorem cp_75_2 : chC 75 2 = true := by decide +kernel
theorem cp_75_3 : chC 75 3 = true := by decide +kernel
theorem ck_75 : ∀ i, chX 75 i = true := chX_of (n := 4) (by decide +kernel) (fun q hq => match q, hq with
  | 0, _ => cp_75_0
  | 1, _ => cp_75_1
  | 2, _ => cp_75_2
  | 3, _ => cp_75_3
  | q + 4, hq => absurd hq (by omega))
theorem cm_76 : cwM 76 = true := by decide +kernel
theorem c0_76 : rpc (tab 76) 0 = 0 := by decide +kernel
theorem cp_76_0 : chC 76 0 = true := by decide +kernel
theorem cp_76_1 : chC 76 1 = true := by decide +kernel
theorem cp_76_2 : chC 76 2 = true := by decide +kernel
theorem cp_76_3 : chC 76 3 = true := by decide +kernel
theorem cp_76_4 : chC 76 4 = true := by decide +kernel
theorem cp_76_5 : chC 76 5 = true := by decide +kernel
theorem cp_76_6 : chC 76 6 = true := by decide +kernel
theorem cp_76_7 : chC 76 7 = true := by decide +kernel
theorem cp_76_8 : chC 76 8 = true := by decide +kernel
theorem cp_76_9 : chC 76 9 = true := by decide +kernel
theorem ck_76 : ∀ i, chX 76 i = true := chX_of (n := 10) (by decide +kernel) (fun q hq => match q, hq with
  | 0, _ => cp_76_0
  | 1, _ => cp_76_1
  | 2, _ => cp_76_2
  | 3, _ => cp_76_3
  | 4, _ => cp_76_4
  | 5, _ => cp_76_5
  | 6, _ => cp_76_6
  | 7, _ => cp_76_7
  | 8, _ => cp_76_8
  | 9, _ => cp_76_9
  | q + 10, hq => absurd hq (by omega))
theorem cm_77 : cwM 77 = true := by decide +kernel
theorem c0_77 : rpc (tab 77) 0 = 0 := by decide +kernel
theorem ck_77 : ∀ i, chX 77 i = true := chX_of (n := 3) (by decide +kernel) (chQ_of (by decide +kernel))
theorem cm_78 : cwM 78 = true := by decide +kernel
theorem c0_78 : rpc (tab 78) 0 = 0 := by decide +kernel
theorem cp_78_0 : chC 78 0 = true := by decide +kernel
theorem cp_78_1 : chC 78 1 = true := by decide +kernel
theorem cp_78_2 : chC 78 2 = true := by decide +kernel
theorem cp_78_3 : chC 78 3 = true := by decide +kernel
theorem ck_78 : ∀ i, chX 78 i = true := chX_of (n := 4) (by decide +kernel) (fun q hq => match q, hq with
  | 0, _ => cp_78_0
  | 1, _ => cp_78_1
  | 2, _ => cp_78_2
  | 3, _ => cp_78_3
  | q + 4, hq => absurd hq (by omega))
theorem cm_79 : cwM 79 = true := by decide +kernel
theorem c0_79 : rpc (tab 79) 0 = 0 := by decide +kernel
theorem cp_79_0 : chC 79 0 = true := by decide +kernel
theorem cp_79_1 : chC 79 1 = true := by decide +kernel
theorem cp_79_2 : chC 79 2 = true := by decide +kernel
theorem cp_79_3 : chC 79 3 = true := by decide +kernel
theorem ck_79 : ∀ i, chX 79 i = true := chX_of (n := 4) (by decide +kernel) (fun q hq => match q, hq with
  | 0, _ => cp_79_0
  | 1, _ => cp_79_1
  | 2, _ => cp_79_2
  | 3, _ => cp_79_3
  | q + 4, hq => absurd hq (by omega))
theorem cm_80 : cwM 80 = true := by decide +kernel
theorem c0_80 : rpc (tab 80) 0 = 0 := by decide +kernel
theorem ck_80 : ∀ i, chX 80 i = true := chX_of (n := 1) (by decide +kernel) (chQ_of (by decide +kernel))
theorem cm_81 : cwM 81 = true := by decide +kernel
theorem c0_81 : rpc (tab 81) 0 = 0 := by decide +kernel
theorem cp_81_0 : chC 81 0 = true := by decide +kernel
theorem cp_81_1 : chC 81 1 = true := by decide +kernel
theorem cp_81_2 : chC 81 2 = true := by decide +kernel
theorem cp_81_3 : chC 81 3 = true := by decide +kernel
theorem cp_81_4 : chC 81 4 = true := by decide +kernel
theorem ck_81 : ∀ i, chX 81 i = true := chX_of (n := 5) (by decide +kernel) (fun q hq => match q, hq with
  | 0, _ => cp_81_0
  | 1, _ => cp_81_1
  | 2, _ => cp_81_2
  | 3, _ => cp_81_3
  | 4, _ => cp_81_4
  | q + 5, hq => absurd hq (by omega))
theorem cm_82 : cwM 82 = true := by decide +kernel
theorem c0_82 : rpc (tab 82) 0 = 0 := by decide +kernel
theorem ck_82 : ∀ i, chX 82 i = true := chX_of (n := 2) (by decide +kernel) (chQ_of (by decide +kernel))
theorem cm_83 : cwM 83 = true := by decide +kernel
theorem c0_83 : rpc (tab 83) 0 = 0 := by decide +kernel
theorem ck_83 : ∀ i, chX 83 i = true := chX_of (n := 2) (by decide +kernel) (chQ_of (by decide +kernel))
theorem cm_84 : cwM 84 = true := by decide +kernel
theorem c0_84 : rpc (tab 84) 0 = 0 := by decide +kernel
theorem cp_84_0 : chC 84 0 = true := by decide +kernel
theorem cp_84_1 : chC 84 1 = true := by decide +kernel
theorem cp_84_2 : chC 84 2 = true := by decide +kernel
theorem cp_84_3 : chC 84 3 = true := by decide +kernel
theorem ck_84 : ∀ i, chX 84 i = true := chX_of (n := 4) (by decide +kernel) (fun q hq => match q, hq with
  | 0, _ => cp_84_0
  | 1, _ => cp_84_1
  | 2, _ => cp_84_2
  | 3, _ => cp_84_3
  | q + 4, hq => absurd hq (by omega))
theorem cm_85 : cwM 85 = true := by decide +kernel
theorem c0_85 : rpc (tab 85) 0 = 0 := by decide +kernel
theorem ck_85 : ∀ i, chX 85 i = true := chX_of (n := 1) (by decide +kernel) (chQ_of (by decide +kernel))
theorem cm_86 : cwM 86 = true := by decide +kernel
theorem c0_86 : rpc (tab 86) 0 = 0 := by decide +kernel
theorem ck_86 : ∀ i, chX 86 i = true := chX_of (n := 1) (by decide +kernel) (chQ_of (by decide +kernel))
theorem cm_87 : cwM 87 = true := by decide +kernel
theorem c0_87 : rpc (tab 87) 0 = 0 := by decide +kernel
theorem cp_87_0 : chC 87 0 = true := by decide +kernel
theorem cp_87_1 : chC 87 1 = true := by decide +kernel
theorem cp_87_2 : chC 87 2 = true := by decide +kernel
theorem cp_87_3 : chC 87 3 = true := by decide +kernel
theorem ck_87 : ∀ i, chX 87 i = true := chX_of (n := 4) (by decide +kernel) (fun q hq => match q, hq with
  | 0, _ => cp_87_0
  | 1, _ => cp_87_1
  | 2, _ => cp_87_2
  | 3, _ => cp_87_3
  | q + 4, hq => absurd hq (by omega))
theorem cm_88 : cwM 88 = true := by decide +kernel
theorem c0_88 : rpc (tab 88) 0 = 0 := by decide +kernel
theorem cp_88_0 : chC 88 0 = true := by decide +kernel
theorem cp_88_1 : chC 88 1 = true := by decide +kernel
theorem cp_88_2 : chC 88 2 = true := by decide +kernel
theorem cp_88_3 : chC 88 3 = true := by decide +kernel
theorem ck_88 : ∀ i, chX 88 i = true := chX_of (n := 4) (by decide +kernel) (fun q hq => match q, hq with
  | 0, _ => cp_88_0
  | 1, _ => cp_88_1
  | 2, _ => cp_88_2
  | 3, _ => cp_88_3
  | q + 4, hq => absurd hq (by omega))
theorem cm_89 : cwM 89 = true := by decide +kernel
theorem c0_89 : rpc (tab 89) 0 = 0 := by decide +kernel
theorem ck_89 : ∀ i, chX 89 i = true := chX_of (n := 3) (by decide +kernel) (chQ_of (by decide +kernel))
theorem cm_90 : cwM 90 = true := by decide +kernel
theorem c0_90 : rpc (tab 90) 0 = 0 := by decide +kernel
theorem ck_90 : ∀ i, chX 90 i = true := chX_of (n := 2) (by decide +kernel) (chQ_of (by decide +kernel))
theorem cm_91 : cwM 91 = true := by decide +kernel
theorem c0_91 : rpc (tab 91) 0 = 0 := by decide +kernel
theorem ck_91 : ∀ i, chX 91 i = true := chX_of (n := 2) (by decide +kernel) (chQ_of (by decide +kernel))
theorem cm_92 : cwM 92 = true := by decide +kernel
theorem c0_92 : rpc (tab 92) 0 = 0 := by decide +kernel
theorem ck_92 : ∀ i, chX 92 i = true := chX_of (n := 3) (by decide +kernel) (chQ_of (by decide +kernel))
theorem cm_93 : cwM 93 = true := by decide +kernel
theorem c0_93 : rpc (tab 93) 0 = 0 := by decide +kernel
theorem ck_93 : ∀ i, chX 93 i = true := chX_of (n := 3) (by decide +kernel) (chQ_of (by decide +kernel))
theorem cm_94 : cwM 94 = true := by decide +kernel
theorem c0_94 : rpc (tab 94) 0 = 0 := by decide +kernel
theorem ck_94 : ∀ i, chX 94 i = true := chX_of (n := 2) (by decide +kernel) (chQ_of (by decide +kernel))
theorem cm_95 : cwM 95 = true := by decide +kernel
theorem c0_95 : rpc (tab 95) 0 = 0 := by decide +kernel
theorem ck_95 : ∀ i, chX 95 i = true := chX_of (n := 2) (by decide +kernel) (chQ_of (by decide +kernel))
theorem cm_96 : cwM 96 = true := by decide +kernel
theorem c0_96 : rpc (tab 96) 0 = 0 := by decide +kernel
theorem ck_96 : ∀ i, chX 96 i = true := chX_of (n := 2) (by decide +kernel) (chQ_of (by decide +kernel))
theorem cm_97 : cwM 97 = true := by decide +kernel
theorem c0_97 : rpc (tab 97) 0 = 0 := by decide +kernel
theorem ck_97 : ∀ i, chX 97 i = true := chX_of (n := 2) (by decide +kernel) (chQ_of (by decide +kernel))
theorem cm_98 : cwM 98 = true := by decide +kernel
theorem c0_98 : rpc (tab 98) 0 = 0 := by decide +kernel
theorem ck_98 : ∀ i, chX 98 i = true := chX_of (n := 3) (by decide +kernel) (chQ_of (by decide +kernel))
theorem cm_99 : cwM 99 = true := by decide +kernel
theorem c0_99 : rpc (tab 99) 0 = 0 := by decide +kernel
theorem ck_99 : ∀ i, chX 99 i = true := chX_of (n := 3) (by decide +kernel) (chQ_of (by decide +kernel))
theorem cm_100 : cwM 100 = true := by decide +kernel
theorem c0_100 : rpc (tab 100) 0 = 0 := by decide +kernel
theorem cp_100_0 : chC 100 0 = true := by decide +kernel
theorem cp_100_1 : chC 100 1 = true := by decide +kernel
theorem cp_100_2 : chC 100 2 = true := by decide +kernel
theorem cp_100_3 : chC 100 3 = true := by decide +kernel
theorem cp_100_4 : chC 100 4 = true := by decide +kernel
theorem ck_100 : ∀ i, chX 100 i = true := chX_of (n := 5) (by decide +kernel) (fun q hq => match q, hq with
  | 0, _ => cp_100_0
  | 1, _ => cp_100_1
  | 2, _ => cp_100_2
  | 3, _ => cp_100_3
  | 4, _ => cp_100_4
  | q + 5, hq => absurd hq (by omega))
theorem cm_101 : cwM 101 = true := by decide +kernel
theorem c0_101 : rpc (tab 101) 0 = 0 := by decide +kernel
theorem ck_101 : ∀ i, chX 101 i = true := chX_of (n := 2) (by decide +kernel) (chQ_of (by decide +kernel))
theorem cm_102 : cwM 102 = true := by decide +kernel
theorem c0_102 : rpc (tab 102) 0 = 0 := by decide +kernel
theorem cp_102_0 : chC 102 0 = true := by decide +kernel
theorem cp_102_1 : chC 102 1 = true := by decide +kernel
theorem cp_102_2 : chC 102 2 = true := by decide +kernel
theorem cp_102_3 : chC 102 3 = true := by decide +kernel
theorem cp_102_4 : chC 102 4 = true := by decide +kernel
theorem ck_102 : ∀ i, chX 102 i = true := chX_of (n := 5) (by decide +kernel) (fun q hq => match q, hq with
  | 0, _ => cp_102_0
  | 1, _ => cp_102_1
  | 2, _ => cp_102_2
  | 3, _ => cp_102_3
  | 4, _ => cp_102_4
  | q + 5, hq => absurd hq (by omega))
theorem cm_103 : cwM 103 = true := by decide +kernel
theorem c0_103 : rpc (tab 103) 0 = 0 := by decide +kernel
theorem ck_103 : ∀ i, chX 103 i = true := chX_of (n := 2) (by decide +kernel) (chQ_of (by decide +kernel))
theorem cm_104 : cwM 104 = true := by decide +kernel
theorem c0_104 : rpc (tab 104) 0 = 0 := by decide +kernel
theorem cp_104_0 : chC 104 0 = true := by decide +kernel
theorem cp_104_1 : chC 104 1 = true := by decide +kernel
theorem cp_104_2 : chC 104 2 = true := by decide +kernel
theorem cp_104_3 : chC 104 3 = true := by decide +kernel
theorem cp_104_4 : chC 104 4 = true := by decide +kernel
theorem ck_104 : ∀ i, chX 104 i = true := chX_of (n := 5) (by decide +kernel) (fun q hq => match q, hq with
  | 0, _ => cp_104_0
  | 1, _ => cp_104_1
  | 2, _ => cp_104_2
  | 3, _ => cp_104_3
  | 4, _ => cp_104_4
  | q + 5, hq => absurd hq (by omega))
theorem cm_105 : cwM 105 = true := by decide +kernel
theorem c0_105 : rpc (tab 105) 0 = 0 := by decide +kernel
theorem ck_105 : ∀ i, chX 105 i = true := chX_of (n := 3) (by decide +kernel) (chQ_of (by decide +kernel))
theorem cm_106 : cwM 106 = true := by decide +kernel
theorem c0_106 : rpc (tab 106) 0 = 0 := by decide +kernel
theorem ck_106 : ∀ i, chX 106 i = true := chX_of (n := 2) (by decide +kernel) (chQ_of (by decide +kernel))
theorem cm_107 : cwM 107 = true := by decide +kernel
theorem c0_107 : rpc (tab 107) 0 = 0 := by decide +kernel
theorem ck_107 : ∀ i, chX 107 i = true := chX_of (n := 3) (by decide +kernel) (chQ_of (by decide +kernel))
theorem cm_108 : cwM 108 = true := by decide +kernel
theorem c0_108 : rpc (tab 108) 0 = 0 := by decide +kernel
theorem ck_108 : ∀ i, chX 108 i = true := chX_of (n := 3) (by decide +kernel) (chQ_of (by decide +kernel))
theorem cm_109 : cwM 109 = true := by decide +kernel
theorem c0_109 : rpc (tab 109) 0 = 0 := by decide +kernel
theorem ck_109 : ∀ i, chX 109 i = true := chX_of (n := 2) (by decide +kernel) (chQ_of (by decide +kernel))
theorem cm_110 : cwM 110 = true := by decide +kernel
theorem c0_110 : rpc (tab 110) 0 = 0 := by decide +kernel
theorem ck_110 : ∀ i, chX 110 i = true := chX_of (n := 3) (by decide +kernel) (chQ_of (by decide +kernel))
theorem cm_111 : cwM 111 = true := by decide +kernel
theorem c0_111 : rpc (tab 111) 0 = 0 := by decide +kernel
theorem cp_111_0 : chC 111 0 = true := by decide +kernel
theorem cp_111_1 : chC 111 1 = true := by decide +kernel
theorem cp_111_2 : chC 111 2 = true := by decide +kernel
theorem cp_111_3 : chC 111 3 = true := by decide +kernel
theorem cp_111_4 : chC 111 4 = true := by decide +kernel
theorem ck_111 : ∀ i, chX 111 i = true := chX_of (n := 5) (by decide +kernel) (fun q hq => match q, hq with
  | 0, _ => cp_111_0
  | 1, _ => cp_111_1
  | 2, _ => cp_111_2
  | 3, _ => cp_111_3
  | 4, _ => cp_111_4
  | q + 5, hq => absurd hq (by omega))
theorem cm_112 : cwM 112 = true := by decide +kernel
theorem c0_112 : rpc (tab 112) 0 = 0 := by decide +kernel
theorem ck_112 : ∀ i, chX 112 i = true := chX_of (n := 2) (by decide +kernel) (chQ_of (by decide +kernel))
theorem cm_113 : cwM 113 = true := by decide +kernel
theorem c0_113 : rpc (tab 113) 0 = 0 := by decide +kernel
theorem cp_113_0 : chC 113 0 = true := by decide +kernel
theorem cp_113_1 : chC 113 1 = true := by decide +kernel
theorem cp_113_2 : chC 113 2 = true := by decide +kernel
theorem cp_113_3 : chC 113 3 = true := by decide +kernel
theorem ck_113 : ∀ i, chX 113 i = true := chX_of (n := 4) (by decide +kernel) (fun q hq => match q, hq with
  | 0, _ => cp_113_0
  | 1, _ => cp_113_1
  | 2, _ => cp_113_2
  | 3, _ => cp_113_3
  | q + 4, hq => absurd hq (by omega))
theorem cm_114 : cwM 114 = true := by decide +kernel
theorem c0_114 : rpc (tab 114) 0 = 0 := by decide +kernel
theorem ck_114 : ∀ i, chX 114 i = true := chX_of (n := 1) (by decide +kernel) (chQ_of (by decide +kernel))
theorem cm_115 : cwM 115 = true := by decide +kernel
theorem c0_115 : rpc (tab 115) 0 = 0 := by decide +kernel
theorem ck_115 : ∀ i, chX 115 i = true := chX_of (n := 1) (by decide +kernel) (chQ_of (by decide +kernel))
theorem cm_116 : cwM 116 = true := by decide +kernel
theorem c0_116 : rpc (tab 116) 0 = 0 := by decide +kernel
theorem ck_116 : ∀ i, chX 116 i = true := chX_of (n := 1) (by decide +kernel) (chQ_of (by decide +kernel))
theorem cm_117 : cwM 117 = true := by decide +kernel
theorem c0_117 : rpc (tab 117) 0 = 0 := by decide +kernel
theorem ck_117 : ∀ i, chX 117 i = true := chX_of (n := 1) (by decide +kernel) (chQ_of (by decide +kernel))
theorem cm_118 : cwM 118 = true := by decide +kernel
theorem c0_118 : rpc (tab 118) 0 = 0 := by decide +kernel
theorem ck_118 : ∀ i, chX 118 i = true := chX_of (n := 1) (by decide +kernel) (chQ_of (by decide +kernel))
theorem cm_119 : cwM 119 = true := by decide +kernel
theorem c0_119 : rpc (tab 119) 0 = 0 := by decide +kernel
theorem ck_119 : ∀ i, chX 119 i = true := chX_of (n := 1) (by decide +kernel) (chQ_of (by decide +kernel))
theorem cm_120 : cwM 120 = true := by decide +kernel
theorem c0_120 : rpc (tab 120) 0 = 0 := by decide +kernel
theorem ck_120 : ∀ i, chX 120 i = true := chX_of (n := 2) (by decide +kernel) (chQ_of (by decide +kernel))
theorem cm_121 : cwM 121 = true := by decide +kernel
theorem c0_121 : rpc (tab 121) 0 = 0 := by decide +kernel
theorem ck_121 : ∀ i, chX 121 i = true := chX_of (n := 1) (by decide +kernel) (chQ_of (by decide +kernel))
theorem cm_122 : cwM 122 = true := by decide +kernel
theorem c0_122 : rpc (tab 122) 0 = 0 := by decide +kernel
theorem ck_122 : ∀ i, chX 122 i = true := chX_of (n := 1) (by decide +kernel) (chQ_of (by decide +kernel))
theorem cm_123 : cwM 123 = true := by decide +kernel
theorem c0_123 : rpc (tab 123) 0 = 0 := by decide +kernel
theorem ck_123 : ∀ i, chX 123 i = true := chX_of (n := 1) (by decide +kernel) (chQ_of (by decide +kernel))
theorem cm_124 : cwM 124 = true := by decide +kernel
theorem c0_124 : rpc (tab 124) 0 = 0 := by decide +kernel
theorem ck_124 : ∀ i, chX 124 i = true := chX_of (n := 1) (by decide +kernel) (chQ_of (by decide +kernel))
theorem cm_125 : cwM 125 = true := by decide +kernel
theorem c0_125 : rpc (tab 125) 0 = 0 := by decide +kernel
theorem ck_125 : ∀ i, chX 125 i = true := chX_of (n := 1) (by decide +kernel) (chQ_of (by decide +kernel))
theorem cm_126 : cwM 126 = true := by decide +kernel
theorem c0_126 : rpc (tab 126) 0 = 0 := by decide +kernel
theorem ck_126 : ∀ i, chX 126 i = true := chX_of (n := 2) (by decide +kernel) (chQ_of (by decide +kernel))
theorem cm_127 : cwM 127 = true := by decide +kernel
theorem c0_127 : rpc (tab 127) 0 = 0 := by decide +kernel
theorem ck_127 : ∀ i, chX 127 i = true := chX_of (n := 2) (by decide +kernel) (chQ_of (by decide +kernel))
theorem cm_128 : cwM 128 = true := by decide +kernel
theorem c0_128 : rpc (tab 128) 0 = 0 := by decide +kernel
theorem ck_128 : ∀ i, chX 128 i = true := chX_of (n := 3) (by decide +kernel) (chQ_of (by decide +kernel))
theorem cm_129 : cwM 129 = true := by decide +kernel
theorem c0_129 : rpc (tab 129) 0 = 0 := by decide +kernel
theorem ck_129 : ∀ i, chX 129 i = true := chX_of (n := 2) (by decide +kernel) (chQ_of (by decide +kernel))
theorem cm_130 : cwM 130 = true := by decide +kernel
theorem c0_130 : rpc (tab 130) 0 = 0 := by decide +kernel
theorem cp_130_0 : chC 130 0 = true := by decide +kernel
theorem cp_130_1 : chC 130 1 = true := by decide +kernel
theorem cp_130_2 : chC 130 2 = true := by decide +kernel
theorem cp_130_3 : chC 130 3 = true := by decide +kernel
theorem ck_130 : ∀ i, chX 130 i = true := chX_of (n := 4) (by decide +kernel) (fun q hq => match q, hq with
  | 0, _ => cp_130_0
  | 1, _ => cp_130_1
  | 2, _ => cp_130_2
  | 3, _ => cp_130_3
  | q + 4, hq => absurd hq (by omega))
theorem cm_131 : cwM 131 = true := by decide +kernel
theorem c0_131 : rpc (tab 131) 0 = 0 := by decide +kernel
theorem ck_131 : ∀ i, chX 131 i = true := chX_of (n := 2) (by decide +kernel) (chQ_of (by decide +kernel))
theorem cm_132 : cwM 132 = true := by decide +kernel
theorem c0_132 : rpc (tab 132) 0 = 0 := by decide +kernel
theorem ck_132 : ∀ i, chX 132 i = true := chX_of (n := 2) (by decide +kernel) (chQ_of (by decide +kernel))
end
section
theorem cm_133 : cwM 133 = true := by decide +kernel
theorem c0_133 : rpc (tab 133) 0 = 0 := by decide +kernel
theorem ck_133 : ∀ i, chX 133 i = true := chX_of (n := 2) (by decide +kernel) (chQ_of (by decide +kernel))
theorem cm_134 : cwM 134 = true := by decide +kernel
theorem c0_134 : rpc (tab 134) 0 = 0 := by decide +kernel
theorem ck_134 : ∀ i, chX 134 i = true := chX_of (n := 2) (by decide +kernel) (chQ_of (by decide +kernel))
theorem cm_135 : cwM 135 = true := by decide +kernel
theorem c0_135 : rpc (tab 135) 0 = 0 := by decide +kernel
theorem ck_135 : ∀ i, chX 135 i = true := chX_of (n := 2) (by decide +kernel) (chQ_of (by decide +kernel))
theorem cm_136 : cwM 136 = true := by decide +kernel
theorem c0_136 : rpc (tab 136) 0 = 0 := by decide +kernel
theorem ck_136 : ∀ i, chX 136 i = true := chX_of (n := 2) (by decide +kernel) (chQ_of (by decide +kernel))
theorem cm_137 : cwM 137 = true := by decide +kernel
theorem c0_137 : rpc (tab 137) 0 = 0 := by decide +kernel
theorem ck_137 : ∀ i, chX 137 i = true := chX_of (n := 1) (by decide +kernel) (chQ_of (by decide +kernel))
theorem cm_138 : cwM 138 = true := by decide +kernel
theorem c0_138 : rpc (tab 138) 0 = 0 := by decide +kernel
theorem ck_138 : ∀ i, chX 138 i = true := chX_of (n := 1) (by decide +kernel) (chQ_of (by decide +kernel))
theorem cm_139 : cwM 139 = true := by decide +kernel
theorem c0_139 : rpc (tab 139) 0 = 0 := by decide +kernel
theorem ck_139 : ∀ i, chX 139 i = true := chX_of (n := 1) (by decide +kernel) (chQ_of (by decide +kernel))
theorem cm_140 : cwM 140 = true := by decide +kernel
theorem c0_140 : rpc (tab 140) 0 = 0 := by decide +kernel
theorem ck_140 : ∀ i, chX 140 i = true := chX_of (n := 1) (by decide +kernel) (chQ_of (by decide +kernel))
theorem cm_141 : cwM 141 = true := by decide +kernel
theorem c0_141 : rpc (tab 141) 0 = 0 := by decide +kernel
theorem ck_141 : ∀ i, chX 141 i = true := chX_of (n := 1) (by decide +kernel) (chQ_of (by decide +kernel))
theorem cm_142 : cwM 142 = true := by decide +kernel
theorem c0_142 : rpc (tab 142) 0 = 0 := by decide +kernel
theorem ck_142 : ∀ i, chX 142 i = true := chX_of (n := 2) (by decide +kernel) (chQ_of (by decide +kernel))
theorem cm_143 : cwM 143 = true := by decide +kernel
theorem c0_143 : rpc (tab 143) 0 = 0 := by decide +kernel
theorem cp_143_0 : chC 143 0 = true := by decide +kernel
theorem cp_143_1 : chC 143 1 = true := by decide +kernel
theorem cp_143_2 : chC 143 2 = true := by decide +kernel
theorem cp_143_3 : chC 143 3 = true := by decide +kernel
theorem cp_143_4 : chC 143 4 = true := by decide +kernel
theorem ck_143 : ∀ i, chX 143 i = true := chX_of (n := 5) (by decide +kernel) (fun q hq => match q, hq with
  | 0, _ => cp_143_0
  | 1, _ => cp_143_1
  | 2, _ => cp_143_2
  | 3, _ => cp_143_3
  | 4, _ => cp_143_4
  | q + 5, hq => absurd hq (by omega))
theorem cm_144 : cwM 144 = true := by decide +kernel
theorem c0_144 : rpc (tab 144) 0 = 0 := by decide +kernel
theorem ck_144 : ∀ i, chX 144 i = true := chX_of (n := 1) (by decide +kernel) (chQ_of (by decide +kernel))
theorem cm_145 : cwM 145 = true := by decide +kernel
theorem c0_145 : rpc (tab 145) 0 = 0 := by decide +kernel
theorem ck_145 : ∀ i, chX 145 i = true := chX_of (n := 1) (by decide +kernel) (chQ_of (by decide +kernel))
theorem cm_146 : cwM 146 = true := by decide +kernel
theorem c0_146 : rpc (tab 146) 0 = 0 := by decide +kernel
theorem ck_146 : ∀ i, chX 146 i = true := chX_of (n := 1) (by decide +kernel) (chQ_of (by decide +kernel))
theorem cm_147 : cwM 147 = true := by decide +kernel
theorem c0_147 : rpc (tab 147) 0 = 0 := by decide +kernel
theorem cp_147_0 : chC 147 0 = true := by decide +kernel
theorem cp_147_1 : chC 147 1 = true := by decide +kernel
theorem cp_147_2 : chC 147 2 = true := by decide +kernel
theorem cp_147_3 : chC 147 3 = true := by decide +kernel
theorem cp_147_4 : chC 147 4 = true := by decide +kernel
theorem cp_147_5 : chC 147 5 = true := by decide +kernel
theorem cp_147_6 : chC 147 6 = true := by decide +kernel
theorem cp_147_7 : chC 147 7 = true := by decide +kernel
theorem cp_147_8 : chC 147 8 = true := by decide +kernel
theorem cp_147_9 : chC 147 9 = true := by decide +kernel
theorem cp_147_10 : chC 147 10 = true := by decide +kernel
theorem ck_147 : ∀ i, chX 147 i = true := chX_of (n := 11) (by decide +kernel) (fun q hq => match q, hq with
  | 0, _ => cp_147_0
  | 1, _ => cp_147_1
  | 2, _ => cp_147_2
  | 3, _ => cp_147_3
  | 4, _ => cp_147_4
  | 5, _ => cp_147_5
  | 6, _ => cp_147_6
  | 7, _ => cp_147_7
  | 8, _ => cp_147_8
  | 9, _ => cp_147_9
  | 10, _ => cp_147_10
  | q + 11, hq => absurd hq (by omega))
theorem cm_148 : cwM 148 = true := by decide +kernel
theorem c0_148 : rpc (tab 148) 0 = 0 := by decide +kernel
theorem ck_148 : ∀ i, chX 148 i = true := chX_of (n := 1) (by decide +kernel) (chQ_of (by decide +kernel))
theorem cm_149 : cwM 149 = true := by decide +kernel
theorem c0_149 : rpc (tab 149) 0 = 0 := by decide +kernel
theorem ck_149 : ∀ i, chX 149 i = true := chX_of (n := 1) (by decide +kernel) (chQ_of (by decide +kernel))
theorem cm_150 : cwM 150 = true := by decide +kernel
theorem c0_150 : rpc (tab 150) 0 = 0 := by decide +kernel
theorem ck_150 : ∀ i, chX 150 i = true := chX_of (n := 1) (by decide +kernel) (chQ_of (by decide +kernel))
theorem cm_151 : cwM 151 = true := by decide +kernel
theorem c0_151 : rpc (tab 151) 0 = 0 := by decide +kernel
theorem ck_151 : ∀ i, chX 151 i = true := chX_of (n := 2) (by decide +kernel) (chQ_of (by decide +kernel))
theorem cm_152 : cwM 152 = true := by decide +kernel
theorem c0_152 : rpc (tab 152) 0 = 0 := by decide +kernel
theorem ck_152 : ∀ i, chX 152 i = true := chX_of (n := 2) (by decide +kernel) (chQ_of (by decide +kernel))
theorem cm_153 : cwM 153 = true := by decide +kernel
theorem c0_153 : rpc (tab 153) 0 = 0 := by decide +kernel
theorem cp_153_0 : chC 153 0 = true := by decide +kernel
theorem cp_153_1 : chC 153 1 = true := by decide +kernel
theorem cp_153_2 : chC 153 2 = true := by decide +kernel
theorem cp_153_3 : chC 153 3 = true := by decide +kernel
theorem cp_153_4 : chC 153 4 = true := by decide +kernel
theorem cp_153_5 : chC 153 5 = true := by decide +kernel
theorem cp_153_6 : chC 153 6 = true := by decide +kernel
theorem cp_153_7 : chC 153 7 = true := by decide +kernel
theorem cp_153_8 : chC 153 8 = true := by decide +kernel
theorem cp_153_9 : chC 153 9 = true := by decide +kernel
theorem cp_153_10 : chC 153 10 = true := by decide +kernel
theorem cp_153_11 : chC 153 11 = true := by decide +kernel
theorem ck_153 : ∀ i, chX 153 i = true := chX_of (n := 12) (by decide +kernel) (fun q hq => match q, hq with
  | 0, _ => cp_153_0
  | 1, _ => cp_153_1
  | 2, _ => cp_153_2
  | 3, _ => cp_153_3
  | 4, _ => cp_153_4
  | 5, _ => cp_153_5
  | 6, _ => cp_153_6
  | 7, _ => cp_153_7
  | 8, _ => cp_153_8
  | 9, _ => cp_153_9
  | 10, _ => cp_153_10
  | 11, _ => cp_153_11
  | q + 12, hq => absurd hq (by omega))
theorem cm_154 : cwM 154 = true := by decide +kernel
theorem c0_154 : rpc (tab 154) 0 = 0 := by decide +kernel
theorem cp_154_0 : chC 154 0 = true := by decide +kernel
theorem cp_154_1 : chC 154 1 = true := by decide +kernel
theorem cp_154_2 : chC 154 2 = true := by decide +kernel
theorem cp_154_3 : chC 154 3 = true := by decide +kernel
theorem cp_154_4 : chC 154 4 = true := by decide +kernel
theorem ck_154 : ∀ i, chX 154 i = true := chX_of (n := 5) (by decide +kernel) (fun q hq => match q, hq with
  | 0, _ => cp_154_0
  | 1, _ => cp_154_1
  | 2, _ => cp_154_2
  | 3, _ => cp_154_3
  | 4, _ => cp_154_4
  | q + 5, hq => absurd hq (by omega))
theorem cm_155 : cwM 155 = true := by decide +kernel
theorem c0_155 : rpc (tab 155) 0 = 0 := by decide +kernel
theorem cp_155_0 : chC 155 0 = true := by decide +kernel
theorem cp_155_1 : chC 155 1 = true := by decide +kernel
theorem cp_155_2 : chC 155 2 = true := by decide +kernel
theorem cp_155_3 : chC 155 3 = true := by decide +kernel
theorem cp_155_4 : chC 155 4 = true := by decide +kernel
theorem cp_155_5 : chC 155 5 = true := by decide +kernel
theorem cp_155_6 : chC 155 6 = true := by decide +kernel
theorem cp_155_7 : chC 155 7 = true := by decide +kernel
theorem ck_155 : ∀ i, chX 155 i = true := chX_of (n := 8) (by decide +kernel) (fun q hq => match q, hq with
  | 0, _ => cp_155_0
  | 1, _ => cp_155_1
  | 2, _ => cp_155_2
  | 3, _ => cp_155_3
  | 4, _ => cp_155_4
  | 5, _ => cp_155_5
  | 6, _ => cp_155_6
  | 7, _ => cp_155_7
  | q + 8, hq => absurd hq (by omega))
theorem cm_156 : cwM 156 = true := by decide +kernel
theorem c0_156 : rpc (tab 156) 0 = 0 := by decide +kernel
theorem ck_156 : ∀ i, chX 156 i = true := chX_of (n := 1) (by decide +kernel) (chQ_of (by decide +kernel))
theorem cm_157 : cwM 157 = true := by decide +kernel
theorem c0_157 : rpc (tab 157) 0 = 0 := by decide +kernel
theorem ck_157 : ∀ i, chX 157 i = true := chX_of (n := 1) (by decide +kernel) (chQ_of (by decide +kernel))
theorem cm_158 : cwM 158 = true := by decide +kernel
theorem c0_158 : rpc (tab 158) 0 = 0 := by decide +kernel
theorem ck_158 : ∀ i, chX 158 i = true := chX_of (n := 2) (by decide +kernel) (chQ_of (by decide +kernel))
theorem cm_159 : cwM 159 = true := by decide +kernel
theorem c0_159 : rpc (tab 159) 0 = 0 := by decide +kernel
theorem cp_159_0 : chC 159 0 = true := by decide +kernel
theorem cp_159_1 : chC 159 1 = true := by decide +kernel
theorem cp_159_2 : chC 159 2 = true := by decide +kernel
theorem cp_159_3 : chC 159 3 = true := by decide +kernel
theorem ck_159 : ∀ i, chX 159 i = true := chX_of (n := 4) (by decide +kernel) (fun q hq => match q, hq with
  | 0, _ => cp_159_0
  | 1, _ => cp_159_1
  | 2, _ => cp_159_2
  | 3, _ => cp_159_3
  | q + 4, hq => absurd hq (by omega))
theorem cm_160 : cwM 160 = true := by decide +kernel
theorem c0_160 : rpc (tab 160) 0 = 0 := by decide +kernel
theorem ck_160 : ∀ i, chX 160 i = true := chX_of (n := 3) (by decide +kernel) (chQ_of (by decide +kernel))
theorem cm_161 : cwM 161 = true := by decide +kernel
theorem c0_161 : rpc (tab 161) 0 = 0 := by decide +kernel
theorem ck_161 : ∀ i, chX 161 i = true := chX_of (n := 1) (by decide +kernel) (chQ_of (by decide +kernel))
theorem cm_162 : cwM 162 = true := by decide +kernel
theorem c0_162 : rpc (tab 162) 0 = 0 := by decide +kernel
theorem ck_162 : ∀ i, chX 162 i = true := chX_of (n := 2) (by decide +kernel) (chQ_of (by decide +kernel))
theorem cm_163 : cwM 163 = true := by decide +kernel
theorem c0_163 : rpc (tab 163) 0 = 0 := by decide +kernel
theorem cp_163_0 : chC 163 0 = true := by decide +kernel
theorem cp_163_1 : chC 163 1 = true := by decide +kernel
theorem cp_163_2 : chC 163 2 = true := by decide +kernel
theorem cp_163_3 : chC 163 3 = true := by decide +kernel
theorem cp_163_4 : chC 163 4 = true := by decide +kernel
theorem cp_163_5 : chC 163 5 = true := by decide +kernel
theorem cp_163_6 : chC 163 6 = true := by decide +kernel
theorem ck_163 : ∀ i, chX 163 i = true := chX_of (n := 7) (by decide +kernel) (fun q hq => match q, hq with
  | 0, _ => cp_163_0
  | 1, _ => cp_163_1
  | 2, _ => cp_163_2
  | 3, _ => cp_163_3
  | 4, _ => cp_163_4
  | 5, _ => cp_163_5
  | 6, _ => cp_163_6
  | q + 7, hq => absurd hq (by omega))
theorem cm_164 : cwM 164 = true := by decide +kernel
theorem c0_164 : rpc (tab 164) 0 = 0 := by decide +kernel
theorem ck_164 : ∀ i, chX 164 i = true := chX_of (n := 1) (by decide +kernel) (chQ_of (by decide +kernel))
theorem cm_165 : cwM 165 = true := by decide +kernel
theorem c0_165 : rpc (tab 165) 0 = 0 := by decide +kernel
theorem ck_165 : ∀ i, chX 165 i = true := chX_of (n := 2) (by decide +kernel) (chQ_of (by decide +kernel))
theorem cm_166 : cwM 166 = true := by decide +kernel
theorem c0_166 : rpc (tab 166) 0 = 0 := by decide +kernel
theorem cp_166_0 : chC 166 0 = true := by decide +kernel
theorem cp_166_1 : chC 166 1 = true := by decide +kernel
theorem cp_166_2 : chC 166 2 = true := by decide +kernel
theorem cp_166_3 : chC 166 3 = true := by decide +kernel
theorem ck_166 : ∀ i, chX 166 i = true := chX_of (n := 4) (by decide +kernel) (fun q hq => match q, hq with
  | 0, _ => cp_166_0
  | 1, _ => cp_166_1
  | 2, _ => cp_166_2
  | 3, _ => cp_166_3
  | q + 4, hq => absurd hq (by omega))
theorem cm_167 : cwM 167 = true := by decide +kernel
theorem c0_167 : rpc (tab 167) 0 = 0 := by decide +kernel
theorem cp_167_0 : chC 167 0 = true := by decide +kernel
theorem cp_167_1 : chC 167 1 = true := by decide +kernel
theorem cp_167_2 : chC 167 2 = true := by decide +kernel
theorem cp_167_3 : chC 167 3 = true := by decide +kernel
theorem ck_167 : ∀ i, chX 167 i = true := chX_of (n := 4) (by decide +kernel) (fun q hq => match q, hq with
  | 0, _ => cp_167_0
  | 1, _ => cp_167_1
  | 2, _ => cp_167_2
  | 3, _ => cp_167_3
  | q + 4, hq => absurd hq (by omega))
theorem cm_168 : cwM 168 = true := by decide +kernel
theorem c0_168 : rpc (tab 168) 0 = 0 := by decide +kernel
theorem cp_168_0 : chC 168 0 = true := by decide +kernel
theorem cp_168_1 : chC 168 1 = true := by decide +kernel
theorem cp_168_2 : chC 168 2 = true := by decide +kernel
theorem cp_168_3 : chC 168 3 = true := by decide +kernel
theorem cp_168_4 : chC 168 4 = true := by decide +kernel
theorem ck_168 : ∀ i, chX 168 i = true := chX_of (n := 5) (by decide +kernel) (fun q hq => match q, hq with
  | 0, _ => cp_168_0
  | 1, _ => cp_168_1
  | 2, _ => cp_168_2
  | 3, _ => cp_168_3
  | 4, _ => cp_168_4
  | q + 5, hq => absurd hq (by omega))
theorem cm_169 : cwM 169 = true := by decide +kernel
theorem c0_169 : rpc (tab 169) 0 = 0 := by decide +kernel
theorem cp_169_0 : chC 169 0 = true := by decide +kernel
theorem cp_169_1 : chC 169 1 = true := by decide +kernel
theorem cp_169_2 : chC 169 2 = true := by decide +kernel
theorem cp_169_3 : chC 169 3 = true := by decide +kernel
theorem cp_169_4 : chC 169 4 = true := by decide +kernel
theorem cp_169_5 : chC 169 5 = true := by decide +kernel
theorem cp_169_6 : chC 169 6 = true := by decide +kernel
theorem cp_169_7 : chC 169 7 = true := by decide +kernel
theorem cp_169_8 : chC 169 8 = true := by decide +kernel
theorem cp_169_9 : chC 169 9 = true := by decide +kernel
theorem cp_169_10 : chC 169 10 = true := by decide +kernel
theorem ck_169 : ∀ i, chX 169 i = true := chX_of (n := 11) (by decide +kernel) (fun q hq => match q, hq with
  | 0, _ => cp_169_0
  | 1, _ => cp_169_1
  | 2, _ => cp_169_2
  | 3, _ => cp_169_3
  | 4, _ => cp_169_4
  | 5, _ => cp_169_5
  | 6, _ => cp_169_6
  | 7, _ => cp_169_7
  | 8, _ => cp_169_8
  | 9, _ => cp_169_9
  | 10, _ => cp_169_10
  | q + 11, hq => absurd hq (by omega))
theorem cm_170 : cwM 170 = true := by decide +kernel
theorem c0_170 : rpc (tab 170) 0 = 0 := by decide +kernel
theorem cp_170_0 : chC 170 0 = true := by decide +kernel
theorem cp_170_1 : chC 170 1 = true := by decide +kernel
theorem cp_170_2 : chC 170 2 = true := by decide +kernel
theorem cp_170_3 : chC 170 3 = true := by decide +kernel
theorem cp_170_4 : chC 170 4 = true := by decide +kernel
theorem cp_170_5 : chC 170 5 = true := by decide +kernel
theorem cp_170_6 : chC 170 6 = true := by decide +kernel
theorem cp_170_7 : chC 170 7 = true := by decide +kernel
theorem cp_170_8 : chC 170 8 = true := by decide +kernel
theorem ck_170 : ∀ i, chX 170 i = true := chX_of (n := 9) (by decide +kernel) (fun q hq => match q, hq with
  | 0, _ => cp_170_0
  | 1, _ => cp_170_1
  | 2, _ => cp_170_2
  | 3, _ => cp_170_3
  | 4, _ => cp_170_4
  | 5, _ => cp_170_5
  | 6, _ => cp_170_6
  | 7, _ => cp_170_7
  | 8, _ => cp_170_8
  | q + 9, hq => absurd hq (by omega))
theorem cm_171 : cwM 171 = true := by decide +kernel
theorem c0_171 : rpc (tab 171) 0 = 0 := by decide +kernel
theorem cp_171_0 : chC 171 0 = true := by decide +kernel
theorem cp_171_1 : chC 171 1 = true := by decide +kernel
theorem cp_171_2 : chC 171 2 = true := by decide +kernel
theorem cp_171_3 : chC 171 3 = true := by decide +kernel
theorem cp_171_4 : chC 171 4 = true := by decide +kernel
theorem cp_171_5 : chC 171 5 = true := by decide +kernel
theorem cp_171_6 : chC 171 6 = true := by decide +kernel
theorem ck_171 : ∀ i, chX 171 i = true := chX_of (n := 7) (by decide +kernel) (fun q hq => match q, hq with
  | 0, _ => cp_171_0
  | 1, _ => cp_171_1
  | 2, _ => cp_171_2
  | 3, _ => cp_171_3
  | 4, _ => cp_171_4
  | 5, _ => cp_171_5
  | 6, _ => cp_171_6
  | q + 7, hq => absurd hq (by omega))
theorem cm_172 : cwM 172 = true := by decide +kernel
theorem c0_172 : rpc (tab 172) 0 = 0 := by decide +kernel
theorem ck_172 : ∀ i, chX 172 i = true := chX_of (n := 3) (by decide +kernel) (chQ_of (by decide +kernel))
theorem cm_173 : cwM 173 = true := by decide +kernel
theorem c0_173 : rpc (tab 173) 0 = 0 := by decide +kernel
theorem ck_173 : ∀ i, chX 173 i = true := chX_of (n := 3) (by decide +kernel) (chQ_of (by decide +kernel))
theorem cm_174 : cwM 174 = true := by decide +kernel
theorem c0_174 : rpc (tab 174) 0 = 0 := by decide +kernel
theorem ck_174 : ∀ i, chX 174 i = true := chX_of (n := 3) (by decide +kernel) (chQ_of (by decide +kernel))
theorem cm_175 : cwM 175 = true := by decide +kernel
theorem c0_175 : rpc (tab 175) 0 = 0 := by decide +kernel
theorem ck_175 : ∀ i, chX 175 i = true := chX_of (n := 1) (by decide +kernel) (chQ_of (by decide +kernel))
theorem cm_176 : cwM 176 = true := by decide +kernel
theorem c0_176 : rpc (tab 176) 0 = 0 := by decide +kernel
theorem ck_176 : ∀ i, chX 176 i = true := chX_of (n := 2) (by decide +kernel) (chQ_of (by decide +kernel))
theorem cm_177 : cwM 177 = true := by decide +kernel
theorem c0_177 : rpc (tab 177) 0 = 0 := by decide +kernel
theorem ck_177 : ∀ i, chX 177 i = true := chX_of (n := 2) (by decide +kernel) (chQ_of (by decide +kernel))
theorem cm_178 : cwM 178 = true := by decide +kernel
theorem c0_178 : rpc (tab 178) 0 = 0 := by decide +kernel
theorem ck_178 : ∀ i, chX 178 i = true := chX_of (n := 2) (by decide +kernel) (chQ_of (by decide +kernel))
theorem cm_179 : cwM 179 = true := by decide +kernel
theorem c0_179 : rpc (tab 179) 0 = 0 := by decide +kernel
theorem ck_179 : ∀ i, chX 179 i = true := chX_of (n := 3) (by decide +kernel) (chQ_of (by decide +kernel))
theorem cm_180 : cwM 180 = true := by decide +kernel
theorem c0_180 : rpc (tab 180) 0 = 0 := by decide +kernel
theorem ck_180 : ∀ i, chX 180 i = true := chX_of (n := 1) (by decide +kernel) (chQ_of (by decide +kernel))
theorem cm_181 : cwM 181 = true := by decide +kernel
theorem c0_181 : rpc (tab 181) 0 = 0 := by decide +kernel
theorem ck_181 : ∀ i, chX 181 i = true := chX_of (n := 2) (by decide +kernel) (chQ_of (by decide +kernel))
theorem cm_182 : cwM 182 = true := by decide +kernel
theorem c0_182 : rpc (tab 182) 0 = 0 := by decide +kernel
theorem ck_182 : ∀ i, chX 182 i = true := chX_of (n := 2) (by decide +kernel) (chQ_of (by decide +kernel))
theorem cm_183 : cwM 183 = true := by decide +kernel
theorem c0_183 : rpc (tab 183) 0 = 0 := by decide +kernel
theorem cp_183_0 : chC 183 0 = true := by decide +kernel
theorem cp_183_1 : chC 183 1 = true := by decide +kernel
theorem cp_183_2 : chC 183 2 = true := by decide +kernel
theorem cp_183_3 : chC 183 3 = true := by decide +kernel
theorem cp_183_4 : chC 183 4 = true := by decide +kernel
theorem cp_183_5 : chC 183 5 = true := by decide +kernel
theorem ck_183 : ∀ i, chX 183 i = true := chX_of (n := 6) (by decide +kernel) (fun q hq => match q, hq with
  | 0, _ => cp_183_0
  | 1, _ => cp_183_1
  | 2, _ => cp_183_2
  | 3, _ => cp_183_3
  | 4, _ => cp_183_4
  | 5, _ => cp_183_5
  | q + 6, hq => absurd hq (by omega))
theorem cm_184 : cwM 184 = true := by decide +kernel
theorem c0_184 : rpc (tab 184) 0 = 0 := by decide +kernel
theorem cp_184_0 : chC 184 0 = true := by decide +kernel
theorem cp_184_1 : chC 184 1 = true := by decide +kernel
theorem cp_184_2 : chC 184 2 = true := by decide +kernel
theorem cp_184_3 : chC 184 3 = true := by decide +kernel
theorem cp_184_4 : chC 184 4 = true := by decide +kernel
theorem ck_184 : ∀ i, chX 184 i = true := chX_of (n := 5) (by decide +kernel) (fun q hq => match q, hq with
  | 0, _ => cp_184_0
  | 1, _ => cp_184_1
  | 2, _ => cp_184_2
  | 3, _ => cp_184_3
  | 4, _ => cp_184_4
  | q + 5, hq => absurd hq (by omega))
theorem cm_185 : cwM 185 = true := by decide +kernel
theorem c0_185 : rpc (tab 185) 0 = 0 := by decide +kernel
theorem ck_185 : ∀ i, chX 185 i = true := chX_of (n := 2) (by decide +kernel) (chQ_of (by decide +kernel))
theorem cm_186 : cwM 186 = true := by decide +kernel
theorem c0_186 : rpc (tab 186) 0 = 0 := by decide +kernel
theorem cp_186_0 : chC 186 0 = true := by decide +kernel
theorem cp_186_1 : chC 186 1 = true := by decide +kernel
theorem cp_186_2 : chC 186 2 = true := by decide +kernel
theorem cp_186_3 : chC 186 3 = true := by decide +kernel
theorem ck_186 : ∀ i, chX 186 i = true := chX_of (n := 4) (by decide +kernel) (fun q hq => match q, hq with
  | 0, _ => cp_186_0
  | 1, _ => cp_186_1
  | 2, _ => cp_186_2
  | 3, _ => cp_186_3
  | q + 4, hq => absurd hq (by omega))
theorem cm_187 : cwM 187 = true := by decide +kernel
theorem c0_187 : rpc (tab 187) 0 = 0 := by decide +kernel
theorem ck_187 : ∀ i, chX 187 i = true := chX_of (n := 3) (by decide +kernel) (chQ_of (by decide +kernel))
theorem cm_188 : cwM 188 = true := by decide +kernel
theorem c0_188 : rpc (tab 188) 0 = 0 := by decide +kernel
theorem ck_188 : ∀ i, chX 188 i = true := chX_of (n := 3) (by decide +kernel) (chQ_of (by decide +kernel))
theorem cm_189 : cwM 189 = true := by decide +kernel
theorem c0_189 : rpc (tab 189) 0 = 0 := by decide +kernel
theorem ck_189 : ∀ i, chX 189 i = true := chX_of (n := 2) (by decide +kernel) (chQ_of (by decide +kernel))
theorem cm_190 : cwM 190 = true := by decide +kernel
theorem c0_190 : rpc (tab 190) 0 = 0 := by decide +kernel
theorem ck_190 : ∀ i, chX 190 i = true := chX_of (n := 3) (by decide +kernel) (chQ_of (by decide +kernel))
theorem cm_191 : cwM 191 = true := by decide +kernel
theorem c0_191 : rpc (tab 191) 0 = 0 := by decide +kernel
theorem cp_191_0 : chC 191 0 = true := by decide +kernel
theorem cp_191_1 : chC 191 1 = true := by decide +kernel
theorem cp_191_2 : chC 191 2 = true := by decide +kernel
theorem cp_191_3 : chC 191 3 = true := by decide +kernel
theorem ck_191 : ∀ i, chX 191 i = true := chX_of (n := 4) (by decide +kernel) (fun q hq => match q, hq with
  | 0, _ => cp_191_0
  | 1, _ => cp_191_1
  | 2, _ => cp_191_2
  | 3, _ => cp_191_3
  | q + 4, hq => absurd hq (by omega))
theorem cm_192 : cwM 192 = true := by decide +kernel
theorem c0_192 : rpc (tab 192) 0 = 0 := by decide +kernel
theorem ck_192 : ∀ i, chX 192 i = true := chX_of (n := 2) (by decide +kernel) (chQ_of (by decide +kernel))
theorem cm_193 : cwM 193 = true := by decide +kernel
theorem c0_193 : rpc (tab 193) 0 = 0 := by decide +kernel
theorem ck_193 : ∀ i, chX 193 i = true := chX_of (n := 1) (by decide +kernel) (chQ_of (by decide +kernel))
theorem cm_194 : cwM 194 = true := by decide +kernel
theorem c0_194 : rpc (tab 194) 0 = 0 := by decide +kernel
theorem ck_194 : ∀ i, chX 194 i = true := chX_of (n := 1) (by decide +kernel) (chQ_of (by decide +kernel))
theorem cm_195 : cwM 195 = true := by decide +kernel
theorem c0_195 : rpc (tab 195) 0 = 0 := by decide +kernel
theorem ck_195 : ∀ i, chX 195 i = true := chX_of (n := 3) (by decide +kernel) (chQ_of (by decide +kernel))
theorem cm_196 : cwM 196 = true := by decide +kernel
theorem c0_196 : rpc (tab 196) 0 = 0 := by decide +kernel
theorem ck_196 : ∀ i, chX 196 i = true := chX_of (n := 2) (by decide +kernel) (chQ_of (by decide +kernel))
theorem cm_197 : cwM 197 = true := by decide +kernel
theorem c0_197 : rpc (tab 197) 0 = 0 := by decide +kernel
theorem cp_197_0 : chC 197 0 = true := by decide +kernel
theorem cp_197_1 : chC 197 1 = true := by decide +kernel
theorem cp_197_2 : chC 197 2 = true := by decide +kernel
theorem cp_197_3 : chC 197 3 = true := by decide +kernel
theorem ck_197 : ∀ i, chX 197 i = true := chX_of (n := 4) (by decide +kernel) (fun q hq => match q, hq with
  | 0, _ => cp_197_0
  | 1, _ => cp_197_1
  | 2, _ => cp_197_2
  | 3, _ => cp_197_3
  | q + 4, hq => absurd hq (by omega))
theorem cm_198 : cwM 198 = true := by decide +kernel
theorem c0_198 : rpc (tab 198) 0 = 0 := by decide +kernel
theorem ck_198 : ∀ i, chX 198 i = true := chX_of (n := 3) (by decide +kernel) (chQ_of (by decide +kernel))
theorem cm_199 : cwM 199 = true := by decide +kernel
theorem c0_199 : rpc (tab 199) 0 = 0 := by decide +kernel
theorem ck_199 : ∀ i, chX 199 i = true := chX_of (n := 3) (by decide +kernel) (chQ_of (by decide +kernel))
theorem cm_200 : cwM 200 = true := by decide +kernel
theorem c0_200 : rpc (tab 200) 0 = 0 := by decide +kernel
theorem ck_200 : ∀ i, chX 200 i = true := chX_of (n := 3) (by decide +kernel) (chQ_of (by decide +kernel))
theorem cm_201 : cwM 201 = true := by decide +kernel
theorem c0_201 : rpc (tab 201) 0 = 0 := by decide +kernel
theorem cp_201_0 : chC 201 0 = true := by decide +kernel
theorem cp_201_1 : chC 201 1 = true := by decide +kernel
theorem cp_201_2 : chC 201 2 = true := by decide +kernel
theorem cp_201_3 : chC 201 3 = true := by decide +kernel
theorem cp_201_4 : chC 201 4 = true := by decide +kernel
theorem ck_201 : ∀ i, chX 201 i = true := chX_of (n := 5) (by decide +kernel) (fun q hq => match q, hq with
  | 0, _ => cp_201_0
  | 1, _ => cp_201_1
  | 2, _ => cp_201_2
  | 3, _ => cp_201_3
  | 4, _ => cp_201_4
  | q + 5, hq => absurd hq (by omega))
theorem cm_202 : cwM 202 = true := by decide +kernel
theorem c0_202 : rpc (tab 202) 0 = 0 := by decide +kernel
theorem ck_202 : ∀ i, chX 202 i = true := chX_of (n := 3) (by decide +kernel) (chQ_of (by decide +kernel))
theorem cm_203 : cwM 203 = true := by decide +kernel
theorem c0_203 : rpc (tab 203) 0 = 0 := by decide +kernel
theorem ck_203 : ∀ i, chX 203 i = true := chX_of (n := 2) (by decide +kernel) (chQ_of (by decide +kernel))
theorem cm_204 : cwM 204 = true := by decide +kernel
theorem c0_204 : rpc (tab 204) 0 = 0 := by decide +kernel
theorem ck_204 : ∀ i, chX 204 i = true := chX_of (n := 3) (by decide +kernel) (chQ_of (by decide +kernel))
theorem cm_205 : cwM 205 = true := by decide +kernel
theorem c0_205 : rpc (tab 205) 0 = 0 := by decide +kernel
theorem cp_205_0 : chC 205 0 = true := by decide +kernel
theorem cp_205_1 : chC 205 1 = true := by decide +kernel
theorem cp_205_2 : chC 205 2 = true := by decide +kernel
theorem cp_205_3 : chC 205 3 = true := by decide +kernel
theorem cp_205_4 : chC 205 4 = true := by decide +kernel
theorem ck_205 : ∀ i, chX 205 i = true := chX_of (n := 5) (by decide +kernel) (fun q hq => match q, hq with
  | 0, _ => cp_205_0
  | 1, _ => cp_205_1
  | 2, _ => cp_205_2
  | 3, _ => cp_205_3
  | 4, _ => cp_205_4
  | q + 5, hq => absurd hq (by omega))
theorem cm_206 : cwM 206 = true := by decide +kernel
theorem c0_206 : rpc (tab 206) 0 = 0 := by decide +kernel
theorem ck_206 : ∀ i, chX 206 i = true := chX_of (n := 2) (by decide +kernel) (chQ_of (by decide +kernel))
theorem cm_207 : cwM 207 = true := by decide +kernel
theorem c0_207 : rpc (tab 207) 0 = 0 := by decide +kernel
theorem cp_207_0 : chC 207 0 = true := by decide +kernel
theorem cp_207_1 : chC 207 1 = true := by decide +kernel
theorem cp_207_2 : chC 207 2 = true := by decide +kernel
theorem cp_207_3 : chC 207 3 = true := by decide +kernel
theorem cp_207_4 : chC 207 4 = true := by decide +kernel
theorem ck_207 : ∀ i, chX 207 i = true := chX_of (n := 5) (by decide +kernel) (fun q hq => match q, hq with
  | 0, _ => cp_207_0
  | 1, _ => cp_207_1
  | 2, _ => cp_207_2
  | 3, _ => cp_207_3
  | 4, _ => cp_207_4
  | q + 5, hq => absurd hq (by omega))
theorem cm_208 : cwM 208 = true := by decide +kernel
theorem c0_208 : rpc (tab 208) 0 = 0 := by decide +kernel
theorem ck_208 : ∀ i, chX 208 i = true := chX_of (n := 3) (by decide +kernel) (chQ_of (by decide +kernel))
theorem cm_209 : cwM 209 = true := by decide +kernel
theorem c0_209 : rpc (tab 209) 0 = 0 := by decide +kernel
theorem cp_209_0 : chC 209 0 = true := by decide +kernel
theorem cp_209_1 : chC 209 1 = true := by decide +kernel
theorem cp_209_2 : chC 209 2 = true := by decide +kernel
theorem cp_209_3 : chC 209 3 = true := by decide +kernel
theorem ck_209 : ∀ i, chX 209 i = true := chX_of (n := 4) (by decide +kernel) (fun q hq => match q, hq with
  | 0, _ => cp_209_0
  | 1, _ => cp_209_1
  | 2, _ => cp_209_2
  | 3, _ => cp_209_3
  | q + 4, hq => absurd hq (by omega))
theorem cm_210 : cwM 210 = true := by decide +kernel
theorem c0_210 : rpc (tab 210) 0 = 0 := by decide +kernel
theorem cp_210_0 : chC 210 0 = true := by decide +kernel
theorem cp_210_1 : chC 210 1 = true := by decide +kernel
theorem cp_210_2 : chC 210 2 = true := by decide +kernel
theorem cp_210_3 : chC 210 3 = true := by decide +kernel
theorem ck_210 : ∀ i, chX 210 i = true := chX_of (n := 4) (by decide +kernel) (fun q hq => match q, hq with
  | 0, _ => cp_210_0
  | 1, _ => cp_210_1
  | 2, _ => cp_210_2
  | 3, _ => cp_210_3
  | q + 4, hq => absurd hq (by omega))
theorem cm_211 : cwM 211 = true := by decide +kernel
theorem c0_211 : rpc (tab 211) 0 = 0 := by decide +kernel
theorem cp_211_0 : chC 211 0 = true := by decide +kernel
theorem cp_211_1 : chC 211 1 = true := by decide +kernel
theorem cp_211_2 : chC 211 2 = true := by decide +kernel
theorem cp_211_3 : chC 211 3 = true := by decide +kernel
theorem cp_211_4 : chC 211 4 = true := by decide +kernel
theorem ck_211 : ∀ i, chX 211 i = true := chX_of (n := 5) (by decide +kernel) (fun q hq => match q, hq with
  | 0, _ => cp_211_0
  | 1, _ => cp_211_1
  | 2, _ => cp_211_2
  | 3, _ => cp_211_3
  | 4, _ => cp_211_4
  | q + 5, hq => absurd hq (by omega))
theorem cm_212 : cwM 212 = true := by decide +kernel
theorem c0_212 : rpc (tab 212) 0 = 0 := by decide +kernel
theorem ck_212 : ∀ i, chX 212 i = true := chX_of (n := 3) (by decide +kernel) (chQ_of (by decide +kernel))
theorem cm_213 : cwM 213 = true := by decide +kernel
theorem c0_213 : rpc (tab 213) 0 = 0 := by decide +kernel
theorem ck_213 : ∀ i, chX 213 i = true := chX_of (n := 2) (by decide +kernel) (chQ_of (by decide +kernel))
theorem cm_214 : cwM 214 = true := by decide +kernel
theorem c0_214 : rpc (tab 214) 0 = 0 := by decide +kernel
theorem ck_214 : ∀ i, chX 214 i = true := chX_of (n := 1) (by decide +kernel) (chQ_of (by decide +kernel))
theorem cm_215 : cwM 215 = true := by decide +kernel
theorem c0_215 : rpc (tab 215) 0 = 0 := by decide +kernel
theorem ck_215 : ∀ i, chX 215 i = true := chX_of (n := 2) (by decide +kernel) (chQ_of (by decide +kernel))
theorem cm_216 : cwM 216 = true := by decide +kernel
theorem c0_216 : rpc (tab 216) 0 = 0 := by decide +kernel
theorem cp_216_0 : chC 216 0 = true := by decide +kernel
theorem cp_216_1 : chC 216 1 = true := by decide +kernel
theorem cp_216_2 : chC 216 2 = true := by decide +kernel
theorem cp_216_3 : chC 216 3 = true := by decide +kernel
theorem cp_216_4 : chC 216 4 = true := by decide +kernel
theorem ck_216 : ∀ i, chX 216 i = true := chX_of (n := 5) (by decide +kernel) (fun q hq => match q, hq with
  | 0, _ => cp_216_0
  | 1, _ => cp_216_1
  | 2, _ => cp_216_2
  | 3, _ => cp_216_3
  | 4, _ => cp_216_4
  | q + 5, hq => absurd hq (by omega))
theorem cm_217 : cwM 217 = true := by decide +kernel
theorem c0_217 : rpc (tab 217) 0 = 0 := by decide +kernel
theorem cp_217_0 : chC 217 0 = true := by decide +kernel
theorem cp_217_1 : chC 217 1 = true := by decide +kernel
theorem cp_217_2 : chC 217 2 = true := by decide +kernel
theorem cp_217_3 : chC 217 3 = true := by decide +kernel
theorem ck_217 : ∀ i, chX 217 i = true := chX_of (n := 4) (by decide +kernel) (fun q hq => match q, hq with
  | 0, _ => cp_217_0
  | 1, _ => cp_217_1
  | 2, _ => cp_217_2
  | 3, _ => cp_217_3
  | q + 4, hq => absurd hq (by omega))
theorem cm_218 : cwM 218 = true := by decide +kernel
theorem c0_218 : rpc (tab 218) 0 = 0 := by decide +kernel
theorem ck_218 : ∀ i, chX 218 i = true := chX_of (n := 2) (by decide +kernel) (chQ_of (by decide +kernel))
theorem cm_219 : cwM 219 = true := by decide +kernel
theorem c0_219 : rpc (tab 219) 0 = 0 := by decide +kernel
theorem cp_219_0 : chC 219 0 = true := by decide +kernel
theorem cp_219_1 : chC 219 1 = true := by decide +kernel
theorem cp_219_2 : chC 219 2 = true := by decide +kernel
theorem cp_219_3 : chC 219 3 = true := by decide +kernel
theorem cp_219_4 : chC 219 4 = true := by decide +kernel
theorem cp_219_5 : chC 219 5 = true := by decide +kernel
theorem ck_219 : ∀ i, chX 219 i = true := chX_of (n := 6) (by decide +kernel) (fun q hq => match q, hq with
  | 0, _ => cp_219_0
  | 1, _ => cp_219_1
  | 2, _ => cp_219_2
  | 3, _ => cp_219_3
  | 4, _ => cp_219_4
  | 5, _ => cp_219_5
  | q + 6, hq => absurd hq (by omega))
theorem cm_220 : cwM 220 = true := by decide +kernel
theorem c0_220 : rpc (tab 220) 0 = 0 := by decide +kernel
theorem ck_220 : ∀ i, chX 220 i = true := chX_of (n := 3) (by decide +kernel) (chQ_of (by decide +kernel))
theorem cm_221 : cwM 221 = true := by decide +kernel
theorem c0_221 : rpc (tab 221) 0 = 0 := by decide +kernel
theorem ck_221 : ∀ i, chX 221 i = true := chX_of (n := 1) (by decide +kernel) (chQ_of (by decide +kernel))
theorem cm_222 : cwM 222 = true := by decide +kernel
theorem c0_222 : rpc (tab 222) 0 = 0 := by decide +kernel
theorem cp_222_0 : chC 222 0 = true := by decide +kernel
theorem cp_222_1 : chC 222 1 = true := by decide +kernel
theorem cp_222_2 : chC 222 2 = true := by decide +kernel
theorem cp_222_3 : chC 222 3 = true := by decide +kernel
theorem cp_222_4 : chC 222 4 = true := by decide +kernel
theorem ck_222 : ∀ i, chX 222 i = true := chX_of (n := 5) (by decide +kernel) (fun q hq => match q, hq with
  | 0, _ => cp_222_0
  | 1, _ => cp_222_1
  | 2, _ => cp_222_2
  | 3, _ => cp_222_3
  | 4, _ => cp_222_4
  | q + 5, hq => absurd hq (by omega))
theorem cm_223 : cwM 223 = true := by decide +kernel
theorem c0_223 : rpc (tab 223) 0 = 0 := by decide +kernel
theorem ck_223 : ∀ i, chX 223 i = true := chX_of (n := 2) (by decide +kernel) (chQ_of (by decide +kernel))
theorem cm_224 : cwM 224 = true := by decide +kernel
theorem c0_224 : rpc (tab 224) 0 = 0 := by decide +kernel
theorem ck_224 : ∀ i, chX 224 i = true := chX_of (n := 1) (by decide +kernel) (chQ_of (by decide +kernel))
theorem cm_225 : cwM 225 = true := by decide +kernel
theorem c0_225 : rpc (tab 225) 0 = 0 := by decide +kernel
theorem ck_225 : ∀ i, chX 225 i = true := chX_of (n := 1) (by decide +kernel) (chQ_of (by decide +kernel))
end
section
theorem cm_226 : cwM 226 = true := by decide +kernel
theorem c0_226 : rpc (tab 226) 0 = 0 := by decide +kernel
theorem cp_226_0 : chC 226 0 = true := by decide +kernel
theorem cp_226_1 : chC 226 1 = true := by decide +kernel
theorem cp_226_2 : chC 226 2 = true := by decide +kernel
theorem cp_226_3 : chC 226 3 = true := by decide +kernel
theorem cp_226_4 : chC 226 4 = true := by decide +kernel
theorem cp_226_5 : chC 226 5 = true := by decide +kernel
theorem cp_226_6 : chC 226 6 = true := by decide +kernel
theorem cp_226_7 : chC 226 7 = true := by decide +kernel
theorem cp_226_8 : chC 226 8 = true := by decide +kernel
theorem cp_226_9 : chC 226 9 = true := by decide +kernel
theorem cp_226_10 : chC 226 10 = true := by decide +kernel
theorem cp_226_11 : chC 226 11 = true := by decide +kernel
theorem cp_226_12 : chC 226 12 = true := by decide +kernel
theorem cp_226_13 : chC 226 13 = true := by decide +kernel
theorem cp_226_14 : chC 226 14 = true := by decide +kernel
theorem cp_226_15 : chC 226 15 = true := by decide +kernel
theorem cp_226_16 : chC 226 16 = true := by decide +kernel
theorem cp_226_17 : chC 226 17 = true := by decide +kernel
theorem cp_226_18 : chC 226 18 = true := by decide +kernel
theorem cp_226_19 : chC 226 19 = true := by decide +kernel
theorem cp_226_20 : chC 226 20 = true := by decide +kernel
theorem cp_226_21 : chC 226 21 = true := by decide +kernel
theorem cp_226_22 : chC 226 22 = true := by decide +kernel
theorem cp_226_23 : chC 226 23 = true := by decide +kernel
theorem cp_226_24 : chC 226 24 = true := by decide +kernel
theorem cp_226_25 : chC 226 25 = true := by decide +kernel
theorem cp_226_26 : chC 226 26 = true := by decide +kernel
theorem cp_226_27 : chC 226 27 = true := by decide +kernel
theorem cp_226_28 : chC 226 28 = true := by decide +kernel
theorem cp_226_29 : chC 226 29 = true := by decide +kernel
theorem cp_226_30 : chC 226 30 = true := by decide +kernel
theorem cp_226_31 : chC 226 31 = true := by decide +kernel
theorem cp_226_32 : chC 226 32 = true := by decide +kernel
theorem cp_226_33 : chC 226 33 = true := by decide +kernel
theorem cp_226_34 : chC 226 34 = true := by decide +kernel
theorem cp_226_35 : chC 226 35 = true := by decide +kernel
theorem cp_226_36 : chC 226 36 = true := by decide +kernel
theorem cp_226_37 : chC 226 37 = true := by decide +kernel
theorem cp_226_38 : chC 226 38 = true := by decide +kernel
theorem cp_226_39 : chC 226 39 = true := by decide +kernel
theorem cp_226_40 : chC 226 40 = true := by decide +kernel
theorem cp_226_41 : chC 226 41 = true := by decide +kernel
theorem cp_226_42 : chC 226 42 = true := by decide +kernel
theorem cp_226_43 : chC 226 43 = true := by decide +kernel
theorem cp_226_44 : chC 226 44 = true := by decide +kernel
theorem cp_226_45 : chC 226 45 = true := by decide +kernel
theorem cp_226_46 : chC 226 46 = true := by decide +kernel
theorem cp_226_47 : chC 226 47 = true := by decide +kernel
theorem ck_226 : ∀ i, chX 226 i = true := chX_of (n := 48) (by decide +kernel) (fun q hq => match q, hq with
  | 0, _ => cp_226_0
  | 1, _ => cp_226_1
  | 2, _ => cp_226_2
  | 3, _ => cp_226_3
  | 4, _ => cp_226_4
  | 5, _ => cp_226_5
  | 6, _ => cp_226_6
  | 7, _ => cp_226_7
  | 8, _ => cp_226_8
  | 9, _ => cp_226_9
  | 10, _ => cp_226_10
  | 11, _ => cp_226_11
  | 12, _ => cp_226_12
  | 13, _ => cp_226_13
  | 14, _ => cp_226_14
  | 15, _ => cp_226_15
  | 16, _ => cp_226_16
  | 17, _ => cp_226_17
  | 18, _ => cp_226_18
  | 19, _ => cp_226_19
  | 20, _ => cp_226_20
  | 21, _ => cp_226_21
  | 22, _ => cp_226_22
  | 23, _ => cp_226_23
  | 24, _ => cp_226_24
  | 25, _ => cp_226_25
  | 26, _ => cp_226_26
  | 27, _ => cp_226_27
  | 28, _ => cp_226_28
  | 29, _ => cp_226_29
  | 30, _ => cp_226_30
  | 31, _ => cp_226_31
  | 32, _ => cp_226_32
  | 33, _ => cp_226_33
  | 34, _ => cp_226_34
  | 35, _ => cp_226_35
  | 36, _ => cp_226_36
  | 37, _ => cp_226_37
  | 38, _ => cp_226_38
  | 39, _ => cp_226_39
  | 40, _ => cp_226_40
  | 41, _ => cp_226_41
  | 42, _ => cp_226_42
  | 43, _ => cp_226_43
  | 44, _ => cp_226_44
  | 45, _ => cp_226_45
  | 46, _ => cp_226_46
  | 47, _ => cp_226_47
  | q + 48, hq => absurd hq (by omega))
def mN : Nat := 227
theorem cm_all : ∀ i, i < 227 → cwM i = true := by
  intro i hi
  match i, hi with
  | 0, _ => exact cm_0
  | 1, _ => exact cm_1
  | 2, _ => exact cm_2
  | 3, _ => exact cm_3
  | 4, _ => exact cm_4
  | 5, _ => exact cm_5
  | 6, _ => exact cm_6
  | 7, _ => exact cm_7
  | 8, _ => exact cm_8
  | 9, _ => exact cm_9
  | 10, _ => exact cm_10
  | 11, _ => exact cm_11
  | 12, _ => exact cm_12
  | 13, _ => exact cm_13
  | 14, _ => exact cm_14
  | 15, _ => exact cm_15
  | 16, _ => exact cm_16
  | 17, _ => exact cm_17
  | 18, _ => exact cm_18
  | 19, _ => exact cm_19
  | 20, _ => exact cm_20
  | 21, _ => exact cm_21
  | 22, _ => exact cm_22
  | 23, _ => exact cm_23
  | 24, _ => exact cm_24
  | 25, _ => exact cm_25
  | 26, _ => exact cm_26
  | 27, _ => exact cm_27
  | 28, _ => exact cm_28
  | 29, _ => exact cm_29
  | 30, _ => exact cm_30
  | 31, _ => exact cm_31
  | 32, _ => exact cm_32
  | 33, _ => exact cm_33
  | 34, _ => exact cm_34
  | 35, _ => exact cm_35
  | 36, _ => exact cm_36
  | 37, _ => exact cm_37
  | 38, _ => exact cm_38
  | 39, _ => exact cm_39
  | 40, _ => exact cm_40
  | 41, _ => exact cm_41
  | 42, _ => exact cm_42
  | 43, _ => exact cm_43
  | 44, _ => exact cm_44
  | 45, _ => exact cm_45
  | 46, _ => exact cm_46
  | 47, _ => exact cm_47
  | 48, _ => exact cm_48
  | 49, _ => exact cm_49
  | 50, _ => exact cm_50
  | 51, _ => exact cm_51
  | 52, _ => exact cm_52
  | 53, _ => exact cm_53
  | 54, _ => exact cm_54
  | 55, _ => exact cm_55
  | 56, _ => exact cm_56
  | 57, _ => exact cm_57
  | 58, _ => exact cm_58
  | 59, _ => exact cm_59
  | 60, _ => exact cm_60
  | 61, _ => exact cm_61
  | 62, _ => exact cm_62
  | 63, _ => exact cm_63
  | 64, _ => exact cm_64
  | 65, _ => exact cm_65
  | 66, _ => exact cm_66
  | 67, _ => exact cm_67
  | 68, _ => exact cm_68
  | 69, _ => exact cm_69
  | 70, _ => exact cm_70
  | 71, _ => exact cm_71
  | 72, _ => exact cm_72
  | 73, _ => exact cm_73
  | 74, _ => exact cm_74
  | 75, _ => exact cm_75
  | 76, _ => exact cm_76
  | 77, _ => exact cm_77
  | 78, _ => exact cm_78
  | 79, _ => exact cm_79
  | 80, _ => exact cm_80
  | 81, _ => exact cm_81
  | 82, _ => exact cm_82
  | 83, _ => exact cm_83
  | 84, _ => exact cm_84
  | 85, _ => exact cm_85
  | 86, _ => exact cm_86
  | 87, _ => exact cm_87
  | 88, _ => exact cm_88
  | 89, _ => exact cm_89
  | 90, _ => exact cm_90
  | 91, _ => exact cm_91
  | 92, _ => exact cm_92
  | 93, _ => exact cm_93
  | 94, _ => exact cm_94
  | 95, _ => exact cm_95
  | 96, _ => exact cm_96
  | 97, _ => exact cm_97
  | 98, _ => exact cm_98
  | 99, _ => exact cm_99
  | 100, _ => exact cm_100
  | 101, _ => exact cm_101
  | 102, _ => exact cm_102
  | 103, _ => exact cm_103
  | 104, _ => exact cm_104
  | 105, _ => exact cm_105
  | 106, _ => exact cm_106
  | 107, _ => exact cm_107
  | 108, _ => exact cm_108
  | 109, _ => exact cm_109
  | 110, _ => exact cm_110
  | 111, _ => exact cm_111
  | 112, _ => exact cm_112
  | 113, _ => exact cm_113
  | 114, _ => exact cm_114
  | 115, _ => exact cm_115
  | 116, _ => exact cm_116
  | 117, _ => exact cm_117
  | 118, _ => exact cm_118
  | 119, _ => exact cm_119
  | 120, _ => exact cm_120
  | 121, _ => exact cm_121
  | 122, _ => exact cm_122
  | 123, _ => exact cm_123
  | 124, _ => exact cm_124
  | 125, _ => exact cm_125
  | 126, _ => exact cm_126
  | 127, _ => exact cm_127
  | 128, _ => exact cm_128
  | 129, _ => exact cm_129
  | 130, _ => exact cm_130
  | 131, _ => exact cm_131
  | 132, _ => exact cm_132
  | 133, _ => exact cm_133
  | 134, _ => exact cm_134
  | 135, _ => exact cm_135
  | 136, _ => exact cm_136
  | 137, _ => exact cm_137
  | 138, _ => exact cm_138
  | 139, _ => exact cm_139
  | 140, _ => exact cm_140
  | 141, _ => exact cm_141
  | 142, _ => exact cm_142
  | 143, _ => exact cm_143
  | 144, _ => exact cm_144
  | 145, _ => exact cm_145
  | 146, _ => exact cm_146
  | 147, _ => exact cm_147
  | 148, _ => exact cm_148
  | 149, _ => exact cm_149
  | 150, _ => exact cm_150
  | 151, _ => exact cm_151
  | 152, _ => exact cm_152
  | 153, _ => exact cm_153
  | 154, _ => exact cm_154
  | 155, _ => exact cm_155
  | 156, _ => exact cm_156
  | 157, _ => exact cm_157
  | 158, _ => exact cm_158
  | 159, _ => exact cm_159
  | 160, _ => exact cm_160
  | 161, _ => exact cm_161
  | 162, _ => exact cm_162
  | 163, _ => exact cm_163
  | 164, _ => exact cm_164
  | 165, _ => exact cm_165
  | 166, _ => exact cm_166
  | 167, _ => exact cm_167
  | 168, _ => exact cm_168
  | 169, _ => exact cm_169
  | 170, _ => exact cm_170
  | 171, _ => exact cm_171
  | 172, _ => exact cm_172
  | 173, _ => exact cm_173
  | 174, _ => exact cm_174
  | 175, _ => exact cm_175
  | 176, _ => exact cm_176
  | 177, _ => exact cm_177
  | 178, _ => exact cm_178
  | 179, _ => exact cm_179
  | 180, _ => exact cm_180
  | 181, _ => exact cm_181
  | 182, _ => exact cm_182
  | 183, _ => exact cm_183
  | 184, _ => exact cm_184
  | 185, _ => exact cm_185
  | 186, _ => exact cm_186
  | 187, _ => exact cm_187
  | 188, _ => exact cm_188
  | 189, _ => exact cm_189
  | 190, _ => exact cm_190
  | 191, _ => exact cm_191
  | 192, _ => exact cm_192
  | 193, _ => exact cm_193
  | 194, _ => exact cm_194
  | 195, _ => exact cm_195
  | 196, _ => exact cm_196
  | 197, _ => exact cm_197
  | 198, _ => exact cm_198
  | 199, _ => exact cm_199
  | 200, _ => exact cm_200
  | 201, _ => exact cm_201
  | 202, _ => exact cm_202
  | 203, _ => exact cm_203
  | 204, _ => exact cm_204
  | 205, _ => exact cm_205
  | 206, _ => exact cm_206
  | 207, _ => exact cm_207
  | 208, _ => exact cm_208
  | 209, _ => exact cm_209
  | 210, _ => exact cm_210
  | 211, _ => exact cm_211
  | 212, _ => exact cm_212
  | 213, _ => exact cm_213
  | 214, _ => exact cm_214
  | 215, _ => exact cm_215
  | 216, _ => exact cm_216
  | 217, _ => exact cm_217
  | 218, _ => exact cm_218
  | 219, _ => exact cm_219
  | 220, _ => exact cm_220
  | 221, _ => exact cm_221
  | 222, _ => exact cm_222
  | 223, _ => exact cm_223
  | 224, _ => exact cm_224
  | 225, _ => exact cm_225
  | 226, _ => exact cm_226
  | k + 227, hi => exact absurd hi (by omega)
theorem c0_all : ∀ i, i < 227 → rpc (tab i) 0 = 0 := by
  intro i hi
  match i, hi with
  | 0, _ => exact c0_0
  | 1, _ => exact c0_1
  | 2, _ => exact c0_2
  | 3, _ => exact c0_3
  | 4, _ => exact c0_4
  | 5, _ => exact c0_5
  | 6, _ => exact c0_6
  | 7, _ => exact c0_7
  | 8, _ => exact c0_8
  | 9, _ => exact c0_9
  | 10, _ => exact c0_10
  | 11, _ => exact c0_11
  | 12, _ => exact c0_12
  | 13, _ => exact c0_13
  | 14, _ => exact c0_14
  | 15, _ => exact c0_15
  | 16, _ => exact c0_16
  | 17, _ => exact c0_17
  | 18, _ => exact c0_18
  | 19, _ => exact c0_19
  | 20, _ => exact c0_20
  | 21, _ => exact c0_21
  | 22, _ => exact c0_22
  | 23, _ => exact c0_23
  | 24, _ => exact c0_24
  | 25, _ => exact c0_25
  | 26, _ => exact c0_26
  | 27, _ => exact c0_27
  | 28, _ => exact c0_28
  | 29, _ => exact c0_29
  | 30, _ => exact c0_30
  | 31, _ => exact c0_31
  | 32, _ => exact c0_32
  | 33, _ => exact c0_33
  | 34, _ => exact c0_34
  | 35, _ => exact c0_35
  | 36, _ => exact c0_36
  | 37, _ => exact c0_37
  | 38, _ => exact c0_38
  | 39, _ => exact c0_39
  | 40, _ => exact c0_40
  | 41, _ => exact c0_41
  | 42, _ => exact c0_42
  | 43, _ => exact c0_43
  | 44, _ => exact c0_44
  | 45, _ => exact c0_45
  | 46, _ => exact c0_46
  | 47, _ => exact c0_47
  | 48, _ => exact c0_48
  | 49, _ => exact c0_49
  | 50, _ => exact c0_50
  | 51, _ => exact c0_51
  | 52, _ => exact c0_52
  | 53, _ => exact c0_53
  | 54, _ => exact c0_54
  | 55, _ => exact c0_55
  | 56, _ => exact c0_56
  | 57, _ => exact c0_57
  | 58, _ => exact c0_58
  | 59, _ => exact c0_59
  | 60, _ => exact c0_60
  | 61, _ => exact c0_61
  | 62, _ => exact c0_62
  | 63, _ => exact c0_63
  | 64, _ => exact c0_64
  | 65, _ => exact c0_65
  | 66, _ => exact c0_66
  | 67, _ => exact c0_67
  | 68, _ => exact c0_68
  | 69, _ => exact c0_69
  | 70, _ => exact c0_70
  | 71, _ => exact c0_71
  | 72, _ => exact c0_72
  | 73, _ => exact c0_73
  | 74, _ => exact c0_74
  | 75, _ => exact c0_75
  | 76, _ => exact c0_76
  | 77, _ => exact c0_77
  | 78, _ => exact c0_78
  | 79, _ => exact c0_79
  | 80, _ => exact c0_80
  | 81, _ => exact c0_81
  | 82, _ => exact c0_82
  | 83, _ => exact c0_83
  | 84, _ => exact c0_84
  | 85, _ => exact c0_85
  | 86, _ => exact c0_86
  | 87, _ => exact c0_87
  | 88, _ => exact c0_88
  | 89, _ => exact c0_89
  | 90, _ => exact c0_90
  | 91, _ => exact c0_91
  | 92, _ => exact c0_92
  | 93, _ => exact c0_93
  | 94, _ => exact c0_94
  | 95, _ => exact c0_95
  | 96, _ => exact c0_96
  | 97, _ => exact c0_97
  | 98, _ => exact c0_98
  | 99, _ => exact c0_99
  | 100, _ => exact c0_100
  | 101, _ => exact c0_101
  | 102, _ => exact c0_102
  | 103, _ => exact c0_103
  | 104, _ => exact c0_104
  | 105, _ => exact c0_105
  | 106, _ => exact c0_106
  | 107, _ => exact c0_107
  | 108, _ => exact c0_108
  | 109, _ => exact c0_109
  | 110, _ => exact c0_110
  | 111, _ => exact c0_111
  | 112, _ => exact c0_112
  | 113, _ => exact c0_113
  | 114, _ => exact c0_114
  | 115, _ => exact c0_115
  | 116, _ => exact c0_116
  | 117, _ => exact c0_117
  | 118, _ => exact c0_118
  | 119, _ => exact c0_119
  | 120, _ => exact c0_120
  | 121, _ => exact c0_121
  | 122, _ => exact c0_122
  | 123, _ => exact c0_123
  | 124, _ => exact c0_124
  | 125, _ => exact c0_125
  | 126, _ => exact c0_126
  | 127, _ => exact c0_127
  | 128, _ => exact c0_128
  | 129, _ => exact c0_129
  | 130, _ => exact c0_130
  | 131, _ => exact c0_131
  | 132, _ => exact c0_132
  | 133, _ => exact c0_133
  | 134, _ => exact c0_134
  | 135, _ => exact c0_135
  | 136, _ => exact c0_136
  | 137, _ => exact c0_137
  | 138, _ => exact c0_138
  | 139, _ => exact c0_139
  | 140, _ => exact c0_140
  | 141, _ => exact c0_141
  | 142, _ => exact c0_142
  | 143, _ => exact c0_143
  | 144, _ => exact c0_144
  | 145, _ => exact c0_145
  | 146, _ => exact c0_146
  | 147, _ => exact c0_147
  | 148, _ => exact c0_148
  | 149, _ => exact c0_149
  | 150, _ => exact c0_150
  | 151, _ => exact c0_151
  | 152, _ => exact c0_152
  | 153, _ => exact c0_153
  | 154, _ => exact c0_154
  | 155, _ => exact c0_155
  | 156, _ => exact c0_156
  | 157, _ => exact c0_157
  | 158, _ => exact c0_158
  | 159, _ => exact c0_159
  | 160, _ => exact c0_160
  | 161, _ => exact c0_161
  | 162, _ => exact c0_162
  | 163, _ => exact c0_163
  | 164, _ => exact c0_164
  | 165, _ => exact c0_165
  | 166, _ => exact c0_166
  | 167, _ => exact c0_167
  | 168, _ => exact c0_168
  | 169, _ => exact c0_169
  | 170, _ => exact c0_170
  | 171, _ => exact c0_171
  | 172, _ => exact c0_172
  | 173, _ => exact c0_173
  | 174, _ => exact c0_174
  | 175, _ => exact c0_175
  | 176, _ => exact c0_176
  | 177, _ => exact c0_177
  | 178, _ => exact c0_178
  | 179, _ => exact c0_179
  | 180, _ => exact c0_180
  | 181, _ => exact c0_181
  | 182, _ => exact c0_182
  | 183, _ => exact c0_183
  | 184, _ => exact c0_184
  | 185, _ => exact c0_185
  | 186, _ => exact c0_186
  | 187, _ => exact c0_187
  | 188, _ => exact c0_188
  | 189, _ => exact c0_189
  | 190, _ => exact c0_190
  | 191, _ => exact c0_191
  | 192, _ => exact c0_192
  | 193, _ => exact c0_193
  | 194, _ => exact c0_194
  | 195, _ => exact c0_195
  | 196, _ => exact c0_196
  | 197, _ => exact c0_197
  | 198, _ => exact c0_198
  | 199, _ => exact c0_199
  | 200, _ => exact c0_200
  | 201, _ => exact c0_201
  | 202, _ => exact c0_202
  | 203, _ => exact c0_203
  | 204, _ => exact c0_204
  | 205, _ => exact c0_205
  | 206, _ => exact c0_206
  | 207, _ => exact c0_207
  | 208, _ => exact c0_208
  | 209, _ => exact c0_209
  | 210, _ => exact c0_210
  | 211, _ => exact c0_211
  | 212, _ => exact c0_212
  | 213, _ => exact c0_213
  | 214, _ => exact c0_214
  | 215, _ => exact c0_215
  | 216, _ => exact c0_216
  | 217, _ => exact c0_217
  | 218, _ => exact c0_218
  | 219, _ => exact c0_219
  | 220, _ => exact c0_220
  | 221, _ => exact c0_221
  | 222, _ => exact c0_222
  | 223, _ => exact c0_223
  | 224, _ => exact c0_224
  | 225, _ => exact c0_225
  | 226, _ => exact c0_226
  | k + 227, hi => exact absurd hi (by omega)
theorem ck_all : ∀ i, i < 227 → ∀ j, chX i j = true := by
  intro i hi
  match i, hi with
  | 0, _ => exact ck_0
  | 1, _ => exact ck_1
  | 2, _ => exact ck_2
  | 3, _ => exact ck_3
  | 4, _ => exact ck_4
  | 5, _ => exact ck_5
  | 6, _ => exact ck_6
  | 7, _ => exact ck_7
  | 8, _ => exact ck_8
  | 9, _ => exact ck_9
  | 10, _ => exact ck_10
  | 11, _ => exact ck_11
  | 12, _ => exact ck_12
  | 13, _ => exact ck_13
  | 14, _ => exact ck_14
  | 15, _ => exact ck_15
  | 16, _ => exact ck_16
  | 17, _ => exact ck_17
  | 18, _ => exact ck_18
  | 19, _ => exact ck_19
  | 20, _ => exact ck_20
  | 21, _ => exact ck_21
  | 22, _ => exact ck_22
  | 23, _ => exact ck_23
  | 24, _ => exact ck_24
  | 25, _ => exact ck_25
  | 26, _ => exact ck_26
  | 27, _ => exact ck_27
  | 28, _ => exact ck_28
  | 29, _ => exact ck_29
  | 30, _ => exact ck_30
  | 31, _ => exact ck_31
  | 32, _ => exact ck_32
  | 33, _ => exact ck_33
  | 34, _ => exact ck_34
  | 35, _ => exact ck_35
  | 36, _ => exact ck_36
  | 37, _ => exact ck_37
  | 38, _ => exact ck_38
  | 39, _ => exact ck_39
  | 40, _ => exact ck_40
  | 41, _ => exact ck_41
  | 42, _ => exact ck_42
  | 43, _ => exact ck_43
  | 44, _ => exact ck_44
  | 45, _ => exact ck_45
  | 46, _ => exact ck_46
  | 47, _ => exact ck_47
  | 48, _ => exact ck_48
  | 49, _ => exact ck_49
  | 50, _ => exact ck_50
  | 51, _ => exact ck_51
  | 52, _ => exact ck_52
  | 53, _ => exact ck_53
  | 54, _ => exact ck_54
  | 55, _ => exact ck_55
  | 56, _ => exact ck_56
  | 57, _ => exact ck_57
  | 58, _ => exact ck_58
  | 59, _ => exact ck_59
  | 60, _ => exact ck_60
  | 61, _ => exact ck_61
  | 62, _ => exact ck_62
  | 63, _ => exact ck_63
  | 64, _ => exact ck_64
  | 65, _ => exact ck_65
  | 66, _ => exact ck_66
  | 67, _ => exact ck_67
  | 68, _ => exact ck_68
  | 69, _ => exact ck_69
  | 70, _ => exact ck_70
  | 71, _ => exact ck_71
  | 72, _ => exact ck_72
  | 73, _ => exact ck_73
  | 74, _ => exact ck_74
  | 75, _ => exact ck_75
  | 76, _ => exact ck_76
  | 77, _ => exact ck_77
  | 78, _ => exact ck_78
  | 79, _ => exact ck_79
  | 80, _ => exact ck_80
  | 81, _ => exact ck_81
  | 82, _ => exact ck_82
  | 83, _ => exact ck_83
  | 84, _ => exact ck_84
  | 85, _ => exact ck_85
  | 86, _ => exact ck_86
  | 87, _ => exact ck_87
  | 88, _ => exact ck_88
  | 89, _ => exact ck_89
  | 90, _ => exact ck_90
  | 91, _ => exact ck_91
  | 92, _ => exact ck_92
  | 93, _ => exact ck_93
  | 94, _ => exact ck_94
  | 95, _ => exact ck_95
  | 96, _ => exact ck_96
  | 97, _ => exact ck_97
  | 98, _ => exact ck_98
  | 99, _ => exact ck_99
  | 100, _ => exact ck_100
  | 101, _ => exact ck_101
  | 102, _ => exact ck_102
  | 103, _ => exact ck_103
  | 104, _ => exact ck_104
  | 105, _ => exact ck_105
  | 106, _ => exact ck_106
  | 107, _ => exact ck_107
  | 108, _ => exact ck_108
  | 109, _ => exact ck_109
  | 110, _ => exact ck_110
  | 111, _ => exact ck_111
  | 112, _ => exact ck_112
  | 113, _ => exact ck_113
  | 114, _ => exact ck_114
  | 115, _ => exact ck_115
  | 116, _ => exact ck_116
  | 117, _ => exact ck_117
  | 118, _ => exact ck_118
  | 119, _ => exact ck_119
  | 120, _ => exact ck_120
  | 121, _ => exact ck_121
  | 122, _ => exact ck_122
  | 123, _ => exact ck_123
  | 124, _ => exact ck_124
  | 125, _ => exact ck_125
  | 126, _ => exact ck_126
  | 127, _ => exact ck_127
  | 128, _ => exact ck_128
  | 129, _ => exact ck_129
  | 130, _ => exact ck_130
  | 131, _ => exact ck_131
  | 132, _ => exact ck_132
  | 133, _ => exact ck_133
  | 134, _ => exact ck_134
  | 135, _ => exact ck_135
  | 136, _ => exact ck_136
  | 137, _ => exact ck_137
  | 138, _ => exact ck_138
  | 139, _ => exact ck_139
  | 140, _ => exact ck_140
  | 141, _ => exact ck_141
  | 142, _ => exact ck_142
  | 143, _ => exact ck_143
  | 144, _ => exact ck_144
  | 145, _ => exact ck_145
  | 146, _ => exact ck_146
  | 147, _ => exact ck_147
  | 148, _ => exact ck_148
  | 149, _ => exact ck_149
  | 150, _ => exact ck_150
  | 151, _ => exact ck_151
  | 152, _ => exact ck_152
  | 153, _ => exact ck_153
  | 154, _ => exact ck_154
  | 155, _ => exact ck_155
  | 156, _ => exact ck_156
  | 157, _ => exact ck_157
  | 158, _ => exact ck_158
  | 159, _ => exact ck_159
  | 160, _ => exact ck_160
  | 161, _ => exact ck_161
  | 162, _ => exact ck_162
  | 163, _ => exact ck_163
  | 164, _ => exact ck_164
  | 165, _ => exact ck_165
  | 166, _ => exact ck_166
  | 167, _ => exact ck_167
  | 168, _ => exact ck_168
  | 169, _ => exact ck_169
  | 170, _ => exact ck_170
  | 171, _ => exact ck_171
  | 172, _ => exact ck_172
  | 173, _ => exact ck_173
  | 174, _ => exact ck_174
  | 175, _ => exact ck_175
  | 176, _ => exact ck_176
  | 177, _ => exact ck_177
  | 178, _ => exact ck_178
  | 179, _ => exact ck_179
  | 180, _ => exact ck_180
  | 181, _ => exact ck_181
  | 182, _ => exact ck_182
  | 183, _ => exact ck_183
  | 184, _ => exact ck_184
  | 185, _ => exact ck_185
  | 186, _ => exact ck_186
  | 187, _ => exact ck_187
  | 188, _ => exact ck_188
  | 189, _ => exact ck_189
  | 190, _ => exact ck_190
  | 191, _ => exact ck_191
  | 192, _ => exact ck_192
  | 193, _ => exact ck_193
  | 194, _ => exact ck_194
  | 195, _ => exact ck_195
  | 196, _ => exact ck_196
  | 197, _ => exact ck_197
  | 198, _ => exact ck_198
  | 199, _ => exact ck_199
  | 200, _ => exact ck_200
  | 201, _ => exact ck_201
  | 202, _ => exact ck_202
  | 203, _ => exact ck_203
  | 204, _ => exact ck_204
  | 205, _ => exact ck_205
  | 206, _ => exact ck_206
  | 207, _ => exact ck_207
  | 208, _ => exact ck_208
  | 209, _ => exact ck_209
  | 210, _ => exact ck_210
  | 211, _ => exact ck_211
  | 212, _ => exact ck_212
  | 213, _ => exact ck_213
  | 214, _ => exact ck_214
  | 215, _ => exact ck_215
  | 216, _ => exact ck_216
  | 217, _ => exact ck_217
  | 218, _ => exact ck_218
  | 219, _ => exact ck_219
  | 220, _ => exact ck_220
  | 221, _ => exact ck_221
  | 222, _ => exact ck_222
  | 223, _ => exact ck_223
  | 224, _ => exact ck_224
  | 225, _ => exact ck_225
  | 226, _ => exact ck_226
  | k + 227, hi => exact absurd hi (by omega)
end
section
/-! what an instruction asks, over the rest ('ih'): the machine's own throws are ruled out by what is asked -/
def swK (K : Nat → Prop) (x : Int32) (dt : Nat) : List (Int32 × Nat) → Prop
  | [] => K dt
  | (v, t) :: l => (x = v → K t) ∧ (¬ x = v → swK K x dt l)
def catS : List AV → Nat
  | [] => 0
  | v :: l => cat2 v + catS l
/-- the copied row -/
def cpI (σ : ST) (c k j c' k' j' sp dp n : Nat) : ST := uR σ c' k' j' (va_cpy (σ.1 c k j) (σ.1 c' k' j') sp dp n)
abbrev POST : Type := Option AV → ST → Prop
abbrev FR : Type := Nat × Nat → TB → Nat → List (Option AV) → List AV → ST → POST → Prop
/-- a field that is read -/
def fget (σ : ST) (c k j : Nat) : AV := match fkO c j with
  | some (0, _) => .inl (σ.1 c k (j + 1) 0)
  | some (3, _) => .inl (σ.1 c k (j + 1) 0)
  | some (1, _) => .inr (.inl (σ.2 c k (j + 1) 0))
  | some (4, _) => .inr (.inr (c, k, j + 1))
  | some (_, r) => .inr (.inr r)
  | none => .inr (.inr (0, 0, 0))
/-- an array of a kind: its length -/
def arr (N c j kd : Nat) (K : Nat → Prop) : Prop := match arO N c j with
  | some (q, L) => cond (Nat.beq q kd) (K L) False
  | none => False
def arl (N c j : Nat) (K : Nat → Prop) : Prop := match arO N c j with
  | some (q, L) => cond (Nat.beq q 0) False (K L)
  | none => False
def rfo (c j i : Nat) (K : AV → Prop) : Prop := match rafO c j i with
  | some (c, k, j) => K (.inr (.inr (c, k, j)))
  | none => False
def brI (cd : ClassFile.Cond) (x y : Int32) : Prop := match cd with
  | .eq => x = y
  | .ne => ¬ x = y
  | .lt => x < y
  | .ge => y ≤ x
  | .gt => y < x
  | .le => x ≤ y
def ldI (ls : List (Option AV)) (k : Nat) (K : AV → Prop) : Prop := match nth none ls k with
  | some (.inl x) => K (.inl x)
  | _ => False
def ldJ (ls : List (Option AV)) (k : Nat) (K : AV → Prop) : Prop := match nth none ls k with
  | some (.inr (.inl x)) => K (.inr (.inl x))
  | _ => False
def ldR (ls : List (Option AV)) (k : Nat) (K : AV → Prop) : Prop := match nth none ls k with
  | some (.inr (.inr x)) => K (.inr (.inr x))
  | _ => False
def s1 (ls : List (Option AV)) (k : Nat) (v : AV) (K : List (Option AV) → Prop) : Prop := cond (inL ls k && noLg ls k) (K (stl ls k (some v))) False
def s2 (ls : List (Option AV)) (k : Nat) (v : AV) (K : List (Option AV) → Prop) : Prop := cond (inL ls (k + 1) && noLg ls k) (K (stl (stl ls k (some v)) (k + 1) none)) False
def stI (ls : List (Option AV)) (k : Nat) (st : List AV) (K : List (Option AV) → List AV → Prop) : Prop := match st with
  | .inl x :: st => s1 ls k (.inl x) (fun ls => K ls st)
  | _ => False
def stR (ls : List (Option AV)) (k : Nat) (st : List AV) (K : List (Option AV) → List AV → Prop) : Prop := match st with
  | .inr (.inr x) :: st => s1 ls k (.inr (.inr x)) (fun ls => K ls st)
  | _ => False
def stJ (ls : List (Option AV)) (k : Nat) (st : List AV) (K : List (Option AV) → List AV → Prop) : Prop := match st with
  | .inr (.inl x) :: st => s2 ls k (.inr (.inl x)) (fun ls => K ls st)
  | _ => False
def un (st : List AV) (K : Int32 → List AV → Prop) : Prop := match st with
  | .inl x :: st => K x st
  | _ => False
def bn (st : List AV) (K : Int32 → Int32 → List AV → Prop) : Prop := match st with
  | .inl y :: .inl x :: st => K x y st
  | _ => False
def unJ (st : List AV) (K : Int64 → List AV → Prop) : Prop := match st with
  | .inr (.inl x) :: st => K x st
  | _ => False
def bnJ (st : List AV) (K : Int64 → Int64 → List AV → Prop) : Prop := match st with
  | .inr (.inl y) :: .inr (.inl x) :: st => K x y st
  | _ => False
def rf (st : List AV) (K : Nat → Nat → Nat → List AV → Prop) : Prop := match st with
  | .inr (.inr (c, k, j)) :: st => K c k j st
  | _ => False
/-- a call of method a with b arguments (and, if vi, the object that it is called on) -/
def cal (ih : FR) (d : Nat × Nat) (vi : Bool) (a b : Nat) (st : List AV) (σ : ST) (K : Option AV → List AV → ST → Prop) : Prop :=
  match d.1 with
  | 0 => False
  | e + 1 => match vi, st.drop b with
    | true, .inr (.inr (c, k, 0)) :: rest => cond (Nat.beq c (inf a).1 && Nat.ble (catS rest) 8 && Nat.ble (catS (st.take b) + 1) (inf a).2 && Nat.beq (st.take b).length b) (True ∧ ih (e, 0) (tab a) 0 (ent (inf a).2 (.inr (.inr (c, k, 0)) :: (st.take b).reverse)) [] σ (fun v σ' => K v rest σ')) False
    | false, rest => cond (Nat.ble (catS rest) 8 && Nat.ble (catS (st.take b)) (inf a).2 && Nat.beq (st.take b).length b) (True ∧ ih (e, 0) (tab a) 0 (ent (inf a).2 (st.take b).reverse) [] σ (fun v σ' => K v rest σ')) False
    | _, _ => False
def psh : Option AV → List AV → List AV
  | none, st => st
  | some v, st => v :: st
def cpy (d : Nat × Nat) (N : Nat) (st : List AV) (σ : ST) (K : List AV → ST → Prop) : Prop := match d.1 with
  | 0 => False
  | _ + 1 => match st with
    | .inl n :: .inl dp :: .inr (.inr (c', k', j')) :: .inl sp :: .inr (.inr (c, k, j)) :: rest =>
      cond (not (Nat.beq c' 13) && not (Nat.beq c 13) && Nat.ble (catS rest) 8)
        (arr N c j 1 (fun L => arr N c' j' 1 (fun L' => ¬ sp < 0 ∧ ¬ dp < 0 ∧ ¬ n < 0 ∧ sp.toNatClampNeg + n.toNatClampNeg ≤ L ∧ dp.toNatClampNeg + n.toNatClampNeg ≤ L' ∧ K rest (cpI σ c k j c' k' j' sp.toNatClampNeg dp.toNatClampNeg n.toNatClampNeg)))) False
    | _ => False
/-- the law's octet(x, p, out): 0 with the byte in out, or 1 -/
def oct (d : Nat × Nat) (st : List AV) (σ : ST) (K : Nat × Nat → List AV → ST → Prop) : Prop := match d with
  | (e + 10, g + 1) => match st with
    | .inr (.inr (12, 0, 1)) :: .inl q :: .inr (.inr (10, 0, 0)) :: rest =>
      cond (Nat.ble (catS rest) 8) ((¬ (q < 0 ∨ σ.1 10 0 17 0 ≤ q ∨ 480 ≤ q) → K (e + 10, g) (.inl 0 :: rest) (uL σ 12 0 1 0 (σ.1 10 0 2 q.toNatClampNeg).toInt64)) ∧ ((q < 0 ∨ σ.1 10 0 17 0 ≤ q ∨ 480 ≤ q) → K (e + 10, g) (.inl 1 :: rest) σ)) False
    | _ => False
  | _ => False
def ldX (ls : List (Option AV)) (k : Nat) (K : Int32 → Prop) : Prop := match nth none ls k with
  | some (.inl x) => K x
  | _ => False
def d1 (st : List AV) (K : AV → List AV → Prop) : Prop := match st with
  | v :: st => cond (Nat.beq (cat2 v) 1) (K v st) False
  | _ => False
def d2 (st : List AV) (K : AV → AV → List AV → Prop) : Prop := match st with
  | v :: w :: st => cond (Nat.beq (cat2 v) 1 && Nat.beq (cat2 w) 1) (K v w st) False
  | _ => False
def ptf (a b : Nat) (st : List AV) (KI : Nat → Int32 → List AV → Prop) (KJ : Nat → Int64 → List AV → Prop) : Prop := match st with
  | .inl x :: .inr (.inr (c, k, 0)) :: st => cond (Nat.beq c a) (match (fkd a b).1 with
    | 0 => KI k x st
    | 3 => (x = 0 ∨ x = 1) ∧ KI k x st
    | _ => False) False
  | .inr (.inl x) :: .inr (.inr (c, k, 0)) :: st => cond (Nat.beq c a && Nat.beq (fkd a b).1 1) (KJ k x st) False
  | _ => False
def rtI (a : Nat) (st : List AV) (K : Int32 → Prop) : Prop := match st with
  | [.inl x] => (a = 0 ∨ x = 0 ∨ x = 1) ∧ K x
  | _ => False
def rtV (st : List AV) (K : Prop) : Prop := match st with
  | [] => K
  | _ => False
def ldcK (a d : Nat) (st : List AV) (P P2 : Prop) : Prop := cond (Nat.beq a 0) P (match d with
  | _ + 4 => cond (Nat.ble (catS st) 8) P2 False
  | _ => False)
def swi (M : TB) (i : Nat) (x : Int32) (K : Nat → Prop) : Prop := match swl M.2.1 i with
  | some (l, dt) => swK K x dt l
  | none => False
def step (N : Nat) (ih : FR) : FR := fun d M i ls st σ Q => match M.at i with
  | none => False
  | some (ins, _, nx, a, b, z) => match ins with
    | .aload k => ldR ls k (fun v => ih d M nx ls (v :: st) σ Q)
    | .aload_n k => ldR ls k.val (fun v => ih d M nx ls (v :: st) σ Q)
    | .iload k => ldI ls k (fun v => ih d M nx ls (v :: st) σ Q)
    | .iload_n k => ldI ls k.val (fun v => ih d M nx ls (v :: st) σ Q)
    | .lload k => ldJ ls k (fun v => ih d M nx ls (v :: st) σ Q)
    | .lload_n k => ldJ ls k.val (fun v => ih d M nx ls (v :: st) σ Q)
    | .istore k => stI ls k st (fun ls st => ih d M nx ls st σ Q)
    | .istore_n k => stI ls k.val st (fun ls st => ih d M nx ls st σ Q)
    | .astore k => stR ls k st (fun ls st => ih d M nx ls st σ Q)
    | .astore_n k => stR ls k.val st (fun ls st => ih d M nx ls st σ Q)
    | .lstore k => stJ ls k st (fun ls st => ih d M nx ls st σ Q)
    | .lstore_n k => stJ ls k.val st (fun ls st => ih d M nx ls st σ Q)
    | .iinc k n => ldX ls k (fun x => s1 ls k (.inl (x + Int32.ofInt n)) (fun ls => ih d M nx ls st σ Q))
    | .iconst n => ih d M nx ls (.inl (Int32.ofInt n) :: st) σ Q
    | .bipush n => ih d M nx ls (.inl (Int8.ofInt n).toInt32 :: st) σ Q
    | .sipush n => ih d M nx ls (.inl (Int16.ofInt n).toInt32 :: st) σ Q
    | .lconst n => ih d M nx ls (.inr (.inl (Int64.ofNat n.val)) :: st) σ Q
    | .ldc _ => ldcK a d.1 st (ih d M nx ls (.inl (Int32.ofInt z) :: st) σ Q) (ih d M nx ls (.inr (.inl (Int64.ofInt z)) :: st) σ Q)
    | .ldc2_w _ => ih d M nx ls (.inr (.inl (Int64.ofInt z)) :: st) σ Q
    | .iadd => bn st (fun x y st => ih d M nx ls (.inl (x + y) :: st) σ Q)
    | .isub => bn st (fun x y st => ih d M nx ls (.inl (x - y) :: st) σ Q)
    | .imul => bn st (fun x y st => ih d M nx ls (.inl (x * y) :: st) σ Q)
    | .idiv => bn st (fun x y st => ¬ y = 0 ∧ ih d M nx ls (.inl (x / y) :: st) σ Q)
    | .irem => bn st (fun x y st => ¬ y = 0 ∧ ih d M nx ls (.inl (x - x / y * y) :: st) σ Q)
    | .iand => bn st (fun x y st => ih d M nx ls (.inl (x &&& y) :: st) σ Q)
    | .ior => bn st (fun x y st => ih d M nx ls (.inl (x ||| y) :: st) σ Q)
    | .ishl => bn st (fun x y st => ih d M nx ls (.inl (x <<< (y &&& 31)) :: st) σ Q)
    | .ishr => bn st (fun x y st => ih d M nx ls (.inl (x >>> (y &&& 31)) :: st) σ Q)
    | .iushr => bn st (fun x y st => ih d M nx ls (.inl (x.toUInt32 >>> (y.toUInt32 &&& Int32.toUInt32 31)).toInt32 :: st) σ Q)
    | .ineg => un st (fun x st => ih d M nx ls (.inl (-x) :: st) σ Q)
    | .i2l => un st (fun x st => ih d M nx ls (.inr (.inl x.toInt64) :: st) σ Q)
    | .l2i => unJ st (fun x st => ih d M nx ls (.inl x.toInt32 :: st) σ Q)
    | .ladd => bnJ st (fun x y st => ih d M nx ls (.inr (.inl (x + y)) :: st) σ Q)
    | .lsub => bnJ st (fun x y st => ih d M nx ls (.inr (.inl (x - y)) :: st) σ Q)
    | .lmul => bnJ st (fun x y st => ih d M nx ls (.inr (.inl (x * y)) :: st) σ Q)
    | .ldiv => bnJ st (fun x y st => ¬ y = 0 ∧ ih d M nx ls (.inr (.inl (x / y)) :: st) σ Q)
    | .lrem => bnJ st (fun x y st => ¬ y = 0 ∧ ih d M nx ls (.inr (.inl (x - x / y * y)) :: st) σ Q)
    | .lcmp => bnJ st (fun x y st => ih d M nx ls (.inl (lg_cmp x y) :: st) σ Q)
    | .dup => d1 st (fun v st => ih d M nx ls (v :: v :: st) σ Q)
    | .dup2 => d2 st (fun v w st => ih d M nx ls (v :: w :: v :: w :: st) σ Q)
    | .pop => d1 st (fun _ st => ih d M nx ls st σ Q)
    | .goto _ => True ∧ ih d M a ls st σ Q
    | .if_icmp cd _ => bn st (fun x y st => (brI cd x y → ih d M a ls st σ Q) ∧ (¬ brI cd x y → ih d M nx ls st σ Q))
    | .ifCond cd _ => un st (fun x st => (brI cd x 0 → ih d M a ls st σ Q) ∧ (¬ brI cd x 0 → ih d M nx ls st σ Q))
    | .ifnull _ => rf st (fun _ _ _ st => ih d M nx ls st σ Q)
    | .ifnonnull _ => rf st (fun _ _ _ st => ih d M a ls st σ Q)
    | .tableswitch _ _ _ _ => un st (fun x st => swi M i x (fun t => ih d M t ls st σ Q))
    | .lookupswitch _ _ => un st (fun x st => swi M i x (fun t => ih d M t ls st σ Q))
    | .getfield _ => rf st (fun c k j st => cond (Nat.beq c a && Nat.beq j 0) (ih d M nx ls (fget σ c k b :: st) σ Q) False)
    | .putfield _ => ptf a b st (fun k x st => ih d M nx ls st (uI σ a k (b + 1) 0 x) Q) (fun k x st => ih d M nx ls st (uL σ a k (b + 1) 0 x) Q)
    | .iaload => un st (fun x st => rf st (fun c k j st => arr N c j 1 (fun L => vp_in x L ∧ ih d M nx ls (.inl (σ.1 c k j x.toNatClampNeg) :: st) σ Q)))
    | .laload => un st (fun x st => rf st (fun c k j st => arr N c j 2 (fun L => vp_in x L ∧ ih d M nx ls (.inr (.inl (σ.2 c k j x.toNatClampNeg)) :: st) σ Q)))
    | .aaload => un st (fun x st => rf st (fun c _ j st => arr N c j 3 (fun L => vp_in x L ∧ rfo c j x.toNatClampNeg (fun v => ih d M nx ls (v :: st) σ Q))))
    | .iastore => bn st (fun x y st => rf st (fun c k j st => cond (Nat.beq c 13) False (arr N c j 1 (fun L => vp_in x L ∧ ih d M nx ls st (uI σ c k j x.toNatClampNeg y) Q))))
    | .lastore => unJ st (fun y st => un st (fun x st => rf st (fun c k j st => arr N c j 2 (fun L => vp_in x L ∧ ih d M nx ls st (uL σ c k j x.toNatClampNeg y) Q))))
    | .arraylength => rf st (fun c _ j st => arl N c j (fun L => ih d M nx ls (.inl (Int32.ofNat L) :: st) σ Q))
    | .invokevirtual _ => cal ih d true a b st σ (fun v st σ => ih d M nx ls (psh v st) σ Q)
    | .invokestatic _ => cond (Nat.beq a 900) (cpy d N st σ (fun st σ => ih d M nx ls st σ Q)) (cond (Nat.beq a 901) (oct d st σ (fun d st σ => ih d M nx ls st σ Q)) (cal ih d false a b st σ (fun v st σ => ih d M nx ls (psh v st) σ Q)))
    | .ireturn => rtI a st (fun x => Q (some (.inl x)) σ)
    | .return_ => rtV st (Q none σ)
    | _ => False
def wp (N : Nat) : Nat → FR
  | 0 => fun _ _ _ _ _ _ _ => False
  | n + 1 => step N (wp N n)
theorem wp_succ (N n : Nat) : wp N (n + 1) = step N (wp N n) := rfl
end
section
/-! how the machine's heap and locals stand to a state of IL -/
def tr (ad : RF → Nat) : AV → Value
  | .inl x => .int x
  | .inr (.inl x) => .long x
  | .inr (.inr r) => .ref (ad r)
def nfs (c : Nat) : Nat := (nth [] fkT c).length
/-- all cells -/
def idl : List RF := ((List.range 12).flatMap fun c => (List.range (nth 0 cnT c)).flatMap fun k => (c, k, 0) :: ((List.range (nth [] akT c).length).filter (fun j => !(Nat.beq (akd c j).1 0))).map (fun j => (c, k, j + 1))) ++ [(12, 0, 1)]
def celA (cy : Nat × Nat × Nat × Nat) (ad : RF → Nat) (σ : ST) (c k j : Nat) (q : Nat × Nat) : va_E := match q with
  | (1, L) => .inl (cy.1, L, .inl (σ.1 c k (j + 1)))
  | (2, L) => .inl (cy.2.1, L, .inr (.inl (σ.2 c k (j + 1))))
  | (_, L) => .inl (cond (Nat.beq (raf c (j + 1) 0).1 7) cy.2.2.2 cy.2.2.1, L, .inr (.inr (.inr (.inr (fun i => some (ad (raf c (j + 1) i)))))))
def cel (cy : Nat × Nat × Nat × Nat) (ad : RF → Nat) (σ : ST) (r : RF) : va_E := match r with
  | (c, k, 0) => .inr (c, (List.range (nfs c)).map (fun j => tr ad (fget σ c k j)))
  | (c, k, j + 1) => celA cy ad σ c k j (akd c j)
def wsl (cy : Nat × Nat × Nat × Nat) (ad : RF → Nat) (σ : ST) : va_W := idl.map (fun r => (ad r, cel cy ad σ r))
def tyl (cy : Nat × Nat × Nat × Nat) : List (ClassId × FieldType) := [(cy.1, .int), (cy.2.1, .long), (cy.2.2.1, .object RX3), (cy.2.2.2, .object RX3)]
theorem idl_nd : idl.Nodup := by decide +kernel
theorem idl_c : ∀ r ∈ idl, r.1 ≤ 12 ∧ (r.2.2 = 0 → r.1 < 12) := by decide +kernel
theorem idl_arr : ∀ r ∈ idl, r.2.2 ≠ 0 → (akd r.1 (r.2.2 - 1)).1 ≠ 0 ∧ (r.1 < 12 → (fkd r.1 (r.2.2 - 1)).1 = 4) := by decide +kernel
theorem idl_fldB : (idl.all fun r => !(Nat.beq r.2.2 0) || (List.range (nfs r.1)).all fun j => (!(Nat.beq (fkd r.1 j).1 4) || idl.contains (r.1, r.2.1, j + 1)) && (!(Nat.beq (fkd r.1 j).1 2) || idl.contains (fkd r.1 j).2) && Nat.ble (fkd r.1 j).1 4) = true := by decide +kernel
theorem idl_fld : ∀ r ∈ idl, r.2.2 = 0 → ∀ j, j < nfs r.1 → ((fkd r.1 j).1 = 4 → (r.1, r.2.1, j + 1) ∈ idl) ∧ ((fkd r.1 j).1 = 2 → (fkd r.1 j).2 ∈ idl) ∧ (fkd r.1 j).1 ≤ 4 := by
  intro r hr h0 j hj
  have h1 := List.all_eq_true.mp idl_fldB r hr
  rw [h0] at h1
  have h2 := List.all_eq_true.mp h1 j (List.mem_range.mpr hj)
  simp only [Bool.and_eq_true, Bool.or_eq_true, Bool.not_eq_true', List.contains_iff_mem, Nat.ble_eq] at h2
  obtain ⟨⟨h3, h4⟩, h5⟩ := h2
  refine ⟨fun e => h3.resolve_left ?_, fun e => h4.resolve_left ?_, h5⟩
  · rw [e]; decide
  · rw [e]; decide
theorem fget_eq (σ : ST) (c k j : Nat) : fget σ c k j = match fkd c j with
  | (0, _) => .inl (σ.1 c k (j + 1) 0)
  | (3, _) => .inl (σ.1 c k (j + 1) 0)
  | (1, _) => .inr (.inl (σ.2 c k (j + 1) 0))
  | (4, _) => .inr (.inr (c, k, j + 1))
  | (_, r) => .inr (.inr r) := by
  unfold fget fkd
  cases fkO c j with
  | none => rfl
  | some q =>
    obtain ⟨q0, q1⟩ := q
    match q0 with
    | 0 => rfl
    | 1 => rfl
    | 2 => rfl
    | 3 => rfl
    | 4 => rfl
    | n + 5 => rfl
theorem idl_raf : ∀ r ∈ idl, (akd r.1 (r.2.2 - 1)).1 = 3 → ∀ i, i < (akd r.1 (r.2.2 - 1)).2 → raf r.1 r.2.2 i ∈ idl ∧ (raf r.1 r.2.2 i).1 = (raf r.1 r.2.2 0).1 := by decide +kernel
theorem fkd_ty : ∀ c, c < 12 → ∀ j, j < nfs c → ((fkd c j).1 = 0 → (Tf c j).2.2 = ("I", false)) ∧ ((fkd c j).1 = 1 → (Tf c j).2.2 = ("J", false)) ∧ ((fkd c j).1 = 3 → (Tf c j).2.2 = ("Z", false)) := by decide +kernel
theorem wsl_at (cy : Nat × Nat × Nat × Nat) (ad : RF → Nat) (σ : ST) {r : RF} (h : r ∈ idl) : ∃ q : Nat, idl[q]? = some r ∧ (wsl cy ad σ)[q]? = some (ad r, cel cy ad σ r) := by
  obtain ⟨q, hq⟩ := List.getElem?_of_mem h
  exact ⟨q, hq, by unfold wsl; rw [List.getElem?_map, hq]; rfl⟩
theorem wsl_set {cy : Nat × Nat × Nat × Nat} {ad : RF → Nat} {σ σ' : ST} {r : RF} {q : Nat} {e : va_E} (hq : idl[q]? = some r) (he : cel cy ad σ' r = e) (ho : ∀ r' ∈ idl, r' ≠ r → cel cy ad σ' r' = cel cy ad σ r') :
    (wsl cy ad σ).set q (ad r, e) = wsl cy ad σ' := by
  apply List.ext_getElem?
  intro i
  have hl : q < idl.length := (List.getElem?_eq_some_iff.mp hq).1
  rw [List.getElem?_set]
  unfold wsl
  rw [List.length_map, List.getElem?_map, List.getElem?_map]
  by_cases hi : q = i
  · subst hi
    rw [if_pos rfl, if_pos hl, hq, ← he]
    rfl
  · rw [if_neg hi]
    cases hr : idl[i]? with
    | none => rfl
    | some r' =>
      have hne : r' ≠ r := by
        intro h
        subst h
        have h1 := (List.getElem?_eq_some_iff.mp hq)
        have h2 := (List.getElem?_eq_some_iff.mp hr)
        have hp := List.pairwise_iff_getElem.mp idl_nd
        rcases Nat.lt_or_gt_of_ne hi with h3 | h3
        · exact hp q i h1.1 h2.1 h3 (h1.2.trans h2.2.symm)
        · exact hp i q h2.1 h1.1 h3 (h2.2.trans h1.2.symm)
      show some (ad r', cel cy ad σ r') = some (ad r', cel cy ad σ' r')
      rw [ho r' (List.mem_of_getElem? hr) hne]
theorem wsl_D {cy : Nat × Nat × Nat × Nat} {ad : RF → Nat} {σ σ' : ST} {A : Nat → Prop} (h : va_D A (wsl cy ad σ)) : va_D A (wsl cy ad σ') := by
  have key : ∀ (i : Nat) (p : Nat × va_E), (wsl cy ad σ')[i]? = some p → ∃ p' : Nat × va_E, (wsl cy ad σ)[i]? = some p' ∧ p'.1 = p.1 := by
    intro i p hp
    unfold wsl at hp ⊢
    rw [List.getElem?_map] at hp ⊢
    cases hr : idl[i]? with
    | none => rw [hr] at hp; cases hp
    | some r =>
      rw [hr] at hp
      cases hp
      exact ⟨_, rfl, rfl⟩
  refine ⟨fun i j p q hp hq he => ?_, fun k q hk => ?_⟩
  · obtain ⟨p', h1, e1⟩ := key i p hp
    obtain ⟨q', h2, e2⟩ := key j q hq
    exact h.1 i j p' q' h1 h2 (by rw [e1, e2, he])
  · obtain ⟨q', h1, e1⟩ := key k q hk
    rw [← e1]
    exact h.2 k q' h1
/-- two states are alike but for one row -/
def offr (σ σ' : ST) (c k j : Nat) : Prop := ∀ c' k' j', ¬ (c' = c ∧ k' = k ∧ j' = j) → σ'.1 c' k' j' = σ.1 c' k' j' ∧ σ'.2 c' k' j' = σ.2 c' k' j'
theorem uI_off (σ : ST) (c k j i : Nat) (x : Int32) : offr σ (uI σ c k j i x) c k j := by
  intro c' k' j' h
  refine ⟨funext fun i' => ?_, rfl⟩
  show (if c' = c ∧ k' = k ∧ j' = j ∧ i' = i then x else σ.1 c' k' j' i') = σ.1 c' k' j' i'
  rw [if_neg (fun q => h ⟨q.1, q.2.1, q.2.2.1⟩)]
theorem uL_off (σ : ST) (c k j i : Nat) (x : Int64) : offr σ (uL σ c k j i x) c k j := by
  intro c' k' j' h
  refine ⟨rfl, funext fun i' => ?_⟩
  show (if c' = c ∧ k' = k ∧ j' = j ∧ i' = i then x else σ.2 c' k' j' i') = σ.2 c' k' j' i'
  rw [if_neg (fun q => h ⟨q.1, q.2.1, q.2.2.1⟩)]
theorem uR_off (σ : ST) (c k j : Nat) (f : Nat → Int32) : offr σ (uR σ c k j f) c k j := by
  intro c' k' j' h
  refine ⟨funext fun i' => ?_, rfl⟩
  show (if c' = c ∧ k' = k ∧ j' = j then f i' else σ.1 c' k' j' i') = σ.1 c' k' j' i'
  rw [if_neg h]
theorem uI_row (σ : ST) (c k j i : Nat) (x : Int32) : (uI σ c k j i x).1 c k j = upd (σ.1 c k j) i x := by
  funext i'
  show (if c = c ∧ k = k ∧ j = j ∧ i' = i then x else σ.1 c k j i') = upd (σ.1 c k j) i x i'
  unfold upd
  by_cases h : i' = i
  · rw [if_pos ⟨rfl, rfl, rfl, h⟩, if_pos h]
  · rw [if_neg (fun q => h q.2.2.2), if_neg h]
theorem uL_row (σ : ST) (c k j i : Nat) (x : Int64) : (uL σ c k j i x).2 c k j = vp_updL (σ.2 c k j) i x := by
  funext i'
  show (if c = c ∧ k = k ∧ j = j ∧ i' = i then x else σ.2 c k j i') = vp_updL (σ.2 c k j) i x i'
  unfold vp_updL
  by_cases h : i' = i
  · rw [if_pos ⟨rfl, rfl, rfl, h⟩, if_pos h]
  · rw [if_neg (fun q => h q.2.2.2), if_neg h]
theorem uR_row (σ : ST) (c k j : Nat) (f : Nat → Int32) : (uR σ c k j f).1 c k j = f := by
  funext i'
  show (if c = c ∧ k = k ∧ j = j then f i' else σ.1 c k j i') = f i'
  rw [if_pos ⟨rfl, rfl, rfl⟩]
theorem cel_arr {cy : Nat × Nat × Nat × Nat} {ad : RF → Nat} {σ σ' : ST} {c k j : Nat} (hm : (c, k, j + 1) ∈ idl) (h : offr σ σ' c k (j + 1)) : ∀ r' ∈ idl, r' ≠ (c, k, j + 1) → cel cy ad σ' r' = cel cy ad σ r' := by
  intro r' hr' hne
  obtain ⟨c', k', j'⟩ := r'
  cases j' with
  | zero =>
    show Sum.inr (c', (List.range (nfs c')).map (fun j => tr ad (fget σ' c' k' j))) = Sum.inr (c', (List.range (nfs c')).map (fun j => tr ad (fget σ c' k' j)))
    have e : ∀ j'', fget σ' c' k' j'' = fget σ c' k' j'' := by
      intro j''
      by_cases he : c' = c ∧ k' = k ∧ j'' + 1 = j + 1
      · obtain ⟨rfl, rfl, e3⟩ := he
        obtain rfl : j'' = j := by omega
        have h4 := (idl_arr _ hm (by simp)).2 ((idl_c _ hr').2 rfl)
        simp only [Nat.add_sub_cancel] at h4
        rw [fget_eq, fget_eq]
        generalize fkd c' j'' = q at h4
        obtain ⟨q0, q1⟩ := q
        simp only at h4
        subst h4
        rfl
      · obtain ⟨e1, e2⟩ := h c' k' (j'' + 1) he
        unfold fget
        rw [e1, e2]
    simp only [e]
  | succ j'' =>
    have he : ¬ (c' = c ∧ k' = k ∧ j'' + 1 = j + 1) := by
      rintro ⟨rfl, rfl, e3⟩
      exact hne (by rw [e3])
    obtain ⟨e1, e2⟩ := h c' k' (j'' + 1) he
    show celA cy ad σ' c' k' j'' (akd c' j'') = celA cy ad σ c' k' j'' (akd c' j'')
    unfold celA
    simp only [e1, e2]
theorem cel_fld {cy : Nat × Nat × Nat × Nat} {ad : RF → Nat} {σ σ' : ST} {c k b : Nat} (hm : (c, k, 0) ∈ idl) (hb : (fkd c b).1 ≠ 4) (h : offr σ σ' c k (b + 1)) : ∀ r' ∈ idl, r' ≠ (c, k, 0) → cel cy ad σ' r' = cel cy ad σ r' := by
  intro r' hr' hne
  obtain ⟨c', k', j'⟩ := r'
  cases j' with
  | zero =>
    show Sum.inr (c', (List.range (nfs c')).map (fun j => tr ad (fget σ' c' k' j))) = Sum.inr (c', (List.range (nfs c')).map (fun j => tr ad (fget σ c' k' j)))
    have e : ∀ j'', fget σ' c' k' j'' = fget σ c' k' j'' := by
      intro j''
      obtain ⟨e1, e2⟩ := h c' k' (j'' + 1) (by rintro ⟨rfl, rfl, -⟩; exact hne rfl)
      unfold fget
      rw [e1, e2]
    simp only [e]
  | succ j'' =>
    have he : ¬ (c' = c ∧ k' = k ∧ j'' + 1 = b + 1) := by
      rintro ⟨rfl, rfl, e3⟩
      obtain rfl : j'' = b := by omega
      have h4 := (idl_arr _ hr' (by simp)).2 ((idl_c _ hm).2 rfl)
      simp only [Nat.add_sub_cancel] at h4
      exact hb h4
    obtain ⟨e1, e2⟩ := h c' k' (j'' + 1) he
    show celA cy ad σ' c' k' j'' (akd c' j'') = celA cy ad σ c' k' j'' (akd c' j'')
    unfold celA
    simp only [e1, e2]
theorem cel_put {cy : Nat × Nat × Nat × Nat} {ad : RF → Nat} {σ σ' : ST} {c k b : Nat} (h : offr σ σ' c k (b + 1)) (hb : b < nfs c) {v : Value} (hv : tr ad (fget σ' c k b) = v) :
    cel cy ad σ' (c, k, 0) = .inr (c, ((List.range (nfs c)).map (fun j => tr ad (fget σ c k j))).set b v) := by
  show Sum.inr (c, (List.range (nfs c)).map (fun j => tr ad (fget σ' c k j))) = _
  congr 2
  apply List.ext_getElem?
  intro i
  rw [List.getElem?_set, List.length_map, List.length_range, List.getElem?_map, List.getElem?_map]
  by_cases hi : b = i
  · subst hi
    rw [if_pos rfl, if_pos hb, List.getElem?_range hb, ← hv]
    rfl
  · rw [if_neg hi]
    cases hr : (List.range (nfs c))[i]? with
    | none => rfl
    | some i' =>
      have hi' : i' = i := by
        have h1 := List.getElem?_eq_some_iff.mp hr
        obtain ⟨h2, h3⟩ := h1
        rw [List.getElem_range] at h3
        exact h3.symm
      subst hi'
      obtain ⟨e1, e2⟩ := h c k (i' + 1) (by rintro ⟨-, -, e⟩; omega)
      show some (tr ad (fget σ' c k i')) = some (tr ad (fget σ c k i'))
      unfold fget
      rw [e1, e2]
/-! locals -/
def asc (ad : RF → Nat) : Nat → List (Option AV) → List (Nat × Value)
  | _, [] => []
  | i, none :: l => asc ad (i + 1) l
  | i, some v :: l => (i, tr ad v) :: asc ad (i + 1) l
theorem asc_mem {ad : RF → Nat} : ∀ (ls : List (Option AV)) (i : Nat) (q : Nat × Value), q ∈ asc ad i ls ↔ ∃ j v, nth none ls j = some v ∧ q = (i + j, tr ad v)
  | [], i, q => ⟨fun h => absurd h List.not_mem_nil, fun ⟨_, _, h, _⟩ => by cases h⟩
  | none :: l, i, q => by
    rw [asc, asc_mem l (i + 1) q]
    constructor
    · rintro ⟨j, v, h, e⟩
      exact ⟨j + 1, v, h, by rw [e]; congr 1; omega⟩
    · rintro ⟨j, v, h, e⟩
      cases j with
      | zero => cases h
      | succ j => exact ⟨j, v, h, by rw [e]; congr 1; omega⟩
  | some w :: l, i, q => by
    rw [asc, List.mem_cons, asc_mem l (i + 1) q]
    constructor
    · rintro (e | ⟨j, v, h, e⟩)
      · exact ⟨0, w, rfl, e⟩
      · exact ⟨j + 1, v, h, by rw [e]; congr 1; omega⟩
    · rintro ⟨j, v, h, e⟩
      cases j with
      | zero => cases h; exact Or.inl e
      | succ j => exact Or.inr ⟨j, v, h, by rw [e]; congr 1; omega⟩
theorem nth_stl : ∀ (ls : List (Option AV)) (k : Nat) (x : Option AV) (j : Nat), inL ls k = true → nth none (stl ls k x) j = if j = k then x else nth none ls j
  | [], k, x, j, h => by simp [inL] at h
  | y :: l, 0, x, 0, h => by simp [stl, nth]
  | y :: l, 0, x, j + 1, h => by simp [stl, nth]
  | y :: l, k + 1, x, 0, h => by simp [stl, nth]
  | y :: l, k + 1, x, j + 1, h => by
    have := nth_stl l k x j (by simpa [inL] using h)
    simp only [stl, nth, this, Nat.add_right_cancel_iff]
theorem inL_stl : ∀ (ls : List (Option AV)) (k : Nat) (x : Option AV) (j : Nat), inL (stl ls k x) j = inL ls j
  | [], k, x, j => rfl
  | y :: l, 0, x, 0 => rfl
  | y :: l, 0, x, j + 1 => rfl
  | y :: l, k + 1, x, 0 => rfl
  | y :: l, k + 1, x, j + 1 => inL_stl l k x j
theorem tr_cat (ad : RF → Nat) (v : AV) : (tr ad v).category = cat2 v := by
  rcases v with x | x | x <;> rfl
theorem isLg_cat {v : AV} (h : isLg (some v) = false) : cat2 v = 1 := by
  rcases v with x | x | x <;> first | rfl | cases h
theorem lv_get {ad : RF → Nat} {lsM : Array Slot} {n : Nat} {ls : List (Option AV)} (h : lv_has lsM n (asc ad 0 ls)) {k : Nat} {v : AV} (hk : nth none ls k = some v) : lsM[k]? = some (.val (tr ad v)) := by
  have := h.2.2 (k, tr ad v) ((asc_mem ls 0 _).mpr ⟨k, v, hk, by rw [Nat.zero_add]⟩)
  exact this
theorem lv_put1 {ad : RF → Nat} {lsM : Array Slot} {n : Nat} {ls : List (Option AV)} {k : Nat} {v : AV} (hi : inL ls k = true) (hn : noLg ls k = true)
    (h : lv_has lsM n ((k, tr ad v) :: (asc ad 0 ls).filter (fun q => !(q.1 == k) && !(q.1 + 1 == k && q.2.category == 2)))) : lv_has lsM n (asc ad 0 (stl ls k (some v))) := by
  refine ⟨h.1, h.2.1, fun q hq => h.2.2 q ?_⟩
  obtain ⟨j, w, hw, rfl⟩ := (asc_mem _ 0 q).mp hq
  rw [nth_stl ls k (some v) j hi] at hw
  by_cases hj : j = k
  · rw [if_pos hj] at hw
    cases hw
    rw [hj, Nat.zero_add]
    exact List.mem_cons_self
  · rw [if_neg hj] at hw
    refine List.mem_cons_of_mem _ (List.mem_filter.mpr ⟨(asc_mem _ 0 _).mpr ⟨j, w, hw, rfl⟩, ?_⟩)
    rw [Nat.zero_add]
    simp only [Bool.and_eq_true, Bool.not_eq_true', beq_eq_false_iff_ne, Bool.and_eq_false_iff, ne_eq]
    refine ⟨hj, ?_⟩
    by_cases hj2 : j + 1 = k
    · right
      subst hj2
      have h2 : isLg (nth none ls j) = false := by simpa [noLg] using hn
      rw [hw] at h2
      rw [tr_cat, isLg_cat h2]
      decide
    · exact Or.inl hj2
theorem lv_put2 {ad : RF → Nat} {lsM : Array Slot} {n : Nat} {ls : List (Option AV)} {k : Nat} {v : AV} (hi : inL ls (k + 1) = true) (hi0 : inL ls k = true) (hn : noLg ls k = true)
    (h : lv_has lsM n ((k, tr ad v) :: (asc ad 0 ls).filter (fun q => !(q.1 == k) && (!(q.1 == k + 1) && !(q.1 + 1 == k && q.2.category == 2))))) : lv_has lsM n (asc ad 0 (stl (stl ls k (some v)) (k + 1) none)) := by
  refine ⟨h.1, h.2.1, fun q hq => h.2.2 q ?_⟩
  obtain ⟨j, w, hw, rfl⟩ := (asc_mem _ 0 q).mp hq
  rw [nth_stl _ (k + 1) none j (by rw [inL_stl]; exact hi)] at hw
  by_cases hj1 : j = k + 1
  · rw [if_pos hj1] at hw
    cases hw
  rw [if_neg hj1, nth_stl ls k (some v) j hi0] at hw
  by_cases hj : j = k
  · rw [if_pos hj] at hw
    cases hw
    rw [hj, Nat.zero_add]
    exact List.mem_cons_self
  · rw [if_neg hj] at hw
    refine List.mem_cons_of_mem _ (List.mem_filter.mpr ⟨(asc_mem _ 0 _).mpr ⟨j, w, hw, rfl⟩, ?_⟩)
    rw [Nat.zero_add]
    simp only [Bool.and_eq_true, Bool.not_eq_true', beq_eq_false_iff_ne, Bool.and_eq_false_iff, ne_eq]
    refine ⟨hj, hj1, ?_⟩
    by_cases hj2 : j + 1 = k
    · right
      subst hj2
      have h2 : isLg (nth none ls j) = false := by simpa [noLg] using hn
      rw [hw] at h2
      rw [tr_cat, isLg_cat h2]
      decide
    · exact Or.inl hj2
theorem inL_pred : ∀ (ls : List (Option AV)) (k : Nat), inL ls (k + 1) = true → inL ls k = true
  | [], _, h => by simp [inL] at h
  | _ :: _, 0, _ => rfl
  | _ :: l, k + 1, h => inL_pred l k h
theorem ent_sub (ad : RF → Nat) : ∀ (n : Nat) (vs : List AV) (i : Nat) (q : Nat × Value), q ∈ asc ad i (ent n vs) → q ∈ lv_args i (vs.map (tr ad))
  | 0, vs, i, q, h => absurd h (by simp [ent, asc])
  | n + 1, [], i, q, h => by
    simp only [ent, asc] at h
    have := ent_sub ad n [] (i + 1) q h
    simp [lv_args] at this
  | n + 1, .inl x :: vs, i, q, h => by
    simp only [ent, asc, List.mem_cons] at h
    simp only [List.map_cons, lv_args, List.mem_cons]
    rcases h with h | h
    · exact Or.inl h
    · exact Or.inr (ent_sub ad n vs (i + 1) q h)
  | n + 1, .inr (.inr r) :: vs, i, q, h => by
    simp only [ent, asc, List.mem_cons] at h
    simp only [List.map_cons, lv_args, List.mem_cons]
    rcases h with h | h
    · exact Or.inl h
    · exact Or.inr (ent_sub ad n vs (i + 1) q h)
  | n + 2, .inr (.inl x) :: vs, i, q, h => by
    simp only [ent, asc, List.mem_cons] at h
    simp only [List.map_cons, lv_args, List.mem_cons]
    rcases h with h | h
    · exact Or.inl h
    · exact Or.inr (ent_sub ad n vs (i + 1 + 1) q h)
  | 1, .inr (.inl x) :: vs, i, q, h => by simp [ent, asc] at h
theorem lg_len (ad : RF → Nat) : ∀ vs : List AV, (lg_sl (vs.map (tr ad))).length = catS vs
  | [] => rfl
  | v :: vs => by
    have ih := lg_len ad vs
    unfold lg_sl at ih ⊢
    rw [List.map_cons, List.flatMap_cons, List.length_append, ih, tr_cat]
    rcases v with x | x | x <;> rfl
theorem cat_sum (ad : RF → Nat) : ∀ vs : List AV, ((vs.map (tr ad)).map fun v => v.category).sum = catS vs
  | [] => rfl
  | v :: vs => by
    rw [List.map_cons, List.map_cons, List.sum_cons, cat_sum ad vs, tr_cat]
    rfl
/-- a value that may stand in a frame -/
def vOK (v : AV) : Prop := match v with
  | .inr (.inr r) => r ∈ idl ∨ r = (13, 0, 1)
  | _ => True
def lOK (ls : List (Option AV)) : Prop := ∀ k v, nth none ls k = some v → vOK v
def sOK (st : List AV) : Prop := ∀ v ∈ st, vOK v
theorem lOK_stl {ls : List (Option AV)} {k : Nat} {x : Option AV} (h : lOK ls) (hi : inL ls k = true) (hx : ∀ v, x = some v → vOK v) : lOK (stl ls k x) := by
  intro j v hj
  rw [nth_stl ls k x j hi] at hj
  by_cases e : j = k
  · rw [if_pos e] at hj
    exact hx v hj
  · rw [if_neg e] at hj
    exact h j v hj
theorem lOK_ent : ∀ (n : Nat) (vs : List AV), sOK vs → lOK (ent n vs)
  | 0, vs, h, k, v, hk => by simp [ent, nth] at hk
  | n + 1, [], h, k, v, hk => by
    cases k with
    | zero => simp [ent, nth] at hk
    | succ k => exact lOK_ent n [] h k v (by simpa [ent, nth] using hk)
  | n + 1, .inl x :: vs, h, k, v, hk => by
    cases k with
    | zero => simp only [ent, nth, Option.some.injEq] at hk; subst hk; trivial
    | succ k => exact lOK_ent n vs (fun w hw => h w (List.mem_cons_of_mem _ hw)) k v (by simpa [ent, nth] using hk)
  | n + 1, .inr (.inr r) :: vs, h, k, v, hk => by
    cases k with
    | zero => simp only [ent, nth, Option.some.injEq] at hk; subst hk; exact h _ List.mem_cons_self
    | succ k => exact lOK_ent n vs (fun w hw => h w (List.mem_cons_of_mem _ hw)) k v (by simpa [ent, nth] using hk)
  | n + 2, .inr (.inl x) :: vs, h, k, v, hk => by
    match k with
    | 0 => simp only [ent, nth, Option.some.injEq] at hk; subst hk; trivial
    | 1 => simp [ent, nth] at hk
    | k + 2 => exact lOK_ent n vs (fun w hw => h w (List.mem_cons_of_mem _ hw)) k v (by simpa [ent, nth] using hk)
  | 1, .inr (.inl x) :: vs, h, k, v, hk => by
    cases k with
    | zero => simp [ent, nth] at hk
    | succ k => simp [ent, nth] at hk
end
section
/-! what a step asked, taken apart -/
theorem ldR_inv {ls : List (Option AV)} {k : Nat} {K : AV → Prop} (h : ldR ls k K) : ∃ r, nth none ls k = some (.inr (.inr r)) ∧ K (.inr (.inr r)) := by
  unfold ldR at h
  split at h
  · exact ⟨_, by assumption, h⟩
  · exact h.elim
theorem ldI_inv {ls : List (Option AV)} {k : Nat} {K : AV → Prop} (h : ldI ls k K) : ∃ r, nth none ls k = some (.inl r) ∧ K (.inl r) := by
  unfold ldI at h
  split at h
  · exact ⟨_, by assumption, h⟩
  · exact h.elim
theorem ldJ_inv {ls : List (Option AV)} {k : Nat} {K : AV → Prop} (h : ldJ ls k K) : ∃ r, nth none ls k = some (.inr (.inl r)) ∧ K (.inr (.inl r)) := by
  unfold ldJ at h
  split at h
  · exact ⟨_, by assumption, h⟩
  · exact h.elim
theorem cond_inv {c : Bool} {P : Prop} (h : cond c P False) : c = true ∧ P := by
  cases c
  · exact h.elim
  · exact ⟨rfl, h⟩
theorem s1_inv {ls : List (Option AV)} {k : Nat} {v : AV} {K : List (Option AV) → Prop} (h : s1 ls k v K) : inL ls k = true ∧ noLg ls k = true ∧ K (stl ls k (some v)) := by
  obtain ⟨h1, h2⟩ := cond_inv h
  simp only [Bool.and_eq_true] at h1
  exact ⟨h1.1, h1.2, h2⟩
theorem stI_inv {ls : List (Option AV)} {k : Nat} {st : List AV} {K : List (Option AV) → List AV → Prop} (h : stI ls k st K) : ∃ x st', st = .inl x :: st' ∧ inL ls k = true ∧ noLg ls k = true ∧ K (stl ls k (some (.inl x))) st' := by
  unfold stI at h
  split at h
  · exact ⟨_, _, rfl, s1_inv h⟩
  · exact h.elim
theorem stR_inv {ls : List (Option AV)} {k : Nat} {st : List AV} {K : List (Option AV) → List AV → Prop} (h : stR ls k st K) : ∃ x st', st = .inr (.inr x) :: st' ∧ inL ls k = true ∧ noLg ls k = true ∧ K (stl ls k (some (.inr (.inr x)))) st' := by
  unfold stR at h
  split at h
  · exact ⟨_, _, rfl, s1_inv h⟩
  · exact h.elim
theorem stJ_inv {ls : List (Option AV)} {k : Nat} {st : List AV} {K : List (Option AV) → List AV → Prop} (h : stJ ls k st K) : ∃ x st', st = .inr (.inl x) :: st' ∧ inL ls (k + 1) = true ∧ noLg ls k = true ∧ K (stl (stl ls k (some (.inr (.inl x)))) (k + 1) none) st' := by
  unfold stJ at h
  split at h
  · obtain ⟨h1, h2⟩ := cond_inv h
    simp only [Bool.and_eq_true] at h1
    exact ⟨_, _, rfl, h1.1, h1.2, h2⟩
  · exact h.elim
theorem iinc_inv {ls : List (Option AV)} {k : Nat} {n : Int} {K : List (Option AV) → Prop} (h : ldX ls k (fun x => s1 ls k (.inl (x + Int32.ofInt n)) K)) : ∃ x, nth none ls k = some (.inl x) ∧ inL ls k = true ∧ noLg ls k = true ∧ K (stl ls k (some (.inl (x + Int32.ofInt n)))) := by
  unfold ldX at h
  split at h
  · exact ⟨_, by assumption, s1_inv h⟩
  · exact h.elim
theorem un_inv {st : List AV} {K : Int32 → List AV → Prop} (h : un st K) : ∃ x st', st = .inl x :: st' ∧ K x st' := by
  unfold un at h
  split at h
  · exact ⟨_, _, rfl, h⟩
  · exact h.elim
theorem bn_inv {st : List AV} {K : Int32 → Int32 → List AV → Prop} (h : bn st K) : ∃ x y st', st = .inl y :: .inl x :: st' ∧ K x y st' := by
  unfold bn at h
  split at h
  · exact ⟨_, _, _, rfl, h⟩
  · exact h.elim
theorem unJ_inv {st : List AV} {K : Int64 → List AV → Prop} (h : unJ st K) : ∃ x st', st = .inr (.inl x) :: st' ∧ K x st' := by
  unfold unJ at h
  split at h
  · exact ⟨_, _, rfl, h⟩
  · exact h.elim
theorem bnJ_inv {st : List AV} {K : Int64 → Int64 → List AV → Prop} (h : bnJ st K) : ∃ x y st', st = .inr (.inl y) :: .inr (.inl x) :: st' ∧ K x y st' := by
  unfold bnJ at h
  split at h
  · exact ⟨_, _, _, rfl, h⟩
  · exact h.elim
theorem rf_inv {st : List AV} {K : Nat → Nat → Nat → List AV → Prop} (h : rf st K) : ∃ c k j st', st = .inr (.inr (c, k, j)) :: st' ∧ K c k j st' := by
  unfold rf at h
  split at h
  · exact ⟨_, _, _, _, rfl, h⟩
  · exact h.elim
theorem dup_inv {st : List AV} {K : AV → List AV → Prop} (h : d1 st K) : ∃ v st', st = v :: st' ∧ cat2 v = 1 ∧ K v st' := by
  unfold d1 at h
  split at h
  · obtain ⟨h1, h2⟩ := cond_inv h
    exact ⟨_, _, rfl, Nat.eq_of_beq_eq_true h1, h2⟩
  · exact h.elim
theorem dup2_inv {st : List AV} {K : AV → AV → List AV → Prop} (h : d2 st K) : ∃ v w st', st = v :: w :: st' ∧ cat2 v = 1 ∧ cat2 w = 1 ∧ K v w st' := by
  unfold d2 at h
  split at h
  · obtain ⟨h1, h2⟩ := cond_inv h
    simp only [Bool.and_eq_true, Nat.beq_eq] at h1
    exact ⟨_, _, _, rfl, h1.1, h1.2, h2⟩
  · exact h.elim
theorem ret_inv {st : List AV} {a : Nat} {K : Int32 → Prop} (h : rtI a st K) : ∃ x, st = [.inl x] ∧ (a = 0 ∨ x = 0 ∨ x = 1) ∧ K x := by
  unfold rtI at h
  split at h
  · exact ⟨_, rfl, h⟩
  · exact h.elim
theorem rev_inv {st : List AV} {K : Prop} (h : rtV st K) : st = [] ∧ K := by
  unfold rtV at h
  split at h
  · exact ⟨rfl, h⟩
  · exact h.elim
theorem ldc_inv {a d : Nat} {st : List AV} {P P2 : Prop} (h : ldcK a d st P P2) : (Nat.beq a 0 = true ∧ P) ∨ (Nat.beq a 0 = false ∧ 4 ≤ d ∧ catS st ≤ 8 ∧ P2) := by
  unfold ldcK at h
  cases ha : Nat.beq a 0
  · rw [ha] at h
    right
    refine ⟨rfl, ?_⟩
    match d, h with
    | e + 4, h =>
      obtain ⟨h1, h2⟩ := cond_inv h
      exact ⟨by simp, Nat.le_of_ble_eq_true h1, h2⟩
  · rw [ha] at h
    exact Or.inl ⟨rfl, h⟩
theorem put_inv {a b : Nat} {st : List AV} {K1 : Nat → Int32 → List AV → Prop} {K2 : Nat → Int64 → List AV → Prop} (h : ptf a b st K1 K2) :
    (∃ x k st', st = .inl x :: .inr (.inr (a, k, 0)) :: st' ∧ (fkd a b).1 = 0 ∧ K1 k x st') ∨ (∃ x k st', st = .inl x :: .inr (.inr (a, k, 0)) :: st' ∧ (fkd a b).1 = 3 ∧ (x = 0 ∨ x = 1) ∧ K1 k x st') ∨ (∃ x k st', st = .inr (.inl x) :: .inr (.inr (a, k, 0)) :: st' ∧ (fkd a b).1 = 1 ∧ K2 k x st') := by
  unfold ptf at h
  split at h
  · obtain ⟨h1, h2⟩ := cond_inv h
    have h1 := Nat.eq_of_beq_eq_true h1
    subst h1
    split at h2
    · exact Or.inl ⟨_, _, _, rfl, by assumption, h2⟩
    · exact Or.inr (Or.inl ⟨_, _, _, rfl, by assumption, h2⟩)
    · exact h2.elim
  · obtain ⟨h1, h2⟩ := cond_inv h
    simp only [Bool.and_eq_true, Nat.beq_eq] at h1
    obtain ⟨rfl, h1⟩ := h1
    exact Or.inr (Or.inr ⟨_, _, _, rfl, h1, h2⟩)
  · exact h.elim
theorem stat_inv {a : Nat} {P1 P2 P3 : Prop} (h : cond (Nat.beq a 900) P1 (cond (Nat.beq a 901) P2 P3)) : (a = 900 ∧ P1) ∨ (a = 901 ∧ P2) ∨ (a ≠ 900 ∧ a ≠ 901 ∧ P3) := by
  cases h1 : Nat.beq a 900
  · rw [h1] at h
    cases h2 : Nat.beq a 901
    · rw [h2] at h
      exact Or.inr (Or.inr ⟨fun q => by subst q; exact absurd h1 (by decide), fun q => by subst q; exact absurd h2 (by decide), h⟩)
    · rw [h2] at h
      exact Or.inr (Or.inl ⟨Nat.eq_of_beq_eq_true h2, h⟩)
  · rw [h1] at h
    exact Or.inl ⟨Nat.eq_of_beq_eq_true h1, h⟩
theorem calV_inv {ih : FR} {d : Nat × Nat} {a b : Nat} {st : List AV} {σ : ST} {K : Option AV → List AV → ST → Prop} (h : cal ih d true a b st σ K) :
    ∃ e c k rest, d.1 = e + 1 ∧ st.drop b = .inr (.inr (c, k, 0)) :: rest ∧ c = (inf a).1 ∧ catS rest ≤ 8 ∧ catS (st.take b) + 1 ≤ (inf a).2 ∧ (st.take b).length = b ∧ ih (e, 0) (tab a) 0 (ent (inf a).2 (.inr (.inr (c, k, 0)) :: (st.take b).reverse)) [] σ (fun v σ' => K v rest σ') := by
  unfold cal at h
  obtain ⟨d1, d2⟩ := d
  match d1, h with
  | e + 1, h =>
    simp only at h
    split at h
    · obtain ⟨h1, h2⟩ := cond_inv h
      simp only [Bool.and_eq_true, Nat.beq_eq, Nat.ble_eq] at h1
      exact ⟨e, _, _, _, rfl, by assumption, h1.1.1.1, h1.1.1.2, h1.1.2, h1.2, h2.2⟩
    · contradiction
    · exact h.elim
theorem calS_inv {ih : FR} {d : Nat × Nat} {a b : Nat} {st : List AV} {σ : ST} {K : Option AV → List AV → ST → Prop} (h : cal ih d false a b st σ K) :
    ∃ e, d.1 = e + 1 ∧ catS (st.drop b) ≤ 8 ∧ catS (st.take b) ≤ (inf a).2 ∧ (st.take b).length = b ∧ ih (e, 0) (tab a) 0 (ent (inf a).2 (st.take b).reverse) [] σ (fun v σ' => K v (st.drop b) σ') := by
  unfold cal at h
  obtain ⟨d1, d2⟩ := d
  match d1, h with
  | e + 1, h =>
    obtain ⟨h1, h2⟩ := cond_inv h
    simp only [Bool.and_eq_true, Nat.beq_eq, Nat.ble_eq] at h1
    exact ⟨e, rfl, h1.1.1, h1.1.2, h1.2, h2.2⟩
theorem arr_inv {N c j kd : Nat} {K : Nat → Prop} (h : arr N c j kd K) : ∃ L, arO N c j = some (kd, L) ∧ K L := by
  unfold arr at h
  split at h
  · obtain ⟨h1, h2⟩ := cond_inv h
    have h1 := Nat.eq_of_beq_eq_true h1
    subst h1
    exact ⟨_, by assumption, h2⟩
  · exact h.elim
theorem arl_inv {N c j : Nat} {K : Nat → Prop} (h : arl N c j K) : ∃ kd L, arO N c j = some (kd, L) ∧ ¬ kd = 0 ∧ K L := by
  unfold arl at h
  split at h
  · rename_i q L e
    refine ⟨q, L, e, ?_⟩
    cases hq : Nat.beq q 0
    · rw [hq] at h
      exact ⟨fun z => by subst z; exact absurd hq (by decide), h⟩
    · rw [hq] at h
      exact h.elim
  · exact h.elim
theorem rfo_inv {c j i : Nat} {K : AV → Prop} (h : rfo c j i K) : K (.inr (.inr (raf c j i))) := by
  unfold rfo at h
  unfold raf
  split at h
  · rename_i e
    rw [e]
    exact h
  · exact h.elim
theorem cndF_inv {c : Bool} {P : Prop} (h : cond c False P) : c = false ∧ P := by
  cases c
  · exact ⟨rfl, h⟩
  · exact h.elim
theorem swi_inv {M : TB} {i : Nat} {x : Int32} {K : Nat → Prop} (h : swi M i x K) : ∃ l dt, swl M.2.1 i = some (l, dt) ∧ swK K x dt l := by
  unfold swi at h
  split at h
  · exact ⟨_, _, by assumption, h⟩
  · exact h.elim
theorem cpy_inv {d : Nat × Nat} {N : Nat} {st : List AV} {σ : ST} {K : List AV → ST → Prop} (h : cpy d N st σ K) :
    ∃ (e : Nat) (n dp : Int32) (c' k' j' : Nat) (sp : Int32) (c k j : Nat) (rest : List AV) (L L' : Nat), d.1 = e + 1 ∧ st = .inl n :: .inl dp :: .inr (.inr (c', k', j')) :: .inl sp :: .inr (.inr (c, k, j)) :: rest ∧ arO N c j = some (1, L) ∧ arO N c' j' = some (1, L') ∧ ¬ c' = 13 ∧ ¬ c = 13 ∧ catS rest ≤ 8 ∧
      ¬ sp < 0 ∧ ¬ dp < 0 ∧ ¬ n < 0 ∧ sp.toNatClampNeg + n.toNatClampNeg ≤ L ∧ dp.toNatClampNeg + n.toNatClampNeg ≤ L' ∧ K rest (cpI σ c k j c' k' j' sp.toNatClampNeg dp.toNatClampNeg n.toNatClampNeg) := by
  unfold cpy at h
  obtain ⟨d1, d2⟩ := d
  match d1, h with
  | e + 1, h =>
    simp only at h
    split at h
    · obtain ⟨h1, h2⟩ := cond_inv h
      simp only [Bool.and_eq_true, Nat.beq_eq, Nat.ble_eq, Bool.not_eq_true'] at h1
      obtain ⟨L, h3, h4⟩ := arr_inv h2
      obtain ⟨L', h5, h6⟩ := arr_inv h4
      refine ⟨e, _, _, _, _, _, _, _, _, _, _, L, L', rfl, rfl, h3, h5, fun q => ?_, fun q => ?_, h1.2, h6⟩
      · rw [q] at h1; exact absurd h1.1.1 (by decide)
      · rw [q] at h1; exact absurd h1.1.2 (by decide)
    · exact h.elim
theorem oct_inv {d : Nat × Nat} {st : List AV} {σ : ST} {K : Nat × Nat → List AV → ST → Prop} (h : oct d st σ K) :
    ∃ (e g : Nat) (q : Int32) (rest : List AV), d = (e + 10, g + 1) ∧ st = .inr (.inr (12, 0, 1)) :: .inl q :: .inr (.inr (10, 0, 0)) :: rest ∧ catS rest ≤ 8 ∧
      (¬ (q < 0 ∨ σ.1 10 0 17 0 ≤ q ∨ 480 ≤ q) → K (e + 10, g) (.inl 0 :: rest) (uL σ 12 0 1 0 (σ.1 10 0 2 q.toNatClampNeg).toInt64)) ∧ ((q < 0 ∨ σ.1 10 0 17 0 ≤ q ∨ 480 ≤ q) → K (e + 10, g) (.inl 1 :: rest) σ) := by
  unfold oct at h
  split at h
  · split at h
    · obtain ⟨h1, h2⟩ := cond_inv h
      exact ⟨_, _, _, _, rfl, rfl, Nat.le_of_ble_eq_true h1, h2⟩
    · exact h.elim
  · exact h.elim
theorem isI_inv {r : Except DecodeError (Instr × Nat)} {x : Instr} (h : isI r x = true) : ∃ n, r = .ok (x, n) := by
  unfold isI at h
  split at h
  · simp only [decide_eq_true_eq] at h
    subst h
    exact ⟨_, rfl⟩
  · cases h
theorem swT_aux {M : TB} {rp : Nat} {lo : Int} {K : Nat → Prop} {x : Int32} {dt : Nat} : ∀ (l : List (Int32 × Nat)) (os : List Int) (k : Nat), swC M rp lo k l os = true → swK K x dt l →
    (∃ t off j, x.toInt = lo + (k + j : Nat) ∧ os[j]? = some off ∧ (rp : Int) + off = (rpc M t : Int) ∧ K t) ∨ ((∀ j : Nat, j < os.length → x.toInt ≠ lo + (k + j : Nat)) ∧ K dt)
  | [], [], k, _, h => Or.inr ⟨fun j hj => absurd hj (by simp), h⟩
  | [], o :: os, k, hc, h => by simp [swC] at hc
  | (v, t) :: l, [], k, hc, h => by simp [swC] at hc
  | (v, t) :: l, o :: os, k, hc, h => by
    simp only [swC, Bool.and_eq_true, decide_eq_true_eq] at hc
    obtain ⟨⟨h1, h2⟩, h3⟩ := hc
    obtain ⟨k1, k2⟩ := h
    by_cases hx : x = v
    · exact Or.inl ⟨t, o, 0, by rw [hx, h1]; simp, rfl, h2, k1 hx⟩
    · rcases swT_aux l os (k + 1) h3 (k2 hx) with ⟨t', off, j, e1, e2, e3, e4⟩ | ⟨e1, e2⟩
      · exact Or.inl ⟨t', off, j + 1, by rw [e1]; congr 1; omega, e2, e3, e4⟩
      · refine Or.inr ⟨fun j hj => ?_, e2⟩
        cases j with
        | zero => intro q; exact hx (Int32.toInt_inj.mp (by rw [q, h1]; simp))
        | succ j => intro q; exact e1 j (by simpa using hj) (by rw [q]; congr 1; omega)
theorem swT_inv {M : TB} {rp : Nat} {lo : Int} {K : Nat → Prop} {x : Int32} {dt : Nat} {l : List (Int32 × Nat)} {offs : Array Int} (hc : swC M rp lo 0 l offs.toList = true) (h : swK K x dt l) :
    (∃ t off, lo ≤ x.toInt ∧ offs[(x.toInt - lo).toNat]? = some off ∧ (rp : Int) + off = (rpc M t : Int) ∧ K t) ∨ ((x.toInt < lo ∨ lo + (offs.toList.length : Int) ≤ x.toInt) ∧ K dt) := by
  rcases swT_aux l offs.toList 0 hc h with ⟨t, off, j, e1, e2, e3, e4⟩ | ⟨e1, e2⟩
  · refine Or.inl ⟨t, off, by omega, ?_, e3, e4⟩
    have : (x.toInt - lo).toNat = j := by omega
    rw [this, ← Array.getElem?_toList]
    exact e2
  · refine Or.inr ⟨?_, e2⟩
    by_cases hlo : x.toInt < lo
    · exact Or.inl hlo
    · right
      apply Int.not_lt.mp
      intro hq
      exact e1 (x.toInt - lo).toNat (by omega) (by omega)
theorem swL_inv {M : TB} {rp : Nat} {df : Int} {K : Nat → Prop} {x : Int32} {dt : Nat} (hdf : (rp : Int) + df = (rpc M dt : Int)) : ∀ {l : List (Int32 × Nat)} {os : List (Int × Int)}, swD M rp l os = true → swK K x dt l →
    ∃ t off, Op.lookupswitch.offset os df x.toInt = off ∧ (rp : Int) + off = (rpc M t : Int) ∧ K t
  | [], [], _, h => ⟨dt, df, rfl, hdf, h⟩
  | [], o :: os, hc, h => by simp [swD] at hc
  | (v, t) :: l, [], hc, h => by simp [swD] at hc
  | (v, t) :: l, (w, o) :: os, hc, h => by
    simp only [swD, Bool.and_eq_true, decide_eq_true_eq] at hc
    obtain ⟨⟨h1, h2⟩, h3⟩ := hc
    obtain ⟨k1, k2⟩ := h
    by_cases hx : x = v
    · exact ⟨t, o, by rw [Op.lookupswitch.offset_cons, if_pos (by rw [hx, h1])], h2, k1 hx⟩
    · obtain ⟨t', off, e1, e2, e3⟩ := swL_inv hdf h3 (k2 hx)
      exact ⟨t', off, by rw [Op.lookupswitch.offset_cons, if_neg (fun q => hx (Int32.toInt_inj.mp (by rw [← q, h1])))]; exact e1, e2, e3⟩
end
section
/-! words, rows, calls: what the walk stands on -/
def TS : List Cond := lw_tbl.filter goodWord
theorem TS_in {w : Cond} {p : Nat} (h : lw_tbl[p]? = some w) (hg : goodWord w = true) : w ∈ TS := List.mem_filter.mpr ⟨List.mem_of_getElem? h, hg⟩
theorem TS_good {w : Cond} (h : w ∈ TS) : w ∈ TS ∧ ((w.onTables && w.keeps) = true ∨ ∃ ty, w = .arrayClass ty) := ⟨h, good_of_word (List.mem_filter.mp h).2⟩
def wsM (a : Nat) : List Cond := Cond.code (mi a).1 (mi a).2.1 (inf a).2 (mi a).2.2 :: TS
theorem wsM_good {a : Nat} (ha : a + 1 ≤ 227) (h : Cond.code (mi a).1 (mi a).2.1 (inf a).2 (mi a).2.2 ∈ TS) : GoodIn TS (wsM a) := by
  intro w hw
  rcases List.mem_cons.mp hw with rfl | hw
  · exact TS_good h
  · exact TS_good hw
def rmD (d : Nat) : Room := { frames := d + 1, cells := 0, slots := 0, locals := 64 * (d + 1) }
theorem cm_spec {a : Nat} (ha : a < 227) : cwW a = true ∧ (mi a).1.cls = clsN (inf a).1 ∧ ((mi a).1.cls ≠ "java/lang/invoke/MethodHandle" ∧ (mi a).1.cls ≠ "java/lang/invoke/VarHandle") ∧ plainName (mi a).1.cls = true ∧ (parseMethodDescriptor (mi a).1.desc).map (fun d => d.parameters.length) = some (nrg a) ∧ (inf a).2 ≤ 40 := by
  have h := cm_all a ha
  unfold cwM at h
  simp only [Bool.and_eq_true, decide_eq_true_eq, Nat.ble_eq] at h
  obtain ⟨⟨⟨⟨⟨⟨⟨h1, h2⟩, h3⟩, h4⟩, h5⟩, h6⟩, h7⟩, h8⟩ := h
  exact ⟨h1, h2, ⟨h3, h4⟩, h5, h6, h7⟩
theorem cm_cls {a : Nat} (ha : a + 1 ≤ 227) : (mi a).1.cls = clsN (inf a).1 := (cm_spec ha).2.1
theorem cm_d {a : Nat} (ha : a + 1 ≤ 227) : (mi a).1.cls ≠ "java/lang/invoke/MethodHandle" ∧ (mi a).1.cls ≠ "java/lang/invoke/VarHandle" ∧ (parseMethodDescriptor (mi a).1.desc).map (fun d => d.parameters.length) = some (nrg a) := ⟨(cm_spec ha).2.2.1.1, (cm_spec ha).2.2.1.2, (cm_spec ha).2.2.2.2.1⟩
theorem rmD_ok {a d : Nat} {R : Room} (ha : a + 1 ≤ 227) (h1 : d + 2 ≤ R.frames) (h2 : 64 * (d + 2) ≤ R.locals) : (rmD d).frames + 1 ≤ R.frames ∧ 8 + ((inf a).2 + 11) + (rmD d).locals ≤ R.locals := by
  have := (cm_spec ha).2.2.2.2.2
  refine ⟨h1, ?_⟩
  show 8 + ((inf a).2 + 11) + 64 * (d + 1) ≤ R.locals
  omega
theorem cw_words {a : Nat} (ha : a + 1 ≤ 227) (hk : (cwd a).2.2.2.2 = 0) : Cond.code (mi a).1 (mi a).2.1 (inf a).2 (mi a).2.2 ∈ TS ∧ Cond.initialized (mi a).1.cls ∈ TS ∧ Cond.instanceMethod (mi a).1 ∈ TS ∧ Cond.selects (mi a).1.cls (mi a).1 (mi a).1 ∈ TS := by
  have h := (cm_spec ha).1
  unfold cwW at h
  split at h
  · simp only [Bool.and_eq_true, decide_eq_true_eq] at h
    exact ⟨TS_in h.1.1.1 rfl, TS_in h.1.1.2 rfl, TS_in h.1.2 rfl, TS_in h.2 rfl⟩
  · rename_i e; rw [e] at hk; cases hk
  · rename_i e; rw [e] at hk; cases hk
  · cases h
theorem cw_wordsS {a : Nat} (ha : a + 1 ≤ 227) (hk : (cwd a).2.2.2.2 = 1) : Cond.code (mi a).1 (mi a).2.1 (inf a).2 (mi a).2.2 ∈ TS ∧ Cond.initialized (mi a).1.cls ∈ TS ∧ Cond.static (mi a).1 ∈ TS := by
  have h := (cm_spec ha).1
  unfold cwW at h
  split at h
  · rename_i e; rw [e] at hk; cases hk
  · simp only [Bool.and_eq_true, decide_eq_true_eq] at h
    exact ⟨TS_in h.1.1 rfl, TS_in h.1.2 rfl, TS_in h.2 rfl⟩
  · rename_i e; rw [e] at hk; cases hk
  · cases h
theorem lk_mem {α : Type} : ∀ (l : List (Nat × α)) (i : Nat) (x : α), lk l i = some x → (i, x) ∈ l
  | [], i, x, h => by cases h
  | (j, y) :: l, i, x, h => by
    unfold lk at h
    cases hj : Nat.beq j i
    · rw [hj] at h
      exact List.mem_cons_of_mem _ (lk_mem l i x h)
    · rw [hj] at h
      cases h
      rw [Nat.eq_of_beq_eq_true hj]
      exact List.mem_cons_self
theorem nth_big {α : Type} {l : List (List α)} {o : Nat} {q : α} (h : q ∈ nth [] l o) : o < l.length := by
  apply Nat.not_le.mp
  intro hl
  rw [nth_out [] l o hl] at h
  cases h
theorem fl_word {o ix a b : Nat} (h : chF o ix a b = true) : Cond.fieldLink (clsN o) ix (Tf a b).1 (Tf a b).2.1 (Tf a b).2.2.1 ∈ TS ∧ b < nfs a ∧ a < 12 := by
  unfold chF at h
  split at h
  · rename_i c j p e
    simp only [Bool.and_eq_true, Nat.beq_eq] at h
    obtain ⟨rfl, rfl⟩ := h
    have hm := lk_mem _ _ _ e
    have ho : o < 14 := nth_big hm
    have h1 := List.all_eq_true.mp (List.all_eq_true.mp flT_ok o (List.mem_range.mpr ho)) _ hm
    unfold flW at h1
    simp only [Bool.and_eq_true, decide_eq_true_eq, Nat.ble_eq] at h1
    exact ⟨TS_in h1.1.1 rfl, h1.1.2, h1.2⟩
  · cases h
theorem ml_word {o ix a : Nat} (h : chL o ix a = true) (ha : a < 227 ∨ a = 900 ∨ a = 901 ∨ a = 902) : Cond.methodLink (clsN o) ix (mlY a) ∈ TS := by
  unfold chL at h
  split at h
  · rename_i t p e
    have h := Nat.eq_of_beq_eq_true h
    subst h
    have hm := lk_mem _ _ _ e
    have ho : o < 14 := nth_big hm
    have h1 := List.all_eq_true.mp (List.all_eq_true.mp mlT_ok o (List.mem_range.mpr ho)) _ hm
    unfold mlW at h1
    simp only [decide_eq_true_eq] at h1
    exact TS_in h1 rfl
  · cases h
theorem mlY_lt {a : Nat} (h : a < 227) : mlY a = (mi a).1 := by
  unfold mlY
  rw [show Nat.beq a 900 = false from Bool.eq_false_iff.mpr fun q => by have := Nat.eq_of_beq_eq_true q; omega, show Nat.beq a 901 = false from Bool.eq_false_iff.mpr fun q => by have := Nat.eq_of_beq_eq_true q; omega, show Nat.beq a 902 = false from Bool.eq_false_iff.mpr fun q => by have := Nat.eq_of_beq_eq_true q; omega]
  rfl
/-! classes -/
def tyf (c : Nat) : Nat → FieldType := nth tyX0 [tyX0, tyX1, tyX2, tyX3, tyX4, tyX5, tyX6, tyX7, tyX8, tyX9, tyX10, tyX11] c
theorem cl_at {c : Nat} (h : c < 12) : ∃ (C : String) (T : u_T) (n : Nat), vwCl[c]? = some (C, T, n) ∧ Tf c = T ∧ nfs c = n := by
  match c, h with
  | 0, _ => exact ⟨_, _, _, rfl, rfl, rfl⟩
  | 1, _ => exact ⟨_, _, _, rfl, rfl, rfl⟩
  | 2, _ => exact ⟨_, _, _, rfl, rfl, rfl⟩
  | 3, _ => exact ⟨_, _, _, rfl, rfl, rfl⟩
  | 4, _ => exact ⟨_, _, _, rfl, rfl, rfl⟩
  | 5, _ => exact ⟨_, _, _, rfl, rfl, rfl⟩
  | 6, _ => exact ⟨_, _, _, rfl, rfl, rfl⟩
  | 7, _ => exact ⟨_, _, _, rfl, rfl, rfl⟩
  | 8, _ => exact ⟨_, _, _, rfl, rfl, rfl⟩
  | 9, _ => exact ⟨_, _, _, rfl, rfl, rfl⟩
  | 10, _ => exact ⟨_, _, _, rfl, rfl, rfl⟩
  | 11, _ => exact ⟨_, _, _, rfl, rfl, rfl⟩
theorem cl_cases {P : Nat → String → u_T → Nat → Prop} (h0 : P 0 RX0 TX0 3) (h1 : P 1 RX1 TX1 12) (h2 : P 2 RX2 TX2 3) (h3 : P 3 RX3 TX3 6) (h4 : P 4 RX4 TX4 6) (h5 : P 5 RX5 TX5 8) (h6 : P 6 RX6 TX6 1) (h7 : P 7 RX7 TX7 6) (h8 : P 8 RX8 TX8 10) (h9 : P 9 RX9 TX9 11) (h10 : P 10 RX10 TX10 20) (h11 : P 11 RX11 TX11 48) :
    ∀ {c : Nat} {C : String} {T : u_T} {n : Nat}, vwCl[c]? = some (C, T, n) → P c C T n := by
  intro c C T n h
  match c, h with
  | 0, h => cases h; exact h0
  | 1, h => cases h; exact h1
  | 2, h => cases h; exact h2
  | 3, h => cases h; exact h3
  | 4, h => cases h; exact h4
  | 5, h => cases h; exact h5
  | 6, h => cases h; exact h6
  | 7, h => cases h; exact h7
  | 8, h => cases h; exact h8
  | 9, h => cases h; exact h9
  | 10, h => cases h; exact h10
  | 11, h => cases h; exact h11
  | c + 12, h => simp [vwCl] at h
theorem in_places {ws : List Cond} (ps : List Nat) (hp : ws = ps.filterMap (fun i => lw_tbl[i]?)) (h : ws.all goodWord = true) : ∀ w ∈ ws, w ∈ TS := by
  intro w hw
  have h1 := List.all_eq_true.mp h w hw
  rw [hp] at hw
  obtain ⟨i, -, hi⟩ := List.mem_filterMap.mp hw
  exact TS_in hi h1
theorem ci_0 : ∀ w ∈ u_ws RX0 TX0 3, w ∈ TS := in_places [237, 239, 241] (by decide +kernel) (by decide +kernel)
theorem ci_1 : ∀ w ∈ u_ws RX1 TX1 12, w ∈ TS := in_places [328, 330, 332, 334, 336, 338, 340, 342, 344, 346, 348, 350] (by decide +kernel) (by decide +kernel)
theorem ci_2 : ∀ w ∈ u_ws RX2 TX2 3, w ∈ TS := in_places [299, 301, 303] (by decide +kernel) (by decide +kernel)
theorem ci_3 : ∀ w ∈ u_ws RX3 TX3 6, w ∈ TS := in_places [214, 216, 218, 220, 222, 224] (by decide +kernel) (by decide +kernel)
theorem ci_4 : ∀ w ∈ u_ws RX4 TX4 6, w ∈ TS := in_places [410, 412, 414, 416, 418, 420] (by decide +kernel) (by decide +kernel)
theorem ci_5 : ∀ w ∈ u_ws RX5 TX5 8, w ∈ TS := in_places [272, 274, 276, 278, 280, 282, 284, 286] (by decide +kernel) (by decide +kernel)
theorem ci_6 : ∀ w ∈ u_ws RX6 TX6 1, w ∈ TS := in_places [251] (by decide +kernel) (by decide +kernel)
theorem ci_7 : ∀ w ∈ u_ws RX7 TX7 6, w ∈ TS := in_places [181, 183, 185, 187, 189, 191] (by decide +kernel) (by decide +kernel)
theorem ci_8 : ∀ w ∈ u_ws RX8 TX8 10, w ∈ TS := in_places [137, 139, 141, 143, 145, 147, 149, 151, 153, 155] (by decide +kernel) (by decide +kernel)
theorem ci_9 : ∀ w ∈ u_ws RX9 TX9 11, w ∈ TS := in_places [370, 372, 374, 376, 378, 380, 382, 384, 386, 388, 390] (by decide +kernel) (by decide +kernel)
theorem ci_10 : ∀ w ∈ u_ws RX10 TX10 20, w ∈ TS := in_places [443, 445, 447, 449, 451, 453, 455, 457, 459, 461, 463, 465, 467, 469, 471, 473, 475, 477, 479, 481] (by decide +kernel) (by decide +kernel)
theorem ci_11 : ∀ w ∈ u_ws RX11 TX11 48, w ∈ TS := in_places [1190, 1192, 1194, 1196, 1198, 1200, 1202, 1204, 1206, 1208, 1210, 1212, 1214, 1216, 1218, 1220, 1222, 1224, 1226, 1228, 1230, 1232, 1234, 1236, 1238, 1240, 1242, 1244, 1246, 1248, 1250, 1252, 1254, 1256, 1258, 1260, 1262, 1264, 1266, 1268, 1270, 1272, 1274, 1276, 1278, 1280, 1282, 1284] (by decide +kernel) (by decide +kernel)
theorem cl_in : ∀ {c : Nat} {C : String} {T : u_T} {n : Nat}, vwCl[c]? = some (C, T, n) → ∀ w ∈ u_ws C T n, w ∈ TS := cl_cases (P := fun _ C T n => ∀ w ∈ u_ws C T n, w ∈ TS) ci_0 ci_1 ci_2 ci_3 ci_4 ci_5 ci_6 ci_7 ci_8 ci_9 ci_10 ci_11
theorem cl_ty : ∀ {c : Nat} {C : String} {T : u_T} {n : Nat}, vwCl[c]? = some (C, T, n) → ∀ k, k < n → parseFieldDescriptor (T k).2.2.1 = some (tyf c k) := cl_cases (P := fun c C T n => ∀ k, k < n → parseFieldDescriptor (T k).2.2.1 = some (tyf c k)) tyX0_ok tyX1_ok tyX2_ok tyX3_ok tyX4_ok tyX5_ok tyX6_ok tyX7_ok tyX8_ok tyX9_ok tyX10_ok tyX11_ok
theorem cl_nm : ∀ {c : Nat} {C : String} {T : u_T} {n : Nat}, vwCl[c]? = some (C, T, n) → ∀ a, a < n → ∀ b, b < n → a ≠ b → (T a).2.1 ≠ (T b).2.1 := cl_cases (P := fun c C T n => ∀ a, a < n → ∀ b, b < n → a ≠ b → (T a).2.1 ≠ (T b).2.1) nmX0 nmX1 nmX2 nmX3 nmX4 nmX5 nmX6 nmX7 nmX8 nmX9 nmX10 nmX11
theorem cl_name : ∀ {c : Nat} {C : String} {T : u_T} {n : Nat}, vwCl[c]? = some (C, T, n) → C = clsN c := cl_cases (P := fun c C _ _ => C = clsN c) rfl rfl rfl rfl rfl rfl rfl rfl rfl rfl rfl rfl
/-! rows -/
theorem row13 {k j : Nat} (h : vOK (.inr (.inr (13, k, j)))) : k = 0 ∧ j = 1 := by
  rcases h with h | h
  · exact absurd (idl_c _ h).1 (by simp)
  · cases h
    exact ⟨rfl, rfl⟩
theorem not13 {N k j q L : Nat} (h : vOK (.inr (.inr (13, k, j)))) (hq : ¬ q = 1) (hk : arO N 13 j = some (q, L)) : False := by
  obtain ⟨rfl, rfl⟩ := row13 h
  cases hk
  exact hq rfl
theorem rowI {N c k j q L : Nat} (h : vOK (.inr (.inr (c, k, j)))) (h13 : ¬ c = 13) (hk : arO N c j = some (q, L)) : ∃ j2, j = j2 + 1 ∧ (c, k, j2 + 1) ∈ idl ∧ (akd c j2).1 = q ∧ L = (akd c j2).2 := by
  have hm : (c, k, j) ∈ idl := h.resolve_right (fun e => by cases e; exact h13 rfl)
  cases j with
  | zero => cases hk
  | succ j2 =>
    have hb : Nat.beq c 13 = false := Bool.eq_false_iff.mpr fun e => h13 (Nat.eq_of_beq_eq_true e)
    unfold arO at hk
    rw [hb] at hk
    have hk : akO c j2 = some (q, L) := hk
    refine ⟨j2, rfl, hm, ?_, ?_⟩
    · unfold akd; rw [hk]
    · unfold akd; rw [hk]
theorem cel_I {cy : Nat × Nat × Nat × Nat} {ad : RF → Nat} {σ : ST} {c k j : Nat} (h : (akd c j).1 = 1) : cel cy ad σ (c, k, j + 1) = .inl (cy.1, (akd c j).2, .inl (σ.1 c k (j + 1))) := by
  show celA cy ad σ c k j (akd c j) = _
  generalize akd c j = q at h
  obtain ⟨q0, q1⟩ := q
  simp only at h
  subst h
  rfl
theorem cel_J {cy : Nat × Nat × Nat × Nat} {ad : RF → Nat} {σ : ST} {c k j : Nat} (h : (akd c j).1 = 2) : cel cy ad σ (c, k, j + 1) = .inl (cy.2.1, (akd c j).2, .inr (.inl (σ.2 c k (j + 1)))) := by
  show celA cy ad σ c k j (akd c j) = _
  generalize akd c j = q at h
  obtain ⟨q0, q1⟩ := q
  simp only at h
  subst h
  rfl
theorem cel_R {cy : Nat × Nat × Nat × Nat} {ad : RF → Nat} {σ : ST} {c k j : Nat} (h : (akd c j).1 = 3) : cel cy ad σ (c, k, j + 1) = .inl (cond (Nat.beq (raf c (j + 1) 0).1 7) cy.2.2.2 cy.2.2.1, (akd c j).2, .inr (.inr (.inr (.inr (fun i => some (ad (raf c (j + 1) i))))))) := by
  show celA cy ad σ c k j (akd c j) = _
  generalize akd c j = q at h
  obtain ⟨q0, q1⟩ := q
  simp only at h
  subst h
  rfl
theorem cel_any (cy : Nat × Nat × Nat × Nat) (ad : RF → Nat) (σ : ST) {c k j : Nat} (hm : (c, k, j + 1) ∈ idl) : ∃ (cA : ClassId) (ar : vp_A) (t0 : Nat) (ty : FieldType), cel cy ad σ (c, k, j + 1) = .inl (cA, ar) ∧ (tyl cy)[t0]? = some (cA, ty) ∧ ar.1 = (akd c j).2 := by
  show ∃ (cA : ClassId) (ar : vp_A) (t0 : Nat) (ty : FieldType), celA cy ad σ c k j (akd c j) = .inl (cA, ar) ∧ (tyl cy)[t0]? = some (cA, ty) ∧ ar.1 = (akd c j).2
  generalize akd c j = q
  obtain ⟨q0, q1⟩ := q
  match q0 with
  | 0 =>
    show ∃ (cA : ClassId) (ar : vp_A) (t0 : Nat) (ty : FieldType), Sum.inl (cond (Nat.beq (raf c (j + 1) 0).1 7) cy.2.2.2 cy.2.2.1, q1, .inr (.inr (.inr (.inr (fun i => some (ad (raf c (j + 1) i))))))) = .inl (cA, ar) ∧ (tyl cy)[t0]? = some (cA, ty) ∧ ar.1 = q1
    cases Nat.beq (raf c (j + 1) 0).1 7
    · exact ⟨_, _, 2, _, rfl, rfl, rfl⟩
    · exact ⟨_, _, 3, _, rfl, rfl, rfl⟩
  | 1 => exact ⟨_, _, 0, _, rfl, rfl, rfl⟩
  | 2 => exact ⟨_, _, 1, _, rfl, rfl, rfl⟩
  | n + 3 =>
    show ∃ (cA : ClassId) (ar : vp_A) (t0 : Nat) (ty : FieldType), Sum.inl (cond (Nat.beq (raf c (j + 1) 0).1 7) cy.2.2.2 cy.2.2.1, q1, .inr (.inr (.inr (.inr (fun i => some (ad (raf c (j + 1) i))))))) = .inl (cA, ar) ∧ (tyl cy)[t0]? = some (cA, ty) ∧ ar.1 = q1
    cases Nat.beq (raf c (j + 1) 0).1 7
    · exact ⟨_, _, 2, _, rfl, rfl, rfl⟩
    · exact ⟨_, _, 3, _, rfl, rfl, rfl⟩
theorem vOK_fget {σ : ST} {c k j : Nat} (hm : (c, k, 0) ∈ idl) (hj : j < nfs c) : vOK (fget σ c k j) := by
  have h := idl_fld _ hm rfl j hj
  rw [fget_eq]
  revert h
  simp only
  generalize fkd c j = q
  obtain ⟨q0, q1⟩ := q
  intro h
  match q0, h with
  | 0, _ => trivial
  | 1, _ => trivial
  | 2, h => exact Or.inl (h.2.1 rfl)
  | 3, _ => trivial
  | 4, h => exact Or.inl (h.1 rfl)
  | n + 5, h => exact absurd h.2.2 (by simp)
theorem fget_I0 {ad : RF → Nat} {σ : ST} {c k b : Nat} {x : Int32} (h : (fkd c b).1 = 0) : tr ad (fget (uI σ c k (b + 1) 0 x) c k b) = .int x := by
  rw [fget_eq]
  generalize fkd c b = q at h
  obtain ⟨q0, q1⟩ := q
  simp only at h
  subst h
  show Value.int ((uI σ c k (b + 1) 0 x).1 c k (b + 1) 0) = .int x
  rw [uI_row]
  unfold upd
  rw [if_pos rfl]
theorem fget_I3 {ad : RF → Nat} {σ : ST} {c k b : Nat} {x : Int32} (h : (fkd c b).1 = 3) : tr ad (fget (uI σ c k (b + 1) 0 x) c k b) = .int x := by
  rw [fget_eq]
  generalize fkd c b = q at h
  obtain ⟨q0, q1⟩ := q
  simp only at h
  subst h
  show Value.int ((uI σ c k (b + 1) 0 x).1 c k (b + 1) 0) = .int x
  rw [uI_row]
  unfold upd
  rw [if_pos rfl]
theorem fget_J1 {ad : RF → Nat} {σ : ST} {c k b : Nat} {x : Int64} (h : (fkd c b).1 = 1) : tr ad (fget (uL σ c k (b + 1) 0 x) c k b) = .long x := by
  rw [fget_eq]
  generalize fkd c b = q at h
  obtain ⟨q0, q1⟩ := q
  simp only at h
  subst h
  show Value.long ((uL σ c k (b + 1) 0 x).2 c k (b + 1) 0) = .long x
  rw [uL_row]
  unfold vp_updL
  rw [if_pos rfl]
theorem ldc_word {o ix : Nat} {z : Int} (h : chK o ix z = true) : Cond.constant (clsN o) ix (Int32.ofInt z) ∈ TS := by
  unfold chK at h
  split at h
  · simp only [decide_eq_true_eq] at h
    subst h
    exact TS_in (p := 399) (by decide +kernel) rfl
  · simp only [decide_eq_true_eq] at h
    subst h
    exact TS_in (p := 822) (by decide +kernel) rfl
  · simp only [decide_eq_true_eq] at h
    subst h
    exact TS_in (p := 550) (by decide +kernel) rfl
  · cases h
theorem ldc2_word {o ix : Nat} {z : Int} (h : chJ o ix z = true) : Cond.constantLong (clsN o) ix (Int64.ofInt z) ∈ TS := by
  unfold chJ at h
  split at h
  · simp only [decide_eq_true_eq] at h
    subst h
    exact TS_in (p := 1323) (by decide +kernel) rfl
  · simp only [decide_eq_true_eq] at h
    subst h
    exact TS_in (p := 1324) (by decide +kernel) rfl
  · cases h
theorem copy_words : Cond.native arraycopyName ∈ TS ∧ Cond.static arraycopyName ∈ TS ∧ Cond.initialized "java/lang/System" ∈ TS := ⟨TS_in (p := 597) (by decide +kernel) rfl, TS_in (p := 596) (by decide +kernel) rfl, TS_in (p := 98) (by decide +kernel) rfl⟩
theorem copy_words9 : nativeFrameWords "java/lang/System" "arraycopy" 5 ≤ 40 := by decide +kernel
theorem ret_ty {a : Nat} {r : Option FieldType} {x : Int32} (h : chR a r = true) (hz : a = 0 ∨ x = 0 ∨ x = 1) : r = some .int ∨ (r = some .boolean ∧ (x = 0 ∨ x = 1)) := by
  unfold chR at h
  cases a with
  | zero => exact Or.inl (by simpa using h)
  | succ a => exact Or.inr ⟨by simpa using h, hz.resolve_left (by omega)⟩
theorem sOK_cons {v : AV} {st : List AV} (h : vOK v) (hs : sOK st) : sOK (v :: st) := fun w hw => (List.mem_cons.mp hw).elim (fun e => e ▸ h) (hs w)
theorem sOK_tail {v : AV} {st : List AV} (hs : sOK (v :: st)) : sOK st := fun w hw => hs w (List.mem_cons_of_mem _ hw)
theorem sOK_psh {v : Option Int32} {st : List AV} (hs : sOK st) : sOK (psh (v.map Sum.inl) st) := by
  cases v with
  | none => exact hs
  | some x => exact sOK_cons trivial hs
theorem catS_app : ∀ (a b : List AV), catS (a ++ b) = catS a + catS b
  | [], b => by rw [List.nil_append, catS, Nat.zero_add]
  | v :: a, b => by rw [List.cons_append, catS, catS, catS_app a b, Nat.add_assoc]
theorem catS_rev : ∀ (a : List AV), catS a.reverse = catS a
  | [] => rfl
  | v :: a => by rw [List.reverse_cons, catS_app, catS_rev a, catS, catS, catS, Nat.add_zero, Nat.add_comm]
theorem wp_far {N n : Nat} {d : Nat × Nat} {a : Nat} {ls : List (Option AV)} {st : List AV} {σ : ST} {Q : POST} (h : 900 ≤ a) : ¬ wp N n d (tab a) 0 ls st σ Q := by
  have e : tab a = ([], [], 999) := by
    unfold tab
    rw [nth_out [] tabL (a / 16) (by have : tabL.length = 15 := by decide +kernel
                                     omega)]
    rfl
  rw [e]
  cases n with
  | zero => exact fun h => h
  | succ n => exact fun h => h
/-- the locals -/
def LOC (ad : RF → Nat) (lsM : Array Slot) (n : Nat) (ls : List (Option AV)) : Prop := lv_has lsM n (asc ad 0 ls) ∧ lOK ls ∧ ∀ k, inL ls k = true → k < n
theorem LOC_put1 {ad : RF → Nat} {lsM lsM' : Array Slot} {n : Nat} {ls : List (Option AV)} {k : Nat} {v : AV} (h0 : LOC ad lsM n ls) (hi : inL ls k = true) (hn : noLg ls k = true) (hv : vOK v)
    (h : lv_has lsM' n ((k, tr ad v) :: (asc ad 0 ls).filter (fun q => !(q.1 == k) && !(q.1 + 1 == k && q.2.category == 2)))) : LOC ad lsM' n (stl ls k (some v)) :=
  ⟨lv_put1 hi hn h, lOK_stl h0.2.1 hi (fun w e => by cases e; exact hv), fun j hj => h0.2.2 j (by rwa [inL_stl] at hj)⟩
theorem LOC_put2 {ad : RF → Nat} {lsM lsM' : Array Slot} {n : Nat} {ls : List (Option AV)} {k : Nat} {v : AV} (h0 : LOC ad lsM n ls) (hi : inL ls (k + 1) = true) (hn : noLg ls k = true) (hv : vOK v)
    (h : lv_has lsM' n ((k, tr ad v) :: (asc ad 0 ls).filter (fun q => !(q.1 == k) && (!(q.1 == k + 1) && !(q.1 + 1 == k && q.2.category == 2))))) : LOC ad lsM' n (stl (stl ls k (some v)) (k + 1) none) :=
  ⟨lv_put2 hi (inL_pred ls k hi) hn h, lOK_stl (lOK_stl h0.2.1 (inL_pred ls k hi) (fun w e => by cases e; exact hv)) (by rw [inL_stl]; exact hi) (fun w e => by cases e), fun j hj => h0.2.2 j (by rwa [inL_stl, inL_stl] at hj)⟩
theorem inL_ent : ∀ (n : Nat) (vs : List AV) (k : Nat), inL (ent n vs) k = true → k < n
  | 0, vs, k, h => by simp [ent, inL] at h
  | n + 1, [], 0, h => by omega
  | n + 1, [], k + 1, h => by have := inL_ent n [] k (by simpa [ent, inL] using h); omega
  | n + 1, .inl x :: vs, 0, h => by omega
  | n + 1, .inl x :: vs, k + 1, h => by have := inL_ent n vs k (by simpa [ent, inL] using h); omega
  | n + 1, .inr (.inr r) :: vs, 0, h => by omega
  | n + 1, .inr (.inr r) :: vs, k + 1, h => by have := inL_ent n vs k (by simpa [ent, inL] using h); omega
  | n + 2, .inr (.inl x) :: vs, 0, h => by omega
  | n + 2, .inr (.inl x) :: vs, 1, h => by omega
  | n + 2, .inr (.inl x) :: vs, k + 2, h => by have := inL_ent n vs k (by simpa [ent, inL] using h); omega
  | 1, .inr (.inl x) :: vs, 0, h => by omega
  | 1, .inr (.inl x) :: vs, k + 1, h => by simp [ent, inL] at h
end
section
/-! THE WALK: what IL's wp promises, the machine does -/
/-- what stands through a method: the machine, its code, the words, the classes, the script, and what else of the start is needed (SX) -/
def CX (D : va_G) (cy : Nat × Nat × Nat × Nat) (b N : Nat) (xs : Nat → Int32) (SX : State → Prop) (a : Nat) (p : Program) (s : State) (m : MethodId) (args : Array Value) (meth : Method) (c : Code) : Prop :=
  p.tables.exec = Jvm.exec ∧ c.code = (mi a).2.1 ∧ c.maxLocals = (inf a).2 ∧ s.vm.findClass (mi a).1.cls = some m.cls ∧ (∀ w ∈ TS, w.before args s = true) ∧ va_K D vwCl (tyl cy) s ∧ va_X b N xs s s.heap ∧ b < s.heap.size ∧ SX s ∧ meth.locks = false
/-- what is needed stays, where the walk's own cells alone change -/
def SXk (A : Nat → Prop) (SX : State → Prop) : Prop := ∀ s U : State, SX s → s.heap.size ≤ U.heap.size → (∀ q : Nat, q < s.heap.size → ¬ A q → U.heap[q]? = s.heap[q]?) → s.WarmedH U.vm → SX U
def RM (R : Room) (d : Nat × Nat) (cells slots cm sm : Nat) : Prop := d.1 + 1 ≤ R.frames ∧ 64 * (d.1 + 1) ≤ R.locals ∧ cells + 1000 * d.2 ≤ cm ∧ slots + 10000 * d.2 ≤ sm ∧ cm ≤ R.cells ∧ sm ≤ R.slots
def rtD (a : Nat) (v : Option Int32) (pc : Nat) : Prop := match v with
  | some x => decode (mi a).2.1 pc = .ok (.ireturn, 1) ∧ ((mi a).2.2 = some .int ∨ ((mi a).2.2 = some .boolean ∧ (x = 0 ∨ x = 1)))
  | none => decode (mi a).2.1 pc = .ok (.return_, 1) ∧ (mi a).2.2 = none
def RT (l : Launch) (D : va_G) (cy : Nat × Nat × Nat × Nat) (ad : RF → Nat) (xs : Nat → Int32) (A : Nat → Prop) (a : Nat) (Q : POST) (p : Program) (e : Env) (R : Room) (s : State) (m : MethodId) (args : Array Value) (below : List Frame) (meth : Method) (c : Code) (cm sm : Nat) (Qm : State → Prop) : Prop :=
  ∀ (v : Option Int32) (σ' : ST) (H' : Heap) (locs' : List Loc) (cells' slots' pc' : Nat) (lsM' : Array Slot), Q (v.map Sum.inl) σ' → va_P D vwCl (wsl cy ad σ') H' → va_S A s.heap H' locs' → σ'.1 13 0 1 = xs → cells' ≤ cm → slots' ≤ sm → rtD a v pc' →
    W p l e R s m args below meth c H' locs' cells' slots' Qm (F0 m pc' lsM' (v.toList.map Value.int))
def SND (l : Launch) (D : va_G) (cy : Nat × Nat × Nat × Nat) (ad : RF → Nat) (b N : Nat) (xs : Nat → Int32) (A : Nat → Prop) (SX : State → Prop) (d : Nat × Nat) (a i : Nat) (ls : List (Option AV)) (st : List AV) (σ : ST) (Q : POST) : Prop :=
  ∀ (p : Program) (e : Env) (R : Room) (s : State) (m : MethodId) (args : Array Value) (below : List Frame) (meth : Method) (c : Code) (H : Heap) (locs : List Loc) (cells slots cm sm : Nat) (Qm : State → Prop) (lsM : Array Slot),
    CX D cy b N xs SX a p s m args meth c → va_P D vwCl (wsl cy ad σ) H → va_D A (wsl cy ad σ) → va_S A s.heap H locs → σ.1 13 0 1 = xs → LOC ad lsM (inf a).2 ls → sOK st → RM R d cells slots cm sm → RT l D cy ad xs A a Q p e R s m args below meth c cm sm Qm →
    W p l e R s m args below meth c H locs cells slots Qm (F0 m (rpc (tab a) i) lsM (st.map (tr ad)))
/-- the text "weight" and the call of wordOf behind it -/
def HWd (l : Launch) (D : va_G) (cy : Nat × Nat × Nat × Nat) (b N : Nat) (xs : Nat → Int32) (A : Nat → Prop) (SX : State → Prop) : Prop :=
  ∀ (p : Program) (e : Env) (R : Room) (s : State) (m : MethodId) (args : Array Value) (below : List Frame) (meth : Method) (c : Code) (H : Heap) (locs : List Loc) (cells slots : Nat) (Qm : State → Prop) (a pc : Nat) (lsM : Array Slot) (st : List Value),
    CX D cy b N xs SX a p s m args meth c → (inf a).1 = 11 → decode (mi a).2.1 pc = .ok (.ldc 172, 2) → decode (mi a).2.1 (pc + 2) = .ok (.invokestatic 174, 3) → lsM.size = (inf a).2 → (st.map fun v => v.category).sum ≤ 8 → 5 ≤ R.frames → 320 ≤ R.locals → cells ≤ R.cells → slots ≤ R.slots → va_S A s.heap H locs →
    (∀ (H1 : Heap) (locs1 : List Loc), H1 = H → va_S A s.heap H1 locs1 → W p l e R s m args below meth c H1 locs1 cells slots Qm (F0 m (pc + 5) lsM (.long 777297172 :: st))) → W p l e R s m args below meth c H locs cells slots Qm (F0 m pc lsM st)
/-- the law's octet -/
def HOd (l : Launch) (D : va_G) (cy : Nat × Nat × Nat × Nat) (ad : RF → Nat) (b N : Nat) (xs : Nat → Int32) (A : Nat → Prop) (SX : State → Prop) : Prop :=
  ∀ (p : Program) (e : Env) (R : Room) (s : State) (m : MethodId) (args : Array Value) (below : List Frame) (meth : Method) (c : Code) (H : Heap) (locs : List Loc) (cells slots : Nat) (Qm : State → Prop) (a pc ix : Nat) (lsM : Array Slot) (st : List Value) (σ : ST) (q : Int32),
    CX D cy b N xs SX a p s m args meth c → Cond.methodLink (clsN (inf a).1) ix yL_octet ∈ TS → decode (mi a).2.1 pc = .ok (.invokestatic ix, 3) → lsM.size = (inf a).2 → (st.map fun v => v.category).sum ≤ 8 → 11 ≤ R.frames → 704 ≤ R.locals → cells + 1000 ≤ R.cells → slots + 10000 ≤ R.slots → va_P D vwCl (wsl cy ad σ) H → va_D A (wsl cy ad σ) → va_S A s.heap H locs →
    (¬ (q < 0 ∨ σ.1 10 0 17 0 ≤ q ∨ 480 ≤ q) → ∀ (H1 : Heap) (locs1 : List Loc) (cells1 slots1 : Nat), va_P D vwCl (wsl cy ad (uL σ 12 0 1 0 (σ.1 10 0 2 q.toNatClampNeg).toInt64)) H1 → va_S A s.heap H1 locs1 → cells1 ≤ cells + 1000 → slots1 ≤ slots + 10000 → W p l e R s m args below meth c H1 locs1 cells1 slots1 Qm (F0 m (pc + 3) lsM (.int 0 :: st))) →
    ((q < 0 ∨ σ.1 10 0 17 0 ≤ q ∨ 480 ≤ q) → ∀ (H1 : Heap) (locs1 : List Loc) (cells1 slots1 : Nat), va_P D vwCl (wsl cy ad σ) H1 → va_S A s.heap H1 locs1 → cells1 ≤ cells + 1000 → slots1 ≤ slots + 10000 → W p l e R s m args below meth c H1 locs1 cells1 slots1 Qm (F0 m (pc + 3) lsM (.int 1 :: st))) →
    W p l e R s m args below meth c H locs cells slots Qm (F0 m pc lsM (.ref (ad (12, 0, 1)) :: .int q :: .ref (ad (10, 0, 0)) :: st))
section CALL
variable {p : Program} {l : Launch} {e : Env} {R : Room} {s : State} {m : MethodId} {args : Array Value} {below : List Frame} {meth : Method} {c : Code} {H : Heap} {locs : List Loc} {cells slots : Nat} {Q : State → Prop} {pc : Nat} {ls : Array Slot} {rest st0 : List Value} {A : Nat → Prop} {H0 : Heap} {free : Addr → Prop} {Qa : State → Outcome → State → Prop}
theorem il_call (hr : va_Run p l e R s m args below meth c H locs cells slots 0 0 (F0 m pc ls st0) rest Qa free) (hS : va_S A H0 H locs) (hf : ∀ q, free q → A q) (hF : ∀ st v t, Qa st (.returned v) t → va_F A st t)
    (kk : ∀ (v : Option Value) (t st : State), st.heap = H → Qa st (.returned v) t → s.vm.Alike t.vm → ∀ (H1 : Heap) (locs1 : List Loc), t.heap = H1 → va_S A H0 H1 locs1 → W p l e R s m args below meth c H1 locs1 cells slots Q (F0 m (pc + 3) ls (v.toList ++ rest))) : W p l e R s m args below meth c H locs cells slots Q (F0 m pc ls st0) := by
  intro T hT X
  obtain ⟨v, st₀, t, T', L, h0, X', hL, e1, e2, hq, st⟩ := hr T hT X
  obtain ⟨hz, hk⟩ := hF _ _ _ hq
  rw [h0] at hz hk
  obtain ⟨t2, a1, b1⟩ := kk v t st₀ h0 hq (by rw [← e2]; exact X'.warmed.alike) T'.heap (locs ++ L) e1.symm
    ⟨Nat.le_trans hS.1 (by rw [e1]; exact hz), fun q h1 h2 => by rw [e1, hk q (Nat.lt_of_lt_of_le h1 hS.1) h2]; exact hS.2.1 q h1 h2, fun q hq => by
      rcases List.mem_append.mp hq with h | h
      · exact hS.2.2 q h
      · exact hf _ (hL q h)⟩ T' rfl X'
  exact ⟨t2, st t2 a1, b1⟩
end CALL
/-- what holds at a method's entry -/
def pcM (D : va_G) (cy : Nat × Nat × Nat × Nat) (ad : RF → Nat) (b N : Nat) (xs : Nat → Int32) (SX : State → Prop) (σ : ST) (U : State) : Prop := va_P D vwCl (wsl cy ad σ) U.heap ∧ va_K D vwCl (tyl cy) U ∧ va_X b N xs U U.heap ∧ b < U.heap.size ∧ SX U
def qcM (D : va_G) (cy : Nat × Nat × Nat × Nat) (ad : RF → Nat) (xs : Nat → Int32) (A : Nat → Prop) (Q : POST) : Array Value → State → Outcome → State → Prop := fun _ st oc t =>
  (∃ (v : Option Int32) (σ' : ST), oc = .returned (v.map Value.int) ∧ Q (v.map Sum.inl) σ' ∧ va_P D vwCl (wsl cy ad σ') t.heap ∧ σ'.1 13 0 1 = xs) ∧ va_F A st t
section MET
variable {l : Launch} {D : va_G} {cy : Nat × Nat × Nat × Nat} {ad : RF → Nat} {b N : Nat} {xs : Nat → Int32} {A : Nat → Prop} {SX : State → Prop}
theorem pcM_blind {avs : List Value} {σ : ST} (hSX : SXk A SX) : FrameBlind (va_Pc avs (pcM D cy ad b N xs SX σ)) := by
  intro a U g mk h
  obtain ⟨h0, h1, h2, h3, h4, h5⟩ := h
  have hal : U.vm.Alike (U.calling g mk a).vm := Vm.Alike.refl U.vm
  exact ⟨h0, h1, va_K.moved hal h2, va_X.moved hal h3, h4, hSX U (U.calling g mk a) h5 (Nat.le_refl _) (fun _ _ _ => rfl) (State.WarmedH.refl U)⟩
theorem pcM_of {σ : ST} {s U : State} {H : Heap} {locs : List Loc} (hSX : SXk A SX) (hP : va_P D vwCl (wsl cy ad σ) H) (hS : va_S A s.heap H locs) (hK : va_K D vwCl (tyl cy) s) (hX : va_X b N xs s s.heap) (hbl : b < s.heap.size) (hbA : ¬ A b) (hsx : SX s) (hU : U.heap = H) (hW : s.WarmedH U.vm) : pcM D cy ad b N xs SX σ U := by
  have hal : s.vm.Alike U.vm := hW.alike
  refine ⟨by rw [hU]; exact hP, va_K.moved hal hK, ?_, by rw [hU]; exact Nat.lt_of_lt_of_le hbl hS.1, hSX s U hsx (by rw [hU]; exact hS.1) (fun q h1 h2 => by rw [hU]; exact hS.2.1 q h1 h2) hW⟩
  rw [hU]
  exact va_X.moved hal (va_X.kept hX (hS.2.1 b hbl hbA))
theorem met_of {d a : Nat} {avs : List AV} {σ : ST} {Q : POST} (h : SND l D cy ad b N xs A SX (d, 0) a 0 (ent (inf a).2 avs) [] σ Q) (ha : a + 1 ≤ 227) (hD : va_D A (wsl cy ad σ)) (hxs : σ.1 13 0 1 = xs) (hargs : sOK avs) (hcat : catS avs ≤ (inf a).2) :
    Met l (mi a).1 (wsM a) (rmD d) (va_Pc (avs.map (tr ad)) (pcM D cy ad b N xs SX σ)) (qcM D cy ad xs A Q) 0 0 A := by
  refine Met.ofW (cc := (mi a).2.1) (maxL := (inf a).2) (ret := (mi a).2.2) (cm_spec ha).2.2.2.1 rfl ?_
  intro p e s m args below meth c s₁ B hml hv
  obtain ⟨rfl, hP, hK, hX, hbl, hsx⟩ := hv
  have hts := atoms_spec (ws := wsM a) B.pre
  have hown : s.vm.findClass (mi a).1.cls = some m.cls := findClass_of_methodNamed B.named
  have hl := lv_entry (avs.map (tr ad)) (n := (inf a).2) (by rw [lg_len]; exact hcat)
  have hlocks := B.notSynchronized
  have hr := B.returns
  rw [lg_entry_eq]
  generalize (lg_sl (avs.map (tr ad)) ++ List.replicate ((inf a).2 - (lg_sl (avs.map (tr ad))).length) Slot.unset).toArray = ls at hl ⊢
  have hL : LOC ad ls (inf a).2 (ent (inf a).2 avs) := ⟨⟨hl.1, hl.2.1, fun q hq => hl.2.2 q (ent_sub ad _ _ _ _ hq)⟩, lOK_ent _ _ hargs, inL_ent _ _⟩
  have g := h p e (rmD d) s m _ below meth c s.heap [] 0 0 0 0 (MQ below (qcM D cy ad xs A Q) (avs.map (tr ad)).toArray s 0 0 A) ls
    ⟨B.exec, B.bytes, hml, hown, fun w hw => hts w (List.mem_cons_of_mem _ hw), hK, hX, hbl, hsx, hlocks⟩ hP hD va_S.rf hxs hL (fun v hv => absurd hv List.not_mem_nil) ⟨Nat.le_refl _, Nat.le_refl _, Nat.le_refl _, Nat.le_refl _, Nat.le_refl _, Nat.le_refl _⟩ ?_
  · rw [c0_all a ha] at g
    exact g
  · intro v σ' H' locs' cells' slots' pc' lsM' hQ hP' hS' hx' hc' hs' hrt
    obtain rfl : cells' = 0 := Nat.le_zero.mp hc'
    obtain rfl : slots' = 0 := Nat.le_zero.mp hs'
    cases v with
    | none => exact W.vret B.exec B.bytes (by rw [hr]; exact hrt.2) (fun t ht hw => ⟨⟨none, σ', rfl, hQ, by rw [ht]; exact hP', hx'⟩, hS'.F ht⟩) hS'.2.2 hrt.1 hlocks
    | some x =>
      obtain ⟨h1, h2⟩ := hrt
      rcases h2 with h2 | ⟨h2, h3⟩
      · exact W.zret B.exec B.bytes (by rw [hr]; exact h2) rfl (fun t ht hw => ⟨⟨some x, σ', rfl, hQ, by rw [ht]; exact hP', hx'⟩, hS'.F ht⟩) hS'.2.2 h1 hlocks
      · exact W.zret B.exec B.bytes (by rw [hr]; exact h2) (by rcases h3 with rfl | rfl <;> rfl) (fun t ht hw => ⟨⟨some x, σ', rfl, hQ, by rw [ht]; exact hP', hx'⟩, hS'.F ht⟩) hS'.2.2 h1 hlocks
end MET
set_option maxHeartbeats 4000000 in
set_option maxRecDepth 100000 in
theorem sound {l : Launch} {D : va_G} {cy : Nat × Nat × Nat × Nat} {ad : RF → Nat} {b N : Nat} {xs : Nat → Int32} {A : Nat → Prop} {SX : State → Prop} (hHW : HWd l D cy b N xs A SX) (hHO : HOd l D cy ad b N xs A SX) (hb13 : ad (13, 0, 1) = b) (hbA : ¬ A b) (hSX : SXk A SX) :
    ∀ (n : Nat) (d : Nat × Nat) (a i : Nat) (ls : List (Option AV)) (st : List AV) (σ : ST) (Q : POST), a + 1 ≤ 227 → wp N n d (tab a) i ls st σ Q → SND l D cy ad b N xs A SX d a i ls st σ Q := by
  subst hb13
  intro n
  induction n with
  | zero =>
    intro d a i ls st σ Q ha h
    exact h.elim
  | succ n ih =>
  intro d a i ls st σ Q ha h p e R s m args below meth c H locs cells slots cm sm Qm lsM hC hP hD hS hxs hl hst hR hret
  obtain ⟨hx, hb, hml, hown, hts, hK, hX, hbl, hsx, hlocks⟩ := id hC
  have hcls := cm_cls ha
  have h : step N (wp N n) d (tab a) i ls st σ Q := h
  have go : ∀ (i' : Nat) (ls' : List (Option AV)) (lsM' : Array Slot) (st' : List AV), wp N n d (tab a) i' ls' st' σ Q → LOC ad lsM' (inf a).2 ls' → sOK st' → W p l e R s m args below meth c H locs cells slots Qm (F0 m (rpc (tab a) i') lsM' (st'.map (tr ad))) :=
    fun i' ls' lsM' st' hw hl' hst' => ih d a i' ls' st' σ Q ha hw p e R s m args below meth c H locs cells slots cm sm Qm lsM' hC hP hD hS hxs hl' hst' hR hret
  have goS : ∀ (σ' : ST) (H' : Heap) (locs' : List Loc) (i' : Nat) (st' : List AV), wp N n d (tab a) i' ls st' σ' Q → va_P D vwCl (wsl cy ad σ') H' → va_S A s.heap H' locs' → σ'.1 13 0 1 = xs → sOK st' → W p l e R s m args below meth c H' locs' cells slots Qm (F0 m (rpc (tab a) i') lsM (st'.map (tr ad))) :=
    fun σ' H' locs' i' st' hw hP' hS' hx' hst' => ih d a i' ls st' σ' Q ha hw p e R s m args below meth c H' locs' cells slots cm sm Qm lsM hC hP' (wsl_D hD) hS' hx' hl hst' hR hret
  have hch := ck_all a ha i
  unfold step at h
  unfold chX at hch
  generalize he : (tab a).at i = en at h hch
  cases en with
  | none => exact h.elim
  | some en =>
  obtain ⟨ins, rp, nx, a1, b1, z⟩ := en
  have hrp : rpc (tab a) i = rp := by unfold rpc; rw [he]
  rw [hrp]
  have hchk : chE (inf a).1 (mi a).2.2 (mi a).2.1 (tab a) i (ins, rp, nx, a1, b1, z) = true := hch
  dsimp only at h
  clear hch
  cases ins
  case aload k =>
    have hc : (decide (decode (mi a).2.1 rp = .ok (.aload k, 2)) && Nat.beq (rpc (tab a) nx) (rp + 2)) = true := hchk
    simp only [Bool.and_eq_true, decide_eq_true_eq, Nat.beq_eq] at hc
    obtain ⟨hd, hn⟩ := hc
    obtain ⟨r, hr, hw⟩ := ldR_inv h
    have g := go nx ls lsM _ hw hl (sOK_cons (hl.2.1 _ _ hr) hst)
    rw [hn] at g
    exact lv_aload hx hb hd (lv_get hl.1 hr) g
  case aload_n k =>
    have hc : (decide (decode (mi a).2.1 rp = .ok (.aload_n k, 1)) && Nat.beq (rpc (tab a) nx) (rp + 1)) = true := hchk
    simp only [Bool.and_eq_true, decide_eq_true_eq, Nat.beq_eq] at hc
    obtain ⟨hd, hn⟩ := hc
    obtain ⟨r, hr, hw⟩ := ldR_inv h
    have g := go nx ls lsM _ hw hl (sOK_cons (hl.2.1 _ _ hr) hst)
    rw [hn] at g
    exact lv_aload_n hx hb hd rfl (lv_get hl.1 hr) g
  case iload k =>
    have hc : (decide (decode (mi a).2.1 rp = .ok (.iload k, 2)) && Nat.beq (rpc (tab a) nx) (rp + 2)) = true := hchk
    simp only [Bool.and_eq_true, decide_eq_true_eq, Nat.beq_eq] at hc
    obtain ⟨hd, hn⟩ := hc
    obtain ⟨r, hr, hw⟩ := ldI_inv h
    have g := go nx ls lsM _ hw hl (sOK_cons (hl.2.1 _ _ hr) hst)
    rw [hn] at g
    exact lv_iload hx hb hd (lv_get hl.1 hr) g
  case iload_n k =>
    have hc : (decide (decode (mi a).2.1 rp = .ok (.iload_n k, 1)) && Nat.beq (rpc (tab a) nx) (rp + 1)) = true := hchk
    simp only [Bool.and_eq_true, decide_eq_true_eq, Nat.beq_eq] at hc
    obtain ⟨hd, hn⟩ := hc
    obtain ⟨r, hr, hw⟩ := ldI_inv h
    have g := go nx ls lsM _ hw hl (sOK_cons (hl.2.1 _ _ hr) hst)
    rw [hn] at g
    exact lv_iload_n hx hb hd rfl (lv_get hl.1 hr) g
  case lload k =>
    have hc : (decide (decode (mi a).2.1 rp = .ok (.lload k, 2)) && Nat.beq (rpc (tab a) nx) (rp + 2)) = true := hchk
    simp only [Bool.and_eq_true, decide_eq_true_eq, Nat.beq_eq] at hc
    obtain ⟨hd, hn⟩ := hc
    obtain ⟨r, hr, hw⟩ := ldJ_inv h
    have g := go nx ls lsM _ hw hl (sOK_cons (hl.2.1 _ _ hr) hst)
    rw [hn] at g
    exact lv_lload hx hb hd (lv_get hl.1 hr) g
  case lload_n k =>
    have hc : (decide (decode (mi a).2.1 rp = .ok (.lload_n k, 1)) && Nat.beq (rpc (tab a) nx) (rp + 1)) = true := hchk
    simp only [Bool.and_eq_true, decide_eq_true_eq, Nat.beq_eq] at hc
    obtain ⟨hd, hn⟩ := hc
    obtain ⟨r, hr, hw⟩ := ldJ_inv h
    have g := go nx ls lsM _ hw hl (sOK_cons (hl.2.1 _ _ hr) hst)
    rw [hn] at g
    exact lv_lload_n hx hb hd rfl (lv_get hl.1 hr) g
  case istore k =>
    have hc : (decide (decode (mi a).2.1 rp = .ok (.istore k, 2)) && Nat.beq (rpc (tab a) nx) (rp + 2)) = true := hchk
    simp only [Bool.and_eq_true, decide_eq_true_eq, Nat.beq_eq] at hc
    obtain ⟨hd, hn⟩ := hc
    obtain ⟨x, st', rfl, hi, hno, hw⟩ := stI_inv h
    refine lv_istore hx hb hd hl.1 (hl.2.2 _ hi) rfl (fun ls' hl' => ?_)
    have g := go nx (stl ls k (some (.inl x))) ls' st' hw (LOC_put1 hl hi hno (hst _ List.mem_cons_self) hl') (sOK_tail hst)
    rw [hn] at g
    exact g
  case istore_n k =>
    have hc : (decide (decode (mi a).2.1 rp = .ok (.istore_n k, 1)) && Nat.beq (rpc (tab a) nx) (rp + 1)) = true := hchk
    simp only [Bool.and_eq_true, decide_eq_true_eq, Nat.beq_eq] at hc
    obtain ⟨hd, hn⟩ := hc
    obtain ⟨x, st', rfl, hi, hno, hw⟩ := stI_inv h
    refine lv_istore_n hx hb hd rfl hl.1 (hl.2.2 _ hi) rfl (fun ls' hl' => ?_)
    have g := go nx (stl ls k.val (some (.inl x))) ls' st' hw (LOC_put1 hl hi hno (hst _ List.mem_cons_self) hl') (sOK_tail hst)
    rw [hn] at g
    exact g
  case astore k =>
    have hc : (decide (decode (mi a).2.1 rp = .ok (.astore k, 2)) && Nat.beq (rpc (tab a) nx) (rp + 2)) = true := hchk
    simp only [Bool.and_eq_true, decide_eq_true_eq, Nat.beq_eq] at hc
    obtain ⟨hd, hn⟩ := hc
    obtain ⟨x, st', rfl, hi, hno, hw⟩ := stR_inv h
    refine lv_astore hx hb hd hl.1 (hl.2.2 _ hi) rfl (fun ls' hl' => ?_)
    have g := go nx (stl ls k (some (.inr (.inr x)))) ls' st' hw (LOC_put1 hl hi hno (hst _ List.mem_cons_self) hl') (sOK_tail hst)
    rw [hn] at g
    exact g
  case astore_n k =>
    have hc : (decide (decode (mi a).2.1 rp = .ok (.astore_n k, 1)) && Nat.beq (rpc (tab a) nx) (rp + 1)) = true := hchk
    simp only [Bool.and_eq_true, decide_eq_true_eq, Nat.beq_eq] at hc
    obtain ⟨hd, hn⟩ := hc
    obtain ⟨x, st', rfl, hi, hno, hw⟩ := stR_inv h
    refine lv_astore_n hx hb hd rfl hl.1 (hl.2.2 _ hi) rfl (fun ls' hl' => ?_)
    have g := go nx (stl ls k.val (some (.inr (.inr x)))) ls' st' hw (LOC_put1 hl hi hno (hst _ List.mem_cons_self) hl') (sOK_tail hst)
    rw [hn] at g
    exact g
  case lstore k =>
    have hc : (decide (decode (mi a).2.1 rp = .ok (.lstore k, 2)) && Nat.beq (rpc (tab a) nx) (rp + 2)) = true := hchk
    simp only [Bool.and_eq_true, decide_eq_true_eq, Nat.beq_eq] at hc
    obtain ⟨hd, hn⟩ := hc
    obtain ⟨x, st', rfl, hi, hno, hw⟩ := stJ_inv h
    refine lv_lstore hx hb hd hl.1 (hl.2.2 _ hi) rfl (fun ls' hl' => ?_)
    have g := go nx (stl (stl ls k (some (.inr (.inl x)))) (k + 1) none) ls' st' hw (LOC_put2 hl hi hno (hst _ List.mem_cons_self) hl') (sOK_tail hst)
    rw [hn] at g
    exact g
  case lstore_n k =>
    have hc : (decide (decode (mi a).2.1 rp = .ok (.lstore_n k, 1)) && Nat.beq (rpc (tab a) nx) (rp + 1)) = true := hchk
    simp only [Bool.and_eq_true, decide_eq_true_eq, Nat.beq_eq] at hc
    obtain ⟨hd, hn⟩ := hc
    obtain ⟨x, st', rfl, hi, hno, hw⟩ := stJ_inv h
    refine lv_lstore_n hx hb hd rfl hl.1 (hl.2.2 _ hi) rfl (fun ls' hl' => ?_)
    have g := go nx (stl (stl ls k.val (some (.inr (.inl x)))) (k.val + 1) none) ls' st' hw (LOC_put2 hl hi hno (hst _ List.mem_cons_self) hl') (sOK_tail hst)
    rw [hn] at g
    exact g
  case iinc k n =>
    have hc : (decide (decode (mi a).2.1 rp = .ok (.iinc k n, 3)) && Nat.beq (rpc (tab a) nx) (rp + 3)) = true := hchk
    simp only [Bool.and_eq_true, decide_eq_true_eq, Nat.beq_eq] at hc
    obtain ⟨hd, hn⟩ := hc
    obtain ⟨x, hr, hi, hno, hw⟩ := iinc_inv h
    obtain ⟨q, hq⟩ := List.getElem?_of_mem ((asc_mem (ad := ad) ls 0 _).mpr ⟨k, .inl x, hr, rfl⟩)
    rw [Nat.zero_add] at hq
    refine lv_iinc hx hb hd hl.1 hq rfl (hl.2.2 _ hi) rfl (fun ls' hl' => ?_)
    have g := go nx (stl ls k (some (.inl (x + Int32.ofInt n)))) ls' st hw (LOC_put1 (v := .inl (x + Int32.ofInt n)) hl hi hno trivial hl') hst
    rw [hn] at g
    exact g
  case iconst n =>
    have hc : (decide (decode (mi a).2.1 rp = .ok (.iconst n, 1)) && Nat.beq (rpc (tab a) nx) (rp + 1)) = true := hchk
    simp only [Bool.and_eq_true, decide_eq_true_eq, Nat.beq_eq] at hc
    obtain ⟨hd, hn⟩ := hc
    have g := go nx ls lsM _ h hl (sOK_cons trivial hst)
    rw [hn] at g
    exact lv_iconst hx hb hd rfl g
  case bipush n =>
    have hc : (decide (decode (mi a).2.1 rp = .ok (.bipush n, 2)) && Nat.beq (rpc (tab a) nx) (rp + 2)) = true := hchk
    simp only [Bool.and_eq_true, decide_eq_true_eq, Nat.beq_eq] at hc
    obtain ⟨hd, hn⟩ := hc
    have g := go nx ls lsM _ h hl (sOK_cons trivial hst)
    rw [hn] at g
    exact lv_bipush hx hb hd rfl g
  case sipush n =>
    have hc : (decide (decode (mi a).2.1 rp = .ok (.sipush n, 3)) && Nat.beq (rpc (tab a) nx) (rp + 3)) = true := hchk
    simp only [Bool.and_eq_true, decide_eq_true_eq, Nat.beq_eq] at hc
    obtain ⟨hd, hn⟩ := hc
    have g := go nx ls lsM _ h hl (sOK_cons trivial hst)
    rw [hn] at g
    exact lv_sipush hx hb hd rfl g
  case lconst n =>
    have hc : (decide (decode (mi a).2.1 rp = .ok (.lconst n, 1)) && Nat.beq (rpc (tab a) nx) (rp + 1)) = true := hchk
    simp only [Bool.and_eq_true, decide_eq_true_eq, Nat.beq_eq] at hc
    obtain ⟨hd, hn⟩ := hc
    have g := go nx ls lsM _ h hl (sOK_cons trivial hst)
    rw [hn] at g
    exact lv_lconst hx hb hd rfl g
  case iadd =>
    have hc : (decide (decode (mi a).2.1 rp = .ok (.iadd, 1)) && Nat.beq (rpc (tab a) nx) (rp + 1)) = true := hchk
    simp only [Bool.and_eq_true, decide_eq_true_eq, Nat.beq_eq] at hc
    obtain ⟨hd, hn⟩ := hc
    obtain ⟨x, y, st', rfl, hw⟩ := bn_inv h
    have g := go nx ls lsM _ hw hl (sOK_cons trivial (sOK_tail (sOK_tail hst)))
    rw [hn] at g
    exact lv_iadd hx hb hd g
  case isub =>
    have hc : (decide (decode (mi a).2.1 rp = .ok (.isub, 1)) && Nat.beq (rpc (tab a) nx) (rp + 1)) = true := hchk
    simp only [Bool.and_eq_true, decide_eq_true_eq, Nat.beq_eq] at hc
    obtain ⟨hd, hn⟩ := hc
    obtain ⟨x, y, st', rfl, hw⟩ := bn_inv h
    have g := go nx ls lsM _ hw hl (sOK_cons trivial (sOK_tail (sOK_tail hst)))
    rw [hn] at g
    exact lv_isub hx hb hd g
  case imul =>
    have hc : (decide (decode (mi a).2.1 rp = .ok (.imul, 1)) && Nat.beq (rpc (tab a) nx) (rp + 1)) = true := hchk
    simp only [Bool.and_eq_true, decide_eq_true_eq, Nat.beq_eq] at hc
    obtain ⟨hd, hn⟩ := hc
    obtain ⟨x, y, st', rfl, hw⟩ := bn_inv h
    have g := go nx ls lsM _ hw hl (sOK_cons trivial (sOK_tail (sOK_tail hst)))
    rw [hn] at g
    exact lv_imul hx hb hd g
  case iand =>
    have hc : (decide (decode (mi a).2.1 rp = .ok (.iand, 1)) && Nat.beq (rpc (tab a) nx) (rp + 1)) = true := hchk
    simp only [Bool.and_eq_true, decide_eq_true_eq, Nat.beq_eq] at hc
    obtain ⟨hd, hn⟩ := hc
    obtain ⟨x, y, st', rfl, hw⟩ := bn_inv h
    have g := go nx ls lsM _ hw hl (sOK_cons trivial (sOK_tail (sOK_tail hst)))
    rw [hn] at g
    exact lv_iand hx hb hd g
  case ior =>
    have hc : (decide (decode (mi a).2.1 rp = .ok (.ior, 1)) && Nat.beq (rpc (tab a) nx) (rp + 1)) = true := hchk
    simp only [Bool.and_eq_true, decide_eq_true_eq, Nat.beq_eq] at hc
    obtain ⟨hd, hn⟩ := hc
    obtain ⟨x, y, st', rfl, hw⟩ := bn_inv h
    have g := go nx ls lsM _ hw hl (sOK_cons trivial (sOK_tail (sOK_tail hst)))
    rw [hn] at g
    exact lv_ior hx hb hd g
  case ishl =>
    have hc : (decide (decode (mi a).2.1 rp = .ok (.ishl, 1)) && Nat.beq (rpc (tab a) nx) (rp + 1)) = true := hchk
    simp only [Bool.and_eq_true, decide_eq_true_eq, Nat.beq_eq] at hc
    obtain ⟨hd, hn⟩ := hc
    obtain ⟨x, y, st', rfl, hw⟩ := bn_inv h
    have g := go nx ls lsM _ hw hl (sOK_cons trivial (sOK_tail (sOK_tail hst)))
    rw [hn] at g
    exact lv_ishl hx hb hd g
  case ishr =>
    have hc : (decide (decode (mi a).2.1 rp = .ok (.ishr, 1)) && Nat.beq (rpc (tab a) nx) (rp + 1)) = true := hchk
    simp only [Bool.and_eq_true, decide_eq_true_eq, Nat.beq_eq] at hc
    obtain ⟨hd, hn⟩ := hc
    obtain ⟨x, y, st', rfl, hw⟩ := bn_inv h
    have g := go nx ls lsM _ hw hl (sOK_cons trivial (sOK_tail (sOK_tail hst)))
    rw [hn] at g
    exact lv_ishr hx hb hd g
  case iushr =>
    have hc : (decide (decode (mi a).2.1 rp = .ok (.iushr, 1)) && Nat.beq (rpc (tab a) nx) (rp + 1)) = true := hchk
    simp only [Bool.and_eq_true, decide_eq_true_eq, Nat.beq_eq] at hc
    obtain ⟨hd, hn⟩ := hc
    obtain ⟨x, y, st', rfl, hw⟩ := bn_inv h
    have g := go nx ls lsM _ hw hl (sOK_cons trivial (sOK_tail (sOK_tail hst)))
    rw [hn] at g
    exact lv_iushr hx hb hd rfl g
  case idiv =>
    have hc : (decide (decode (mi a).2.1 rp = .ok (.idiv, 1)) && Nat.beq (rpc (tab a) nx) (rp + 1)) = true := hchk
    simp only [Bool.and_eq_true, decide_eq_true_eq, Nat.beq_eq] at hc
    obtain ⟨hd, hn⟩ := hc
    obtain ⟨x, y, st', rfl, h0, hw⟩ := bn_inv h
    have g := go nx ls lsM _ hw hl (sOK_cons trivial (sOK_tail (sOK_tail hst)))
    rw [hn] at g
    exact lv_idiv hx hb hd h0 g
  case irem =>
    have hc : (decide (decode (mi a).2.1 rp = .ok (.irem, 1)) && Nat.beq (rpc (tab a) nx) (rp + 1)) = true := hchk
    simp only [Bool.and_eq_true, decide_eq_true_eq, Nat.beq_eq] at hc
    obtain ⟨hd, hn⟩ := hc
    obtain ⟨x, y, st', rfl, h0, hw⟩ := bn_inv h
    have g := go nx ls lsM _ hw hl (sOK_cons trivial (sOK_tail (sOK_tail hst)))
    rw [hn] at g
    exact lv_irem hx hb hd h0 g
  case ineg =>
    have hc : (decide (decode (mi a).2.1 rp = .ok (.ineg, 1)) && Nat.beq (rpc (tab a) nx) (rp + 1)) = true := hchk
    simp only [Bool.and_eq_true, decide_eq_true_eq, Nat.beq_eq] at hc
    obtain ⟨hd, hn⟩ := hc
    obtain ⟨x, st', rfl, hw⟩ := un_inv h
    have g := go nx ls lsM _ hw hl (sOK_cons trivial (sOK_tail hst))
    rw [hn] at g
    exact lv_ineg hx hb hd g
  case i2l =>
    have hc : (decide (decode (mi a).2.1 rp = .ok (.i2l, 1)) && Nat.beq (rpc (tab a) nx) (rp + 1)) = true := hchk
    simp only [Bool.and_eq_true, decide_eq_true_eq, Nat.beq_eq] at hc
    obtain ⟨hd, hn⟩ := hc
    obtain ⟨x, st', rfl, hw⟩ := un_inv h
    have g := go nx ls lsM _ hw hl (sOK_cons trivial (sOK_tail hst))
    rw [hn] at g
    exact lv_i2l hx hb hd rfl g
  case l2i =>
    have hc : (decide (decode (mi a).2.1 rp = .ok (.l2i, 1)) && Nat.beq (rpc (tab a) nx) (rp + 1)) = true := hchk
    simp only [Bool.and_eq_true, decide_eq_true_eq, Nat.beq_eq] at hc
    obtain ⟨hd, hn⟩ := hc
    obtain ⟨x, st', rfl, hw⟩ := unJ_inv h
    have g := go nx ls lsM _ hw hl (sOK_cons trivial (sOK_tail hst))
    rw [hn] at g
    exact lv_l2i hx hb hd rfl g
  case ladd =>
    have hc : (decide (decode (mi a).2.1 rp = .ok (.ladd, 1)) && Nat.beq (rpc (tab a) nx) (rp + 1)) = true := hchk
    simp only [Bool.and_eq_true, decide_eq_true_eq, Nat.beq_eq] at hc
    obtain ⟨hd, hn⟩ := hc
    obtain ⟨x, y, st', rfl, hw⟩ := bnJ_inv h
    have g := go nx ls lsM _ hw hl (sOK_cons trivial (sOK_tail (sOK_tail hst)))
    rw [hn] at g
    exact lv_ladd hx hb hd g
  case lsub =>
    have hc : (decide (decode (mi a).2.1 rp = .ok (.lsub, 1)) && Nat.beq (rpc (tab a) nx) (rp + 1)) = true := hchk
    simp only [Bool.and_eq_true, decide_eq_true_eq, Nat.beq_eq] at hc
    obtain ⟨hd, hn⟩ := hc
    obtain ⟨x, y, st', rfl, hw⟩ := bnJ_inv h
    have g := go nx ls lsM _ hw hl (sOK_cons trivial (sOK_tail (sOK_tail hst)))
    rw [hn] at g
    exact lv_lsub hx hb hd g
  case lmul =>
    have hc : (decide (decode (mi a).2.1 rp = .ok (.lmul, 1)) && Nat.beq (rpc (tab a) nx) (rp + 1)) = true := hchk
    simp only [Bool.and_eq_true, decide_eq_true_eq, Nat.beq_eq] at hc
    obtain ⟨hd, hn⟩ := hc
    obtain ⟨x, y, st', rfl, hw⟩ := bnJ_inv h
    have g := go nx ls lsM _ hw hl (sOK_cons trivial (sOK_tail (sOK_tail hst)))
    rw [hn] at g
    exact lv_lmul hx hb hd g
  case ldiv =>
    have hc : (decide (decode (mi a).2.1 rp = .ok (.ldiv, 1)) && Nat.beq (rpc (tab a) nx) (rp + 1)) = true := hchk
    simp only [Bool.and_eq_true, decide_eq_true_eq, Nat.beq_eq] at hc
    obtain ⟨hd, hn⟩ := hc
    obtain ⟨x, y, st', rfl, h0, hw⟩ := bnJ_inv h
    have g := go nx ls lsM _ hw hl (sOK_cons trivial (sOK_tail (sOK_tail hst)))
    rw [hn] at g
    exact lv_ldiv hx hb hd h0 g
  case lrem =>
    have hc : (decide (decode (mi a).2.1 rp = .ok (.lrem, 1)) && Nat.beq (rpc (tab a) nx) (rp + 1)) = true := hchk
    simp only [Bool.and_eq_true, decide_eq_true_eq, Nat.beq_eq] at hc
    obtain ⟨hd, hn⟩ := hc
    obtain ⟨x, y, st', rfl, h0, hw⟩ := bnJ_inv h
    have g := go nx ls lsM _ hw hl (sOK_cons trivial (sOK_tail (sOK_tail hst)))
    rw [hn] at g
    exact lv_lrem hx hb hd h0 g
  case lcmp =>
    have hc : (decide (decode (mi a).2.1 rp = .ok (.lcmp, 1)) && Nat.beq (rpc (tab a) nx) (rp + 1)) = true := hchk
    simp only [Bool.and_eq_true, decide_eq_true_eq, Nat.beq_eq] at hc
    obtain ⟨hd, hn⟩ := hc
    obtain ⟨x, y, st', rfl, hw⟩ := bnJ_inv h
    have g := go nx ls lsM _ hw hl (sOK_cons trivial (sOK_tail (sOK_tail hst)))
    rw [hn] at g
    exact W.lcmp hx hb hd g
  case dup =>
    have hc : (decide (decode (mi a).2.1 rp = .ok (.dup, 1)) && Nat.beq (rpc (tab a) nx) (rp + 1)) = true := hchk
    simp only [Bool.and_eq_true, decide_eq_true_eq, Nat.beq_eq] at hc
    obtain ⟨hd, hn⟩ := hc
    obtain ⟨v, st', rfl, hv, hw⟩ := dup_inv h
    have g := go nx ls lsM _ hw hl (sOK_cons (hst _ List.mem_cons_self) hst)
    rw [hn] at g
    exact lv_dup hx hb hd (by rw [tr_cat]; exact hv) g
  case pop =>
    have hc : (decide (decode (mi a).2.1 rp = .ok (.pop, 1)) && Nat.beq (rpc (tab a) nx) (rp + 1)) = true := hchk
    simp only [Bool.and_eq_true, decide_eq_true_eq, Nat.beq_eq] at hc
    obtain ⟨hd, hn⟩ := hc
    obtain ⟨v, st', rfl, hv, hw⟩ := dup_inv h
    have g := go nx ls lsM _ hw hl (sOK_tail hst)
    rw [hn] at g
    exact lv_pop hx hb hd (by rw [tr_cat]; exact hv) g
  case dup2 =>
    have hc : (decide (decode (mi a).2.1 rp = .ok (.dup2, 1)) && Nat.beq (rpc (tab a) nx) (rp + 1)) = true := hchk
    simp only [Bool.and_eq_true, decide_eq_true_eq, Nat.beq_eq] at hc
    obtain ⟨hd, hn⟩ := hc
    obtain ⟨v, w, st', rfl, hv, hv2, hw⟩ := dup2_inv h
    have g := go nx ls lsM _ hw hl (sOK_cons (hst _ List.mem_cons_self) (sOK_cons (hst _ (List.mem_cons_of_mem _ List.mem_cons_self)) hst))
    rw [hn] at g
    exact lv_dup2_11 hx hb hd (by rw [tr_cat]; exact hv) (by rw [tr_cat]; exact hv2) g
  case if_icmp cd off =>
    have hc : (decide (decode (mi a).2.1 rp = .ok (.if_icmp cd off, 3)) && decide ((rp : Int) + off = (rpc (tab a) a1 : Int)) && Nat.beq (rpc (tab a) nx) (rp + 3)) = true := hchk
    simp only [Bool.and_eq_true, decide_eq_true_eq, Nat.beq_eq] at hc
    obtain ⟨⟨hd, ht⟩, hn⟩ := hc
    obtain ⟨x, y, st', rfl, k1, k2⟩ := bn_inv h
    have hs := sOK_tail (sOK_tail hst)
    have g1 := fun q => go a1 ls lsM st' (k1 q) hl hs
    have g2 := fun q => go nx ls lsM st' (k2 q) hl hs
    rw [hn] at g2
    cases cd
    case eq => exact lv_icmp_eq hx hb hd ht g1 g2
    case ne => exact lv_icmp_ne hx hb hd ht g1 (fun q => g2 (fun z => z q))
    case lt => exact lv_icmp_lt hx hb hd ht g1 g2
    case ge => exact lv_icmp_ge hx hb hd ht g1 g2
    case gt => exact lv_icmp_gt hx hb hd ht g1 g2
    case le => exact lv_icmp_le hx hb hd ht g1 g2
  case ifCond cd off =>
    have hc : (decide (decode (mi a).2.1 rp = .ok (.ifCond cd off, 3)) && decide ((rp : Int) + off = (rpc (tab a) a1 : Int)) && Nat.beq (rpc (tab a) nx) (rp + 3)) = true := hchk
    simp only [Bool.and_eq_true, decide_eq_true_eq, Nat.beq_eq] at hc
    obtain ⟨⟨hd, ht⟩, hn⟩ := hc
    obtain ⟨x, st', rfl, k1, k2⟩ := un_inv h
    have hs := sOK_tail hst
    have g1 := fun q => go a1 ls lsM st' (k1 q) hl hs
    have g2 := fun q => go nx ls lsM st' (k2 q) hl hs
    rw [hn] at g2
    cases cd
    case eq => exact lv_if_eq hx hb hd ht g1 g2
    case ne => exact lv_if_ne hx hb hd ht g1 (fun q => g2 (fun z => z q))
    case lt => exact lv_if_lt hx hb hd ht g1 g2
    case ge => exact lv_if_ge hx hb hd ht g1 g2
    case gt => exact lv_if_gt hx hb hd ht g1 g2
    case le => exact lv_if_le hx hb hd ht g1 g2
  case goto off =>
    have hc : (decide (decode (mi a).2.1 rp = .ok (.goto off, 3)) && decide ((rp : Int) + off = (rpc (tab a) a1 : Int))) = true := hchk
    simp only [Bool.and_eq_true, decide_eq_true_eq] at hc
    exact lv_goto hx hb hc.1 hc.2 (go a1 ls lsM st h.2 hl hst)
  case ifnonnull off =>
    have hc : (decide (decode (mi a).2.1 rp = .ok (.ifnonnull off, 3)) && decide ((rp : Int) + off = (rpc (tab a) a1 : Int))) = true := hchk
    simp only [Bool.and_eq_true, decide_eq_true_eq] at hc
    obtain ⟨c1, k1, j1, st', rfl, hw⟩ := rf_inv h
    exact lv_ifnonnull hx hb hc.1 hc.2 (go a1 ls lsM st' hw hl (sOK_tail hst))
  case ifnull off =>
    have hc : (decide (decode (mi a).2.1 rp = .ok (.ifnull off, 3)) && Nat.beq (rpc (tab a) nx) (rp + 3)) = true := hchk
    simp only [Bool.and_eq_true, decide_eq_true_eq, Nat.beq_eq] at hc
    obtain ⟨hd, hn⟩ := hc
    obtain ⟨c1, k1, j1, st', rfl, hw⟩ := rf_inv h
    have g := go nx ls lsM st' hw hl (sOK_tail hst)
    rw [hn] at g
    exact lv_ifnull hx hb hd g
  case iaload =>
    have hc : (decide (decode (mi a).2.1 rp = .ok (.iaload, 1)) && Nat.beq (rpc (tab a) nx) (rp + 1)) = true := hchk
    simp only [Bool.and_eq_true, decide_eq_true_eq, Nat.beq_eq] at hc
    obtain ⟨hd, hn⟩ := hc
    obtain ⟨x, st1, rfl, h⟩ := un_inv h
    obtain ⟨c1, k1, j1, st', rfl, h⟩ := rf_inv h
    obtain ⟨L, hk, hin, hw⟩ := arr_inv h
    have hv := hst _ (List.mem_cons_of_mem _ List.mem_cons_self)
    have g := go nx ls lsM _ hw hl (sOK_cons trivial (sOK_tail (sOK_tail hst)))
    rw [hn] at g
    by_cases h13 : c1 = 13
    · subst h13
      obtain ⟨e1, e2⟩ := row13 hv
      subst e1; subst e2
      cases hk
      refine va_sld (xs := xs) hx hb hX hbl hbA hS hin hd ?_
      rw [← hxs]
      exact g
    · obtain ⟨j2, rfl, hm, hak, rfl⟩ := rowI hv h13 hk
      obtain ⟨q, hq, hw2⟩ := wsl_at cy ad σ hm
      rw [cel_I hak] at hw2
      exact va_iald hx hb hK hP q 0 hw2 rfl hin hd g
  case laload =>
    have hc : (decide (decode (mi a).2.1 rp = .ok (.laload, 1)) && Nat.beq (rpc (tab a) nx) (rp + 1)) = true := hchk
    simp only [Bool.and_eq_true, decide_eq_true_eq, Nat.beq_eq] at hc
    obtain ⟨hd, hn⟩ := hc
    obtain ⟨x, st1, rfl, h⟩ := un_inv h
    obtain ⟨c1, k1, j1, st', rfl, h⟩ := rf_inv h
    obtain ⟨L, hk, hin, hw⟩ := arr_inv h
    have hv := hst _ (List.mem_cons_of_mem _ List.mem_cons_self)
    have g := go nx ls lsM _ hw hl (sOK_cons trivial (sOK_tail (sOK_tail hst)))
    rw [hn] at g
    have h13 : ¬ c1 = 13 := fun q => by subst q; exact not13 hv (by decide) hk
    obtain ⟨j2, rfl, hm, hak, rfl⟩ := rowI hv h13 hk
    obtain ⟨q, hq, hw2⟩ := wsl_at cy ad σ hm
    rw [cel_J hak] at hw2
    exact va_lald hx hb hK hP q 1 hw2 rfl hin hd g
  case aaload =>
    have hc : (decide (decode (mi a).2.1 rp = .ok (.aaload, 1)) && Nat.beq (rpc (tab a) nx) (rp + 1)) = true := hchk
    simp only [Bool.and_eq_true, decide_eq_true_eq, Nat.beq_eq] at hc
    obtain ⟨hd, hn⟩ := hc
    obtain ⟨x, st1, rfl, h⟩ := un_inv h
    obtain ⟨c1, k1, j1, st', rfl, h⟩ := rf_inv h
    obtain ⟨L, hk, hin, hw⟩ := arr_inv h
    have hv := hst _ (List.mem_cons_of_mem _ List.mem_cons_self)
    have h13 : ¬ c1 = 13 := fun q => by subst q; exact not13 hv (by decide) hk
    obtain ⟨j2, rfl, hm, hak, rfl⟩ := rowI hv h13 hk
    have hlt : x.toNatClampNeg < (akd c1 j2).2 := by
      exact Nat.not_le.mp fun q => hin (Or.inr q)
    have hra := idl_raf _ hm hak x.toNatClampNeg hlt
    have hw := rfo_inv hw
    have g := go nx ls lsM _ hw hl (sOK_cons (Or.inl hra.1) (sOK_tail (sOK_tail hst)))
    rw [hn] at g
    obtain ⟨q, hq, hw2⟩ := wsl_at cy ad σ hm
    rw [cel_R hak] at hw2
    cases h7 : Nat.beq (raf c1 (j2 + 1) 0).1 7
    · rw [h7] at hw2
      exact va_aldq hx hb hK hP q 2 hw2 rfl hin hd g
    · rw [h7] at hw2
      exact va_aldq hx hb hK hP q 3 hw2 rfl hin hd g
  case iastore =>
    have hc : (decide (decode (mi a).2.1 rp = .ok (.iastore, 1)) && Nat.beq (rpc (tab a) nx) (rp + 1)) = true := hchk
    simp only [Bool.and_eq_true, decide_eq_true_eq, Nat.beq_eq] at hc
    obtain ⟨hd, hn⟩ := hc
    obtain ⟨x, y, st1, rfl, h⟩ := bn_inv h
    obtain ⟨c1, k1, j1, st', rfl, h⟩ := rf_inv h
    obtain ⟨hz13, h⟩ := cndF_inv h
    obtain ⟨L, hk, hin, hw⟩ := arr_inv h
    have hv := hst _ (List.mem_cons_of_mem _ (List.mem_cons_of_mem _ List.mem_cons_self))
    have h13 : ¬ c1 = 13 := fun q => by rw [q] at hz13; exact absurd hz13 (by decide)
    obtain ⟨j2, rfl, hm, hak, rfl⟩ := rowI hv h13 hk
    obtain ⟨q, hq, hw2⟩ := wsl_at cy ad σ hm
    rw [cel_I hak] at hw2
    refine va_iast hx hb hK hP hD hS q 0 hw2 rfl hin hd (fun H1 locs1 hP1 hD1 hS1 => ?_)
    have e := wsl_set (cy := cy) (ad := ad) (σ := σ) (σ' := uI σ c1 k1 (j2 + 1) x.toNatClampNeg y) hq (by rw [cel_I hak, uI_row]) (cel_arr hm (uI_off _ _ _ _ _ _))
    rw [e] at hP1
    have g := goS _ H1 locs1 nx st' hw hP1 hS1 (by rw [(uI_off σ c1 k1 (j2 + 1) x.toNatClampNeg y 13 0 1 (fun q => h13 q.1.symm)).1]; exact hxs) (sOK_tail (sOK_tail (sOK_tail hst)))
    rw [hn] at g
    exact g
  case lastore =>
    have hc : (decide (decode (mi a).2.1 rp = .ok (.lastore, 1)) && Nat.beq (rpc (tab a) nx) (rp + 1)) = true := hchk
    simp only [Bool.and_eq_true, decide_eq_true_eq, Nat.beq_eq] at hc
    obtain ⟨hd, hn⟩ := hc
    obtain ⟨y, st1, rfl, h⟩ := unJ_inv h
    obtain ⟨x, st2, rfl, h⟩ := un_inv h
    obtain ⟨c1, k1, j1, st', rfl, h⟩ := rf_inv h
    obtain ⟨L, hk, hin, hw⟩ := arr_inv h
    have hv := hst _ (List.mem_cons_of_mem _ (List.mem_cons_of_mem _ List.mem_cons_self))
    have h13 : ¬ c1 = 13 := fun q => by subst q; exact not13 hv (by decide) hk
    obtain ⟨j2, rfl, hm, hak, rfl⟩ := rowI hv h13 hk
    obtain ⟨q, hq, hw2⟩ := wsl_at cy ad σ hm
    rw [cel_J hak] at hw2
    refine va_last hx hb hK hP hD hS q 1 hw2 rfl hin hd (fun H1 locs1 hP1 hD1 hS1 => ?_)
    have e := wsl_set (cy := cy) (ad := ad) (σ := σ) (σ' := uL σ c1 k1 (j2 + 1) x.toNatClampNeg y) hq (by rw [cel_J hak, uL_row]) (cel_arr hm (uL_off _ _ _ _ _ _))
    rw [e] at hP1
    have g := goS _ H1 locs1 nx st' hw hP1 hS1 hxs (sOK_tail (sOK_tail (sOK_tail hst)))
    rw [hn] at g
    exact g
  case arraylength =>
    have hc : (decide (decode (mi a).2.1 rp = .ok (.arraylength, 1)) && Nat.beq (rpc (tab a) nx) (rp + 1)) = true := hchk
    simp only [Bool.and_eq_true, decide_eq_true_eq, Nat.beq_eq] at hc
    obtain ⟨hd, hn⟩ := hc
    obtain ⟨c1, k1, j1, st', rfl, h⟩ := rf_inv h
    obtain ⟨kd, L, hk, hk0, hw⟩ := arl_inv h
    have hv := hst _ List.mem_cons_self
    have g := go nx ls lsM _ hw hl (sOK_cons trivial (sOK_tail hst))
    rw [hn] at g
    by_cases h13 : c1 = 13
    · subst h13
      obtain ⟨e1, e2⟩ := row13 hv
      subst e1; subst e2
      cases hk
      exact va_slen (xs := xs) hx hb hX hbl hbA hS hd g
    · obtain ⟨j2, rfl, hm, -, rfl⟩ := rowI hv h13 hk
      obtain ⟨q, hq, hw2⟩ := wsl_at cy ad σ hm
      obtain ⟨cA, ar, t0, ty, e1, e2, e3⟩ := cel_any cy ad σ hm
      rw [e1] at hw2
      exact va_alen hx hb hK hP q t0 hw2 e2 (by rw [e3]) hd g
  case getfield ix =>
    have hc : (decide (decode (mi a).2.1 rp = .ok (.getfield ix, 3)) && Nat.beq (rpc (tab a) nx) (rp + 3) && chF (inf a).1 ix a1 b1) = true := hchk
    simp only [Bool.and_eq_true, decide_eq_true_eq, Nat.beq_eq] at hc
    obtain ⟨⟨hd, hn⟩, hfl⟩ := hc
    obtain ⟨c1, k1, j1, st', rfl, h⟩ := rf_inv h
    obtain ⟨hk, hw⟩ := cond_inv h
    simp only [Bool.and_eq_true, Nat.beq_eq] at hk
    obtain ⟨rfl, rfl⟩ := hk
    obtain ⟨hlk, hj, hc12⟩ := fl_word hfl
    have hm : (c1, k1, 0) ∈ idl := (hst _ List.mem_cons_self).resolve_right (fun q => by cases q)
    have g := go nx ls lsM _ hw hl (sOK_cons (vOK_fget hm hj) (sOK_tail hst))
    rw [hn] at g
    obtain ⟨q, hq, hw2⟩ := wsl_at cy ad σ hm
    have hlink := hts _ hlk
    rw [← hcls] at hlink
    obtain ⟨C, T, n0, hcl, hT, hn0⟩ := cl_at hc12
    rw [hT] at hlink
    exact va_get hx hb hts (cl_in hcl) hown hK hP q hw2 hcl b1 (hn0 ▸ hj) hlink (fun _ h => h) (by rw [List.getElem?_map, List.getElem?_range hj]; rfl) hd g
  case putfield ix =>
    have hc : (decide (decode (mi a).2.1 rp = .ok (.putfield ix, 3)) && Nat.beq (rpc (tab a) nx) (rp + 3) && chF (inf a).1 ix a1 b1) = true := hchk
    simp only [Bool.and_eq_true, decide_eq_true_eq, Nat.beq_eq] at hc
    obtain ⟨⟨hd, hn⟩, hfl⟩ := hc
    obtain ⟨hlk, hj, hc12⟩ := fl_word hfl
    have hlink := hts _ hlk
    rw [← hcls] at hlink
    obtain ⟨C, T, n0, hcl, hT, hn0⟩ := cl_at hc12
    have hfk := fkd_ty a1 hc12 b1 hj
    rw [hT] at hlink hfk
    rcases put_inv h with ⟨x, k1, st', rfl, hk0, hw⟩ | ⟨x, k1, st', rfl, hk0, hx01, hw⟩ | ⟨x, k1, st', rfl, hk0, hw⟩
    · have hm : (a1, k1, 0) ∈ idl := (hst _ (List.mem_cons_of_mem _ List.mem_cons_self)).resolve_right (fun q => by cases q)
      obtain ⟨q, hq, hw2⟩ := wsl_at cy ad σ hm
      have hfk : (T b1).2.2 = ("I", false) := hfk.1 hk0
      refine va_put hx hb hts (cl_in hcl) (tyf a1) (cl_ty hcl) (cl_nm hcl) hown hK hP hD hS q hw2 hcl b1 (hn0 ▸ hj) hlink (fun _ h => h) (by rw [hfk]) (ty := .int) (v := .int x) (by rw [hfk]; decide +kernel) (rfl) (rfl) (by rw [List.length_map, List.length_range]; exact hj) hd (fun H1 locs1 hP1 hD1 hS1 => ?_)
      have e := wsl_set (cy := cy) (ad := ad) (σ := σ) (σ' := uI σ a1 k1 (b1 + 1) 0 x) hq (cel_put (uI_off _ _ _ _ _ _) hj (by rw [fget_I0 hk0])) (cel_fld hm (by rw [hk0]; decide) (uI_off _ _ _ _ _ _))
      rw [e] at hP1
      have g := goS _ H1 locs1 nx st' hw hP1 hS1 (by rw [(uI_off σ a1 k1 (b1 + 1) 0 x 13 0 1 (fun q => by have := q.1; omega)).1]; exact hxs) (sOK_tail (sOK_tail hst))
      rw [hn] at g
      exact g
    · have hm : (a1, k1, 0) ∈ idl := (hst _ (List.mem_cons_of_mem _ List.mem_cons_self)).resolve_right (fun q => by cases q)
      obtain ⟨q, hq, hw2⟩ := wsl_at cy ad σ hm
      have hfk : (T b1).2.2 = ("Z", false) := hfk.2.2 hk0
      refine va_put hx hb hts (cl_in hcl) (tyf a1) (cl_ty hcl) (cl_nm hcl) hown hK hP hD hS q hw2 hcl b1 (hn0 ▸ hj) hlink (fun _ h => h) (by rw [hfk]) (ty := .boolean) (v := .int x) (by rw [hfk]; decide +kernel) (by rcases hx01 with rfl | rfl <;> rfl) (by rcases hx01 with rfl | rfl <;> rfl) (by rw [List.length_map, List.length_range]; exact hj) hd (fun H1 locs1 hP1 hD1 hS1 => ?_)
      have e := wsl_set (cy := cy) (ad := ad) (σ := σ) (σ' := uI σ a1 k1 (b1 + 1) 0 x) hq (cel_put (uI_off _ _ _ _ _ _) hj (by rw [fget_I3 hk0])) (cel_fld hm (by rw [hk0]; decide) (uI_off _ _ _ _ _ _))
      rw [e] at hP1
      have g := goS _ H1 locs1 nx st' hw hP1 hS1 (by rw [(uI_off σ a1 k1 (b1 + 1) 0 x 13 0 1 (fun q => by have := q.1; omega)).1]; exact hxs) (sOK_tail (sOK_tail hst))
      rw [hn] at g
      exact g
    · have hm : (a1, k1, 0) ∈ idl := (hst _ (List.mem_cons_of_mem _ List.mem_cons_self)).resolve_right (fun q => by cases q)
      obtain ⟨q, hq, hw2⟩ := wsl_at cy ad σ hm
      have hfk : (T b1).2.2 = ("J", false) := hfk.2.1 hk0
      refine va_put hx hb hts (cl_in hcl) (tyf a1) (cl_ty hcl) (cl_nm hcl) hown hK hP hD hS q hw2 hcl b1 (hn0 ▸ hj) hlink (fun _ h => h) (by rw [hfk]) (ty := .long) (v := .long x) (by rw [hfk]; decide +kernel) (rfl) (rfl) (by rw [List.length_map, List.length_range]; exact hj) hd (fun H1 locs1 hP1 hD1 hS1 => ?_)
      have e := wsl_set (cy := cy) (ad := ad) (σ := σ) (σ' := uL σ a1 k1 (b1 + 1) 0 x) hq (cel_put (uL_off _ _ _ _ _ _) hj (by rw [fget_J1 hk0])) (cel_fld hm (by rw [hk0]; decide) (uL_off _ _ _ _ _ _))
      rw [e] at hP1
      have g := goS _ H1 locs1 nx st' hw hP1 hS1 (hxs) (sOK_tail (sOK_tail hst))
      rw [hn] at g
      exact g
  case ldc ix =>
    obtain ⟨ha0, hw⟩ | ⟨ha0, h4, hcs, hw⟩ := ldc_inv h
    · have hc : (decide (decode (mi a).2.1 rp = .ok (.ldc ix, 2)) && Nat.beq (rpc (tab a) nx) (rp + 2) && chK (inf a).1 ix z) = true := by
        have q := hchk
        unfold chE at q
        simp only [ha0, cond_true] at q
        exact q
      simp only [Bool.and_eq_true, decide_eq_true_eq, Nat.beq_eq] at hc
      obtain ⟨⟨hd, hn⟩, hz⟩ := hc
      have g := go nx ls lsM _ hw hl (sOK_cons trivial hst)
      rw [hn] at g
      exact lv_ldc hx hb hown (hcls ▸ hts _ (ldc_word hz)) hd g
    · have hc : (decide (decode (mi a).2.1 rp = .ok (.ldc ix, 2)) && decide (decode (mi a).2.1 (rp + 2) = .ok (.invokestatic 174, 3)) && Nat.beq ix 172 && Nat.beq (inf a).1 11 && Nat.beq (rpc (tab a) nx) (rp + 5) && decide (z = 777297172)) = true := by
        have q := hchk
        unfold chE at q
        simp only [ha0, cond_false] at q
        exact q
      simp only [Bool.and_eq_true, decide_eq_true_eq, Nat.beq_eq] at hc
      obtain ⟨⟨⟨⟨⟨hd, hd2⟩, rfl⟩, h11⟩, hn⟩, rfl⟩ := hc
      exact hHW p e R s m args below meth c H locs cells slots Qm a rp lsM _ hC h11 hd hd2 hl.1.1 (by rw [cat_sum]; exact hcs) (by have := hR.1; omega) (by have := hR.2.1; omega) (by have := hR.2.2.1; have := hR.2.2.2.2.1; omega) (by have := hR.2.2.2.1; have := hR.2.2.2.2.2; omega) hS (fun H1 locs1 e1 hS1 => by
        subst e1
        have g := ih d a nx ls _ σ Q ha hw p e R s m args below meth c H1 locs1 cells slots cm sm Qm lsM hC hP hD hS1 hxs hl (sOK_cons trivial hst) hR hret
        rw [hn] at g
        exact g)
  case ldc2_w ix =>
    have hc : (decide (decode (mi a).2.1 rp = .ok (.ldc2_w ix, 3)) && Nat.beq (rpc (tab a) nx) (rp + 3) && chJ (inf a).1 ix z) = true := hchk
    simp only [Bool.and_eq_true, decide_eq_true_eq, Nat.beq_eq] at hc
    obtain ⟨⟨hd, hn⟩, hz⟩ := hc
    have g := go nx ls lsM _ h hl (sOK_cons trivial hst)
    rw [hn] at g
    exact lv_ldc2 hx hb hown (hcls ▸ hts _ (ldc2_word hz)) hd g
  case tableswitch df lo hi offs =>
    have hc : (isI (decode (mi a).2.1 rp) (.tableswitch df lo hi offs) && chT (tab a) rp df lo hi offs (swl (tab a).2.1 i)) = true := hchk
    simp only [Bool.and_eq_true] at hc
    obtain ⟨hd, hc⟩ := hc
    obtain ⟨len, hd⟩ := isI_inv hd
    obtain ⟨x, st', rfl, hw⟩ := un_inv h
    obtain ⟨l, dt, hsl, hw⟩ := swi_inv hw
    rw [hsl] at hc
    unfold chT at hc
    simp only [Bool.and_eq_true, decide_eq_true_eq] at hc
    obtain ⟨⟨hdf, hhi⟩, hsw⟩ := hc
    have hs := sOK_tail hst
    rcases swT_inv hsw hw with ⟨t, off, h1, h2, h3, hk⟩ | ⟨h1, hk⟩
    · exact lv_tableIn hx hb hd (by omega) (by have := (Array.getElem?_eq_some_iff.mp h2).1; omega) h2 h3 (go t ls lsM st' hk hl hs)
    · exact lv_tableOut hx hb hd (by rw [Array.length_toList] at h1; omega) hdf (go _ ls lsM st' hk hl hs)
  case lookupswitch df ps =>
    have hc : (isI (decode (mi a).2.1 rp) (.lookupswitch df ps) && chU (tab a) rp df ps (swl (tab a).2.1 i)) = true := hchk
    simp only [Bool.and_eq_true] at hc
    obtain ⟨hd, hc⟩ := hc
    obtain ⟨len, hd⟩ := isI_inv hd
    obtain ⟨x, st', rfl, hw⟩ := un_inv h
    obtain ⟨l, dt, hsl, hw⟩ := swi_inv hw
    rw [hsl] at hc
    unfold chU at hc
    simp only [Bool.and_eq_true, decide_eq_true_eq] at hc
    obtain ⟨⟨hdf, hso⟩, hsw⟩ := hc
    have hs := sOK_tail hst
    obtain ⟨t, off, h1, h3, hk⟩ := swL_inv hdf hsw hw
    exact lv_lookup hx hb hd hso h1 h3 (go t ls lsM st' hk hl hs)
  case ireturn =>
    have hc : (decide (decode (mi a).2.1 rp = .ok (.ireturn, 1)) && chR a1 (mi a).2.2) = true := hchk
    simp only [Bool.and_eq_true, decide_eq_true_eq] at hc
    obtain ⟨x, rfl, hz, hQ⟩ := ret_inv h
    exact hret (some x) σ H locs cells slots rp lsM hQ hP hS hxs (by have := hR.2.2.1; omega) (by have := hR.2.2.2.1; omega) ⟨hc.1, ret_ty hc.2 hz⟩
  case return_ =>
    have hc : (decide (decode (mi a).2.1 rp = .ok (.return_, 1)) && decide ((mi a).2.2 = none)) = true := hchk
    simp only [Bool.and_eq_true, decide_eq_true_eq] at hc
    obtain ⟨rfl, hQ⟩ := rev_inv h
    exact hret none σ H locs cells slots rp lsM hQ hP hS hxs (by have := hR.2.2.1; omega) (by have := hR.2.2.2.1; omega) ⟨hc.1, hc.2⟩
  case invokevirtual ix =>
    have hc : (decide (decode (mi a).2.1 rp = .ok (.invokevirtual ix, 3)) && Nat.beq (rpc (tab a) nx) (rp + 3) && chL (inf a).1 ix a1 && Nat.beq b1 (nrg a1) && Nat.beq (cwd a1).2.2.2.2 0 && Nat.ble (a1 + 1) 227) = true := hchk
    simp only [Bool.and_eq_true, decide_eq_true_eq, Nat.beq_eq, Nat.ble_eq] at hc
    obtain ⟨⟨⟨⟨⟨hd, hn⟩, hml1⟩, hb1⟩, hkd⟩, ha1⟩ := hc
    obtain ⟨d1, c1, k1, rest, hd1, hst1, hcc, hcs, hmx, htl, hw⟩ := calV_inv h
    subst hcc
    have hsp : st = st.take b1 ++ .inr (.inr ((inf a1).1, k1, 0)) :: rest := by rw [← hst1, List.take_append_drop]
    have hargs : sOK (.inr (.inr ((inf a1).1, k1, 0)) :: (st.take b1).reverse) := by
      intro v hv
      rcases List.mem_cons.mp hv with rfl | hv
      · exact hst _ (by rw [hsp]; exact List.mem_append_right _ List.mem_cons_self)
      · exact hst _ (List.mem_of_mem_take (List.mem_reverse.mp hv))
    have hrest : sOK rest := fun v hv => hst v (by rw [hsp]; exact List.mem_append_right _ (List.mem_cons_of_mem _ hv))
    have hm : ((inf a1).1, k1, 0) ∈ idl := (hargs _ List.mem_cons_self).resolve_right (fun q => by injection q with _ q2; injection q2 with _ q3; cases q3)
    have hM := met_of (A := A) (SX := SX) (ih (d1, 0) a1 0 _ [] σ _ ha1 hw) ha1 hD hxs hargs (by show cat2 _ + catS _ ≤ _; rw [catS_rev, Nat.add_comm]; exact hmx)
    obtain ⟨w1, w2, w3, w4⟩ := cw_words ha1 hkd
    have hln := ml_word hml1 (Or.inl ha1)
    rw [mlY_lt ha1] at hln
    have hcw : CallW R s args (mi a).1.cls (mi a1).1.cls ix (mi a1).1 (mi a1).2.1 (inf a1).2 (mi a1).2.2 (wsM a1) (rmD d1) 0 0 (nrg a1) := ⟨callB_of (nrg a1) hts (wsM_good ha1 w1) rfl rfl rfl (hts _ w2) (by rw [hcls]; exact hts _ hln) (cm_d ha1) (rmD_ok ha1 (by have := hR.1; omega) (by have := hR.2.1; omega)), hts _ w3, hts _ w4⟩
    obtain ⟨q, hq, hw2⟩ := wsl_at cy ad σ hm
    obtain ⟨C, T, n0, hcl, hT, hn0⟩ := cl_at ((idl_c _ hm).2 rfl)
    have hrec := va_recv hK hP hcl hw2
    have hCn : C = (mi a1).1.cls := by rw [cl_name hcl, cm_cls ha1]
    have hrun := va_runV (e := e) (below := below) (meth := meth) (locs := locs) (cells := cells) (slots := slots) (H := H) (rest := rest.map (tr ad)) (g := F0 m rp lsM (st.map (tr ad))) (As := ((st.take b1).reverse).map (tr ad)) (b := ad ((inf a1).1, k1, 0)) ⟨hx, hb, hml, hown, hts⟩ hM hcw ⟨pcM_blind hSX, (by rw [← hCn]; exact hrec), fun U hU hW => ⟨rfl, pcM_of hSX hP hS hK hX hbl hbA hsx hU hW⟩⟩ rfl (by rw [List.length_map, List.length_reverse, htl, hb1]) hl.1.1 (by rw [List.map_reverse, List.reverse_reverse]; show st.map (tr ad) = (st.take b1).map (tr ad) ++ (Sum.inr (Sum.inr ((inf a1).1, k1, 0)) :: rest).map (tr ad); rw [← List.map_append, ← hsp]) (lv_room (by rw [cat_sum]; exact hcs)) hd (by have := hR.2.2.1; have := hR.2.2.2.1; have := hR.2.2.2.2; omega)
    refine il_call hrun hS (fun _ h => h) (fun st0 v t h => h.2) (fun v t st0 hst0 hq2 hvm H1 locs1 ht hS1 => ?_)
    obtain ⟨⟨v1, σ1, hv1, hQ1, hP1, hx1⟩, -⟩ := hq2
    cases hv1
    rw [ht] at hP1
    have g := ih d a nx ls (psh (v1.map Sum.inl) rest) σ1 Q ha hQ1 p e R s m args below meth c H1 locs1 cells slots cm sm Qm lsM hC hP1 (wsl_D hD) hS1 hx1 hl (sOK_psh hrest) hR hret
    rw [hn] at g
    cases v1 <;> exact g
  case invokestatic ix =>
    have hc : (decide (decode (mi a).2.1 rp = .ok (.invokestatic ix, 3)) && Nat.beq (rpc (tab a) nx) (rp + 3) && chL (inf a).1 ix a1 && (Nat.ble 900 a1 || Nat.beq b1 (nrg a1) && Nat.beq (cwd a1).2.2.2.2 1 && Nat.ble (a1 + 1) 227)) = true := hchk
    simp only [Bool.and_eq_true, Bool.or_eq_true, decide_eq_true_eq, Nat.beq_eq, Nat.ble_eq] at hc
    obtain ⟨⟨⟨hd, hn⟩, hml1⟩, hkd⟩ := hc
    rcases stat_inv h with ⟨h900, hz0⟩ | ⟨h901, hz0⟩ | ⟨h900, h901, hz0⟩
    · subst h900
      obtain ⟨d1, n1, dp, c2, k2, j2, sp, c1, k1, j1, rest, L1, L2, hd1, rfl, hk1, hk2, hc2, hc1, hcs, q1, q2, q3, q4, q5, hw⟩ := cpy_inv hz0
      have hs5 := sOK_tail (sOK_tail (sOK_tail (sOK_tail (sOK_tail hst))))
      have v2 := hst (.inr (.inr (c2, k2, j2))) (by simp)
      have v1 := hst (.inr (.inr (c1, k1, j1))) (by simp)
      obtain ⟨i1, rfl, m1, a1', rfl⟩ := rowI v1 hc1 hk1
      obtain ⟨i2, rfl, m2, a2', rfl⟩ := rowI v2 hc2 hk2
      obtain ⟨p1, e1, w1⟩ := wsl_at cy ad σ m1
      obtain ⟨p2, e2, w2⟩ := wsl_at cy ad σ m2
      rw [cel_I a1'] at w1
      rw [cel_I a2'] at w2
      obtain ⟨y1, y2, y3⟩ := copy_words
      refine va_copyi (ty := .int) hx hb (hml.trans hl.1.1.symm) hown (by rw [hcls]; exact hts _ (ml_word hml1 (Or.inr (Or.inl rfl)))) (hts _ y1) (hts _ y2) (hts _ y3) hK hP hD hS p1 p2 0 0 w1 w2 rfl rfl rfl q1 q2 q3 q4 q5 (fun _ _ => rfl) (by have := hR.1; omega) (by rw [cat_sum]; have := hR.2.1; have := copy_words9; omega) hd (fun H1 locs1 hP1 hD1 hS1 => ?_)
      have e := wsl_set (cy := cy) (ad := ad) (σ := σ) (σ' := cpI σ c1 k1 (i1 + 1) c2 k2 (i2 + 1) sp.toNatClampNeg dp.toNatClampNeg n1.toNatClampNeg) e2 (by rw [cel_I a2', cpI, uR_row]) (cel_arr m2 (uR_off _ _ _ _ _))
      rw [e] at hP1
      have g := goS _ H1 locs1 nx rest hw hP1 hS1 (by rw [cpI, (uR_off σ c2 k2 (i2 + 1) _ 13 0 1 (fun q => hc2 q.1.symm)).1]; exact hxs) hs5
      rw [hn] at g
      exact g
    · subst h901
      obtain ⟨e1, g1, q1, rest, rfl, rfl, hcs, k1, k2⟩ := oct_inv hz0
      have hs3 := sOK_tail (sOK_tail (sOK_tail hst))
      refine hHO p e R s m args below meth c H locs cells slots Qm a rp ix lsM (rest.map (tr ad)) σ q1 hC (ml_word hml1 (Or.inr (Or.inr (Or.inl rfl)))) hd hl.1.1 (by rw [cat_sum]; exact hcs) (by have := hR.1; omega) (by have := hR.2.1; omega) (by have := hR.2.2.1; have := hR.2.2.2.2.1; omega) (by have := hR.2.2.2.1; have := hR.2.2.2.2.2; omega) hP hD hS ?_ ?_
      · intro hq H1 locs1 cells1 slots1 hP1 hS1 hc1 hs1
        have g := ih (e1 + 10, g1) a nx ls _ _ Q ha (k1 hq) p e R s m args below meth c H1 locs1 cells1 slots1 cm sm Qm lsM hC hP1 (wsl_D hD) hS1 hxs hl (sOK_cons trivial hs3) ⟨hR.1, hR.2.1, by have := hR.2.2.1; simp only at this ⊢; omega, by have := hR.2.2.2.1; simp only at this ⊢; omega, hR.2.2.2.2⟩ hret
        rw [hn] at g
        exact g
      · intro hq H1 locs1 cells1 slots1 hP1 hS1 hc1 hs1
        have g := ih (e1 + 10, g1) a nx ls _ _ Q ha (k2 hq) p e R s m args below meth c H1 locs1 cells1 slots1 cm sm Qm lsM hC hP1 (wsl_D hD) hS1 hxs hl (sOK_cons trivial hs3) ⟨hR.1, hR.2.1, by have := hR.2.2.1; simp only at this ⊢; omega, by have := hR.2.2.2.1; simp only at this ⊢; omega, hR.2.2.2.2⟩ hret
        rw [hn] at g
        exact g
    · obtain ⟨d1, hd1, hcs, hmx, htl, hw⟩ := calS_inv hz0
      have hkd : (b1 = nrg a1 ∧ (cwd a1).2.2.2.2 = 1) ∧ a1 + 1 ≤ 227 := by
        rcases hkd with q | q
        · exact absurd hw (wp_far q)
        · exact q
      obtain ⟨⟨hb1, hkd⟩, ha1⟩ := hkd
      have hsp : st = st.take b1 ++ st.drop b1 := (List.take_append_drop ..).symm
      have hargs : sOK (st.take b1).reverse := fun v hv => hst _ (List.mem_of_mem_take (List.mem_reverse.mp hv))
      have hrest : sOK (st.drop b1) := fun v hv => hst v (List.mem_of_mem_drop hv)
      have hM := met_of (A := A) (SX := SX) (ih (d1, 0) a1 0 _ [] σ _ ha1 hw) ha1 hD hxs hargs (by rw [catS_rev]; exact hmx)
      obtain ⟨w1, w2, w3⟩ := cw_wordsS ha1 hkd
      have hln := ml_word hml1 (Or.inl ha1)
      rw [mlY_lt ha1] at hln
      have hcw : CallB R s args (mi a).1.cls ix (mi a1).1 (mi a1).2.1 (inf a1).2 (mi a1).2.2 (wsM a1) (rmD d1) 0 0 (nrg a1) ∧ (Cond.static (mi a1).1).before args s = true := ⟨callB_of (nrg a1) hts (wsM_good ha1 w1) rfl rfl rfl (hts _ w2) (by rw [hcls]; exact hts _ hln) (cm_d ha1) (rmD_ok ha1 (by have := hR.1; omega) (by have := hR.2.1; omega)), hts _ w3⟩
      have hrun := va_runS (e := e) (below := below) (meth := meth) (locs := locs) (cells := cells) (slots := slots) (H := H) (rest := (st.drop b1).map (tr ad)) (g := F0 m rp lsM (st.map (tr ad))) (As := ((st.take b1).reverse).map (tr ad)) ⟨hx, hb, hml, hown, hts⟩ hM hcw ⟨pcM_blind hSX, fun U hU hW => ⟨rfl, pcM_of hSX hP hS hK hX hbl hbA hsx hU hW⟩⟩ rfl (by rw [List.length_map, List.length_reverse, htl, hb1]) hl.1.1 (by rw [List.map_reverse, List.reverse_reverse]; show st.map (tr ad) = (st.take b1).map (tr ad) ++ (st.drop b1).map (tr ad); rw [← List.map_append, ← hsp]) (lv_room (by rw [cat_sum]; exact hcs)) hd (by have := hR.2.2.1; have := hR.2.2.2.1; have := hR.2.2.2.2; omega)
      refine il_call hrun hS (fun _ h => h) (fun st0 v t h => h.2) (fun v t st0 hst0 hq2 hvm H1 locs1 ht hS1 => ?_)
      obtain ⟨⟨v1, σ1, hv1, hQ1, hP1, hx1⟩, -⟩ := hq2
      cases hv1
      rw [ht] at hP1
      have g := ih d a nx ls (psh (v1.map Sum.inl) (st.drop b1)) σ1 Q ha hQ1 p e R s m args below meth c H1 locs1 cells slots cm sm Qm lsM hC hP1 (wsl_D hD) hS1 hx1 hl (sOK_psh hrest) hR hret
      rw [hn] at g
      cases v1 <;> exact g
  all_goals exact h.elim
end
section
/-! words for the methods' own contracts -/
theorem il_ex {m K : Nat} (h : K ≤ m) : ∃ n, m = n + K := ⟨m - K, by omega⟩
theorem cnd {c : Bool} {P : Prop} (h : c = true) (p : P) : cond c P False := by rw [h]; exact p
theorem oi_1 : Int32.ofInt 1 = nI 1 := by decide
theorem oi_0 : Int32.ofInt 0 = nI 0 := by decide
theorem il_inc {x : Int32} {k : Nat} (h : x = nI k) : x + Int32.ofInt 1 = nI (k + 1) := by rw [h, oi_1, nI_add]
theorem il_dec {x : Int32} {k : Nat} (h : x = nI (k + 1)) : x + Int32.ofInt (-1) = nI k := by
  rw [h, show Int32.ofInt (-1) = -1 from by decide]
  exact pk_m1 k
theorem b_lt {x y : Int32} {a b : Nat} {A B : Prop} (hx : x = nI a) (hy : y = nI b) (ha : a < 2147483648) (hb : b < 2147483648) (t : a < b → A) (f : b ≤ a → B) : (brI .lt x y → A) ∧ (¬ brI .lt x y → B) := by
  subst hx; subst hy
  exact ⟨fun h => t ((nI_ltI ha hb).mp h), fun h => f (Nat.le_of_not_lt fun q => h ((nI_ltI ha hb).mpr q))⟩
theorem b_ge {x y : Int32} {a b : Nat} {A B : Prop} (hx : x = nI a) (hy : y = nI b) (ha : a < 2147483648) (hb : b < 2147483648) (t : b ≤ a → A) (f : a < b → B) : (brI .ge x y → A) ∧ (¬ brI .ge x y → B) := by
  subst hx; subst hy
  exact ⟨fun h => t ((nI_leI hb ha).mp h), fun h => f (Nat.lt_of_not_le fun q => h ((nI_leI hb ha).mpr q))⟩
theorem b_gt {x y : Int32} {a b : Nat} {A B : Prop} (hx : x = nI a) (hy : y = nI b) (ha : a < 2147483648) (hb : b < 2147483648) (t : b < a → A) (f : a ≤ b → B) : (brI .gt x y → A) ∧ (¬ brI .gt x y → B) := by
  subst hx; subst hy
  exact ⟨fun h => t ((nI_ltI hb ha).mp h), fun h => f (Nat.le_of_not_lt fun q => h ((nI_ltI hb ha).mpr q))⟩
theorem b_le {x y : Int32} {a b : Nat} {A B : Prop} (hx : x = nI a) (hy : y = nI b) (ha : a < 2147483648) (hb : b < 2147483648) (t : a ≤ b → A) (f : b < a → B) : (brI .le x y → A) ∧ (¬ brI .le x y → B) := by
  subst hx; subst hy
  exact ⟨fun h => t ((nI_leI ha hb).mp h), fun h => f (Nat.lt_of_not_le fun q => h ((nI_leI ha hb).mpr q))⟩
theorem b_eq {x y : Int32} {a b : Nat} {A B : Prop} (hx : x = nI a) (hy : y = nI b) (ha : a < 2147483648) (hb : b < 2147483648) (t : a = b → A) (f : ¬ a = b → B) : (brI .eq x y → A) ∧ (¬ brI .eq x y → B) := by
  subst hx; subst hy
  exact ⟨fun h => t ((nI_eq ha hb).mp h), fun h => f fun q => h ((nI_eq ha hb).mpr q)⟩
theorem b_ne {x y : Int32} {a b : Nat} {A B : Prop} (hx : x = nI a) (hy : y = nI b) (ha : a < 2147483648) (hb : b < 2147483648) (t : ¬ a = b → A) (f : a = b → B) : (brI .ne x y → A) ∧ (¬ brI .ne x y → B) := by
  subst hx; subst hy
  exact ⟨fun h => t fun q => h ((nI_eq ha hb).mpr q), fun h => f (Classical.byContradiction fun q => h fun z => q ((nI_eq ha hb).mp z))⟩
/-- a branch that only picks a value: both ways meet -/
theorem b_pick {c : Prop} [Decidable c] {A B : Prop} {K : Int32 → Prop} {x y : Int32} (h : K (if c then x else y)) (t : K x → A) (f : K y → B) : (c → A) ∧ (¬ c → B) :=
  ⟨fun q => t (by rw [if_pos q] at h; exact h), fun q => f (by rw [if_neg q] at h; exact h)⟩
theorem il_in {x : Int32} {k n : Nat} (hx : x = nI k) (h : k < n) (hn : n < 2147483648) : vp_in x n := by rw [hx]; exact vp_in_nI h hn
theorem il_cl {x : Int32} {k : Nat} (hx : x = nI k) (h : k < 2147483648) : x.toNatClampNeg = k := by rw [hx]; exact nI_clamp h
/-- states alike but for some rows -/
def off (L : List RF) (σ τ : ST) : Prop := ∀ c k j, (c, k, j) ∉ L → τ.1 c k j = σ.1 c k j ∧ τ.2 c k j = σ.2 c k j
theorem off_rf (L : List RF) (σ : ST) : off L σ σ := fun _ _ _ _ => ⟨rfl, rfl⟩
theorem off_tr {L : List RF} {σ τ υ : ST} (h : off L σ τ) (h2 : off L τ υ) : off L σ υ := fun c k j hn => ⟨(h2 c k j hn).1.trans (h c k j hn).1, (h2 c k j hn).2.trans (h c k j hn).2⟩
theorem off_mono {L L' : List RF} {σ τ : ST} (h : off L σ τ) (hs : ∀ r ∈ L, r ∈ L') : off L' σ τ := fun c k j hn => h c k j (fun q => hn (hs _ q))
theorem off_uI {L : List RF} {σ τ : ST} (h : off L σ τ) {c k j i : Nat} {x : Int32} (hm : (c, k, j) ∈ L) : off L σ (uI τ c k j i x) := by
  intro c' k' j' hn
  have := uI_off τ c k j i x c' k' j' (by rintro ⟨rfl, rfl, rfl⟩; exact hn hm)
  exact ⟨this.1.trans (h c' k' j' hn).1, this.2.trans (h c' k' j' hn).2⟩
theorem off_uL {L : List RF} {σ τ : ST} (h : off L σ τ) {c k j i : Nat} {x : Int64} (hm : (c, k, j) ∈ L) : off L σ (uL τ c k j i x) := by
  intro c' k' j' hn
  have := uL_off τ c k j i x c' k' j' (by rintro ⟨rfl, rfl, rfl⟩; exact hn hm)
  exact ⟨this.1.trans (h c' k' j' hn).1, this.2.trans (h c' k' j' hn).2⟩
theorem off_1 {L : List RF} {σ τ : ST} (h : off L σ τ) {c k j : Nat} (hn : (c, k, j) ∉ L) (i : Nat) : τ.1 c k j i = σ.1 c k j i := by rw [(h c k j hn).1]
theorem off_2 {L : List RF} {σ τ : ST} (h : off L σ τ) {c k j : Nat} (hn : (c, k, j) ∉ L) (i : Nat) : τ.2 c k j i = σ.2 c k j i := by rw [(h c k j hn).2]
theorem uI_at (σ : ST) (c k j i : Nat) (x : Int32) : (uI σ c k j i x).1 c k j i = x := by rw [uI_row]; exact pk_us
theorem uI_ne (σ : ST) (c k j i : Nat) (x : Int32) {i' : Nat} (h : i' ≠ i) : (uI σ c k j i x).1 c k j i' = σ.1 c k j i' := by rw [uI_row]; exact pk_un h
theorem uI_nr (σ : ST) (c k j i : Nat) (x : Int32) {c' k' j' : Nat} (h : ¬ (c' = c ∧ k' = k ∧ j' = j)) (i' : Nat) : (uI σ c k j i x).1 c' k' j' i' = σ.1 c' k' j' i' := by rw [(uI_off σ c k j i x c' k' j' h).1]
/-! how far two rows are apart -/
def lev (a b : Nat → Int32) : Nat → Nat → Nat
  | 0, j => j
  | i + 1, 0 => i + 1
  | i + 1, j + 1 => min (lev a b i j + (if a i = b j then 0 else 1)) (min (lev a b i (j + 1)) (lev a b (i + 1) j) + 1)
theorem lev_0 (a b : Nat → Int32) (i : Nat) : lev a b i 0 = i := by cases i <;> simp [lev]
theorem lev_ss (a b : Nat → Int32) (i j : Nat) : lev a b (i + 1) (j + 1) = min (lev a b i j + (if a i = b j then 0 else 1)) (min (lev a b i (j + 1)) (lev a b (i + 1) j) + 1) := by simp only [lev]
theorem lev_le (a b : Nat → Int32) : ∀ i j, lev a b i j ≤ i + j
  | 0, j => by simp [lev]
  | i + 1, 0 => by simp [lev]
  | i + 1, j + 1 => by
    have h1 := lev_le a b i (j + 1)
    rw [lev_ss]
    omega
theorem lev_z (a b : Nat → Int32) (j : Nat) : lev a b 0 j = j := by simp [lev]
/-- the fuel anew: s steps to the next place, k behind it -/
theorem adv {N m : Nat} {d : Nat × Nat} {M : TB} {i : Nat} {ls : List (Option AV)} {st : List AV} {σ : ST} {Q : POST} (s k : Nat) (hk : k + s ≤ m) (h : ∀ n, k ≤ n → wp N (n + s) d M i ls st σ Q) : wp N m d M i ls st σ Q := by
  obtain ⟨n, rfl⟩ := il_ex (K := s) (m := m) (by omega)
  exact h n (by omega)
end
section
theorem arr_of {N c j kd L : Nat} {K : Nat → Prop} (h : arO N c j = some (kd, L)) (p : K L) : arr N c j kd K := by
  unfold arr
  rw [h]
  show cond (Nat.beq kd kd) (K L) False
  rw [Nat.beq_refl]
  exact p
theorem arl_of {N c j kd L : Nat} {K : Nat → Prop} (h : arO N c j = some (kd, L)) (h0 : kd ≠ 0) (p : K L) : arl N c j K := by
  unfold arl
  rw [h]
  show cond (Nat.beq kd 0) False (K L)
  rw [show Nat.beq kd 0 = false from Bool.eq_false_iff.mpr fun q => h0 (Nat.eq_of_beq_eq_true q)]
  exact p
section CHG
variable {N e : Nat} {σ : ST} {Q : POST} {c1 k1 j1 c2 k2 j2 lf ln rg rn L1 L2 : Nat}
abbrev chV (c1 k1 j1 c2 k2 j2 : Nat) (x2 x3 x5 x6 : Int32) (o7 o8 o9 o10 o11 o12 : Option AV) : List (Option AV) :=
  [some (.inr (.inr (6, 0, 0))), some (.inr (.inr (c1, k1, j1))), some (.inl x2), some (.inl x3), some (.inr (.inr (c2, k2, j2))), some (.inl x5), some (.inl x6), o7, o8, o9, o10, o11, o12]
set_option maxRecDepth 100000 in
theorem chg_in (a1 : arO N c1 j1 = some (1, L1)) (a2 : arO N c2 j2 = some (1, L2)) (n1 : (c1, k1, j1) ∉ [((6, 0, 1) : RF)]) (n2 : (c2, k2, j2) ∉ [((6, 0, 1) : RF)]) (w1 : lf + ln ≤ L1) (w2 : rg + rn ≤ L2) (w3 : L1 < 5000) (w4 : L2 < 5000) (w5 : rn ≤ 60)
    {x2 x3 x5 x6 x7 : Int32} (e2 : x2 = nI lf) (e5 : x5 = nI rg) (e6 : x6 = nI rn) {i M : Nat} (e7 : x7 = nI i) (hi : i < ln) {fa fb : Nat → Int32} (ea : (fun z => σ.1 c1 k1 j1 (lf + z)) = fa) (eb : (fun z => σ.1 c2 k2 j2 (rg + z)) = fb)
    (K : ∀ (m : Nat) (τ : ST) (x8 x9 : Int32) (o10 o11 o12 : Option AV), M ≤ m → off [(6, 0, 1)] σ τ → (∀ j, j ≤ rn → τ.1 6 0 1 j = nI (lev fa fb (i + 1) j)) →
      wp N m (e, 0) TX6_changes 114 (chV c1 k1 j1 c2 k2 j2 x2 x3 x5 x6 (some (.inl x7)) (some (.inl x8)) (some (.inl x9)) o10 o11 o12) [] τ Q) :
    ∀ (r j m : Nat) (τ : ST) (x8 x9 : Int32) (o10 o11 o12 : Option AV), j + r = rn → 100 * r + 100 + M ≤ m → off [(6, 0, 1)] σ τ →
      (∀ z, z ≤ j → τ.1 6 0 1 z = nI (lev fa fb (i + 1) z)) → (∀ z, j < z → z ≤ rn → τ.1 6 0 1 z = nI (lev fa fb i z)) →
      x8 = nI (lev fa fb i j) → x9 = nI j →
      wp N m (e, 0) TX6_changes 56 (chV c1 k1 j1 c2 k2 j2 x2 x3 x5 x6 (some (.inl x7)) (some (.inl x8)) (some (.inl x9)) o10 o11 o12) [] τ Q := by
  intro r
  induction r with
  | zero =>
    intro j m τ x8 x9 o10 o11 o12 hj hm ho h1 h2 e8 e9
    obtain ⟨n, rfl⟩ := il_ex (K := 3) (m := m) (by omega)
    refine b_ge e9 e6 (by omega) (by omega) (fun q => ?_) (fun q => by omega)
    exact K n τ x8 x9 o10 o11 o12 (by omega) ho (fun z hz => h1 z (by omega))
  | succ r ih =>
    intro j m τ x8 x9 o10 o11 o12 hj hm ho h1 h2 e8 e9
    obtain ⟨n, rfl⟩ := il_ex (K := 70) (m := m) (by omega)
    have l1 := lev_le fa fb i (j + 1)
    have l2 := lev_le fa fb (i + 1) j
    have l3 := lev_le fa fb i j
    have ls := lev_ss fa fb i j
    have g9 : x9 + Int32.ofInt 1 = nI (j + 1) := il_inc e9
    have v1 : τ.1 6 0 1 (x9 + Int32.ofInt 1).toNatClampNeg = nI (lev fa fb i (j + 1)) := by rw [il_cl g9 (by omega)]; exact h2 _ (by omega) (by omega)
    have v2 : τ.1 6 0 1 x9.toNatClampNeg = nI (lev fa fb (i + 1) j) := by rw [il_cl e9 (by omega)]; exact h1 _ (by omega)
    have g1 : x2 + x7 = nI (lf + i) := by rw [e2, e7, nI_add]
    have g2 : x5 + x9 = nI (rg + j) := by rw [e5, e9, nI_add]
    have v3 : τ.1 c1 k1 j1 (x2 + x7).toNatClampNeg = fa i := by rw [il_cl g1 (by omega), off_1 ho n1, ← ea]
    have v4 : τ.1 c2 k2 j2 (x5 + x9).toNatClampNeg = fb j := by rw [il_cl g2 (by omega), off_1 ho n2, ← eb]
    have fin : ∀ (y : Int32) (p11 p12 : Option AV) (n' : Nat), 100 * r + 104 + M ≤ n' → y = nI (lev fa fb (i + 1) (j + 1)) → wp N n' (e, 0) TX6_changes 110 (chV c1 k1 j1 c2 k2 j2 x2 x3 x5 x6 (some (.inl x7)) (some (.inl x8)) (some (.inl x9)) (some (.inl (τ.1 6 0 1 (x9 + Int32.ofInt 1).toNatClampNeg))) p11 p12) [] (uI τ 6 0 1 (x9 + Int32.ofInt 1).toNatClampNeg y) Q := by
      intro y p11 p12 n' hn' hy
      obtain ⟨n2, rfl⟩ := il_ex (K := 4) (m := n') (by omega)
      refine ⟨trivial, ih (j + 1) n2 _ _ _ _ _ _ (by omega) (by omega) (off_uI ho (by decide)) ?_ ?_ v1 g9⟩
      · intro z hz
        rw [il_cl g9 (by omega)]
        by_cases hz2 : z = j + 1
        · subst hz2
          rw [uI_at, hy]
        · rw [uI_ne _ _ _ _ _ _ hz2]
          exact h1 z (by omega)
      · intro z hz hz3
        rw [il_cl g9 (by omega), uI_ne _ _ _ _ _ _ (by omega)]
        exact h2 z (by omega) hz3
    refine b_ge e9 e6 (by omega) (by omega) (fun q => by omega) (fun q => ?_)
    refine ⟨il_in g9 (by omega) (by omega), ?_⟩
    refine ⟨il_in e9 (by omega) (by omega), ?_⟩
    refine b_ge v1 v2 (by omega) (by omega) (fun q1 => ?_) (fun q1 => ?_)
    · refine ⟨il_in e9 (by omega) (by omega), ?_⟩
      refine arr_of a1 ⟨il_in g1 (by omega) (by omega), ?_⟩
      refine arr_of a2 ⟨il_in g2 (by omega) (by omega), ?_⟩
      refine ⟨fun q2 => ?_, fun q2 => ?_⟩
      · have q2 : ¬ fa i = fb j := by rw [← v3, ← v4]; exact q2
        rw [if_neg q2] at ls
        refine b_ge (il_inc e8) (il_inc v2) (by omega) (by omega) (fun q3 => ?_) (fun q3 => ?_)
        · refine ⟨il_in g9 (by omega) (by omega), fin _ _ _ _ (by omega) ?_⟩
          rw [il_inc v2, ls]; congr 1; omega
        · refine ⟨trivial, il_in g9 (by omega) (by omega), fin _ _ _ _ (by omega) ?_⟩
          rw [il_inc e8, ls]; congr 1; omega
      · have q2 : fa i = fb j := by rw [← v3, ← v4]; exact Classical.byContradiction q2
        rw [if_pos q2] at ls
        have g8 : x8 + Int32.ofInt 0 = nI (lev fa fb i j) := by rw [e8, oi_0, nI_add]; rfl
        refine ⟨trivial, ?_⟩
        refine b_ge g8 (il_inc v2) (by omega) (by omega) (fun q3 => ?_) (fun q3 => ?_)
        · refine ⟨il_in g9 (by omega) (by omega), fin _ _ _ _ (by omega) ?_⟩
          rw [il_inc v2, ls]; congr 1; omega
        · refine ⟨trivial, il_in g9 (by omega) (by omega), fin _ _ _ _ (by omega) ?_⟩
          rw [g8, ls]; congr 1; omega
    · refine ⟨trivial, ?_⟩
      refine arr_of a1 ⟨il_in g1 (by omega) (by omega), ?_⟩
      refine arr_of a2 ⟨il_in g2 (by omega) (by omega), ?_⟩
      refine ⟨fun q2 => ?_, fun q2 => ?_⟩
      · have q2 : ¬ fa i = fb j := by rw [← v3, ← v4]; exact q2
        rw [if_neg q2] at ls
        refine b_ge (il_inc e8) (il_inc v1) (by omega) (by omega) (fun q3 => ?_) (fun q3 => ?_)
        · refine ⟨il_in g9 (by omega) (by omega), fin _ _ _ _ (by omega) ?_⟩
          rw [il_inc v1, ls]; congr 1; omega
        · refine ⟨trivial, il_in g9 (by omega) (by omega), fin _ _ _ _ (by omega) ?_⟩
          rw [il_inc e8, ls]; congr 1; omega
      · have q2 : fa i = fb j := by rw [← v3, ← v4]; exact Classical.byContradiction q2
        rw [if_pos q2] at ls
        have g8 : x8 + Int32.ofInt 0 = nI (lev fa fb i j) := by rw [e8, oi_0, nI_add]; rfl
        refine ⟨trivial, ?_⟩
        refine b_ge g8 (il_inc v1) (by omega) (by omega) (fun q3 => ?_) (fun q3 => ?_)
        · refine ⟨il_in g9 (by omega) (by omega), fin _ _ _ _ (by omega) ?_⟩
          rw [il_inc v1, ls]; congr 1; omega
        · refine ⟨trivial, il_in g9 (by omega) (by omega), fin _ _ _ _ (by omega) ?_⟩
          rw [g8, ls]; congr 1; omega
set_option maxRecDepth 100000 in
theorem chg_out (a1 : arO N c1 j1 = some (1, L1)) (a2 : arO N c2 j2 = some (1, L2)) (n1 : (c1, k1, j1) ∉ [((6, 0, 1) : RF)]) (n2 : (c2, k2, j2) ∉ [((6, 0, 1) : RF)]) (w1 : lf + ln ≤ L1) (w2 : rg + rn ≤ L2) (w3 : L1 < 5000) (w4 : L2 < 5000) (w5 : rn ≤ 60)
    {x2 x3 x5 x6 : Int32} (e2 : x2 = nI lf) (e3 : x3 = nI ln) (e5 : x5 = nI rg) (e6 : x6 = nI rn) {fa fb : Nat → Int32} (ea : (fun z => σ.1 c1 k1 j1 (lf + z)) = fa) (eb : (fun z => σ.1 c2 k2 j2 (rg + z)) = fb)
    (hQ : ∀ τ, off [(6, 0, 1)] σ τ → Q (some (.inl (nI (lev fa fb ln rn)))) τ) :
    ∀ (r i m : Nat) (τ : ST) (x7 : Int32) (o8 o9 o10 o11 o12 : Option AV), i + r = ln → 7000 * r + 100 ≤ m → off [(6, 0, 1)] σ τ → (∀ z, z ≤ rn → τ.1 6 0 1 z = nI (lev fa fb i z)) → x7 = nI i →
      wp N m (e, 0) TX6_changes 39 (chV c1 k1 j1 c2 k2 j2 x2 x3 x5 x6 (some (.inl x7)) o8 o9 o10 o11 o12) [] τ Q := by
  intro r
  induction r with
  | zero =>
    intro i m τ x7 o8 o9 o10 o11 o12 hi hm ho h1 e7
    obtain ⟨n, rfl⟩ := il_ex (K := 20) (m := m) (by omega)
    refine b_ge e7 e3 (by omega) (by omega) (fun q => ?_) (fun q => by omega)
    refine ⟨il_in e6 (by omega) (by omega), Or.inl rfl, ?_⟩
    obtain rfl : i = ln := by omega
    have v : τ.1 6 0 1 x6.toNatClampNeg = nI (lev fa fb i rn) := by rw [il_cl e6 (by omega), h1 _ (Nat.le_refl _)]
    have h := hQ τ ho
    rw [← v] at h
    exact h
  | succ r ih =>
    intro i m τ x7 o8 o9 o10 o11 o12 hi hm ho h1 e7
    obtain ⟨n, rfl⟩ := il_ex (K := 17) (m := m) (by omega)
    refine b_ge e7 e3 (by omega) (by omega) (fun q => by omega) (fun q => ?_)
    refine ⟨il_in oi_0 (by omega) (by omega), ?_⟩
    refine ⟨il_in oi_0 (by omega) (by omega), ?_⟩
    refine chg_in a1 a2 n1 n2 w1 w2 w3 w4 w5 e2 e5 e6 (i := i) (M := 7000 * r + 110) e7 (by omega) ea eb ?_ rn 0 n _ _ _ _ _ _ (by omega) (by omega) (off_uI ho (by decide)) ?_ ?_ ?_ (by rw [oi_0])
    · intro m' τ' x8 x9 p10 p11 p12 hm' ho' h'
      obtain ⟨n', rfl⟩ := il_ex (K := 2) (m := m') (by omega)
      exact ⟨trivial, ih (i + 1) n' τ' _ _ _ _ _ _ (by omega) (by omega) ho' h' (il_inc e7)⟩
    · intro z hz
      obtain rfl : z = 0 := by omega
      rw [lev_0]
      exact (uI_at ..).trans (il_inc e7)
    · intro z hz hz2
      rw [show (Int32.ofInt 0).toNatClampNeg = 0 from by decide, uI_ne _ _ _ _ _ _ (by omega)]
      exact h1 z hz2
    · rw [show (Int32.ofInt 0).toNatClampNeg = 0 from by decide]
      exact h1 0 (by omega)
end CHG
theorem z0 : (0 : Int32) = nI 0 := nI_0.symm
section CHG2
variable {N e : Nat} {σ : ST} {Q : POST} {c1 k1 j1 c2 k2 j2 lf ln rg rn L1 L2 : Nat}
set_option maxRecDepth 100000 in
theorem chg_0 (w5 : rn ≤ 60) {x2 x3 x5 x6 : Int32} (e6 : x6 = nI rn) {M : Nat}
    (K : ∀ (m : Nat) (τ : ST) (x7 : Int32), M ≤ m → off [(6, 0, 1)] σ τ → (∀ j, j ≤ rn → τ.1 6 0 1 j = nI j) → wp N m (e, 0) TX6_changes 37 (chV c1 k1 j1 c2 k2 j2 x2 x3 x5 x6 (some (.inl x7)) none none none none none) [] τ Q) :
    ∀ (r j m : Nat) (τ : ST) (x7 : Int32), j + r = rn + 1 → 20 * r + 20 + M ≤ m → off [(6, 0, 1)] σ τ → (∀ z, z < j → τ.1 6 0 1 z = nI z) → x7 = nI j →
      wp N m (e, 0) TX6_changes 27 (chV c1 k1 j1 c2 k2 j2 x2 x3 x5 x6 (some (.inl x7)) none none none none none) [] τ Q := by
  intro r
  induction r with
  | zero =>
    intro j m τ x7 hj hm ho h1 e7
    obtain ⟨n, rfl⟩ := il_ex (K := 3) (m := m) (by omega)
    refine b_gt e7 e6 (by omega) (by omega) (fun q => ?_) (fun q => by omega)
    exact K n τ x7 (by omega) ho (fun z hz => h1 z (by omega))
  | succ r ih =>
    intro j m τ x7 hj hm ho h1 e7
    obtain ⟨n, rfl⟩ := il_ex (K := 10) (m := m) (by omega)
    refine b_gt e7 e6 (by omega) (by omega) (fun q => by omega) (fun q => ?_)
    refine ⟨il_in e7 (by omega) (by omega), ?_⟩
    refine ⟨trivial, ih (j + 1) n _ _ (by omega) (by omega) (off_uI ho (by decide)) ?_ (il_inc e7)⟩
    intro z hz
    rw [il_cl e7 (by omega)]
    by_cases hz2 : z = j
    · subst hz2
      exact (uI_at ..).trans e7
    · rw [uI_ne _ _ _ _ _ _ hz2]
      exact h1 z (by omega)
set_option maxRecDepth 100000 in
/-- Rows.changes: how far two rows are apart -/
theorem c_changes (a1 : arO N c1 j1 = some (1, L1)) (a2 : arO N c2 j2 = some (1, L2)) (n1 : (c1, k1, j1) ∉ [((6, 0, 1) : RF)]) (n2 : (c2, k2, j2) ∉ [((6, 0, 1) : RF)]) (w1 : lf + ln ≤ L1) (w2 : rg + rn ≤ L2) (w3 : L1 < 5000) (w4 : L2 < 5000) (w5 : rn ≤ 60) (w6 : ln ≤ 60)
    {x2 x3 x5 x6 : Int32} (e2 : x2 = nI lf) (e3 : x3 = nI ln) (e5 : x5 = nI rg) (e6 : x6 = nI rn) {m : Nat} (hm : 500000 ≤ m)
    (hQ : ∀ τ, off [(6, 0, 1)] σ τ → Q (some (.inl (nI (lev (fun z => σ.1 c1 k1 j1 (lf + z)) (fun z => σ.1 c2 k2 j2 (rg + z)) ln rn)))) τ) :
    wp N m (e + 1, 0) TX6_changes 0 [some (.inr (.inr (6, 0, 0))), some (.inr (.inr (c1, k1, j1))), some (.inl x2), some (.inl x3), some (.inr (.inr (c2, k2, j2))), some (.inl x5), some (.inl x6), none, none, none, none, none, none] [] σ Q := by
  obtain ⟨n, rfl⟩ := il_ex (K := 25) (m := m) (by omega)
  have g1 : Int32.ofNat L1 - x2 = nI (L1 - lf) := by rw [e2]; exact pk_sub (by omega)
  have g2 : Int32.ofNat L2 - x5 = nI (L2 - rg) := by rw [e5]; exact pk_sub (by omega)
  refine b_lt e2 z0 (by omega) (by omega) (fun q => by omega) (fun _ => ?_)
  refine b_lt e3 z0 (by omega) (by omega) (fun q => by omega) (fun _ => ?_)
  refine arl_of a1 (by decide) ?_
  refine b_gt e3 g1 (by omega) (by omega) (fun q => by omega) (fun _ => ?_)
  refine b_lt e5 z0 (by omega) (by omega) (fun q => by omega) (fun _ => ?_)
  refine b_lt e6 z0 (by omega) (by omega) (fun q => by omega) (fun _ => ?_)
  refine arl_of a2 (by decide) ?_
  refine b_gt e6 g2 (by omega) (by omega) (fun q => by omega) (fun _ => ?_)
  refine b_le (b := 60) e6 (by decide) (by omega) (by omega) (fun _ => ?_) (fun q => by omega)
  refine chg_0 w5 e6 (M := 450000) ?_ (rn + 1) 0 n σ _ (by omega) (by omega) (off_rf _ _) (fun z hz => by omega) oi_0
  intro m' τ x7 hm' ho h
  obtain ⟨n', rfl⟩ := il_ex (K := 2) (m := m') (by omega)
  exact chg_out a1 a2 n1 n2 w1 w2 w3 w4 w5 e2 e3 e5 e6 rfl rfl hQ ln 0 n' τ _ _ _ _ _ _ (by omega) (by omega) ho (fun z hz => by rw [h z hz, lev_z]) oi_0
end CHG2
end
section
theorem il_sub1 {x : Int32} {k : Nat} (h : x = nI (k + 1)) : x - Int32.ofInt 1 = nI k := by
  rw [h, show Int32.ofInt 1 = 1 from by decide]
  exact nI_pred k
section APT
variable {N e : Nat} {σ : ST} {Q : POST} {ln rn : Nat}
abbrev apV (x1 x2 : Int32) (o3 o4 o5 o6 o7 : Option AV) : List (Option AV) := [some (.inr (.inr (11, 0, 0))), some (.inl x1), some (.inl x2), o3, o4, o5, o6, o7]
set_option maxRecDepth 100000 in
theorem apt_in (w1 : ln ≤ 70) (w2 : rn ≤ 70) {x1 x2 x3 : Int32} (e2 : x2 = nI rn) {i M : Nat} (e3 : x3 = nI (i + 1)) (hi : i < ln) {fa fb : Nat → Int32} (ea : σ.1 11 0 32 = fa) (eb : σ.1 11 0 33 = fb)
    (K : ∀ (m : Nat) (τ : ST) (x4 x5 : Int32) (o6 o7 : Option AV), M ≤ m → off [(11, 0, 31)] σ τ → (∀ j, j ≤ rn → τ.1 11 0 31 j = nI (lev fa fb (i + 1) j)) → wp N m (e, 0) TX11_apart 95 (apV x1 x2 (some (.inl x3)) (some (.inl x4)) (some (.inl x5)) o6 o7) [] τ Q) :
    ∀ (r j m : Nat) (τ : ST) (x4 x5 : Int32) (o6 o7 : Option AV), j + r = rn → 200 * r + 200 + M ≤ m → off [(11, 0, 31)] σ τ →
      (∀ z, z ≤ j → τ.1 11 0 31 z = nI (lev fa fb (i + 1) z)) → (∀ z, j < z → z ≤ rn → τ.1 11 0 31 z = nI (lev fa fb i z)) → x4 = nI (lev fa fb i j) → x5 = nI (j + 1) →
      wp N m (e, 0) TX11_apart 29 (apV x1 x2 (some (.inl x3)) (some (.inl x4)) (some (.inl x5)) o6 o7) [] τ Q := by
  intro r
  induction r with
  | zero =>
    intro j m τ x4 x5 o6 o7 hj hm ho h1 h2 e4 e5
    obtain ⟨n, rfl⟩ := il_ex (K := 3) (m := m) (by omega)
    refine b_gt e5 e2 (by omega) (by omega) (fun q => ?_) (fun q => by omega)
    exact K n τ x4 x5 o6 o7 (by omega) ho (fun z hz => h1 z (by omega))
  | succ r ih =>
    intro j m τ x4 x5 o6 o7 hj hm ho h1 h2 e4 e5
    obtain ⟨n, rfl⟩ := il_ex (K := 80) (m := m) (by omega)
    have l1 := lev_le fa fb i (j + 1)
    have l2 := lev_le fa fb (i + 1) j
    have l3 := lev_le fa fb i j
    have ls := lev_ss fa fb i j
    have g3 := il_sub1 e3
    have g5 := il_sub1 e5
    have v1 : τ.1 11 0 31 x5.toNatClampNeg = nI (lev fa fb i (j + 1)) := by rw [il_cl e5 (by omega)]; exact h2 _ (by omega) (by omega)
    have v2 : τ.1 11 0 31 (x5 - Int32.ofInt 1).toNatClampNeg = nI (lev fa fb (i + 1) j) := by rw [il_cl g5 (by omega)]; exact h1 _ (by omega)
    have v3 : τ.1 11 0 32 (x3 - Int32.ofInt 1).toNatClampNeg = fa i := by rw [il_cl g3 (by omega), off_1 ho (by decide), ← ea]
    have v4 : τ.1 11 0 33 (x5 - Int32.ofInt 1).toNatClampNeg = fb j := by rw [il_cl g5 (by omega), off_1 ho (by decide), ← eb]
    have fin : ∀ (y : Int32) (p6 p7 : Option AV) (n' : Nat), 200 * r + 210 + M ≤ n' → y = nI (lev fa fb (i + 1) (j + 1)) → wp N n' (e, 0) TX11_apart 93 (apV x1 x2 (some (.inl x3)) (some (.inl (τ.1 11 0 31 x5.toNatClampNeg))) (some (.inl x5)) p6 p7) [] (uI τ 11 0 31 x5.toNatClampNeg y) Q := by
      intro y p6 p7 n' hn' hy
      obtain ⟨n2, rfl⟩ := il_ex (K := 2) (m := n') (by omega)
      refine ⟨trivial, ih (j + 1) n2 _ _ _ _ _ (by omega) (by omega) (off_uI ho (by decide)) ?_ ?_ v1 (il_inc e5)⟩
      · intro z hz
        rw [il_cl e5 (by omega)]
        by_cases hz2 : z = j + 1
        · subst hz2
          rw [uI_at, hy]
        · rw [uI_ne _ _ _ _ _ _ hz2]
          exact h1 z (by omega)
      · intro z hz hz3
        rw [il_cl e5 (by omega), uI_ne _ _ _ _ _ _ (by omega)]
        exact h2 z (by omega) hz3
    have two : ∀ (w : Int32) (y6 n' : Nat), 200 * r + 280 + M ≤ n' → x4 + w = nI y6 → y6 = lev fa fb i j + (if fa i = fb j then 0 else 1) → wp N n' (e, 0) TX11_apart 49 (apV x1 x2 (some (.inl x3)) (some (.inl x4)) (some (.inl x5)) o6 o7) [.inl w, .inl x4] τ Q := by
      intro w y6 n' hn' e6 hy
      rw [← hy] at ls
      have hb6 : y6 ≤ lev fa fb i j + 1 := by rw [hy]; split <;> omega
      obtain ⟨n2, rfl⟩ := il_ex (K := 45) (m := n') (by omega)
      refine ⟨il_in e5 (by omega) (by omega), ?_⟩
      refine ⟨il_in g5 (by omega) (by omega), ?_⟩
      refine ⟨il_in e5 (by omega) (by omega), ?_⟩
      refine b_ge v2 v1 (by omega) (by omega) (fun q1 => ?_) (fun q1 => ?_)
      · refine ⟨il_in e5 (by omega) (by omega), ?_⟩
        refine b_ge e6 (il_inc v1) (by omega) (by omega) (fun q3 => ?_) (fun q3 => ?_)
        · refine ⟨il_in e5 (by omega) (by omega), fin _ _ _ _ (by omega) ?_⟩
          rw [il_inc v1, ls]; congr 1; omega
        · refine ⟨trivial, il_in e5 (by omega) (by omega), fin _ _ _ _ (by omega) ?_⟩
          rw [e6, ls]; congr 1; omega
      · refine ⟨il_in g5 (by omega) (by omega), trivial, ?_⟩
        refine b_ge e6 (il_inc v2) (by omega) (by omega) (fun q3 => ?_) (fun q3 => ?_)
        · refine ⟨il_in e5 (by omega) (by omega), fin _ _ _ _ (by omega) ?_⟩
          rw [il_inc v2, ls]; congr 1; omega
        · refine ⟨trivial, il_in e5 (by omega) (by omega), fin _ _ _ _ (by omega) ?_⟩
          rw [e6, ls]; congr 1; omega
    refine b_gt e5 e2 (by omega) (by omega) (fun q => by omega) (fun q => ?_)
    refine ⟨il_in g3 (by omega) (by omega), ?_⟩
    refine ⟨il_in g5 (by omega) (by omega), ?_⟩
    refine ⟨fun q2 => ?_, fun q2 => ?_⟩
    · have q2 : ¬ fa i = fb j := by rw [← v3, ← v4]; exact q2
      refine adv 1 (200 * r + 280 + M) (by omega) (fun n3 hn3 => ?_)
      exact two _ _ n3 hn3 (il_inc e4) (by rw [if_neg q2])
    · have q2 : fa i = fb j := by rw [← v3, ← v4]; exact Classical.byContradiction q2
      exact ⟨trivial, two _ (lev fa fb i j) _ (by omega) (by rw [e4, oi_0, nI_add]; rfl) (by rw [if_pos q2]; rfl)⟩
set_option maxRecDepth 100000 in
theorem apt_out (w1 : ln ≤ 70) (w2 : rn ≤ 70) {x1 x2 : Int32} (e1 : x1 = nI ln) (e2 : x2 = nI rn) {fa fb : Nat → Int32} (ea : σ.1 11 0 32 = fa) (eb : σ.1 11 0 33 = fb) (hQ : ∀ τ, off [(11, 0, 31)] σ τ → Q (some (.inl (nI (lev fa fb ln rn)))) τ) :
    ∀ (r i m : Nat) (τ : ST) (x3 : Int32) (o4 o5 o6 o7 : Option AV), i + r = ln → 16000 * r + 100 ≤ m → off [(11, 0, 31)] σ τ → (∀ z, z ≤ rn → τ.1 11 0 31 z = nI (lev fa fb i z)) → x3 = nI (i + 1) →
      wp N m (e, 0) TX11_apart 14 (apV x1 x2 (some (.inl x3)) o4 o5 o6 o7) [] τ Q := by
  intro r
  induction r with
  | zero =>
    intro i m τ x3 o4 o5 o6 o7 hi hm ho h1 e3
    obtain ⟨n, rfl⟩ := il_ex (K := 20) (m := m) (by omega)
    refine b_gt e3 e1 (by omega) (by omega) (fun q => ?_) (fun q => by omega)
    refine ⟨il_in e2 (by omega) (by omega), Or.inl rfl, ?_⟩
    obtain rfl : i = ln := by omega
    have v : τ.1 11 0 31 x2.toNatClampNeg = nI (lev fa fb i rn) := by rw [il_cl e2 (by omega), h1 _ (Nat.le_refl _)]
    have h := hQ τ ho
    rw [← v] at h
    exact h
  | succ r ih =>
    intro i m τ x3 o4 o5 o6 o7 hi hm ho h1 e3
    obtain ⟨n, rfl⟩ := il_ex (K := 15) (m := m) (by omega)
    refine b_gt e3 e1 (by omega) (by omega) (fun q => by omega) (fun q => ?_)
    refine ⟨il_in oi_0 (by omega) (by omega), ?_⟩
    refine ⟨il_in oi_0 (by omega) (by omega), ?_⟩
    refine apt_in w1 w2 e2 (i := i) (M := 16000 * r + 110) e3 (by omega) ea eb ?_ rn 0 n _ _ _ _ _ (by omega) (by omega) (off_uI ho (by decide)) ?_ ?_ ?_ oi_1
    · intro m' τ' x4 x5 p6 p7 hm' ho' h'
      obtain ⟨n', rfl⟩ := il_ex (K := 2) (m := m') (by omega)
      exact ⟨trivial, ih (i + 1) n' τ' _ _ _ _ _ (by omega) (by omega) ho' h' (il_inc e3)⟩
    · intro z hz
      obtain rfl : z = 0 := by omega
      rw [lev_0]
      exact (uI_at ..).trans e3
    · intro z hz hz2
      rw [show (Int32.ofInt 0).toNatClampNeg = 0 from by decide, uI_ne _ _ _ _ _ _ (by omega)]
      exact h1 z hz2
    · rw [show (Int32.ofInt 0).toNatClampNeg = 0 from by decide]
      exact h1 0 (by omega)
set_option maxRecDepth 100000 in
theorem apt_0 (w2 : rn ≤ 70) {x1 x2 : Int32} (e2 : x2 = nI rn) {M : Nat}
    (K : ∀ (m : Nat) (τ : ST) (x3 : Int32), M ≤ m → off [(11, 0, 31)] σ τ → (∀ j, j ≤ rn → τ.1 11 0 31 j = nI j) → wp N m (e, 0) TX11_apart 12 (apV x1 x2 (some (.inl x3)) none none none none) [] τ Q) :
    ∀ (r j m : Nat) (τ : ST) (x3 : Int32), j + r = rn + 1 → 20 * r + 20 + M ≤ m → off [(11, 0, 31)] σ τ → (∀ z, z < j → τ.1 11 0 31 z = nI z) → x3 = nI j →
      wp N m (e, 0) TX11_apart 2 (apV x1 x2 (some (.inl x3)) none none none none) [] τ Q := by
  intro r
  induction r with
  | zero =>
    intro j m τ x3 hj hm ho h1 e3
    obtain ⟨n, rfl⟩ := il_ex (K := 3) (m := m) (by omega)
    refine b_gt e3 e2 (by omega) (by omega) (fun q => ?_) (fun q => by omega)
    exact K n τ x3 (by omega) ho (fun z hz => h1 z (by omega))
  | succ r ih =>
    intro j m τ x3 hj hm ho h1 e3
    obtain ⟨n, rfl⟩ := il_ex (K := 10) (m := m) (by omega)
    refine b_gt e3 e2 (by omega) (by omega) (fun q => by omega) (fun q => ?_)
    refine ⟨il_in e3 (by omega) (by omega), ?_⟩
    refine ⟨trivial, ih (j + 1) n _ _ (by omega) (by omega) (off_uI ho (by decide)) ?_ (il_inc e3)⟩
    intro z hz
    rw [il_cl e3 (by omega)]
    by_cases hz2 : z = j
    · subst hz2
      exact (uI_at ..).trans e3
    · rw [uI_ne _ _ _ _ _ _ hz2]
      exact h1 z (by omega)
set_option maxRecDepth 100000 in
/-- the reference's apart: of what lies in 'one' and 'two' -/
theorem c_apart (w1 : ln ≤ 70) (w2 : rn ≤ 70) {x1 x2 : Int32} (e1 : x1 = nI ln) (e2 : x2 = nI rn) {m : Nat} (hm : 1200000 ≤ m) (hQ : ∀ τ, off [(11, 0, 31)] σ τ → Q (some (.inl (nI (lev (σ.1 11 0 32) (σ.1 11 0 33) ln rn)))) τ) :
    wp N m (e, 0) TX11_apart 0 [some (.inr (.inr (11, 0, 0))), some (.inl x1), some (.inl x2), none, none, none, none, none] [] σ Q := by
  obtain ⟨n, rfl⟩ := il_ex (K := 2) (m := m) (by omega)
  refine apt_0 w2 e2 (M := 1190000) ?_ (rn + 1) 0 n σ _ (by omega) (by omega) (off_rf _ _) (fun z hz => by omega) oi_0
  intro m' τ x7 hm' ho h
  obtain ⟨n', rfl⟩ := il_ex (K := 2) (m := m') (by omega)
  exact apt_out w1 w2 e1 e2 rfl rfl hQ ln 0 n' τ _ _ _ _ _ (by omega) (by omega) ho (fun z hz => by rw [h z hz, lev_z]) oi_1
end APT
end
section
/-! small reads of the class -/
theorem i5 : Int32.ofInt 5 = nI 5 := by decide
theorem i60 : (Int8.ofInt 60).toInt32 = nI 60 := by decide
theorem i12 : (Int8.ofInt 12).toInt32 = nI 12 := by decide
theorem i6 : (Int8.ofInt 6).toInt32 = nI 6 := by decide
section LEAF
variable {N e m k : Nat} {σ : ST} {Q : POST}
theorem c_placeOf {x : Int32} {h : Nat} (ex : x = nI h) (hh : h < 5) (hm : 20 ≤ m) (hQ : Q (some (.inl (σ.1 3 k 4 h))) σ) : wp N m (e, 0) TX3_placeOf 0 [some (.inr (.inr (3, k, 0))), some (.inl x)] [] σ Q := by
  obtain ⟨n, rfl⟩ := il_ex hm
  refine b_lt ex z0 (by omega) (by omega) (fun q => by omega) (fun _ => ?_)
  refine b_ge ex i5 (by omega) (by omega) (fun q => by omega) (fun _ => ?_)
  refine ⟨il_in ex (by omega) (by omega), trivial, Or.inl rfl, ?_⟩
  rw [← il_cl ex (by omega)] at hQ
  exact hQ
theorem c_costOf {x : Int32} {h : Nat} (ex : x = nI h) (hh : h < 5) (hm : 20 ≤ m) (hQ : Q (some (.inl (σ.1 3 k 5 h))) σ) : wp N m (e, 0) TX3_costOf 0 [some (.inr (.inr (3, k, 0))), some (.inl x)] [] σ Q := by
  obtain ⟨n, rfl⟩ := il_ex hm
  refine b_lt ex z0 (by omega) (by omega) (fun q => by omega) (fun _ => ?_)
  refine b_ge ex i5 (by omega) (by omega) (fun q => by omega) (fun _ => ?_)
  refine ⟨il_in ex (by omega) (by omega), trivial, Or.inl rfl, ?_⟩
  rw [← il_cl ex (by omega)] at hQ
  exact hQ
theorem c_joinedAt {x : Int32} {h : Nat} (ex : x = nI h) (hh : h < 5) (hm : 20 ≤ m) (hQ : Q (some (.inl (σ.1 3 k 3 h))) σ) : wp N m (e, 0) TX3_joinedAt 0 [some (.inr (.inr (3, k, 0))), some (.inl x)] [] σ Q := by
  obtain ⟨n, rfl⟩ := il_ex hm
  refine b_lt ex z0 (by omega) (by omega) (fun q => by omega) (fun _ => ?_)
  refine b_ge ex i5 (by omega) (by omega) (fun q => by omega) (fun _ => ?_)
  refine ⟨il_in ex (by omega) (by omega), trivial, Or.inl rfl, ?_⟩
  rw [← il_cl ex (by omega)] at hQ
  exact hQ
theorem c_weightOf {x : Int32} {h : Nat} (ex : x = nI h) (hh : h < 5) (hm : 20 ≤ m) (hQ : Q (some (.inl (σ.1 7 k 6 h))) σ) : wp N m (e, 0) TX7_weightOf 0 [some (.inr (.inr (7, k, 0))), some (.inl x)] [] σ Q := by
  obtain ⟨n, rfl⟩ := il_ex hm
  refine b_lt ex z0 (by omega) (by omega) (fun q => by omega) (fun _ => ?_)
  refine b_ge ex i5 (by omega) (by omega) (fun q => by omega) (fun _ => ?_)
  refine ⟨il_in ex (by omega) (by omega), trivial, Or.inl rfl, ?_⟩
  rw [← il_cl ex (by omega)] at hQ
  exact hQ
theorem c_countOf {x : Int32} {h : Nat} (ex : x = nI h) (hh : h < 5) (hm : 20 ≤ m) (hQ : Q (some (.inl (σ.1 8 k 7 h))) σ) : wp N m (e, 0) TX8_countOf 0 [some (.inr (.inr (8, k, 0))), some (.inl x)] [] σ Q := by
  obtain ⟨n, rfl⟩ := il_ex hm
  refine b_lt ex z0 (by omega) (by omega) (fun q => by omega) (fun _ => ?_)
  refine b_ge ex i5 (by omega) (by omega) (fun q => by omega) (fun _ => ?_)
  refine ⟨il_in ex (by omega) (by omega), trivial, Or.inl rfl, ?_⟩
  rw [← il_cl ex (by omega)] at hQ
  exact hQ
theorem c_weightTold {x : Int32} {h : Nat} (ex : x = nI h) (hh : h < 5) (hm : 20 ≤ m) (hQ : Q (some (.inl (σ.1 8 k 6 h))) σ) : wp N m (e, 0) TX8_weightTold 0 [some (.inr (.inr (8, k, 0))), some (.inl x)] [] σ Q := by
  obtain ⟨n, rfl⟩ := il_ex hm
  refine b_lt ex z0 (by omega) (by omega) (fun q => by omega) (fun _ => ?_)
  refine b_ge ex i5 (by omega) (by omega) (fun q => by omega) (fun _ => ?_)
  refine ⟨il_in ex (by omega) (by omega), trivial, Or.inl rfl, ?_⟩
  rw [← il_cl ex (by omega)] at hQ
  exact hQ
theorem c_lengthOf {x : Int32} {h : Nat} (ex : x = nI h) (hh : h < 60) (hm : 20 ≤ m) (hQ : Q (some (.inl (σ.1 8 k 10 h))) σ) : wp N m (e, 0) TX8_lengthOf 0 [some (.inr (.inr (8, k, 0))), some (.inl x)] [] σ Q := by
  obtain ⟨n, rfl⟩ := il_ex hm
  refine b_lt ex z0 (by omega) (by omega) (fun q => by omega) (fun _ => ?_)
  refine b_ge ex i60 (by omega) (by omega) (fun q => by omega) (fun _ => ?_)
  refine ⟨il_in ex (by omega) (by omega), trivial, Or.inl rfl, ?_⟩
  rw [← il_cl ex (by omega)] at hQ
  exact hQ
theorem c_holds {x : Int32} {h : Nat} (ex : x = nI h) (hh : h < 5) (hm : 40 ≤ m) (hQ : Q (some (.inl (if σ.1 3 k 4 h < 0 then nI 0 else nI 1))) σ) : wp N m (e + 1, 0) TX3_holds 0 [some (.inr (.inr (3, k, 0))), some (.inl x)] [] σ Q := by
  obtain ⟨n, rfl⟩ := il_ex hm
  refine ⟨trivial, c_placeOf ex hh (by omega) ?_⟩
  refine ⟨fun (q : σ.1 3 k 4 h < 0) => ?_, fun (q : ¬ σ.1 3 k 4 h < 0) => ?_⟩
  · rw [if_pos q] at hQ
    exact ⟨Or.inr (Or.inl rfl), hQ⟩
  · rw [if_neg q] at hQ
    exact ⟨trivial, Or.inr (Or.inr rfl), hQ⟩
theorem c_thereOf {x y : Int32} {s h : Nat} (ex : x = nI s) (ey : y = nI h) (hs : s < 60) (hh : h < 5) (hm : 40 ≤ m) (hQ : Q (some (.inl (σ.1 3 k 6 (s * 5 + h)))) σ) : wp N m (e, 0) TX3_thereOf 0 [some (.inr (.inr (3, k, 0))), some (.inl x), some (.inl y)] [] σ Q := by
  obtain ⟨n, rfl⟩ := il_ex hm
  refine b_lt ex z0 (by omega) (by omega) (fun q => by omega) (fun _ => ?_)
  refine b_ge ex i60 (by omega) (by omega) (fun q => by omega) (fun _ => ?_)
  refine b_lt ey z0 (by omega) (by omega) (fun q => by omega) (fun _ => ?_)
  refine b_ge ey i5 (by omega) (by omega) (fun q => by omega) (fun _ => ?_)
  have g : x * Int32.ofInt 5 + y = nI (s * 5 + h) := by rw [ex, ey, i5, pk_mul, nI_add]
  refine ⟨il_in g (by omega) (by omega), trivial, Or.inl rfl, ?_⟩
  rw [← il_cl g (by omega)] at hQ
  exact hQ
theorem c_wordOf {x y : Int32} {h i : Nat} (ex : x = nI h) (ey : y = nI i) (hh : h < 5) (hi : i < 12) (hm : 40 ≤ m) (hQ : Q (some (.inl (σ.1 8 k 3 (h * 12 + i)))) σ) : wp N m (e, 0) TX8_wordOf 0 [some (.inr (.inr (8, k, 0))), some (.inl x), some (.inl y)] [] σ Q := by
  obtain ⟨n, rfl⟩ := il_ex hm
  refine b_lt ex z0 (by omega) (by omega) (fun q => by omega) (fun _ => ?_)
  refine b_ge ex i5 (by omega) (by omega) (fun q => by omega) (fun _ => ?_)
  refine b_lt ey z0 (by omega) (by omega) (fun q => by omega) (fun _ => ?_)
  refine b_ge ey i12 (by omega) (by omega) (fun q => by omega) (fun _ => ?_)
  have g : x * (Int8.ofInt 12).toInt32 + y = nI (h * 12 + i) := by rw [ex, ey, i12, pk_mul, nI_add]
  refine ⟨il_in g (by omega) (by omega), trivial, Or.inl rfl, ?_⟩
  rw [← il_cl g (by omega)] at hQ
  exact hQ
theorem c_timeOf {x y : Int32} {h i : Nat} (ex : x = nI h) (ey : y = nI i) (hh : h < 5) (hi : i < 12) (hm : 40 ≤ m) (hQ : Q (some (.inl (σ.1 8 k 4 (h * 12 + i)))) σ) : wp N m (e, 0) TX8_timeOf 0 [some (.inr (.inr (8, k, 0))), some (.inl x), some (.inl y)] [] σ Q := by
  obtain ⟨n, rfl⟩ := il_ex hm
  refine b_lt ex z0 (by omega) (by omega) (fun q => by omega) (fun _ => ?_)
  refine b_ge ex i5 (by omega) (by omega) (fun q => by omega) (fun _ => ?_)
  refine b_lt ey z0 (by omega) (by omega) (fun q => by omega) (fun _ => ?_)
  refine b_ge ey i12 (by omega) (by omega) (fun q => by omega) (fun _ => ?_)
  have g : x * (Int8.ofInt 12).toInt32 + y = nI (h * 12 + i) := by rw [ex, ey, i12, pk_mul, nI_add]
  refine ⟨il_in g (by omega) (by omega), trivial, Or.inl rfl, ?_⟩
  rw [← il_cl g (by omega)] at hQ
  exact hQ
theorem c_putThere {x y z : Int32} {s h : Nat} (ex : x = nI s) (ey : y = nI h) (hs : s < 60) (hh : h < 5) (hm : 40 ≤ m) (hQ : Q none (uI σ 3 k 6 (s * 5 + h) z)) : wp N m (e, 0) TX3_putThere 0 [some (.inr (.inr (3, k, 0))), some (.inl x), some (.inl y), some (.inl z)] [] σ Q := by
  obtain ⟨n, rfl⟩ := il_ex hm
  refine b_lt ex z0 (by omega) (by omega) (fun q => by omega) (fun _ => ?_)
  refine b_ge ex i60 (by omega) (by omega) (fun q => by omega) (fun _ => ?_)
  refine b_lt ey z0 (by omega) (by omega) (fun q => by omega) (fun _ => ?_)
  refine b_ge ey i5 (by omega) (by omega) (fun q => by omega) (fun _ => ?_)
  have g : x * Int32.ofInt 5 + y = nI (s * 5 + h) := by rw [ex, ey, i5, pk_mul, nI_add]
  refine ⟨il_in g (by omega) (by omega), ?_⟩
  rw [← il_cl g (by omega)] at hQ
  exact hQ
end LEAF
end
section
/-! what a state is, as plain numbers: a speech, rules, a net; and how class and reference hold it -/
/-- a speech: hearings, how many words of each, WORD and TIME of each, WORDS, how many letters, letters -/
abbrev SPc : Type := Nat × (Nat → Nat) × (Nat → Nat → Nat) × (Nat → Nat → Nat) × Nat × (Nat → Nat) × (Nat → Nat → Nat)
abbrev SPc.nh (S : SPc) : Nat := S.1
abbrev SPc.cn (S : SPc) : Nat → Nat := S.2.1
abbrev SPc.wd (S : SPc) : Nat → Nat → Nat := S.2.2.1
abbrev SPc.tm (S : SPc) : Nat → Nat → Nat := S.2.2.2.1
abbrev SPc.nw (S : SPc) : Nat := S.2.2.2.2.1
abbrev SPc.ln (S : SPc) : Nat → Nat := S.2.2.2.2.2.1
abbrev SPc.lt (S : SPc) : Nat → Nat → Nat := S.2.2.2.2.2.2
/-- rules: NEWCOST, GAPCOST, NEAREST, WINDOW, SHARE, WEIGHTS -/
abbrev RUc : Type := Nat × Nat × Nat × Nat × Nat × (Nat → Nat)
abbrev RUc.fr (R : RUc) : Nat := R.1
abbrev RUc.gp (R : RUc) : Nat := R.2.1
abbrev RUc.nr (R : RUc) : Nat := R.2.2.1
abbrev RUc.wn (R : RUc) : Nat := R.2.2.2.1
abbrev RUc.sh (R : RUc) : Nat := R.2.2.2.2.1
abbrev RUc.wt (R : RUc) : Nat → Nat := R.2.2.2.2.2
/-- a net: SLOTS, how many are joined, which (in order), at which cost, what lies where -/
abbrev NEc : Type := Nat × Nat × (Nat → Nat) × (Nat → Nat) × (Nat → Nat → Option Nat)
abbrev NEc.ns (E : NEc) : Nat := E.1
abbrev NEc.nj (E : NEc) : Nat := E.2.1
abbrev NEc.od (E : NEc) : Nat → Nat := E.2.2.1
abbrev NEc.ct (E : NEc) : Nat → Nat := E.2.2.2.1
abbrev NEc.th (E : NEc) : Nat → Nat → Option Nat := E.2.2.2.2
def vSP (S : SPc) : Prop := S.nh ≤ 5 ∧ (∀ h, h < S.nh → 1 ≤ S.cn h ∧ S.cn h ≤ 12) ∧ (∀ h, h < S.nh → ∀ i, i < S.cn h → S.wd h i < S.nw ∧ S.tm h i ≤ 999) ∧ S.nw ≤ 60 ∧ ∀ w, w < S.nw → 1 ≤ S.ln w ∧ S.ln w ≤ 6 ∧ ∀ k, k < S.ln w → S.lt w k < 26
def vRU (S : SPc) (R : RUc) : Prop := (1 ≤ R.fr ∧ R.fr ≤ 9) ∧ (1 ≤ R.gp ∧ R.gp ≤ 9) ∧ R.nr ≤ 9 ∧ R.wn ≤ 999 ∧ R.sh ≤ 200 ∧ ∀ h, h < S.nh → 1 ≤ R.wt h ∧ R.wt h ≤ 99
/-- which place a hearing has among the joined -/
def plc (E : NEc) (h : Nat) : Option Nat := (List.range E.nj).find? (fun p => E.od p == h)
def sm (f : Nat → Nat) : Nat → Nat
  | 0 => 0
  | n + 1 => sm f n + f n
def vNE (S : SPc) (E : NEc) : Prop := E.nj ≤ S.nh ∧ (∀ p, p < E.nj → E.od p < S.nh) ∧ (∀ p q, p < E.nj → q < E.nj → E.od p = E.od q → p = q) ∧ E.ns ≤ sm (fun p => S.cn (E.od p)) E.nj ∧
  (∀ s h i, s < E.ns → E.th s h = some i → h < S.nh ∧ i < S.cn h ∧ (plc E h).isSome = true) ∧ (∀ s, s < E.ns → ∃ h i, E.th s h = some i) ∧
  (∀ h, h < S.nh → (plc E h).isSome = true → ∀ i, i < S.cn h → ∃ s, s < E.ns ∧ E.th s h = some i) ∧ (∀ s s' h i i', s < s' → s' < E.ns → E.th s h = some i → E.th s' h = some i' → i < i') ∧ ∀ p, p < E.nj → E.ct p ≤ 2000
/-- what is there, or a sign for nothing -/
def oI (z : Int32) : Option Nat → Int32
  | some i => nI i
  | none => z
def cSP (σ : ST) (k : Nat) (S : SPc) : Prop := σ.1 8 k 1 0 = nI S.nh ∧ σ.1 8 k 2 0 = nI S.nw ∧ (∀ h, h < S.nh → σ.1 8 k 7 h = nI (S.cn h)) ∧ (∀ h, h < S.nh → ∀ i, i < S.cn h → σ.1 8 k 3 (h * 12 + i) = nI (S.wd h i) ∧ σ.1 8 k 4 (h * 12 + i) = nI (S.tm h i)) ∧
  ∀ w, w < S.nw → σ.1 8 k 10 w = nI (S.ln w) ∧ ∀ j, j < 6 → σ.1 8 k 9 (w * 6 + j) = if j < S.ln w then nI (S.lt w j) else -2
def cRU (σ : ST) (k : Nat) (S : SPc) (R : RUc) : Prop := σ.1 7 k 1 0 = nI R.fr ∧ σ.1 7 k 2 0 = nI R.gp ∧ σ.1 7 k 3 0 = nI R.nr ∧ σ.1 7 k 4 0 = nI R.wn ∧ σ.1 7 k 5 0 = nI R.sh ∧ ∀ h, h < S.nh → σ.1 7 k 6 h = nI (R.wt h)
def cNE (σ : ST) (k : Nat) (E : NEc) : Prop := σ.1 3 k 1 0 = nI E.ns ∧ σ.1 3 k 2 0 = nI E.nj ∧ (∀ p, p < E.nj → σ.1 3 k 3 p = nI (E.od p)) ∧ (∀ h, h < 5 → σ.1 3 k 4 h = oI (-2) (plc E h)) ∧ (∀ p, p < E.nj → σ.1 3 k 5 (E.od p) = nI (E.ct p)) ∧ ∀ s, s < E.ns → ∀ h, h < 5 → σ.1 3 k 6 (s * 5 + h) = oI (-2) (E.th s h)
/-- letters as the reference keeps them -/
def enc (f : Nat → Nat) : Nat → Nat
  | 0 => 0
  | n + 1 => enc f n * 32 + f n + 1
def mSP (σ : ST) (S : SPc) : Prop := σ.1 11 0 25 0 = nI S.nh ∧ σ.1 11 0 26 0 = nI S.nw ∧ (∀ h, h < S.nh → σ.1 11 0 21 h = nI (S.cn h)) ∧ (∀ h, h < S.nh → ∀ i, i < S.cn h → σ.1 11 0 22 (12 * h + i) = nI (S.wd h i) ∧ σ.1 11 0 23 (12 * h + i) = nI (S.tm h i)) ∧
  ∀ w, w < S.nw → σ.2 11 0 17 w = lN (enc (S.lt w) (S.ln w))
/-- rules and net in a row of the reference -/
def mRU (v : Nat → Int32) (S : SPc) (R : RUc) : Prop := v 0 = nI R.fr ∧ v 1 = nI R.gp ∧ v 2 = nI R.nr ∧ v 3 = nI R.wn ∧ v 4 = nI R.sh ∧ ∀ h, h < S.nh → v (5 + h) = nI (R.wt h)
def mNE (v : Nat → Int32) (E : NEc) : Prop := v 10 = nI E.nj ∧ v 21 = nI E.ns ∧ (∀ p, p < E.nj → v (11 + p) = nI (E.od p) ∧ v (16 + p) = nI (E.ct p)) ∧ ∀ s, s < E.ns → ∀ h, h < 5 → v (22 + 5 * s + h) = oI (-1) (E.th s h)
theorem oI_neg {z : Int32} (hz : z < 0) {o : Option Nat} (h : ∀ i, o = some i → i < 2147483648) : (oI z o < 0) ↔ o = none := by
  cases o with
  | none => exact ⟨fun _ => rfl, fun _ => hz⟩
  | some i => exact ⟨fun q => absurd q (nI_pos (h i rfl)), fun q => by cases q⟩
theorem ne2 : (-2 : Int32) < 0 := by decide
theorem ne1 : (-1 : Int32) < 0 := by decide
/-- a branch on what is there -/
theorem b_there {z : Int32} (hz : z < 0) {x : Int32} {o : Option Nat} (hx : x = oI z o) (h : ∀ i, o = some i → i < 2147483648) {A B : Prop} (t : o = none → A) (f : ∀ i, o = some i → x = nI i → B) : (brI .lt x 0 → A) ∧ (¬ brI .lt x 0 → B) := by
  subst hx
  refine ⟨fun q => t ((oI_neg hz h).mp q), fun q => ?_⟩
  cases o with
  | none => exact absurd hz q
  | some i => exact f i rfl rfl
theorem b_thereG {z : Int32} (hz : z < 0) {x : Int32} {o : Option Nat} (hx : x = oI z o) (h : ∀ i, o = some i → i < 2147483648) {A B : Prop} (t : ∀ i, o = some i → x = nI i → A) (f : o = none → B) : (brI .ge x 0 → A) ∧ (¬ brI .ge x 0 → B) := by
  subst hx
  cases o with
  | none => exact ⟨fun q => absurd q (by show ¬ (0 : Int32) ≤ z; exact Int32.not_le.mpr hz), fun _ => f rfl⟩
  | some i => exact ⟨fun _ => t i rfl rfl, fun q => absurd (nI_pos' (h i rfl)) q⟩
theorem sm_mono (f : Nat → Nat) : ∀ {a b : Nat}, a ≤ b → sm f a ≤ sm f b := by
  intro a b h
  induction b with
  | zero => obtain rfl : a = 0 := by omega
            exact Nat.le_refl _
  | succ b ih =>
    by_cases e : a = b + 1
    · subst e; exact Nat.le_refl _
    · exact Nat.le_trans (ih (by omega)) (Nat.le_add_right _ _)
theorem sm_congr {f g : Nat → Nat} : ∀ {n : Nat}, (∀ i, i < n → f i = g i) → sm f n = sm g n
  | 0, _ => rfl
  | n + 1, h => by rw [sm, sm, sm_congr (fun i hi => h i (by omega)), h n (by omega)]
theorem sm_tail {f : Nat → Nat} {a : Nat} : ∀ {b : Nat}, a ≤ b → (∀ i, a ≤ i → i < b → f i = 0) → sm f b = sm f a
  | 0, h, _ => by obtain rfl : a = 0 := by omega
                  rfl
  | b + 1, h, hz => by
    by_cases e : a = b + 1
    · subst e; rfl
    · rw [sm, sm_tail (b := b) (by omega) (fun i h1 h2 => hz i h1 (by omega)), hz b (by omega) (by omega), Nat.add_zero]
theorem sm_le {f : Nat → Nat} {M : Nat} : ∀ {n : Nat}, (∀ i, i < n → f i ≤ M) → sm f n ≤ n * M
  | 0, _ => by simp [sm]
  | n + 1, h => by
    have h1 := sm_le (f := f) (n := n) (fun i hi => h i (by omega))
    have h2 := h n (by omega)
    rw [sm, Nat.add_mul]
    omega
theorem vNE_ns {S : SPc} {E : NEc} (hS : vSP S) (h : vNE S E) : E.ns ≤ 60 := by
  have h1 := h.2.2.2.1
  have h2 : sm (fun p => S.cn (E.od p)) E.nj ≤ E.nj * 12 := sm_le (fun i hi => (hS.2.1 _ (h.2.1 i hi)).2)
  have := hS.1
  have := h.1
  omega
end
section
/-! TIME of a SLOT (of all words there, or of those that fl picks) -/
def tmU (S : SPc) (R : RUc) (E : NEc) (s : Nat) (fl : Nat → Nat → Bool) (h : Nat) : Nat := match E.th s h with
  | some i => if fl h i = true then R.wt h * S.tm h i else 0
  | none => 0
def tmB (R : RUc) (E : NEc) (s : Nat) (fl : Nat → Nat → Bool) (h : Nat) : Nat := match E.th s h with
  | some i => if fl h i = true then R.wt h else 0
  | none => 0
def tmF (S : SPc) (R : RUc) (E : NEc) (s : Nat) (fl : Nat → Nat → Bool) : Nat := sm (tmU S R E s fl) 5 / sm (tmB R E s fl) 5
theorem tmU_n {S : SPc} {R : RUc} {E : NEc} {s h : Nat} {fl : Nat → Nat → Bool} (q : E.th s h = none) : tmU S R E s fl h = 0 := by unfold tmU; rw [q]
theorem tmB_n {R : RUc} {E : NEc} {s h : Nat} {fl : Nat → Nat → Bool} (q : E.th s h = none) : tmB R E s fl h = 0 := by unfold tmB; rw [q]
theorem tmU_t {S : SPc} {R : RUc} {E : NEc} {s h i : Nat} {fl : Nat → Nat → Bool} (q : E.th s h = some i) (hf : fl h i = true) : tmU S R E s fl h = R.wt h * S.tm h i := by unfold tmU; rw [q]; simp only; rw [if_pos hf]
theorem tmB_t {R : RUc} {E : NEc} {s h i : Nat} {fl : Nat → Nat → Bool} (q : E.th s h = some i) (hf : fl h i = true) : tmB R E s fl h = R.wt h := by unfold tmB; rw [q]; simp only; rw [if_pos hf]
theorem tmU_f {S : SPc} {R : RUc} {E : NEc} {s h i : Nat} {fl : Nat → Nat → Bool} (q : E.th s h = some i) (hf : ¬ fl h i = true) : tmU S R E s fl h = 0 := by unfold tmU; rw [q]; simp only; rw [if_neg hf]
theorem tmB_f {R : RUc} {E : NEc} {s h i : Nat} {fl : Nat → Nat → Bool} (q : E.th s h = some i) (hf : ¬ fl h i = true) : tmB R E s fl h = 0 := by unfold tmB; rw [q]; simp only; rw [if_neg hf]
theorem tmU_le {S : SPc} {R : RUc} {E : NEc} {s : Nat} {fl : Nat → Nat → Bool} (hS : vSP S) (hR : vRU S R) (hE : vNE S E) (hs : s < E.ns) (h : Nat) : tmU S R E s fl h ≤ 98901 := by
  unfold tmU
  split
  · rename_i i e
    have h1 := hE.2.2.2.2.1 s h i hs e
    split
    · have h2 := (hR.2.2.2.2.2 h h1.1).2
      have h3 := (hS.2.2.1 h h1.1 i h1.2.1).2
      calc R.wt h * S.tm h i ≤ 99 * 999 := Nat.mul_le_mul h2 h3
        _ = 98901 := rfl
    · omega
  · omega
theorem tmB_le {S : SPc} {R : RUc} {E : NEc} {s : Nat} {fl : Nat → Nat → Bool} (hR : vRU S R) (hE : vNE S E) (hs : s < E.ns) (h : Nat) : tmB R E s fl h ≤ 99 := by
  unfold tmB
  split
  · rename_i i e
    have h1 := hE.2.2.2.2.1 s h i hs e
    split
    · exact (hR.2.2.2.2.2 h h1.1).2
    · omega
  · omega
theorem tmB_pos {S : SPc} {R : RUc} {E : NEc} {s : Nat} {fl : Nat → Nat → Bool} (hS : vSP S) (hR : vRU S R) (hE : vNE S E) (hs : s < E.ns) {h i : Nat} (e : E.th s h = some i) (hf : fl h i = true) : 0 < sm (tmB R E s fl) 5 := by
  have h1 := hE.2.2.2.2.1 s h i hs e
  have h2 := (hR.2.2.2.2.2 h h1.1).1
  have h3 : tmB R E s fl h = R.wt h := by unfold tmB; rw [e]; simp only; rw [if_pos hf]
  have h4 : sm (tmB R E s fl) (h + 1) ≤ sm (tmB R E s fl) 5 := sm_mono _ (by have := hS.1; omega)
  have h5 : sm (tmB R E s fl) (h + 1) = sm (tmB R E s fl) h + R.wt h := by rw [sm, h3]
  omega
theorem im1 : Int32.ofInt (-1) = (-1 : Int32) := by decide
theorem nI_m1 {k : Nat} (h : k < 2147483648) : ¬ nI k = (-1 : Int32) := fun q => by
  have := nI_pos h
  rw [q] at this
  exact this (by decide)
section MT
variable {N e k : Nat} {σ : ST} {Q : POST} {S : SPc} {R : RUc} {E : NEc}
set_option maxRecDepth 100000 in
theorem mt_loop (hS : vSP S) (hR : vRU S R) (hE : vNE S E) (cS : cSP σ 0 S) (cR : cRU σ 0 S R) (cE : cNE σ k E) {s : Nat} (hs : s < E.ns) {fl : Nat → Nat → Bool} {x2 x3 : Int32} (e2 : x2 = nI s)
    (hw : (x3 = (-1 : Int32) ∧ ∀ h i, fl h i = true) ∨ ∃ w, x3 = nI w ∧ w < 60 ∧ ∀ h i, fl h i = decide (S.wd h i = w)) (hp : 0 < sm (tmB R E s fl) 5) (hQ : Q (some (.inl (nI (tmF S R E s fl)))) σ) :
    ∀ (r h m : Nat) (x4 x5 x6 : Int32) (o7 : Option AV), h + r = 5 → 300 * r + 300 ≤ m → x4 = nI (sm (tmU S R E s fl) h) → x5 = nI (sm (tmB R E s fl) h) → x6 = nI h →
      wp N m (e + 1, 0) TX1_meanTime 6 [some (.inr (.inr (1, 0, 0))), some (.inr (.inr (3, k, 0))), some (.inl x2), some (.inl x3), some (.inl x4), some (.inl x5), some (.inl x6), o7] [] σ Q := by
  intro r
  induction r with
  | zero =>
    intro h m x4 x5 x6 o7 hr hm e4 e5 e6
    obtain ⟨n, rfl⟩ := il_ex (K := 30) (m := m) (by omega)
    obtain rfl : h = 5 := by omega
    have b1 : sm (tmU S R E s fl) 5 ≤ 5 * 98901 := sm_le (fun i _ => tmU_le hS hR hE hs i)
    have b2 : sm (tmB R E s fl) 5 ≤ 5 * 99 := sm_le (fun i _ => tmB_le hR hE hs i)
    refine b_ge e6 i5 (by omega) (by omega) (fun q => ?_) (fun q => by omega)
    refine b_le e5 z0 (by omega) (by omega) (fun q => by omega) (fun q => ?_)
    refine ⟨?_, trivial, Or.inl rfl, ?_⟩
    · rw [e5]; exact nI_ne0 hp (by omega)
    · have : x4 / x5 = nI (tmF S R E s fl) := by rw [e4, e5]; exact pk_div (by omega) hp (by omega)
      rw [this]
      exact hQ
  | succ r ih =>
    intro h m x4 x5 x6 o7 hr hm e4 e5 e6
    obtain ⟨n, rfl⟩ := il_ex (K := 200) (m := m) (by omega)
    have hns := vNE_ns hS hE
    have b1 : sm (tmU S R E s fl) h ≤ h * 98901 := sm_le (fun i _ => tmU_le hS hR hE hs i)
    have b2 : sm (tmB R E s fl) h ≤ h * 99 := sm_le (fun i _ => tmB_le hR hE hs i)
    have nxt : ∀ (y4 y5 : Int32) (p7 : Option AV) (n' : Nat), 300 * r + 310 ≤ n' → y4 = nI (sm (tmU S R E s fl) (h + 1)) → y5 = nI (sm (tmB R E s fl) (h + 1)) →
        wp N n' (e + 1, 0) TX1_meanTime 46 [some (.inr (.inr (1, 0, 0))), some (.inr (.inr (3, k, 0))), some (.inl x2), some (.inl x3), some (.inl y4), some (.inl y5), some (.inl x6), p7] [] σ Q := by
      intro y4 y5 p7 n' hn' g4 g5
      obtain ⟨n2, rfl⟩ := il_ex (K := 2) (m := n') (by omega)
      exact ⟨trivial, ih (h + 1) n2 _ _ _ _ (by omega) (by omega) g4 g5 (il_inc e6)⟩
    refine b_ge e6 i5 (by omega) (by omega) (fun q => by omega) (fun q => ?_)
    refine ⟨trivial, c_thereOf e2 e6 (by omega) (by omega) (by omega) ?_⟩
    have hth := cE.2.2.2.2.2 s hs h (by omega)
    rw [hth]
    have hlt : ∀ i, E.th s h = some i → i < 2147483648 := fun i e' => by
      have h1 := hE.2.2.2.2.1 s h i hs e'
      have h2 := (hS.2.1 h h1.1).2
      omega
    refine b_there ne2 rfl hlt (fun q1 => ?_) (fun i q1 q2 => ?_)
    · exact nxt _ _ _ _ (by omega) (by rw [e4, sm, tmU_n q1, Nat.add_zero]) (by rw [e5, sm, tmB_n q1, Nat.add_zero])
    · have h1 := hE.2.2.2.2.1 s h i hs q1
      have h2 := (hS.2.1 h h1.1).2
      have h3 := cS.2.2.2.1 h h1.1 i h1.2.1
      have h4 := cR.2.2.2.2.2 h h1.1
      have h5 := (hR.2.2.2.2.2 h h1.1)
      have h6 := hS.2.2.1 h h1.1 i h1.2.1
      have h7 := hS.2.2.2.1
      have add : ∀ n', 300 * r + 440 ≤ n' → fl h i = true → wp N n' (e + 1, 0) TX1_meanTime 26 [some (.inr (.inr (1, 0, 0))), some (.inr (.inr (3, k, 0))), some (.inl x2), some (.inl x3), some (.inl x4), some (.inl x5), some (.inl x6), some (.inl (oI (-2) (E.th s h)))] [] σ Q := by
        intro n' hn' hf
        obtain ⟨n2, rfl⟩ := il_ex (K := 100) (m := n') (by omega)
        refine ⟨trivial, c_weightOf e6 (by omega) (by omega) ?_⟩
        refine ⟨trivial, c_timeOf e6 q2 (by omega) (by omega) (by omega) ?_⟩
        refine ⟨trivial, c_weightOf e6 (by omega) (by omega) ?_⟩
        refine adv 2 (300 * r + 310) (by omega) (fun n3 hn3 => ?_)
        refine nxt _ _ _ n3 hn3 ?_ ?_
        · rw [h4, h3.2, e4, pk_mul, nI_add, sm, tmU_t q1 hf]
        · rw [h4, e5, nI_add, sm, tmB_t q1 hf]
      rcases hw with ⟨hw1, hw2⟩ | ⟨w, hw1, hw2, hw3⟩
      · refine ⟨fun q3 => add _ (by omega) (hw2 h i), fun q3 => absurd (show x3 = Int32.ofInt (-1) by rw [hw1, im1]) q3⟩
      · refine ⟨fun q3 => absurd (show nI w = (-1 : Int32) by rw [← hw1, ← im1]; exact q3) (nI_m1 (by omega)), fun q3 => ?_⟩
        refine ⟨trivial, c_wordOf e6 q2 (by omega) (by omega) (by omega) ?_⟩
        rw [h3.1]
        refine b_ne rfl hw1 (by omega) (by omega) (fun q4 => ?_) (fun q4 => ?_)
        · have hf : ¬ fl h i = true := by rw [hw3]; simp [q4]
          exact nxt _ _ _ _ (by omega) (by rw [e4, sm, tmU_f q1 hf, Nat.add_zero]) (by rw [e5, sm, tmB_f q1 hf, Nat.add_zero])
        · exact add _ (by omega) (by rw [hw3]; simp [q4])
set_option maxRecDepth 100000 in
/-- Ballot.meanTime -/
theorem c_meanTime (hS : vSP S) (hR : vRU S R) (hE : vNE S E) (cS : cSP σ 0 S) (cR : cRU σ 0 S R) (cE : cNE σ k E) {s m : Nat} (hs : s < E.ns) {fl : Nat → Nat → Bool} {x2 x3 : Int32} (e2 : x2 = nI s)
    (hw : (x3 = (-1 : Int32) ∧ ∀ h i, fl h i = true) ∨ ∃ w, x3 = nI w ∧ w < 60 ∧ ∀ h i, fl h i = decide (S.wd h i = w)) (hp : 0 < sm (tmB R E s fl) 5) (hm : 2000 ≤ m) (hQ : Q (some (.inl (nI (tmF S R E s fl)))) σ) :
    wp N m (e + 1, 0) TX1_meanTime 0 [some (.inr (.inr (1, 0, 0))), some (.inr (.inr (3, k, 0))), some (.inl x2), some (.inl x3), none, none, none, none] [] σ Q := by
  refine adv 6 1800 (by omega) (fun n hn => ?_)
  exact mt_loop hS hR hE cS cR cE hs e2 hw hp hQ 5 0 n _ _ _ _ (by omega) (by omega) oi_0 oi_0 oi_0
end MT
theorem i22 : (Int8.ofInt 22).toInt32 = nI 22 := by decide
section MOD
variable {N e m jv : Nat} {σ : ST} {Q : POST} {S : SPc} {R : RUc} {E : NEc}
/-- the reference's there -/
theorem c_there (a : arO N 11 jv = some (1, 322)) {x y : Int32} {s h : Nat} (ex : x = nI s) (ey : y = nI h) (hs : s < 60) (hh : h < 5) (hm : 40 ≤ m) (hQ : Q (some (.inl (σ.1 11 0 jv (22 + 5 * s + h)))) σ) : wp N m (e, 0) TX11_there 0 [some (.inr (.inr (11, 0, jv))), some (.inl x), some (.inl y)] [] σ Q := by
  obtain ⟨n, rfl⟩ := il_ex hm
  have g : (Int8.ofInt 22).toInt32 + Int32.ofInt 5 * x + y = nI (22 + 5 * s + h) := by rw [ex, ey, i5, i22, pk_mul, nI_add, nI_add]
  refine arr_of a ⟨il_in g (by omega) (by omega), Or.inl rfl, ?_⟩
  rw [← il_cl g (by omega)] at hQ
  exact hQ
set_option maxRecDepth 100000 in
theorem to_loop (a : arO N 11 jv = some (1, 322)) (hS : vSP S) (hR : vRU S R) (hE : vNE S E) (cS : mSP σ S) (cR : mRU (σ.1 11 0 jv) S R) (cE : mNE (σ.1 11 0 jv) E) {s : Nat} (hs : s < E.ns) {x2 : Int32} (e2 : x2 = nI s)
    (hQ : Q (some (.inl (nI (tmF S R E s (fun _ _ => true))))) σ) :
    ∀ (r h m : Nat) (x3 x4 x5 : Int32) (o6 : Option AV), h + r = S.nh → 300 * r + 300 ≤ m → x3 = nI (sm (tmU S R E s (fun _ _ => true)) h) → x4 = nI (sm (tmB R E s (fun _ _ => true)) h) → x5 = nI h →
      wp N m (e + 1, 0) TX11_timeOf 6 [some (.inr (.inr (11, 0, 0))), some (.inr (.inr (11, 0, jv))), some (.inl x2), some (.inl x3), some (.inl x4), some (.inl x5), o6] [] σ Q := by
  have z1 : ∀ i, S.nh ≤ i → i < 5 → E.th s i = none := by
    intro i h1 h2
    cases he : E.th s i with
    | none => rfl
    | some q => have := (hE.2.2.2.2.1 s i q hs he).1; omega
  have t1 : sm (tmU S R E s (fun _ _ => true)) 5 = sm (tmU S R E s (fun _ _ => true)) S.nh := sm_tail hS.1 (fun i h1 h2 => tmU_n (z1 i h1 h2))
  have t2 : sm (tmB R E s (fun _ _ => true)) 5 = sm (tmB R E s (fun _ _ => true)) S.nh := sm_tail hS.1 (fun i h1 h2 => tmB_n (z1 i h1 h2))
  have hp : 0 < sm (tmB R E s (fun _ _ => true)) 5 := by
    obtain ⟨h, i, he⟩ := hE.2.2.2.2.2.1 s hs
    exact tmB_pos hS hR hE hs he rfl
  have b1 : sm (tmU S R E s (fun _ _ => true)) 5 ≤ 5 * 98901 := sm_le (fun i _ => tmU_le hS hR hE hs i)
  have b2 : sm (tmB R E s (fun _ _ => true)) 5 ≤ 5 * 99 := sm_le (fun i _ => tmB_le hR hE hs i)
  have hnh := hS.1
  intro r
  induction r with
  | zero =>
    intro h m x3 x4 x5 o6 hr hm e3 e4 e5
    obtain ⟨n, rfl⟩ := il_ex (K := 30) (m := m) (by omega)
    obtain rfl : h = S.nh := by omega
    refine b_ge e5 cS.1 (by omega) (by omega) (fun q => ?_) (fun q => by omega)
    refine ⟨?_, Or.inl rfl, ?_⟩
    · rw [e4, ← t2]; exact nI_ne0 hp (by omega)
    · have : x3 / x4 = nI (tmF S R E s (fun _ _ => true)) := by rw [e3, e4, ← t1, ← t2]; exact pk_div (by omega) hp (by omega)
      rw [this]
      exact hQ
  | succ r ih =>
    intro h m x3 x4 x5 o6 hr hm e3 e4 e5
    obtain ⟨n, rfl⟩ := il_ex (K := 200) (m := m) (by omega)
    have hns := vNE_ns hS hE
    have nxt : ∀ (y3 y4 : Int32) (p6 : Option AV) (n' : Nat), 300 * r + 310 ≤ n' → y3 = nI (sm (tmU S R E s (fun _ _ => true)) (h + 1)) → y4 = nI (sm (tmB R E s (fun _ _ => true)) (h + 1)) →
        wp N n' (e + 1, 0) TX11_timeOf 43 [some (.inr (.inr (11, 0, 0))), some (.inr (.inr (11, 0, jv))), some (.inl x2), some (.inl y3), some (.inl y4), some (.inl x5), p6] [] σ Q := by
      intro y3 y4 p6 n' hn' g3 g4
      obtain ⟨n2, rfl⟩ := il_ex (K := 2) (m := n') (by omega)
      exact ⟨trivial, ih (h + 1) n2 _ _ _ _ (by omega) (by omega) g3 g4 (il_inc e5)⟩
    refine b_ge e5 cS.1 (by omega) (by omega) (fun q => by omega) (fun q => ?_)
    refine ⟨trivial, c_there a e2 e5 (by omega) (by omega) (by omega) ?_⟩
    rw [cE.2.2.2 s hs h (by omega)]
    have hlt : ∀ i, E.th s h = some i → i < 2147483648 := fun i e' => by
      have h1 := hE.2.2.2.2.1 s h i hs e'
      have h2 := (hS.2.1 h h1.1).2
      omega
    refine b_thereG ne1 rfl hlt (fun i q1 q2 => ?_) (fun q1 => ?_)
    · have h1 := hE.2.2.2.2.1 s h i hs q1
      have h2 := (hS.2.1 h h1.1).2
      have h3 := cS.2.2.2.1 h h1.1 i h1.2.1
      have h4 := cR.2.2.2.2.2 h h1.1
      have g1 : Int32.ofInt 5 + x5 = nI (5 + h) := by rw [e5, i5, nI_add]
      have g2 : (Int8.ofInt 12).toInt32 * x5 + oI (-1) (E.th s h) = nI (12 * h + i) := by rw [q2, e5, i12, pk_mul, nI_add]
      refine arr_of a ⟨il_in g1 (by omega) (by omega), ?_⟩
      refine ⟨il_in g2 (by omega) (by omega), ?_⟩
      refine arr_of a ⟨il_in g1 (by omega) (by omega), ?_⟩
      refine adv 2 (300 * r + 310) (by omega) (fun n3 hn3 => ?_)
      refine nxt _ _ _ n3 hn3 ?_ ?_
      · rw [il_cl g1 (by omega), il_cl g2 (by omega), h4, h3.2, e3, pk_mul, nI_add, sm, tmU_t q1 rfl]
      · rw [il_cl g1 (by omega), h4, e4, nI_add, sm, tmB_t q1 rfl]
    · exact ⟨trivial, nxt _ _ _ _ (by omega) (by rw [e3, sm, tmU_n q1, Nat.add_zero]) (by rw [e4, sm, tmB_n q1, Nat.add_zero])⟩
set_option maxRecDepth 100000 in
/-- the reference's timeOf -/
theorem c_timeOfM (a : arO N 11 jv = some (1, 322)) (hS : vSP S) (hR : vRU S R) (hE : vNE S E) (cS : mSP σ S) (cR : mRU (σ.1 11 0 jv) S R) (cE : mNE (σ.1 11 0 jv) E) {s : Nat} (hs : s < E.ns) {x2 : Int32} (e2 : x2 = nI s) (hm : 2000 ≤ m)
    (hQ : Q (some (.inl (nI (tmF S R E s (fun _ _ => true))))) σ) : wp N m (e + 1, 0) TX11_timeOf 0 [some (.inr (.inr (11, 0, 0))), some (.inr (.inr (11, 0, jv))), some (.inl x2), none, none, none, none] [] σ Q := by
  have hnh := hS.1
  refine adv 6 1800 (by omega) (fun n hn => ?_)
  exact to_loop a hS hR hE cS cR cE hs e2 hQ S.nh 0 n _ _ _ _ (by omega) (by omega) oi_0 oi_0 oi_0
end MOD
end
section
/-! FAR of two WORDS -/
theorem lev_congr {a a' b b' : Nat → Int32} : ∀ (i j : Nat), (∀ z, z < i → a z = a' z) → (∀ z, z < j → b z = b' z) → lev a b i j = lev a' b' i j
  | 0, j, _, _ => by rw [lev_z, lev_z]
  | i + 1, 0, _, _ => by rw [lev_0, lev_0]
  | i + 1, j + 1, h1, h2 => by
    rw [lev_ss, lev_ss, lev_congr i j (fun z hz => h1 z (by omega)) (fun z hz => h2 z (by omega)), lev_congr i (j + 1) (fun z hz => h1 z (by omega)) h2, lev_congr (i + 1) j h1 (fun z hz => h2 z (by omega)), h1 i (by omega), h2 j (by omega)]
def farS (S : SPc) (w v : Nat) : Nat := lev (fun z => nI (S.lt w z)) (fun z => nI (S.lt v z)) (S.ln w) (S.ln v)
theorem farS_le {S : SPc} (hS : vSP S) {w v : Nat} (hw : w < S.nw) (hv : v < S.nw) : farS S w v ≤ 12 := by
  have h1 := hS.2.2.2.2 w hw
  have h2 := hS.2.2.2.2 v hv
  have := lev_le (fun z => nI (S.lt w z)) (fun z => nI (S.lt v z)) (S.ln w) (S.ln v)
  unfold farS
  omega
theorem lev_symm {a b : Nat → Int32} : ∀ (i j : Nat), lev a b i j = lev b a j i
  | 0, j => by rw [lev_z, lev_0]
  | i + 1, 0 => by rw [lev_0, lev_z]
  | i + 1, j + 1 => by
    have h : (if a i = b j then 0 else 1) = (if b j = a i then 0 else 1 : Nat) := by
      by_cases q : a i = b j
      · rw [if_pos q, if_pos q.symm]
      · rw [if_neg q, if_neg (fun z => q z.symm)]
    rw [lev_ss, lev_ss, lev_symm i j, lev_symm i (j + 1), lev_symm (i + 1) j, h]
    omega
theorem lev_self {a : Nat → Int32} : ∀ (i : Nat), lev a a i i = 0
  | 0 => lev_z _ _ _
  | i + 1 => by
    rw [lev_ss, lev_self i, if_pos rfl]
    omega
theorem farS_symm (S : SPc) (w v : Nat) : farS S w v = farS S v w := lev_symm _ _
theorem farS_self (S : SPc) (w : Nat) : farS S w w = 0 := lev_self _
/-- where the pairs of a WORD with those below it begin -/
def trI : Nat → Nat
  | 0 => 0
  | n + 1 => trI n + n
theorem trI_mono {a : Nat} : ∀ {b : Nat}, a ≤ b → trI a ≤ trI b
  | 0, h => by obtain rfl : a = 0 := by omega
               exact Nat.le_refl _
  | b + 1, h => by
    by_cases q : a = b + 1
    · subst q; exact Nat.le_refl _
    · exact Nat.le_trans (trI_mono (by omega)) (Nat.le_add_right _ _)
theorem trI_inj {w v w' v' : Nat} (h : v < w) (h' : v' < w') (q : trI w' + v' = trI w + v) : w' = w ∧ v' = v := by
  rcases Nat.lt_trichotomy w w' with z | z | z
  · have h1 := trI_mono (a := w + 1) (b := w') (by omega)
    have h2 : trI (w + 1) = trI w + w := rfl
    omega
  · subst z
    exact ⟨rfl, by omega⟩
  · have h1 := trI_mono (a := w' + 1) (b := w) (by omega)
    have h2 : trI (w' + 1) = trI w' + w' := rfl
    omega
theorem trI_lt {w v : Nat} (h : v < w) (hw : w < 60) : trI w + v < 1770 := by
  have h1 := trI_mono (a := w + 1) (b := 60) (by omega)
  have h2 : trI (w + 1) = trI w + w := rfl
  have h3 : trI 60 = 1770 := by decide +kernel
  omega
theorem trI_J : ∀ w, w < 60 → nI w * (nI w - Int32.ofInt 1) / Int32.ofInt 2 = nI (trI w) := by decide +kernel
/-- what the class has kept of FARS is right -/
def cFA (σ : ST) (S : SPc) : Prop := ∀ w v, w < S.nw → v < w → σ.1 2 0 3 (trI w + v) = -1 ∨ σ.1 2 0 3 (trI w + v) = nI (farS S w v)
theorem cSP_off {L : List RF} {σ τ : ST} (h : off L σ τ) {k : Nat} {S : SPc} (hL : ∀ r ∈ L, r.1 ≠ 8) (c : cSP σ k S) : cSP τ k S := by
  have q : ∀ j, (8, k, j) ∉ L := fun j hm => hL _ hm rfl
  obtain ⟨c1, c2, c3, c4, c5⟩ := c
  refine ⟨by rw [off_1 h (q _)]; exact c1, by rw [off_1 h (q _)]; exact c2, fun a ha => by rw [off_1 h (q _)]; exact c3 a ha, fun a ha i hi => ?_, fun w hw => ⟨by rw [off_1 h (q _)]; exact (c5 w hw).1, fun j hj => by rw [off_1 h (q _)]; exact (c5 w hw).2 j hj⟩⟩
  rw [off_1 h (q _), off_1 h (q _)]
  exact c4 a ha i hi
theorem cRU_off {L : List RF} {σ τ : ST} (h : off L σ τ) {k : Nat} {S : SPc} {R : RUc} (hL : ∀ r ∈ L, r.1 ≠ 7) (c : cRU σ k S R) : cRU τ k S R := by
  have q : ∀ j, (7, k, j) ∉ L := fun j hm => hL _ hm rfl
  obtain ⟨c1, c2, c3, c4, c5, c6⟩ := c
  exact ⟨by rw [off_1 h (q _)]; exact c1, by rw [off_1 h (q _)]; exact c2, by rw [off_1 h (q _)]; exact c3, by rw [off_1 h (q _)]; exact c4, by rw [off_1 h (q _)]; exact c5, fun a ha => by rw [off_1 h (q _)]; exact c6 a ha⟩
theorem cNE_off {L : List RF} {σ τ : ST} (h : off L σ τ) {k : Nat} {E : NEc} (hL : ∀ r ∈ L, ¬ (r.1 = 3 ∧ r.2.1 = k)) (c : cNE σ k E) : cNE τ k E := by
  have q : ∀ j, (3, k, j) ∉ L := fun j hm => hL _ hm ⟨rfl, rfl⟩
  obtain ⟨c1, c2, c3, c4, c5, c6⟩ := c
  exact ⟨by rw [off_1 h (q _)]; exact c1, by rw [off_1 h (q _)]; exact c2, fun a ha => by rw [off_1 h (q _)]; exact c3 a ha, fun a ha => by rw [off_1 h (q _)]; exact c4 a ha, fun a ha => by rw [off_1 h (q _)]; exact c5 a ha, fun a ha b hb => by rw [off_1 h (q _)]; exact c6 a ha b hb⟩
theorem mSP_off {L : List RF} {σ τ : ST} (h : off L σ τ) {S : SPc} (hL : ∀ r ∈ L, r.1 = 11 → 27 ≤ r.2.2) (c : mSP σ S) : mSP τ S := by
  have q : ∀ j, j < 27 → (11, 0, j) ∉ L := fun j hj hm => by have := hL _ hm rfl; simp only at this; omega
  obtain ⟨c1, c2, c3, c4, c5⟩ := c
  refine ⟨by rw [off_1 h (q _ (by omega))]; exact c1, by rw [off_1 h (q _ (by omega))]; exact c2, fun a ha => by rw [off_1 h (q _ (by omega))]; exact c3 a ha, fun a ha i hi => ?_, fun w hw => by rw [off_2 h (q _ (by omega))]; exact c5 w hw⟩
  rw [off_1 h (q _ (by omega)), off_1 h (q _ (by omega))]
  exact c4 a ha i hi
theorem off_in {L L' : List RF} {σ τ : ST} (h : off L σ τ) (hs : (L.all fun r => L'.contains r) = true) : off L' σ τ := off_mono h fun r hr => by
  have := List.all_eq_true.mp hs r hr
  simpa using this
section FAR
variable {N e m : Nat} {σ : ST} {Q : POST} {S : SPc}
set_option maxRecDepth 100000 in
/-- Fars.apart -/
theorem c_farsApart (hS : vSP S) (cS : cSP σ 0 S) (cF : cFA σ S) {w v : Nat} (hw : w < S.nw) (hv : v < S.nw) {x1 x2 : Int32} (e1 : x1 = nI w) (e2 : x2 = nI v) (hm : 600000 ≤ m)
    (hQ : ∀ τ, off [(6, 0, 1), (2, 0, 3)] σ τ → cFA τ S → Q (some (.inl (nI (farS S w v)))) τ) : wp N m (e + 2, 0) TX2_apart 0 [some (.inr (.inr (2, 0, 0))), some (.inl x1), some (.inl x2), none] [] σ Q := by
  have hnw := hS.2.2.2.1
  have lw := hS.2.2.2.2 w hw
  have lv := hS.2.2.2.2 v hv
  have hf := farS_le hS hw hv
  have at37 : ∀ (x3 : Int32) (n' p q : Nat), 590000 ≤ n' → p < S.nw → q < p → farS S p q = farS S w v → x3 = nI (trI p + q) → wp N n' (e + 2, 0) TX2_apart 37 [some (.inr (.inr (2, 0, 0))), some (.inl x1), some (.inl x2), none] [.inl x3] σ Q := by
    intro x3 n' p q hn' hp hq hpq g3
    have hb := trI_lt hq (show p < 60 by omega)
    obtain ⟨n, rfl⟩ := il_ex (K := 60) (m := n') (by omega)
    have fin : ∀ (τ : ST) (n' : Nat), 10 ≤ n' → τ.1 2 0 3 (trI p + q) = nI (farS S w v) → off [(6, 0, 1), (2, 0, 3)] σ τ → cFA τ S → wp N n' (e + 2, 0) TX2_apart 71 [some (.inr (.inr (2, 0, 0))), some (.inl x1), some (.inl x2), some (.inl x3)] [] τ Q := by
      intro τ n' hn' hv' ho hc
      obtain ⟨n2, rfl⟩ := il_ex hn'
      refine ⟨il_in g3 (by omega) (by omega), Or.inl rfl, ?_⟩
      have := hQ τ ho hc
      rw [← hv', ← il_cl g3 (by omega)] at this
      exact this
    refine ⟨il_in g3 (by omega) (by omega), ?_⟩
    refine ⟨fun qq => ?_, fun qq => ?_⟩
    · have qq : ¬ σ.1 2 0 3 (trI p + q) = -1 := by rw [← il_cl g3 (by omega), ← im1]; exact qq
      exact fin σ _ (by omega) (by rw [← hpq]; exact (cF p q hp hq).resolve_left qq) (off_rf _ _) cF
    · refine ⟨trivial, c_lengthOf e1 (by omega) (by omega) ?_⟩
      rw [(cS.2.2.2.2 w hw).1]
      refine ⟨trivial, c_lengthOf e2 (by omega) (by omega) ?_⟩
      rw [(cS.2.2.2.2 v hv).1]
      refine ⟨trivial, c_changes (L1 := 360) (L2 := 360) rfl rfl (by decide) (by decide) (lf := w * 6) (rg := v * 6) (by omega) (by omega) (by omega) (by omega) (by omega) (by omega) (by rw [e1, i6, pk_mul]) rfl (by rw [e2, i6, pk_mul]) rfl (by omega) ?_⟩
      intro τ ho
      have hl : lev (fun z => σ.1 8 0 9 (w * 6 + z)) (fun z => σ.1 8 0 9 (v * 6 + z)) (S.ln w) (S.ln v) = farS S w v := lev_congr _ _ (fun z hz => by rw [(cS.2.2.2.2 w hw).2 z (by omega), if_pos hz]) (fun z hz => by rw [(cS.2.2.2.2 v hv).2 z (by omega), if_pos hz])
      refine ⟨il_in g3 (by omega) (by omega), ?_⟩
      have ho2 : off [(6, 0, 1), (2, 0, 3)] σ τ := off_in ho (by decide)
      refine fin _ _ (by omega) ?_ (off_uI ho2 (by decide)) ?_
      · rw [il_cl g3 (by omega)]
        exact (uI_at ..).trans (by rw [hl])
      · intro w' v' hw' hv'
        rw [il_cl g3 (by omega)]
        by_cases hk : trI w' + v' = trI p + q
        · right
          obtain ⟨rfl, rfl⟩ := trI_inj hq hv' hk
          exact (uI_at ..).trans (by rw [hl, hpq])
        · show (uI τ 2 0 3 (trI p + q) _).1 2 0 3 (trI w' + v') = -1 ∨ (uI τ 2 0 3 (trI p + q) _).1 2 0 3 (trI w' + v') = nI (farS S w' v')
          rw [uI_ne _ _ _ _ _ _ hk, off_1 ho (by decide)]
          exact cF w' v' hw' hv'
  obtain ⟨n, rfl⟩ := il_ex (K := 40) (m := m) (by omega)
  refine b_lt e1 z0 (by omega) (by omega) (fun q => by omega) (fun _ => ?_)
  refine b_ge e1 i60 (by omega) (by omega) (fun q => by omega) (fun _ => ?_)
  refine b_lt e2 z0 (by omega) (by omega) (fun q => by omega) (fun _ => ?_)
  refine b_ge e2 i60 (by omega) (by omega) (fun q => by omega) (fun _ => ?_)
  refine b_ne e1 e2 (by omega) (by omega) (fun qn => ?_) (fun qe => ?_)
  · refine b_le e1 e2 (by omega) (by omega) (fun ql => ?_) (fun ql => ?_)
    · refine ⟨by decide, adv 2 590000 (by omega) (fun n9 hn9 => at37 _ n9 v w hn9 hv (by omega) (farS_symm S v w) ?_)⟩
      rw [e2, e1, trI_J v (by omega), nI_add]
    · refine ⟨by decide, trivial, ?_⟩
      refine at37 _ _ w v (by omega) hw ql rfl ?_
      rw [e2, e1, trI_J w (by omega), nI_add]
  · subst qe
    have := hQ σ (off_rf _ _) cF
    rw [farS_self, ← oi_0] at this
    exact ⟨Or.inl rfl, this⟩
end FAR
end
section
/-! FAR of two WORDS, as the reference finds it -/
theorem enc_div (f : Nat → Nat) {n : Nat} (h : f n < 26) : enc f (n + 1) / 32 = enc f n := by rw [enc]; omega
theorem enc_mod (f : Nat → Nat) {n : Nat} (h : f n < 26) : enc f (n + 1) % 32 = f n + 1 := by rw [enc]; omega
theorem enc_pos (f : Nat → Nat) (n : Nat) : 0 < enc f (n + 1) := by rw [enc]; omega
theorem enc_lt (f : Nat → Nat) : ∀ n, (∀ k, k < n → f k < 26) → enc f n < 32 ^ n
  | 0, _ => by simp [enc]
  | n + 1, h => by
    have h1 := enc_lt f n (fun k hk => h k (by omega))
    have h2 := h n (by omega)
    rw [enc, Nat.pow_succ]
    omega
theorem enc_b (f : Nat → Nat) {n : Nat} (hn : n ≤ 6) (h : ∀ k, k < n → f k < 26) : enc f n < 1073741824 := by
  have h1 := enc_lt f n h
  have h2 : 32 ^ n ≤ 32 ^ 6 := Nat.pow_le_pow_right (by decide) hn
  have h3 : (32 : Nat) ^ 6 = 1073741824 := by decide
  omega
theorem l32 : Int64.ofInt 32 = lN 32 := by decide
theorem b_lle0 {a : Nat} (ha : a < 1073741824) {A B : Prop} (t : a = 0 → A) (f : 0 < a → B) : (brI .le (lg_cmp (lN a) (Int64.ofNat 0)) 0 → A) ∧ (¬ brI .le (lg_cmp (lN a) (Int64.ofNat 0)) 0 → B) := by
  have h1 : lN 0 < lN a ↔ 0 < a := pk_lLT (by decide) (by omega)
  by_cases h : 0 < a
  · have : lg_cmp (lN a) (Int64.ofNat 0) = 1 := by unfold lg_cmp; exact if_pos (h1.mpr h)
    rw [this]
    exact ⟨fun q => absurd q (show ¬ (1 : Int32) ≤ 0 by decide), fun _ => f h⟩
  · obtain rfl : a = 0 := by omega
    have : lg_cmp (lN 0) (Int64.ofNat 0) = 0 := by decide
    rw [this]
    exact ⟨fun _ => t rfl, fun q => absurd (show (0 : Int32) ≤ 0 by decide) q⟩
section FARM
variable {N e m : Nat} {σ : ST} {Q : POST} {S : SPc}
set_option maxRecDepth 100000 in
theorem li_loop {f : Nat → Nat} {n : Nat} (hn : n ≤ 6) (hf : ∀ k, k < n → f k < 26) {L : Int64} (hQ : Q (some (.inl (nI n))) σ) :
    ∀ (r c m : Nat) (x2 : Int32) (v : Int64), c + r = n → 50 * r + 50 ≤ m → x2 = nI c → v = lN (enc f r) → wp N m (e, 0) TX11_lettersIn 4 [some (.inr (.inl L)), none, some (.inl x2), some (.inr (.inl v)), none] [] σ Q := by
  intro r
  induction r with
  | zero =>
    intro c m x2 v hc hm e2 ev
    obtain ⟨q, rfl⟩ := il_ex (K := 20) (m := m) (by omega)
    subst ev
    refine b_lle0 (a := enc f 0) (by simp [enc]) (fun _ => ?_) (fun q => by simp [enc] at q)
    refine ⟨Or.inl rfl, ?_⟩
    obtain rfl : c = n := by omega
    rw [e2]
    exact hQ
  | succ r ih =>
    intro c m x2 v hc hm e2 ev
    obtain ⟨q, rfl⟩ := il_ex (K := 20) (m := m) (by omega)
    subst ev
    have hb := enc_b f (n := r + 1) (by omega) (fun k hk => hf k (by omega))
    refine b_lle0 hb (fun q => by have := enc_pos f r; omega) (fun _ => ?_)
    refine ⟨by decide, trivial, ih (c + 1) _ _ _ (by omega) (by omega) (il_inc e2) ?_⟩
    rw [l32, pk_lDiv (by omega) (by decide) (by decide), enc_div f (hf r (by omega))]
set_option maxRecDepth 100000 in
theorem c_lettersIn {f : Nat → Nat} {n : Nat} (hn : n ≤ 6) (hf : ∀ k, k < n → f k < 26) {L : Int64} (eL : L = lN (enc f n)) (hm : 500 ≤ m) (hQ : Q (some (.inl (nI n))) σ) : wp N m (e, 0) TX11_lettersIn 0 [some (.inr (.inl L)), none, none, none, none] [] σ Q := by
  refine adv 4 450 (by omega) (fun q hq => ?_)
  exact li_loop hn hf hQ n 0 q _ _ (by omega) (by omega) oi_0 eL
set_option maxRecDepth 100000 in
theorem le_loop {f : Nat → Nat} {n : Nat} (hn : n ≤ 6) (hf : ∀ k, k < n → f k < 26) {L : Int64} {x2 : Int32} {k : Nat} (e2 : x2 = nI k) (hk : k < n) (hQ : Q (some (.inl (nI (f k)))) σ) :
    ∀ (r m : Nat) (x5 : Int32) (v : Int64), k + r < n → 50 * r + 50 ≤ m → x5 = nI (k + r) → v = lN (enc f (k + r + 1)) → wp N m (e, 0) TX11_letterIn 7 [some (.inr (.inl L)), none, some (.inl x2), some (.inr (.inl v)), none, some (.inl x5)] [] σ Q := by
  intro r
  induction r with
  | zero =>
    intro m x5 v hc hm e5 ev
    obtain ⟨q, rfl⟩ := il_ex (K := 20) (m := m) (by omega)
    subst ev
    have hb := enc_b f (n := k + 0 + 1) (by omega) (fun z hz => hf z (by omega))
    refine b_le e5 e2 (by omega) (by omega) (fun _ => ?_) (fun q => by omega)
    refine ⟨by decide, Or.inl rfl, ?_⟩
    rw [l32, pk_lRem (by omega) (by decide) (by decide), lN_i, enc_mod f (hf (k + 0) (by omega)), il_sub1 rfl]
    exact hQ
  | succ r ih =>
    intro m x5 v hc hm e5 ev
    obtain ⟨q, rfl⟩ := il_ex (K := 20) (m := m) (by omega)
    subst ev
    have hb := enc_b f (n := k + (r + 1) + 1) (by omega) (fun z hz => hf z (by omega))
    refine b_le e5 e2 (by omega) (by omega) (fun q => by omega) (fun _ => ?_)
    refine ⟨by decide, trivial, ih _ _ _ (by omega) (by omega) (il_dec (k := k + r) e5) ?_⟩
    rw [l32, pk_lDiv (by omega) (by decide) (by decide), enc_div f (hf (k + (r + 1)) (by omega))]
    rfl
set_option maxRecDepth 100000 in
theorem c_letterIn {f : Nat → Nat} {n : Nat} (hn : n ≤ 6) (hf : ∀ k, k < n → f k < 26) {L : Int64} (eL : L = lN (enc f n)) {x2 : Int32} {k : Nat} (e2 : x2 = nI k) (hk : k < n) (hm : 1000 ≤ m) (hQ : Q (some (.inl (nI (f k)))) σ) : wp N m (e + 1, 0) TX11_letterIn 0 [some (.inr (.inl L)), none, some (.inl x2), none, none, none] [] σ Q := by
  obtain ⟨q, rfl⟩ := il_ex (K := 7) (m := m) (by omega)
  refine ⟨trivial, c_lettersIn hn hf eL (by omega) ?_⟩
  exact le_loop hn hf e2 hk hQ (n - 1 - k) q _ _ (by omega) (by omega) (il_sub1 (by congr 1; omega)) (by rw [eL]; congr 2; omega)
set_option maxRecDepth 100000 in
theorem fo_1 (hS : vSP S) {w : Nat} (hw : w < S.nw) {x1 x2 x3 x4 : Int32} (e1 : x1 = nI w) (e3 : x3 = nI (S.ln w)) {M : Nat} (mS : ∀ τ, off [(11, 0, 32), (11, 0, 33), (11, 0, 31)] σ τ → mSP τ S)
    (K : ∀ (m : Nat) (τ : ST) (x5 : Int32), M ≤ m → off [(11, 0, 32), (11, 0, 33), (11, 0, 31)] σ τ → (∀ z, z < S.ln w → τ.1 11 0 32 z = nI (S.lt w z)) → wp N m (e + 2, 0) TX11_farOf 29 [some (.inr (.inr (11, 0, 0))), some (.inl x1), some (.inl x2), some (.inl x3), some (.inl x4), some (.inl x5)] [] τ Q) :
    ∀ (r c m : Nat) (τ : ST) (x5 : Int32), c + r = S.ln w → 1100 * r + 1100 + M ≤ m → off [(11, 0, 32), (11, 0, 33), (11, 0, 31)] σ τ → (∀ z, z < c → τ.1 11 0 32 z = nI (S.lt w z)) → x5 = nI c →
      wp N m (e + 2, 0) TX11_farOf 14 [some (.inr (.inr (11, 0, 0))), some (.inl x1), some (.inl x2), some (.inl x3), some (.inl x4), some (.inl x5)] [] τ Q := by
  have hnw := hS.2.2.2.1
  have lw := hS.2.2.2.2 w hw
  intro r
  induction r with
  | zero =>
    intro c m τ x5 hc hm ho h1 e5
    obtain ⟨n, rfl⟩ := il_ex (K := 3) (m := m) (by omega)
    refine b_ge e5 e3 (by omega) (by omega) (fun _ => ?_) (fun q => by omega)
    exact K n τ x5 (by omega) ho (fun z hz => h1 z (by omega))
  | succ r ih =>
    intro c m τ x5 hc hm ho h1 e5
    obtain ⟨n, rfl⟩ := il_ex (K := 100) (m := m) (by omega)
    refine b_ge e5 e3 (by omega) (by omega) (fun q => by omega) (fun _ => ?_)
    refine ⟨il_in e1 (by omega) (by omega), ?_⟩
    refine ⟨trivial, c_letterIn (f := S.lt w) (n := S.ln w) (by omega) lw.2.2 (by rw [il_cl e1 (by omega)]; exact (mS τ ho).2.2.2.2 w hw) e5 (by omega) (by omega) ?_⟩
    refine ⟨il_in e5 (by omega) (by omega), ?_⟩
    refine ⟨trivial, ih (c + 1) _ _ _ (by omega) (by omega) (off_uI ho (by decide)) ?_ (il_inc e5)⟩
    intro z hz
    rw [il_cl e5 (by omega)]
    by_cases hz2 : z = c
    · subst hz2
      exact uI_at ..
    · rw [uI_ne _ _ _ _ _ _ hz2]
      exact h1 z (by omega)
set_option maxRecDepth 100000 in
theorem fo_2 (hS : vSP S) {w v : Nat} (hv : v < S.nw) {x1 x2 x3 x4 : Int32} (e2 : x2 = nI v) (e4 : x4 = nI (S.ln v)) {M : Nat} (mS : ∀ τ, off [(11, 0, 32), (11, 0, 33), (11, 0, 31)] σ τ → mSP τ S)
    (K : ∀ (m : Nat) (τ : ST) (x5 : Int32), M ≤ m → off [(11, 0, 32), (11, 0, 33), (11, 0, 31)] σ τ → (∀ z, z < S.ln w → τ.1 11 0 32 z = nI (S.lt w z)) → (∀ z, z < S.ln v → τ.1 11 0 33 z = nI (S.lt v z)) → wp N m (e + 2, 0) TX11_farOf 46 [some (.inr (.inr (11, 0, 0))), some (.inl x1), some (.inl x2), some (.inl x3), some (.inl x4), some (.inl x5)] [] τ Q) :
    ∀ (r c m : Nat) (τ : ST) (x5 : Int32), c + r = S.ln v → 1100 * r + 1100 + M ≤ m → off [(11, 0, 32), (11, 0, 33), (11, 0, 31)] σ τ → (∀ z, z < S.ln w → τ.1 11 0 32 z = nI (S.lt w z)) → (∀ z, z < c → τ.1 11 0 33 z = nI (S.lt v z)) → x5 = nI c →
      wp N m (e + 2, 0) TX11_farOf 31 [some (.inr (.inr (11, 0, 0))), some (.inl x1), some (.inl x2), some (.inl x3), some (.inl x4), some (.inl x5)] [] τ Q := by
  have hnw := hS.2.2.2.1
  have lv := hS.2.2.2.2 v hv
  intro r
  induction r with
  | zero =>
    intro c m τ x5 hc hm ho h0 h1 e5
    obtain ⟨n, rfl⟩ := il_ex (K := 3) (m := m) (by omega)
    refine b_ge e5 e4 (by omega) (by omega) (fun _ => ?_) (fun q => by omega)
    exact K n τ x5 (by omega) ho h0 (fun z hz => h1 z (by omega))
  | succ r ih =>
    intro c m τ x5 hc hm ho h0 h1 e5
    obtain ⟨n, rfl⟩ := il_ex (K := 100) (m := m) (by omega)
    refine b_ge e5 e4 (by omega) (by omega) (fun q => by omega) (fun _ => ?_)
    refine ⟨il_in e2 (by omega) (by omega), ?_⟩
    refine ⟨trivial, c_letterIn (f := S.lt v) (n := S.ln v) (by omega) lv.2.2 (by rw [il_cl e2 (by omega)]; exact (mS τ ho).2.2.2.2 v hv) e5 (by omega) (by omega) ?_⟩
    refine ⟨il_in e5 (by omega) (by omega), ?_⟩
    refine ⟨trivial, ih (c + 1) _ _ _ (by omega) (by omega) (off_uI ho (by decide)) ?_ ?_ (il_inc e5)⟩
    · intro z hz
      show (uI τ 11 0 33 _ _).1 11 0 32 z = _
      rw [uI_nr _ _ _ _ _ _ (by decide)]
      exact h0 z hz
    · intro z hz
      rw [il_cl e5 (by omega)]
      by_cases hz2 : z = c
      · subst hz2
        exact uI_at ..
      · rw [uI_ne _ _ _ _ _ _ hz2]
        exact h1 z (by omega)
set_option maxRecDepth 100000 in
/-- the reference's farOf -/
theorem c_farOf (hS : vSP S) (cS : mSP σ S) {w v : Nat} (hw : w < S.nw) (hv : v < S.nw) {x1 x2 : Int32} (e1 : x1 = nI w) (e2 : x2 = nI v) (hm : 1300000 ≤ m)
    (hQ : ∀ τ, off [(11, 0, 32), (11, 0, 33), (11, 0, 31)] σ τ → Q (some (.inl (nI (farS S w v)))) τ) : wp N m (e + 2, 0) TX11_farOf 0 [some (.inr (.inr (11, 0, 0))), some (.inl x1), some (.inl x2), none, none, none] [] σ Q := by
  have hnw := hS.2.2.2.1
  have lw := hS.2.2.2.2 w hw
  have lv := hS.2.2.2.2 v hv
  have mS : ∀ τ, off [(11, 0, 32), (11, 0, 33), (11, 0, 31)] σ τ → mSP τ S := fun τ ho => mSP_off ho (by decide) cS
  obtain ⟨n, rfl⟩ := il_ex (K := 14) (m := m) (by omega)
  refine ⟨il_in e1 (by omega) (by omega), ?_⟩
  refine ⟨trivial, c_lettersIn (f := S.lt w) (n := S.ln w) (by omega) lw.2.2 (by rw [il_cl e1 (by omega)]; exact cS.2.2.2.2 w hw) (by omega) ?_⟩
  refine ⟨il_in e2 (by omega) (by omega), ?_⟩
  refine ⟨trivial, c_lettersIn (f := S.lt v) (n := S.ln v) (by omega) lv.2.2 (by rw [il_cl e2 (by omega)]; exact cS.2.2.2.2 v hv) (by omega) ?_⟩
  refine fo_1 hS hw e1 rfl (M := 1240000) mS ?_ (S.ln w) 0 n σ _ (by omega) (by omega) (off_rf _ _) (fun z hz => by omega) oi_0
  intro m1 τ1 y5 hm1 ho1 h1
  refine adv 2 1230000 (by omega) (fun n1 hn1 => ?_)
  refine fo_2 hS hv e2 rfl (M := 1210000) mS ?_ (S.ln v) 0 n1 τ1 _ (by omega) (by omega) ho1 h1 (fun z hz => by omega) oi_0
  intro m2 τ2 y6 hm2 ho2 h2 h3
  obtain ⟨n2, rfl⟩ := il_ex (K := 5) (m := m2) (by omega)
  refine ⟨trivial, c_apart (by omega) (by omega) rfl rfl (by omega) ?_⟩
  intro τ3 ho3
  have hl : lev (τ2.1 11 0 32) (τ2.1 11 0 33) (S.ln w) (S.ln v) = farS S w v := lev_congr _ _ h2 h3
  rw [hl]
  exact ⟨Or.inl rfl, hQ τ3 (off_tr ho2 (off_in ho3 (by decide)))⟩
end FARM
end
section
/-! what it costs that a word comes into a SLOT -/
def nrS (S : SPc) (R : RUc) (E : NEc) (w s : Nat) : Nat → Nat
  | 0 => R.nr
  | g + 1 => match E.th s g with
    | some j => min (farS S w (S.wd g j)) (nrS S R E w s g)
    | none => nrS S R E w s g
def far1 (a b wn : Nat) : Nat := if wn < (a - b) + (b - a) then 1 else 0
def mcS (S : SPc) (R : RUc) (E : NEc) (h i s : Nat) : Nat := nrS S R E (S.wd h i) s 5 + far1 (S.tm h i) (tmF S R E s (fun _ _ => true)) R.wn
theorem nrS_n {S : SPc} {R : RUc} {E : NEc} {w s g : Nat} (q : E.th s g = none) : nrS S R E w s (g + 1) = nrS S R E w s g := by rw [nrS, q]
theorem nrS_s {S : SPc} {R : RUc} {E : NEc} {w s g j : Nat} (q : E.th s g = some j) : nrS S R E w s (g + 1) = min (farS S w (S.wd g j)) (nrS S R E w s g) := by rw [nrS, q]
theorem nrS_mono {S : SPc} {R : RUc} {E : NEc} {w s : Nat} : ∀ {a b : Nat}, a ≤ b → nrS S R E w s b ≤ nrS S R E w s a := by
  intro a b h
  induction b with
  | zero => obtain rfl : a = 0 := by omega
            exact Nat.le_refl _
  | succ b ih =>
    by_cases e : a = b + 1
    · subst e; exact Nat.le_refl _
    · refine Nat.le_trans ?_ (ih (by omega))
      cases q : E.th s b with
      | none => rw [nrS_n q]; exact Nat.le_refl _
      | some j => rw [nrS_s q]; exact Nat.min_le_right _ _
theorem nrS_le {S : SPc} {R : RUc} {E : NEc} {w s : Nat} (hR : vRU S R) (g : Nat) : nrS S R E w s g ≤ 9 := Nat.le_trans (nrS_mono (Nat.zero_le g)) hR.2.2.1
theorem nrS_tail {S : SPc} {R : RUc} {E : NEc} {w s a : Nat} : ∀ {b : Nat}, a ≤ b → (∀ i, a ≤ i → i < b → E.th s i = none) → nrS S R E w s b = nrS S R E w s a
  | 0, h, _ => by obtain rfl : a = 0 := by omega
                  rfl
  | b + 1, h, hz => by
    by_cases e : a = b + 1
    · subst e; rfl
    · rw [nrS_n (hz b (by omega) (by omega)), nrS_tail (b := b) (by omega) (fun i h1 h2 => hz i h1 (by omega))]
theorem tmF_le {S : SPc} {R : RUc} {E : NEc} {s : Nat} {fl : Nat → Nat → Bool} (hS : vSP S) (hR : vRU S R) (hE : vNE S E) (hs : s < E.ns) : tmF S R E s fl ≤ 999 := by
  have h1 : ∀ n, sm (tmU S R E s fl) n ≤ sm (tmB R E s fl) n * 999 := by
    intro n
    induction n with
    | zero => simp [sm]
    | succ n ih =>
      rw [sm, sm, Nat.add_mul]
      refine Nat.add_le_add ih ?_
      cases q : E.th s n with
      | none => rw [tmU_n q]; exact Nat.zero_le _
      | some i =>
        have h1 := hE.2.2.2.2.1 s n i hs q
        by_cases hf : fl n i = true
        · rw [tmU_t q hf, tmB_t q hf]
          exact Nat.mul_le_mul_left _ (hS.2.2.1 n h1.1 i h1.2.1).2
        · rw [tmU_f q hf]; exact Nat.zero_le _
  unfold tmF
  exact Nat.div_le_of_le_mul (h1 5)
theorem nI_neg_sub (a b : Nat) : -(nI a - nI b) = nI b - nI a := Int32.neg_sub
/-- how far two TIMES are apart, against the WINDOW: as the class tells it -/
theorem late_c {a b w : Nat} (ha : a ≤ 999) (hb : b ≤ 999) (hw : w ≤ 999) : (if (0 : Int32) ≤ nI a - nI b then nI a - nI b else -(nI a - nI b)) = nI ((a - b) + (b - a)) := by
  by_cases h : b ≤ a
  · have e : nI a - nI b = nI (a - b) := pk_sub h
    rw [e, if_pos (nI_pos' (by omega)), show (a - b) + (b - a) = a - b by omega]
  · have e : nI b - nI a = nI (b - a) := pk_sub (by omega)
    have hn : nI a - nI b < 0 := pk_sneg (by omega) (by omega)
    rw [if_neg (Int32.not_le.mpr hn), nI_neg_sub, e, show (a - b) + (b - a) = b - a by omega]
/-- the least of how far a word is from the first c of a row of words, NEAREST at the most -/
def nrF (S : SPc) (R : RUc) (w : Nat) (f : Nat → Nat) : Nat → Nat
  | 0 => R.nr
  | c + 1 => min (farS S w (f c)) (nrF S R w f c)
theorem nrF_congr {S : SPc} {R : RUc} {w : Nat} {f g : Nat → Nat} : ∀ {c : Nat}, (∀ j, j < c → f j = g j) → nrF S R w f c = nrF S R w g c
  | 0, _ => rfl
  | c + 1, h => by rw [nrF, nrF, nrF_congr (fun j hj => h j (by omega)), h c (by omega)]
theorem nrF_mono {S : SPc} {R : RUc} {w : Nat} {f : Nat → Nat} : ∀ {a b : Nat}, a ≤ b → nrF S R w f b ≤ nrF S R w f a := by
  intro a b h
  induction b with
  | zero => obtain rfl : a = 0 := by omega
            exact Nat.le_refl _
  | succ b ih =>
    by_cases e : a = b + 1
    · subst e; exact Nat.le_refl _
    · refine Nat.le_trans ?_ (ih (by omega))
      rw [nrF]
      exact Nat.min_le_right _ _
theorem nrF_le {S : SPc} {R : RUc} {w : Nat} {f : Nat → Nat} (hR : vRU S R) (c : Nat) : nrF S R w f c ≤ 9 := Nat.le_trans (nrF_mono (Nat.zero_le c)) hR.2.2.1
/-- the words of the first g hearings in SLOT s, as the class has looked them up -/
def lkA (σ : ST) (S : SPc) (R : RUc) (E : NEc) (s g : Nat) : Prop := ∃ (c : Nat) (f : Nat → Nat), c ≤ g ∧ (∀ j, j < c → f j < S.nw) ∧ (∀ w, nrF S R w f c = nrS S R E w s g) ∧ σ.1 9 0 10 0 = nI c ∧ ∀ j, j < c → σ.1 9 0 9 j = nI (f j)
/-- SLOT s as it was looked into -/
def cLK (σ : ST) (S : SPc) (R : RUc) (E : NEc) (s : Nat) : Prop := lkA σ S R E s 5 ∧ σ.1 9 0 11 0 = nI (tmF S R E s (fun _ _ => true))
abbrev lkOff : List RF := [(9, 0, 9), (9, 0, 10), (9, 0, 11)]
theorem cLK_off {L : List RF} {σ τ : ST} {S : SPc} {R : RUc} {E : NEc} {s : Nat} (ho : off L σ τ) (h9 : (9, 0, 9) ∉ L) (h10 : (9, 0, 10) ∉ L) (h11 : (9, 0, 11) ∉ L) (h : cLK σ S R E s) : cLK τ S R E s := by
  obtain ⟨⟨c, f, a1, a2, a3, a4, a5⟩, ht⟩ := h
  exact ⟨⟨c, f, a1, a2, a3, by rw [off_1 ho h10]; exact a4, fun j hj => by rw [off_1 ho h9]; exact a5 j hj⟩, by rw [off_1 ho h11]; exact ht⟩
section LK
variable {N e k : Nat} {σ : ST} {Q : POST} {S : SPc} {R : RUc} {E : NEc}
set_option maxRecDepth 100000 in
theorem lk_loop (hS : vSP S) (hR : vRU S R) (hE : vNE S E) (cS : cSP σ 0 S) (cR : cRU σ 0 S R) (cE : cNE σ k E) {s : Nat} (hs : s < E.ns) {x2 : Int32} (e2 : x2 = nI s)
    (hQ : ∀ τ, off lkOff σ τ → cLK τ S R E s → Q none τ) :
    ∀ (r g m : Nat) (τ : ST) (x3 : Int32) (o4 : Option AV), g + r = 5 → 3000 + 200 * r ≤ m → off lkOff σ τ → lkA τ S R E s g → x3 = nI g →
      wp N m (e + 2, 0) TX9_lookInto 5 [some (.inr (.inr (9, 0, 0))), some (.inr (.inr (3, k, 0))), some (.inl x2), some (.inl x3), o4] [] τ Q := by
  have hns := vNE_ns hS hE
  have hnw := hS.2.2.2.1
  intro r
  induction r with
  | zero =>
    intro g m τ x3 o4 hg hm ho hl e3
    obtain ⟨n, rfl⟩ := il_ex (K := 50) (m := m) (by omega)
    obtain rfl : g = 5 := by omega
    have cS' : cSP τ 0 S := cSP_off ho (by decide) cS
    have cR' : cRU τ 0 S R := cRU_off ho (by decide) cR
    have cE' : cNE τ k E := cNE_off ho (by intro r hr; simp only [List.mem_cons, List.not_mem_nil, or_false] at hr; rintro ⟨q1, -⟩; rcases hr with rfl | rfl | rfl <;> simp at q1) cE
    obtain ⟨h0, i0, he0⟩ := hE.2.2.2.2.2.1 s hs
    refine b_ge e3 i5 (by omega) (by omega) (fun _ => ?_) (fun q => by omega)
    refine ⟨trivial, c_meanTime (fl := fun _ _ => true) hS hR hE cS' cR' cE' hs e2 (Or.inl ⟨im1, fun _ _ => rfl⟩) (tmB_pos hS hR hE hs he0 rfl) (by omega) ?_⟩
    obtain ⟨c, f, a1, a2, a3, a4, a5⟩ := hl
    have w9 : ∀ (x : Int32) (z : Nat), (uI τ 9 0 11 0 x).1 9 0 9 z = τ.1 9 0 9 z := fun x z => uI_nr _ _ _ _ _ _ (by decide) z
    have w10 : ∀ (x : Int32) (z : Nat), (uI τ 9 0 11 0 x).1 9 0 10 z = τ.1 9 0 10 z := fun x z => uI_nr _ _ _ _ _ _ (by decide) z
    exact hQ _ (off_uI ho (by decide)) ⟨⟨c, f, a1, a2, a3, (w10 _ _).trans a4, fun j hj => (w9 _ _).trans (a5 j hj)⟩, uI_at ..⟩
  | succ r ih =>
    intro g m τ x3 o4 hg hm ho hl e3
    obtain ⟨n, rfl⟩ := il_ex (K := 60) (m := m) (by omega)
    have cS' : cSP τ 0 S := cSP_off ho (by decide) cS
    have cE' : cNE τ k E := cNE_off ho (by intro r hr; simp only [List.mem_cons, List.not_mem_nil, or_false] at hr; rintro ⟨q1, -⟩; rcases hr with rfl | rfl | rfl <;> simp at q1) cE
    have nxt : ∀ (τ' : ST) (p4 : Option AV) (n' : Nat), 3000 + 200 * r + 2 ≤ n' → off lkOff σ τ' → lkA τ' S R E s (g + 1) → wp N n' (e + 2, 0) TX9_lookInto 35 [some (.inr (.inr (9, 0, 0))), some (.inr (.inr (3, k, 0))), some (.inl x2), some (.inl x3), p4] [] τ' Q := by
      intro τ' p4 n' hn' ho' hl'
      obtain ⟨n2, rfl⟩ := il_ex (K := 2) (m := n') (by omega)
      exact ⟨trivial, ih (g + 1) n2 τ' _ _ (by omega) (by omega) ho' hl' (il_inc e3)⟩
    refine b_ge e3 i5 (by omega) (by omega) (fun q => by omega) (fun _ => ?_)
    refine ⟨trivial, c_thereOf e2 e3 (by omega) (by omega) (by omega) ?_⟩
    rw [cE'.2.2.2.2.2 s hs g (by omega)]
    have hlt : ∀ i, E.th s g = some i → i < 2147483648 := fun i e' => by
      have h1 := hE.2.2.2.2.1 s g i hs e'
      have h2 := (hS.2.1 g h1.1).2
      omega
    obtain ⟨c, f, a1, a2, a3, a4, a5⟩ := hl
    refine b_there ne2 rfl hlt (fun q1 => ?_) (fun j q1 q2 => ?_)
    · exact nxt τ _ _ (by omega) ho ⟨c, f, by omega, a2, fun w => by rw [nrS_n q1]; exact a3 w, a4, a5⟩
    · have h1 := hE.2.2.2.2.1 s g j hs q1
      have h2 := (hS.2.1 g h1.1).2
      have h6 := hS.2.2.1 g h1.1 j h1.2.1
      refine b_ge a4 i5 (by omega) (by omega) (fun q => by omega) (fun _ => ?_)
      refine ⟨trivial, c_wordOf e3 q2 (by omega) (by omega) (by omega) ?_⟩
      rw [(cS'.2.2.2.1 g h1.1 j h1.2.1).1]
      refine ⟨il_in a4 (by omega) (by omega), ?_⟩
      refine adv 6 (3000 + 200 * r + 2) (by omega) (fun n3 hn3 => ?_)
      refine nxt (uI (uI τ 9 0 9 (τ.1 9 0 10 0).toNatClampNeg (nI (S.wd g j))) 9 0 10 0 ((uI τ 9 0 9 (τ.1 9 0 10 0).toNatClampNeg (nI (S.wd g j))).1 9 0 10 0 + Int32.ofInt 1)) _ n3 hn3 (off_uI (off_uI ho (by decide)) (by decide)) ⟨c + 1, fun z => if z = c then S.wd g j else f z, by omega, ?_, ?_, ?_, ?_⟩
      · intro z hz
        show (if z = c then S.wd g j else f z) < S.nw
        by_cases hq : z = c
        · rw [if_pos hq]; exact h6.1
        · rw [if_neg hq]; exact a2 z (by omega)
      · intro w
        have hfe : nrF S R w (fun z => if z = c then S.wd g j else f z) c = nrF S R w f c := nrF_congr (fun z hz => if_neg (by omega))
        show min (farS S w (if c = c then S.wd g j else f c)) (nrF S R w (fun z => if z = c then S.wd g j else f z) c) = _
        rw [nrS_s q1, if_pos rfl, hfe, a3 w]
      · rw [uI_at, uI_nr _ _ _ _ _ _ (by decide)]
        exact il_inc a4
      · intro z hz
        show _ = nI (if z = c then S.wd g j else f z)
        rw [uI_nr _ _ _ _ _ _ (by decide), il_cl a4 (by omega)]
        by_cases hq : z = c
        · rw [hq, uI_at, if_pos rfl]
        · rw [uI_ne _ _ _ _ _ _ hq, if_neg hq]
          exact a5 z (by omega)
set_option maxRecDepth 100000 in
/-- Weaver.lookInto -/
theorem c_lookInto (hS : vSP S) (hR : vRU S R) (hE : vNE S E) (cS : cSP σ 0 S) (cR : cRU σ 0 S R) (cE : cNE σ k E) {s m : Nat} (hs : s < E.ns) {x2 : Int32} (e2 : x2 = nI s) (hm : 5000 ≤ m)
    (hQ : ∀ τ, off lkOff σ τ → cLK τ S R E s → Q none τ) :
    wp N m (e + 2, 0) TX9_lookInto 0 [some (.inr (.inr (9, 0, 0))), some (.inr (.inr (3, k, 0))), some (.inl x2), none, none] [] σ Q := by
  refine adv 5 4900 (by omega) (fun n hn => ?_)
  exact lk_loop hS hR hE cS cR cE hs e2 hQ 5 0 n (uI σ 9 0 10 0 (Int32.ofInt 0)) _ _ (by omega) (by omega) (off_uI (off_rf _ _) (by decide)) ⟨0, fun _ => 0, by omega, fun j hj => by omega, fun _ => rfl, (uI_at ..).trans oi_0, fun j hj => by omega⟩ oi_0
end LK
section MC
variable {N e : Nat} {σ : ST} {Q : POST} {S : SPc} {R : RUc} {E : NEc}
abbrev mcV (x1 x2 x3 x4 x5 : Int32) (o6 : Option AV) : List (Option AV) := [some (.inr (.inr (9, 0, 0))), some (.inl x1), some (.inl x2), some (.inl x3), some (.inl x4), some (.inl x5), o6]
set_option maxRecDepth 100000 in
theorem mc_loop (hS : vSP S) (hR : vRU S R) (cS : cSP σ 0 S) {w M C : Nat} {f : Nat → Nat} (hw : w < S.nw) (hC : C ≤ 5) (hf : ∀ j, j < C → f j < S.nw) (hn : σ.1 9 0 10 0 = nI C) (hv : ∀ j, j < C → σ.1 9 0 9 j = nI (f j)) {x1 x2 x3 : Int32} (e3 : x3 = nI w)
    (K : ∀ (m : Nat) (τ : ST) (x4 x5 : Int32) (o6 : Option AV), M ≤ m → off [(6, 0, 1), (2, 0, 3)] σ τ → cFA τ S → x4 = nI (nrF S R w f C) → wp N m (e + 3, 0) TX9_matchCost 36 (mcV x1 x2 x3 x4 x5 o6) [] τ Q) :
    ∀ (r c m : Nat) (τ : ST) (x4 x5 : Int32) (o6 : Option AV), c + r = C → 700000 + 300 * r + M ≤ m → off [(6, 0, 1), (2, 0, 3)] σ τ → cFA τ S → x4 = nI (nrF S R w f c) → x5 = nI c →
      wp N m (e + 3, 0) TX9_matchCost 12 (mcV x1 x2 x3 x4 x5 o6) [] τ Q := by
  have hnw := hS.2.2.2.1
  intro r
  induction r with
  | zero =>
    intro c m τ x4 x5 o6 hg hm ho hc e4 e5
    obtain ⟨n, rfl⟩ := il_ex (K := 4) (m := m) (by omega)
    obtain rfl : c = C := by omega
    have hn' : τ.1 9 0 10 0 = nI c := by rw [off_1 ho (by decide)]; exact hn
    refine b_ge e5 hn' (by omega) (by omega) (fun _ => ?_) (fun q => by omega)
    exact K n τ x4 x5 o6 (by omega) ho hc e4
  | succ r ih =>
    intro c m τ x4 x5 o6 hg hm ho hc e4 e5
    obtain ⟨n, rfl⟩ := il_ex (K := 100) (m := m) (by omega)
    have hb := nrF_le (w := w) (f := f) hR c
    have hn' : τ.1 9 0 10 0 = nI C := by rw [off_1 ho (by decide)]; exact hn
    have cS' : cSP τ 0 S := cSP_off ho (by decide) cS
    have hfc := hf c (by omega)
    have nxt : ∀ (τ' : ST) (y4 : Int32) (p6 : Option AV) (n' : Nat), 700000 + 300 * r + 2 + M ≤ n' → off [(6, 0, 1), (2, 0, 3)] σ τ' → cFA τ' S → y4 = nI (nrF S R w f (c + 1)) → wp N n' (e + 3, 0) TX9_matchCost 34 (mcV x1 x2 x3 y4 x5 p6) [] τ' Q := by
      intro τ' y4 p6 n' hn1 ho' hc' e4'
      obtain ⟨n2, rfl⟩ := il_ex (K := 2) (m := n') (by omega)
      exact ⟨trivial, ih (c + 1) n2 τ' _ _ _ (by omega) (by omega) ho' hc' e4' (il_inc e5)⟩
    refine b_ge e5 hn' (by omega) (by omega) (fun q => by omega) (fun _ => ?_)
    refine b_le e4 z0 (by omega) (by omega) (fun q => ?_) (fun _ => ?_)
    · exact K _ τ x4 x5 o6 (by omega) ho hc (by rw [e4]; congr 1; have := nrF_mono (S := S) (R := R) (w := w) (f := f) (show c ≤ C by omega); omega)
    · refine ⟨il_in e5 (by omega) (by omega), ?_⟩
      have gv : τ.1 9 0 9 x5.toNatClampNeg = nI (f c) := by rw [il_cl e5 (by omega), off_1 ho (by decide)]; exact hv c (by omega)
      refine ⟨trivial, c_farsApart hS cS' hc hw hfc e3 gv (by omega) ?_⟩
      intro τ2 ho2 hc2
      have hfl := farS_le hS hw hfc
      refine b_ge rfl e4 (by omega) (by omega) (fun q3 => ?_) (fun q3 => ?_)
      · refine adv 2 (700000 + 300 * r + 2 + M) (by omega) (fun n3 hn3 => ?_)
        exact nxt τ2 _ _ n3 hn3 (off_tr ho ho2) hc2 (by rw [e4, nrF]; congr 1; omega)
      · refine ⟨trivial, ?_⟩
        refine adv 1 (700000 + 300 * r + 2 + M) (by omega) (fun n3 hn3 => ?_)
        exact nxt τ2 _ _ n3 hn3 (off_tr ho ho2) hc2 (by rw [nrF]; congr 1; omega)
set_option maxRecDepth 100000 in
/-- Weaver.matchCost, where the SLOT was looked into -/
theorem c_matchCost (hS : vSP S) (hR : vRU S R) (hE : vNE S E) (cS : cSP σ 0 S) (cR : cRU σ 0 S R) (cF : cFA σ S) {s h i m : Nat} (hs : s < E.ns) (hh : h < S.nh) (hi : i < S.cn h) (hl : cLK σ S R E s)
    {x1 x2 : Int32} (e1 : x1 = nI h) (e2 : x2 = nI i) (hm : 800000 ≤ m) (hQ : ∀ τ, off [(6, 0, 1), (2, 0, 3)] σ τ → cFA τ S → Q (some (.inl (nI (mcS S R E h i s)))) τ) :
    wp N m (e + 3, 0) TX9_matchCost 0 [some (.inr (.inr (9, 0, 0))), some (.inl x1), some (.inl x2), none, none, none, none] [] σ Q := by
  have hcn := hS.2.1 h hh
  have hwt := hS.2.2.1 h hh i hi
  have hnh := hS.1
  obtain ⟨⟨C, f, a1, a2, a3, a4, a5⟩, ht⟩ := hl
  obtain ⟨n, rfl⟩ := il_ex (K := 12) (m := m) (by omega)
  refine ⟨trivial, c_wordOf e1 e2 (by omega) (by omega) (by omega) ?_⟩
  rw [(cS.2.2.2.1 h hh i hi).1]
  refine mc_loop hS hR cS (w := S.wd h i) (M := 1000) hwt.1 a1 a2 a4 a5 rfl ?_ C 0 n σ _ _ _ (by omega) (by omega) (off_rf _ _) cF (by rw [nrF]; exact cR.2.2.1) oi_0
  intro m' τ x4 x5 o6 hm' ho hc e4
  rw [a3] at e4
  obtain ⟨n', rfl⟩ := il_ex (K := 100) (m := m') (by omega)
  have cS' : cSP τ 0 S := cSP_off ho (by decide) cS
  have cR' : cRU τ 0 S R := cRU_off ho (by decide) cR
  have hb := nrS_le (E := E) (w := S.wd h i) (s := s) hR 5
  have htf := tmF_le (fl := fun _ _ => true) hS hR hE hs
  have hwn := hR.2.2.2.1
  refine ⟨trivial, c_timeOf e1 e2 (by omega) (by omega) (by omega) ?_⟩
  rw [(cS'.2.2.2.1 h hh i hi).2]
  have g7 : τ.1 9 0 11 0 = nI (tmF S R E s (fun _ _ => true)) := by rw [off_1 ho (by decide)]; exact ht
  have fin : ∀ (y : Int32) (p5 : Option AV) (n2 : Nat), 20 ≤ n2 → y = nI ((S.tm h i - tmF S R E s (fun _ _ => true)) + (tmF S R E s (fun _ _ => true) - S.tm h i)) → wp N n2 (e + 3, 0) TX9_matchCost 51 [some (.inr (.inr (9, 0, 0))), some (.inl x1), some (.inl x2), some (.inl (nI (S.wd h i))), some (.inl x4), p5, o6] [.inl y] τ Q := by
    intro y p5 n2 hn2 hy
    obtain ⟨n3, rfl⟩ := il_ex hn2
    have hq := hQ τ ho hc
    unfold mcS far1 at hq
    refine b_le hy cR'.2.2.2.1 (by omega) (by omega) (fun q => ?_) (fun q => ?_)
    · refine ⟨Or.inl rfl, ?_⟩
      rw [if_neg (by omega), Nat.add_zero, ← e4] at hq
      exact hq
    · refine ⟨trivial, Or.inl rfl, ?_⟩
      rw [if_pos (by omega), ← il_inc e4] at hq
      exact hq
  have lc := late_c (a := S.tm h i) (b := tmF S R E s (fun _ _ => true)) (w := R.wn) hwt.2 htf hwn
  have g8 : nI (S.tm h i) - τ.1 9 0 11 0 = nI (S.tm h i) - nI (tmF S R E s (fun _ _ => true)) := by rw [g7]
  refine ⟨fun q => ?_, fun q => ?_⟩
  · have q : (0 : Int32) ≤ nI (S.tm h i) - nI (tmF S R E s (fun _ _ => true)) := by rw [← g8]; exact q
    rw [if_pos q] at lc
    refine adv 1 30 (by omega) (fun n3 hn3 => ?_)
    exact fin _ _ n3 (by omega) (g8.trans lc)
  · have q : ¬ (0 : Int32) ≤ nI (S.tm h i) - nI (tmF S R E s (fun _ _ => true)) := by rw [← g8]; exact q
    rw [if_neg q] at lc
    exact ⟨trivial, fin _ _ _ (by omega) ((congrArg (fun z => -z) g8).trans lc)⟩
end MC
end
section
/-! what it costs that a word comes into a SLOT, as the reference finds it -/
theorem mRU_off {L : List RF} {σ τ : ST} (h : off L σ τ) {jv : Nat} {S : SPc} {R : RUc} (hL : (11, 0, jv) ∉ L) (c : mRU (σ.1 11 0 jv) S R) : mRU (τ.1 11 0 jv) S R := by rw [(h 11 0 jv hL).1]; exact c
theorem mNE_off {L : List RF} {σ τ : ST} (h : off L σ τ) {jv : Nat} {E : NEc} (hL : (11, 0, jv) ∉ L) (c : mNE (σ.1 11 0 jv) E) : mNE (τ.1 11 0 jv) E := by rw [(h 11 0 jv hL).1]; exact c
theorem i2 : Int32.ofInt 2 = nI 2 := by decide
theorem i3 : Int32.ofInt 3 = nI 3 := by decide
/-- the same as the reference tells it -/
theorem late_m {a b w : Nat} (ha : a ≤ 999) (hb : b ≤ 999) (hw : w ≤ 999) : (nI w < nI a - nI b ∨ nI w < -(nI a - nI b)) ↔ w < (a - b) + (b - a) := by
  by_cases h : b ≤ a
  · have e : nI a - nI b = nI (a - b) := pk_sub h
    have e2 : -(nI a - nI b) = nI b - nI a := nI_neg_sub a b
    rw [e2, e, nI_ltI (by omega) (by omega)]
    constructor
    · rintro (q | q)
      · omega
      · exfalso
        by_cases hab : a = b
        · subst hab
          have e3 : nI a - nI a = nI (a - a) := pk_sub (Nat.le_refl _)
          rw [e3, nI_ltI (by omega) (by omega)] at q
          omega
        · have hn : nI b - nI a < 0 := pk_sneg (by omega) (by omega)
          have hp : (0 : Int32) ≤ nI w := nI_pos' (by omega)
          exact absurd (Int32.lt_of_le_of_lt hp q) (Int32.not_lt.mpr (Int32.le_of_lt hn))
    · intro q
      exact Or.inl (by omega)
  · have e : nI b - nI a = nI (b - a) := pk_sub (by omega)
    have e2 : -(nI a - nI b) = nI b - nI a := nI_neg_sub a b
    have hn : nI a - nI b < 0 := pk_sneg (by omega) (by omega)
    have hp : (0 : Int32) ≤ nI w := nI_pos' (by omega)
    rw [e2, e, nI_ltI (by omega) (by omega)]
    constructor
    · rintro (q | q)
      · exact absurd (Int32.lt_of_le_of_lt hp q) (Int32.not_lt.mpr (Int32.le_of_lt hn))
      · omega
    · intro q
      exact Or.inr (by omega)
section MM
variable {N e jv : Nat} {σ : ST} {Q : POST} {S : SPc} {R : RUc} {E : NEc}
abbrev mmV (jv : Nat) (x2 x3 x4 x5 x6 x7 : Int32) (o8 o9 : Option AV) : List (Option AV) := [some (.inr (.inr (11, 0, 0))), some (.inr (.inr (11, 0, jv))), some (.inl x2), some (.inl x3), some (.inl x4), some (.inl x5), some (.inl x6), some (.inl x7), o8, o9]
abbrev fOff : List RF := [(11, 0, 32), (11, 0, 33), (11, 0, 31)]
set_option maxRecDepth 100000 in
theorem mm_loop (a : arO N 11 jv = some (1, 322)) (hj : (11, 0, jv) ∉ fOff) (hS : vSP S) (hR : vRU S R) (hE : vNE S E) (cS : mSP σ S) (cE : mNE (σ.1 11 0 jv) E) {s h i M : Nat} (hs : s < E.ns) (hh : h < S.nh) (hi : i < S.cn h) {x2 x3 x4 x5 : Int32} (e4 : x4 = nI s) (e5 : x5 = nI (12 * h + i))
    (K : ∀ (m : Nat) (τ : ST) (x6 x7 : Int32) (o8 o9 : Option AV), M ≤ m → off fOff σ τ → x6 = nI (nrS S R E (S.wd h i) s 5) → wp N m (e + 3, 0) TX11_match 48 (mmV jv x2 x3 x4 x5 x6 x7 o8 o9) [] τ Q) :
    ∀ (r g m : Nat) (τ : ST) (x6 x7 : Int32) (o8 o9 : Option AV), g + r = S.nh → 1400000 + 300 * r + M ≤ m → off fOff σ τ → x6 = nI (nrS S R E (S.wd h i) s g) → x7 = nI g →
      wp N m (e + 3, 0) TX11_match 12 (mmV jv x2 x3 x4 x5 x6 x7 o8 o9) [] τ Q := by
  have hns := vNE_ns hS hE
  have hnw := hS.2.2.2.1
  have hnh := hS.1
  have hcn := hS.2.1 h hh
  have hwt := hS.2.2.1 h hh i hi
  have z1 : ∀ q, S.nh ≤ q → q < 5 → E.th s q = none := by
    intro q h1 h2
    cases he : E.th s q with
    | none => rfl
    | some z => have := (hE.2.2.2.2.1 s q z hs he).1; omega
  intro r
  induction r with
  | zero =>
    intro g m τ x6 x7 o8 o9 hg hm ho e6 e7
    obtain ⟨n, rfl⟩ := il_ex (K := 4) (m := m) (by omega)
    obtain rfl : g = S.nh := by omega
    have cS' := mSP_off ho (by decide) cS
    refine b_ge e7 cS'.1 (by omega) (by omega) (fun _ => ?_) (fun q => by omega)
    exact K n τ x6 x7 o8 o9 (by omega) ho (by rw [e6, nrS_tail hnh z1])
  | succ r ih =>
    intro g m τ x6 x7 o8 o9 hg hm ho e6 e7
    obtain ⟨n, rfl⟩ := il_ex (K := 100) (m := m) (by omega)
    have hb := nrS_le (E := E) (w := S.wd h i) (s := s) hR g
    have cS' := mSP_off ho (by decide) cS
    have cE' := mNE_off ho hj cE
    have nxt : ∀ (τ' : ST) (y6 : Int32) (p8 p9 : Option AV) (n' : Nat), 1400000 + 300 * r + 2 + M ≤ n' → off fOff σ τ' → y6 = nI (nrS S R E (S.wd h i) s (g + 1)) → wp N n' (e + 3, 0) TX11_match 46 (mmV jv x2 x3 x4 x5 y6 x7 p8 p9) [] τ' Q := by
      intro τ' y6 p8 p9 n' hn' ho' e6'
      obtain ⟨n2, rfl⟩ := il_ex (K := 2) (m := n') (by omega)
      exact ⟨trivial, ih (g + 1) n2 τ' _ _ _ _ (by omega) (by omega) ho' e6' (il_inc e7)⟩
    refine b_ge e7 cS'.1 (by omega) (by omega) (fun q => by omega) (fun _ => ?_)
    refine ⟨trivial, c_there a e4 e7 (by omega) (by omega) (by omega) ?_⟩
    rw [cE'.2.2.2 s hs g (by omega)]
    have hlt : ∀ q, E.th s g = some q → q < 2147483648 := fun q e' => by
      have h1 := hE.2.2.2.2.1 s g q hs e'
      have h2 := (hS.2.1 g h1.1).2
      omega
    refine b_thereG ne1 rfl hlt (fun j q1 q2 => ?_) (fun q1 => ?_)
    · have h1 := hE.2.2.2.2.1 s g j hs q1
      have h2 := (hS.2.1 g h1.1).2
      have h6 := hS.2.2.1 g h1.1 j h1.2.1
      have g2 : (Int8.ofInt 12).toInt32 * x7 + oI (-1) (E.th s g) = nI (12 * g + j) := by rw [q2, e7, i12, pk_mul, nI_add]
      refine ⟨il_in e5 (by omega) (by omega), ?_⟩
      refine ⟨il_in g2 (by omega) (by omega), ?_⟩
      have w1 : τ.1 11 0 22 x5.toNatClampNeg = nI (S.wd h i) := by rw [il_cl e5 (by omega)]; exact (cS'.2.2.2.1 h hh i hi).1
      have w2 : τ.1 11 0 22 ((Int8.ofInt 12).toInt32 * x7 + oI (-1) (E.th s g)).toNatClampNeg = nI (S.wd g j) := by rw [il_cl g2 (by omega)]; exact (cS'.2.2.2.1 g h1.1 j h1.2.1).1
      refine ⟨trivial, c_farOf hS cS' hwt.1 h6.1 w1 w2 (by omega) ?_⟩
      intro τ2 ho2
      have hf := farS_le hS hwt.1 h6.1
      refine b_ge rfl e6 (by omega) (by omega) (fun q3 => ?_) (fun q3 => ?_)
      · refine adv 2 (1400000 + 300 * r + 2 + M) (by omega) (fun n3 hn3 => ?_)
        exact nxt τ2 _ _ _ n3 hn3 (off_tr ho ho2) (by rw [e6, nrS_s q1]; congr 1; omega)
      · refine ⟨trivial, ?_⟩
        refine adv 1 (1400000 + 300 * r + 2 + M) (by omega) (fun n3 hn3 => ?_)
        exact nxt τ2 _ _ _ n3 hn3 (off_tr ho ho2) (by rw [nrS_s q1]; congr 1; omega)
    · exact ⟨trivial, nxt τ _ _ _ _ (by omega) ho (by rw [e6, nrS_n q1])⟩
set_option maxRecDepth 100000 in
/-- the reference's match -/
theorem c_match (a : arO N 11 jv = some (1, 322)) (hj : (11, 0, jv) ∉ fOff) (hS : vSP S) (hR : vRU S R) (hE : vNE S E) (cS : mSP σ S) (cR : mRU (σ.1 11 0 jv) S R) (cE : mNE (σ.1 11 0 jv) E) {s h i m : Nat} (hs : s < E.ns) (hh : h < S.nh) (hi : i < S.cn h) {x2 x3 x4 : Int32} (e2 : x2 = nI h) (e3 : x3 = nI i) (e4 : x4 = nI s) (hm : 1500000 ≤ m)
    (hQ : ∀ τ, off fOff σ τ → Q (some (.inl (nI (mcS S R E h i s)))) τ) :
    wp N m (e + 3, 0) TX11_match 0 [some (.inr (.inr (11, 0, 0))), some (.inr (.inr (11, 0, jv))), some (.inl x2), some (.inl x3), some (.inl x4), none, none, none, none, none] [] σ Q := by
  have hns := vNE_ns hS hE
  have hcn := hS.2.1 h hh
  have hwt := hS.2.2.1 h hh i hi
  have hnh := hS.1
  obtain ⟨n, rfl⟩ := il_ex (K := 12) (m := m) (by omega)
  have g5 : (Int8.ofInt 12).toInt32 * x2 + x3 = nI (12 * h + i) := by rw [e2, e3, i12, pk_mul, nI_add]
  refine arr_of a ⟨il_in i2 (by omega) (by omega), ?_⟩
  refine mm_loop a hj hS hR hE cS cE (M := 3000) hs hh hi e4 g5 ?_ S.nh 0 n σ _ _ _ _ (by omega) (by omega) (off_rf _ _) (by rw [nrS, il_cl i2 (by omega)]; exact cR.2.2.1) oi_0
  intro m' τ x6 x7 o8 o9 hm' ho e6
  obtain ⟨n', rfl⟩ := il_ex (K := 100) (m := m') (by omega)
  have cS' := mSP_off ho (by decide) cS
  have cR' := mRU_off ho hj cR
  have cE' := mNE_off ho hj cE
  have hb := nrS_le (E := E) (w := S.wd h i) (s := s) hR 5
  have htf := tmF_le (fl := fun _ _ => true) hS hR hE hs
  have hwn := hR.2.2.2.1
  have lm := late_m (a := S.tm h i) (b := tmF S R E s (fun _ _ => true)) (w := R.wn) hwt.2 htf hwn
  refine ⟨il_in g5 (by omega) (by omega), ?_⟩
  refine ⟨trivial, c_timeOfM a hS hR hE cS' cR' cE' hs e4 (by omega) ?_⟩
  have g7 : τ.1 11 0 23 ((Int8.ofInt 12).toInt32 * x2 + x3).toNatClampNeg = nI (S.tm h i) := by rw [il_cl g5 (by omega)]; exact (cS'.2.2.2.1 h hh i hi).2
  have w3 : τ.1 11 0 jv (Int32.ofInt 3).toNatClampNeg = nI R.wn := by rw [il_cl i3 (by omega)]; exact cR'.2.2.2.1
  have hq := hQ τ ho
  unfold mcS far1 at hq
  refine arr_of a ⟨il_in i3 (by omega) (by omega), ?_⟩
  refine ⟨fun q => ?_, fun q => ?_⟩
  · have q : nI R.wn < nI (S.tm h i) - nI (tmF S R E s (fun _ _ => true)) := by rw [← g7, ← w3]; exact q
    rw [if_pos (lm.mp (Or.inl q))] at hq
    refine ⟨trivial, Or.inl rfl, ?_⟩
    rw [il_inc e6]
    exact hq
  · have q : ¬ nI R.wn < nI (S.tm h i) - nI (tmF S R E s (fun _ _ => true)) := by rw [← g7, ← w3]; exact q
    refine arr_of a ⟨il_in i3 (by omega) (by omega), ?_⟩
    refine ⟨fun q2 => ?_, fun q2 => ?_⟩
    · have q2 : -(nI (S.tm h i) - nI (tmF S R E s (fun _ _ => true))) ≤ nI R.wn := by rw [← g7, ← w3]; exact q2
      have hno : ¬ R.wn < S.tm h i - tmF S R E s (fun _ _ => true) + (tmF S R E s (fun _ _ => true) - S.tm h i) := fun z => (lm.mpr z).elim q (Int32.not_lt.mpr q2)
      rw [if_neg hno] at hq
      refine ⟨Or.inl rfl, ?_⟩
      rw [show x6 + Int32.ofInt 0 = nI (nrS S R E (S.wd h i) s 5 + 0) by rw [e6, oi_0, nI_add]]
      exact hq
    · have q2 : ¬ -(nI (S.tm h i) - nI (tmF S R E s (fun _ _ => true))) ≤ nI R.wn := by rw [← g7, ← w3]; exact q2
      rw [if_pos (lm.mp (Or.inr (Int32.not_le.mp q2)))] at hq
      refine ⟨trivial, Or.inl rfl, ?_⟩
      rw [il_inc e6]
      exact hq
end MM
end
section
/-! the cheapest WAYS: with a words and b SLOTS left, what the rest costs, and the step (0 MATCH, 1 SKIP, 2 NEW; 3: the end) -/
def pick3 (x y z : Nat) : Nat × Nat := if y < x then (if z < y then (z, 2) else (y, 1)) else (if z < x then (z, 2) else (x, 0))
def dwc (fr gp : Nat) (mc : Nat → Nat → Nat) : Nat → Nat → Nat × Nat
  | 0, 0 => (0, 3)
  | 0, b + 1 => (gp + (dwc fr gp mc 0 b).1, 1)
  | a + 1, 0 => (fr + (dwc fr gp mc a 0).1, 2)
  | a + 1, b + 1 => pick3 (mc (a + 1) (b + 1) + (dwc fr gp mc a b).1) (gp + (dwc fr gp mc (a + 1) b).1) (fr + (dwc fr gp mc a (b + 1)).1)
theorem dwc_00 (fr gp : Nat) (mc : Nat → Nat → Nat) : dwc fr gp mc 0 0 = (0, 3) := by simp [dwc]
theorem dwc_0s (fr gp : Nat) (mc : Nat → Nat → Nat) (b : Nat) : dwc fr gp mc 0 (b + 1) = (gp + (dwc fr gp mc 0 b).1, 1) := by simp [dwc]
theorem dwc_s0 (fr gp : Nat) (mc : Nat → Nat → Nat) (a : Nat) : dwc fr gp mc (a + 1) 0 = (fr + (dwc fr gp mc a 0).1, 2) := by simp [dwc]
theorem dwc_ss (fr gp : Nat) (mc : Nat → Nat → Nat) (a b : Nat) : dwc fr gp mc (a + 1) (b + 1) = pick3 (mc (a + 1) (b + 1) + (dwc fr gp mc a b).1) (gp + (dwc fr gp mc (a + 1) b).1) (fr + (dwc fr gp mc a (b + 1)).1) := by simp [dwc]
theorem pick3_le (x y z : Nat) : (pick3 x y z).1 ≤ z := by unfold pick3; split <;> split <;> simp only <;> omega
theorem dwc_le {fr gp : Nat} {mc : Nat → Nat → Nat} (h1 : fr ≤ 9) (h2 : gp ≤ 9) : ∀ a b, (dwc fr gp mc a b).1 ≤ 9 * (a + b)
  | 0, 0 => by rw [dwc_00]; simp
  | 0, b + 1 => by rw [dwc_0s]; have := dwc_le (mc := mc) h1 h2 0 b; simp only; omega
  | a + 1, 0 => by rw [dwc_s0]; have := dwc_le (mc := mc) h1 h2 a 0; simp only; omega
  | a + 1, b + 1 => by
    rw [dwc_ss]
    have h3 := dwc_le (mc := mc) h1 h2 a (b + 1)
    have := pick3_le (mc (a + 1) (b + 1) + (dwc fr gp mc a b).1) (gp + (dwc fr gp mc (a + 1) b).1) (fr + (dwc fr gp mc a (b + 1)).1)
    omega
/-- the DP of a hearing h in a net, by words and SLOTS left -/
def dwS (S : SPc) (R : RUc) (E : NEc) (h a b : Nat) : Nat × Nat := dwc R.fr R.gp (fun a b => mcS S R E h (S.cn h - a) (E.ns - b)) a b
theorem dwS_le {S : SPc} {R : RUc} {E : NEc} {h : Nat} (hR : vRU S R) (a b : Nat) : (dwS S R E h a b).1 ≤ 9 * (a + b) := dwc_le hR.1.2 hR.2.1.2 a b
theorem mcS_le {S : SPc} {R : RUc} {E : NEc} {h i s : Nat} (hR : vRU S R) : mcS S R E h i s ≤ 10 := by
  have := nrS_le (E := E) (w := S.wd h i) (s := s) hR 5
  unfold mcS far1
  split <;> omega
/-- a count that goes down to -1 -/
theorem b_down {x : Int32} {c : Nat} (hx : x = nI c - 1) (hc : c < 2147483648) {A B : Prop} (t : c = 0 → A) (f : ∀ i, c = i + 1 → x = nI i → B) : (brI .lt x 0 → A) ∧ (¬ brI .lt x 0 → B) := by
  cases c with
  | zero =>
    have : x < 0 := by rw [hx]; decide
    exact ⟨fun _ => t rfl, fun q => absurd this q⟩
  | succ i =>
    have e : x = nI i := by rw [hx]; exact nI_pred i
    refine ⟨fun q => ?_, fun _ => f i rfl e⟩
    rw [e] at q
    exact absurd q (nI_pos (by omega))
theorem il_down {x : Int32} {i : Nat} (h : x = nI i) : x + Int32.ofInt (-1) = nI i - 1 := by
  rw [h, show Int32.ofInt (-1) = -1 from by decide, Int32.sub_eq_add_neg]
theorem i61 : (Int8.ofInt 61).toInt32 = nI 61 := by decide
theorem iM : Int32.ofInt 1000000 = nI 1000000 := by decide
/-- what stands in a table at place (i, s) -/
def tbe (S : SPc) (R : RUc) (E : NEc) (h : Nat) (ro so : Nat → Int32) (i s : Nat) : Prop := ro (i * 61 + s) = nI (dwS S R E h (S.cn h - i) (E.ns - s)).1 ∧ (¬ (i = S.cn h ∧ s = E.ns) → so (i * 61 + s) = nI (dwS S R E h (S.cn h - i) (E.ns - s)).2)
abbrev pOff : List RF := [(6, 0, 1), (2, 0, 3), (9, 0, 5), (9, 0, 6), (9, 0, 7), (9, 0, 8), (9, 0, 9), (9, 0, 10), (9, 0, 11)]
abbrev qOff : List RF := [(6, 0, 1), (2, 0, 3), (9, 0, 5), (9, 0, 6)]
abbrev plOff : List RF := [(6, 0, 1), (2, 0, 3), (9, 0, 5), (9, 0, 6), (9, 0, 9), (9, 0, 10), (9, 0, 11)]
section PL
variable {N e k : Nat} {σ : ST} {Q : POST} {S : SPc} {R : RUc} {E : NEc}
abbrev plV (k : Nat) (x2 x3 x4 : Int32) (o5 o6 o7 o8 o9 : Option AV) : List (Option AV) := [some (.inr (.inr (9, 0, 0))), some (.inr (.inr (3, k, 0))), some (.inl x2), some (.inl x3), some (.inl x4), o5, o6, o7, o8, o9]
set_option maxRecDepth 100000 in
theorem pl_in (hS : vSP S) (hR : vRU S R) (hE : vNE S E) (cS : cSP σ 0 S) (cR : cRU σ 0 S R) {h M s : Nat} (hM : 900000 ≤ M) (hh : h < S.nh) {x2 x3 x4 x5 : Int32} (e2 : x2 = nI h) (e3 : x3 = nI (S.cn h)) (e4 : x4 = nI E.ns) (e5 : x5 = nI s) (hs : s ≤ E.ns) (hl : s < E.ns → cLK σ S R E s)
    (K : ∀ (m : Nat) (τ : ST) (o6 o7 o8 o9 : Option AV), M ≤ m → off qOff σ τ → cFA τ S → (∀ i' s', s ≤ s' → s' ≤ E.ns → i' ≤ S.cn h → tbe S R E h (τ.1 9 0 5) (τ.1 9 0 6) i' s') →
      wp N m (e + 4, 0) TX9_plan 144 (plV k x2 x3 x4 (some (.inl x5)) o6 o7 o8 o9) [] τ Q) :
    ∀ (b m : Nat) (τ : ST) (x6 : Int32) (o7 o8 o9 : Option AV), b ≤ S.cn h + 1 → 300 * b + 100 + M ≤ m → off qOff σ τ → cFA τ S →
      (∀ i' s', s < s' → s' ≤ E.ns → i' ≤ S.cn h → tbe S R E h (τ.1 9 0 5) (τ.1 9 0 6) i' s') → (∀ i', b ≤ i' → i' ≤ S.cn h → tbe S R E h (τ.1 9 0 5) (τ.1 9 0 6) i' s) → x6 = nI b - 1 →
      wp N m (e + 4, 0) TX9_plan 36 (plV k x2 x3 x4 (some (.inl x5)) (some (.inl x6)) o7 o8 o9) [] τ Q := by
  have hns := vNE_ns hS hE
  have hcn := hS.2.1 h hh
  intro b
  induction b with
  | zero =>
    intro m τ x6 o7 o8 o9 hb hm ho hc h1 h2 e6
    obtain ⟨n, rfl⟩ := il_ex (K := 2) (m := m) (by omega)
    refine b_down e6 (by omega) (fun _ => ?_) (fun i q _ => by omega)
    refine K n τ _ _ _ _ (by omega) ho hc (fun i' s' q1 q2 q3 => ?_)
    by_cases q : s' = s
    · subst q; exact h2 i' (by omega) q3
    · exact h1 i' s' (by omega) q2 q3
  | succ i ih =>
    intro m τ x6 o7 o8 o9 hb hm ho hc h1 h2 e6
    obtain ⟨n, rfl⟩ := il_ex (K := 150) (m := m) (by omega)
    have bA : ∀ a b, (dwS S R E h a b).1 ≤ 9 * (a + b) := dwS_le hR
    have cR' : ∀ τ', off qOff σ τ' → cRU τ' 0 S R := fun τ' ho' => cRU_off ho' (by decide) cR
    refine b_down e6 (by omega) (fun q => by omega) (fun i0 q e6' => ?_)
    clear e6
    obtain rfl : i0 = i := by omega
    have g7 : x6 * (Int8.ofInt 61).toInt32 + x5 = nI (i0 * 61 + s) := by rw [e5, e6', i61, pk_mul, nI_add]
    -- the end of a place
    have fin : ∀ (τ' : ST) (y8 y9 : Int32) (n' : Nat), 300 * i0 + 120 + M ≤ n' → off qOff σ τ' → cFA τ' S → τ'.1 9 0 5 = τ.1 9 0 5 → τ'.1 9 0 6 = τ.1 9 0 6 → y8 = nI (dwS S R E h (S.cn h - i0) (E.ns - s)).1 → (¬ (i0 = S.cn h ∧ s = E.ns) → y9 = nI (dwS S R E h (S.cn h - i0) (E.ns - s)).2) →
        wp N n' (e + 4, 0) TX9_plan 132 (plV k x2 x3 x4 (some (.inl x5)) (some (.inl x6)) (some (.inl (x6 * (Int8.ofInt 61).toInt32 + x5))) (some (.inl y8)) (some (.inl y9))) [] τ' Q := by
      intro τ' y8 y9 n' hn' ho' hc' t5 t6 g8 g9
      obtain ⟨n2, rfl⟩ := il_ex (K := 20) (m := n') (by omega)
      refine ⟨il_in g7 (by omega) (by omega), ?_⟩
      refine ⟨il_in g7 (by omega) (by omega), trivial, ?_⟩
      have r5 : ∀ z, (uI (uI τ' 9 0 5 (x6 * (Int8.ofInt 61).toInt32 + x5).toNatClampNeg y8) 9 0 6 (x6 * (Int8.ofInt 61).toInt32 + x5).toNatClampNeg y9).1 9 0 5 z = if z = i0 * 61 + s then y8 else τ.1 9 0 5 z := by
        intro z
        rw [uI_nr _ _ _ _ _ _ (by decide), uI_row, t5, il_cl g7 (by omega)]
        rfl
      have r6 : ∀ z, (uI (uI τ' 9 0 5 (x6 * (Int8.ofInt 61).toInt32 + x5).toNatClampNeg y8) 9 0 6 (x6 * (Int8.ofInt 61).toInt32 + x5).toNatClampNeg y9).1 9 0 6 z = if z = i0 * 61 + s then y9 else τ.1 9 0 6 z := by
        intro z
        rw [uI_row, il_cl g7 (by omega)]
        unfold upd
        rw [uI_nr _ _ _ _ _ _ (by decide), t6]
      refine ih _ _ _ _ _ _ (by omega) (by omega) (off_uI (off_uI ho' (by decide)) (by decide)) ?_ ?_ ?_ (il_down e6')
      · intro w v hw hv
        show (uI (uI τ' 9 0 5 _ _) 9 0 6 _ _).1 2 0 3 _ = -1 ∨ (uI (uI τ' 9 0 5 _ _) 9 0 6 _ _).1 2 0 3 _ = _
        rw [uI_nr _ _ _ _ _ _ (by decide), uI_nr _ _ _ _ _ _ (by decide)]
        exact hc' w v hw hv
      · intro i' s' q1 q2 q3
        have hx := h1 i' s' q1 q2 q3
        unfold tbe at hx ⊢
        show (uI (uI τ' 9 0 5 _ _) 9 0 6 _ _).1 9 0 5 _ = _ ∧ (_ → (uI (uI τ' 9 0 5 _ _) 9 0 6 _ _).1 9 0 6 _ = _)
        rw [r5, r6, if_neg (by omega), if_neg (by omega)]
        exact hx
      · intro i' q1 q2
        unfold tbe
        show (uI (uI τ' 9 0 5 _ _) 9 0 6 _ _).1 9 0 5 _ = _ ∧ (_ → (uI (uI τ' 9 0 5 _ _) 9 0 6 _ _).1 9 0 6 _ = _)
        rw [r5, r6]
        by_cases hq : i' = i0
        · subst hq
          rw [if_pos rfl, if_pos rfl]
          exact ⟨g8, g9⟩
        · rw [if_neg (by omega), if_neg (by omega)]
          exact h2 i' (by omega) q2
    -- from the third choice on
    have thr : ∀ (τ' : ST) (y8 y9 : Int32) (v8 v9 n' : Nat), 300 * i0 + 160 + M ≤ n' → off qOff σ τ' → cFA τ' S → τ'.1 9 0 5 = τ.1 9 0 5 → τ'.1 9 0 6 = τ.1 9 0 6 → y8 = nI v8 → y9 = nI v9 → v8 ≤ 1000000 → i0 < S.cn h →
        dwS S R E h (S.cn h - i0) (E.ns - s) = (if R.fr + (dwS S R E h (S.cn h - (i0 + 1)) (E.ns - s)).1 < v8 then (R.fr + (dwS S R E h (S.cn h - (i0 + 1)) (E.ns - s)).1, 2) else (v8, v9)) →
        wp N n' (e + 4, 0) TX9_plan 104 (plV k x2 x3 x4 (some (.inl x5)) (some (.inl x6)) (some (.inl (x6 * (Int8.ofInt 61).toInt32 + x5))) (some (.inl y8)) (some (.inl y9))) [] τ' Q := by
      intro τ' y8 y9 v8 v9 n' hn' ho' hc' t5 t6 g8 g9 hv hin hd
      obtain ⟨n2, rfl⟩ := il_ex (K := 40) (m := n') (by omega)
      have bb := bA (S.cn h - (i0 + 1)) (E.ns - s)
      have g61 : x6 * (Int8.ofInt 61).toInt32 + x5 + (Int8.ofInt 61).toInt32 = nI ((i0 + 1) * 61 + s) := by rw [g7, i61, nI_add]; congr 1; omega
      have vf : τ'.1 7 0 1 0 + τ'.1 9 0 5 (x6 * (Int8.ofInt 61).toInt32 + x5 + (Int8.ofInt 61).toInt32).toNatClampNeg = nI (R.fr + (dwS S R E h (S.cn h - (i0 + 1)) (E.ns - s)).1) := by
        rw [il_cl g61 (by omega), t5, (cR' τ' ho').1, (h2 (i0 + 1) (by omega) (by omega)).1, nI_add]
      have hfr := hR.1.2
      refine b_ge e6' e3 (by omega) (by omega) (fun q => by omega) (fun _ => ?_)
      refine ⟨il_in g61 (by omega) (by omega), ?_⟩
      refine b_ge vf g8 (by omega) (by omega) (fun q => ?_) (fun q => ?_)
      · rw [if_neg (by omega)] at hd
        exact fin τ' _ _ _ (by omega) ho' hc' t5 t6 (by rw [hd]; exact g8) (fun _ => by rw [hd]; exact g9)
      · rw [if_pos q] at hd
        refine ⟨il_in g61 (by omega) (by omega), ?_⟩
        refine adv 4 (300 * i0 + 120 + M) (by omega) (fun n3 hn3 => ?_)
        exact fin τ' _ _ n3 hn3 ho' hc' t5 t6 (by rw [hd]; exact vf) (fun _ => by rw [hd]; exact i2)
    have g1 : x6 * (Int8.ofInt 61).toInt32 + x5 + Int32.ofInt 1 = nI (i0 * 61 + (s + 1)) := by rw [g7, oi_1, nI_add]; rfl
    have hgp := hR.2.1.2
    by_cases hin : i0 = S.cn h
    · by_cases hsn : s = E.ns
      · -- the end
        refine b_ne e6' e3 (by omega) (by omega) (fun q => by omega) (fun _ => ?_)
        refine b_ne e5 e4 (by omega) (by omega) (fun q => by omega) (fun _ => ?_)
        refine ⟨trivial, ?_⟩
        refine b_ge e6' e3 (by omega) (by omega) (fun _ => ?_) (fun q => by omega)
        refine b_ge e5 e4 (by omega) (by omega) (fun _ => ?_) (fun q => by omega)
        refine b_ge e6' e3 (by omega) (by omega) (fun _ => ?_) (fun q => by omega)
        refine fin τ _ _ _ (by omega) ho hc rfl rfl ?_ (fun z => absurd ⟨hin, hsn⟩ z)
        rw [show S.cn h - i0 = 0 by omega, show E.ns - s = 0 by omega, dwS, dwc_00]
        exact oi_0
      · -- SLOTS alone are left
        have hd : dwS S R E h (S.cn h - i0) (E.ns - s) = (R.gp + (dwS S R E h (S.cn h - i0) (E.ns - (s + 1))).1, 1) := by
          rw [show S.cn h - i0 = 0 by omega, show E.ns - s = (E.ns - (s + 1)) + 1 by omega, dwS, dwc_0s]; rfl
        have bb := bA (S.cn h - i0) (E.ns - (s + 1))
        have vf : τ.1 7 0 2 0 + τ.1 9 0 5 (x6 * (Int8.ofInt 61).toInt32 + x5 + Int32.ofInt 1).toNatClampNeg = nI (R.gp + (dwS S R E h (S.cn h - i0) (E.ns - (s + 1))).1) := by
          rw [il_cl g1 (by omega), (cR' τ ho).2.1, (h1 i0 (s + 1) (by omega) (by omega) (by omega)).1, nI_add]
        refine b_ne e6' e3 (by omega) (by omega) (fun q => by omega) (fun _ => ?_)
        refine b_ne e5 e4 (by omega) (by omega) (fun _ => ?_) (fun q => by omega)
        refine b_ge e6' e3 (by omega) (by omega) (fun _ => ?_) (fun q => by omega)
        refine b_ge e5 e4 (by omega) (by omega) (fun q => by omega) (fun _ => ?_)
        refine ⟨il_in g1 (by omega) (by omega), ?_⟩
        refine b_ge vf iM (by omega) (by omega) (fun q => by omega) (fun _ => ?_)
        refine ⟨il_in g1 (by omega) (by omega), ?_⟩
        refine b_ge e6' e3 (by omega) (by omega) (fun _ => ?_) (fun q => by omega)
        exact fin τ _ _ _ (by omega) ho hc rfl rfl (by rw [hd]; exact vf) (fun _ => by rw [hd]; exact oi_1)
    · by_cases hsn : s = E.ns
      · -- words alone are left
        refine b_ne e6' e3 (by omega) (by omega) (fun _ => ?_) (fun q => by omega)
        refine b_ge e6' e3 (by omega) (by omega) (fun q => by omega) (fun _ => ?_)
        refine b_ge e5 e4 (by omega) (by omega) (fun _ => ?_) (fun q => by omega)
        refine b_ge e5 e4 (by omega) (by omega) (fun _ => ?_) (fun q => by omega)
        refine thr τ _ _ 1000000 0 _ (by omega) ho hc rfl rfl iM oi_0 (by omega) (by omega) ?_
        have bb := bA (S.cn h - (i0 + 1)) (E.ns - s)
        have hfr := hR.1.2
        rw [if_pos (by omega), show S.cn h - i0 = (S.cn h - (i0 + 1)) + 1 by omega, show E.ns - s = 0 by omega, dwS, dwc_s0]
        rfl
      · -- both are left
        have hd : dwS S R E h (S.cn h - i0) (E.ns - s) = pick3 (mcS S R E h i0 s + (dwS S R E h (S.cn h - (i0 + 1)) (E.ns - (s + 1))).1) (R.gp + (dwS S R E h (S.cn h - i0) (E.ns - (s + 1))).1) (R.fr + (dwS S R E h (S.cn h - (i0 + 1)) (E.ns - s)).1) := by
          have q1 : S.cn h - i0 = (S.cn h - (i0 + 1)) + 1 := by omega
          have q2 : E.ns - s = (E.ns - (s + 1)) + 1 := by omega
          unfold dwS
          rw [q1, q2, dwc_ss, ← q1, ← q2, show S.cn h - (S.cn h - i0) = i0 by omega, show E.ns - (E.ns - s) = s by omega]
        have b1 := bA (S.cn h - (i0 + 1)) (E.ns - (s + 1))
        have b2 := bA (S.cn h - i0) (E.ns - (s + 1))
        have bm := mcS_le (E := E) (h := h) (i := i0) (s := s) hR
        have cS' : cSP τ 0 S := cSP_off ho (by decide) cS
        refine b_ne e6' e3 (by omega) (by omega) (fun _ => ?_) (fun q => by omega)
        refine b_ge e6' e3 (by omega) (by omega) (fun q => by omega) (fun _ => ?_)
        refine b_ge e5 e4 (by omega) (by omega) (fun q => by omega) (fun _ => ?_)
        refine ⟨trivial, c_matchCost (s := s) hS hR hE cS' (cR' τ ho) hc (by omega) hh (by omega) (cLK_off ho (by decide) (by decide) (by decide) (hl (by omega))) e2 e6' (by omega) ?_⟩
        intro τ2 ho2 hc2
        have ho3 : off qOff σ τ2 := off_tr ho (off_in ho2 (by decide))
        have t5 : τ2.1 9 0 5 = τ.1 9 0 5 := (ho2 9 0 5 (by decide)).1
        have t6 : τ2.1 9 0 6 = τ.1 9 0 6 := (ho2 9 0 6 (by decide)).1
        have g62 : x6 * (Int8.ofInt 61).toInt32 + x5 + (Int8.ofInt 61).toInt32 + Int32.ofInt 1 = nI ((i0 + 1) * 61 + (s + 1)) := by rw [g7, i61, oi_1, nI_add, nI_add]; congr 1; omega
        have v0 : nI (mcS S R E h i0 s) + τ2.1 9 0 5 (x6 * (Int8.ofInt 61).toInt32 + x5 + (Int8.ofInt 61).toInt32 + Int32.ofInt 1).toNatClampNeg = nI (mcS S R E h i0 s + (dwS S R E h (S.cn h - (i0 + 1)) (E.ns - (s + 1))).1) := by
          rw [il_cl g62 (by omega), t5, (h1 (i0 + 1) (s + 1) (by omega) (by omega) (by omega)).1, nI_add]
        have v1 : τ2.1 7 0 2 0 + τ2.1 9 0 5 (x6 * (Int8.ofInt 61).toInt32 + x5 + Int32.ofInt 1).toNatClampNeg = nI (R.gp + (dwS S R E h (S.cn h - i0) (E.ns - (s + 1))).1) := by
          rw [il_cl g1 (by omega), t5, (cR' τ2 ho3).2.1, (h1 i0 (s + 1) (by omega) (by omega) (by omega)).1, nI_add]
        refine ⟨il_in g62 (by omega) (by omega), ?_⟩
        refine b_ge e5 e4 (by omega) (by omega) (fun q => by omega) (fun _ => ?_)
        refine ⟨il_in g1 (by omega) (by omega), ?_⟩
        refine b_ge v1 v0 (by omega) (by omega) (fun q => ?_) (fun q => ?_)
        · refine thr τ2 _ _ _ 0 _ (by omega) ho3 hc2 t5 t6 v0 oi_0 (by omega) (by omega) ?_
          rw [hd]; unfold pick3; rw [if_neg (by omega)]
        · refine ⟨il_in g1 (by omega) (by omega), ?_⟩
          refine adv 4 (300 * i0 + 160 + M) (by omega) (fun n3 hn3 => ?_)
          refine thr τ2 _ _ _ 1 n3 hn3 ho3 hc2 t5 t6 v1 oi_1 (by omega) (by omega) ?_
          rw [hd]; unfold pick3; rw [if_pos q]
end PL
end
section
/-! the WAY itself, from its beginning on -/
def nxI (p i : Nat) : Nat := if p = 1 then i else i + 1
def nxS (p s : Nat) : Nat := if p = 2 then s else s + 1
def wkp (f : Nat → Nat → Nat) : Nat → Nat × Nat
  | 0 => (0, 0)
  | k + 1 => (nxI (f (wkp f k).1 (wkp f k).2) (wkp f k).1, nxS (f (wkp f k).1 (wkp f k).2) (wkp f k).2)
def wln (f : Nat → Nat → Nat) (n m : Nat) : Nat → Nat → Nat → Nat
  | 0, _, _ => 0
  | q + 1, i, s => if i = n ∧ s = m then 0 else wln f n m q (nxI (f i s) i) (nxS (f i s) s) + 1
theorem wln_end (f : Nat → Nat → Nat) (n m q : Nat) : wln f n m q n m = 0 := by cases q <;> simp [wln]
theorem wln_le (f : Nat → Nat → Nat) (n m : Nat) : ∀ q i s, wln f n m q i s ≤ q
  | 0, _, _ => Nat.le_refl _
  | q + 1, i, s => by
    rw [wln]
    split
    · omega
    · have := wln_le f n m q (nxI (f i s) i) (nxS (f i s) s)
      omega
/-- the step at (i, s) -/
def stS (S : SPc) (R : RUc) (E : NEc) (h i s : Nat) : Nat := (dwS S R E h (S.cn h - i) (E.ns - s)).2
/-- how many steps -/
def wayT (S : SPc) (R : RUc) (E : NEc) (h : Nat) : Nat := wln (stS S R E h) (S.cn h) E.ns (S.cn h + E.ns) 0 0
theorem pick3_2 (x y z : Nat) : (pick3 x y z).2 = 0 ∨ (pick3 x y z).2 = 1 ∨ (pick3 x y z).2 = 2 := by unfold pick3; split <;> split <;> simp
theorem stS_ok {S : SPc} {R : RUc} {E : NEc} {h i s : Nat} (hi : i ≤ S.cn h) (hs : s ≤ E.ns) (hne : ¬ (i = S.cn h ∧ s = E.ns)) :
    (stS S R E h i s = 0 ∧ i < S.cn h ∧ s < E.ns) ∨ (stS S R E h i s = 1 ∧ s < E.ns) ∨ (stS S R E h i s = 2 ∧ i < S.cn h) := by
  unfold stS dwS
  by_cases h1 : i = S.cn h
  · have e1 : S.cn h - i = 0 := by omega
    have e2 : E.ns - s = (E.ns - (s + 1)) + 1 := by omega
    rw [e1, e2, dwc_0s]
    exact Or.inr (Or.inl ⟨rfl, by omega⟩)
  · have e1 : S.cn h - i = (S.cn h - (i + 1)) + 1 := by omega
    by_cases h2 : s = E.ns
    · have e2 : E.ns - s = 0 := by omega
      rw [e1, e2, dwc_s0]
      exact Or.inr (Or.inr ⟨rfl, by omega⟩)
    · have e2 : E.ns - s = (E.ns - (s + 1)) + 1 := by omega
      rw [e1, e2, dwc_ss]
      rcases pick3_2 _ _ _ with q | q | q
      · exact Or.inl ⟨q, by omega, by omega⟩
      · exact Or.inr (Or.inl ⟨q, by omega⟩)
      · exact Or.inr (Or.inr ⟨q, by omega⟩)
theorem stS_nx {S : SPc} {R : RUc} {E : NEc} {h i s : Nat} (hi : i ≤ S.cn h) (hs : s ≤ E.ns) (hne : ¬ (i = S.cn h ∧ s = E.ns)) :
    nxI (stS S R E h i s) i ≤ S.cn h ∧ nxS (stS S R E h i s) s ≤ E.ns ∧ (S.cn h - nxI (stS S R E h i s) i) + (E.ns - nxS (stS S R E h i s) s) + 1 ≤ (S.cn h - i) + (E.ns - s) := by
  rcases stS_ok (R := R) hi hs hne with ⟨q, q1, q2⟩ | ⟨q, q1⟩ | ⟨q, q1⟩
  · rw [q]; unfold nxI nxS; simp only [Nat.zero_ne_one, if_false, show (0 : Nat) ≠ 2 by decide]; omega
  · rw [q]; unfold nxI nxS; simp only [if_true, show (1 : Nat) ≠ 2 by decide, if_false]; omega
  · rw [q]; unfold nxI nxS; simp only [if_true, show (2 : Nat) ≠ 1 by decide, if_false]; omega
section FS
variable {N e k : Nat} {σ : ST} {Q : POST} {S : SPc} {R : RUc} {E : NEc}
set_option maxRecDepth 100000 in
theorem fs_loop {h : Nat} (hcn : 1 ≤ S.cn h ∧ S.cn h ≤ 12) (hns : E.ns ≤ 60) {x1 x2 : Int32} (e1 : x1 = nI (S.cn h)) (e2 : x2 = nI E.ns) (htb : ∀ i s, i ≤ S.cn h → s ≤ E.ns → ¬ (i = S.cn h ∧ s = E.ns) → σ.1 9 0 6 (i * 61 + s) = nI (stS S R E h i s))
    (hQ : ∀ τ, off [(9, 0, 7), (9, 0, 8)] σ τ → τ.1 9 0 8 0 = nI (wayT S R E h) → (∀ j, j < wayT S R E h → τ.1 9 0 7 j = nI (stS S R E h (wkp (stS S R E h) j).1 (wkp (stS S R E h) j).2)) → Q none τ) :
    ∀ (q kk m i s : Nat) (τ : ST) (x3 x4 x5 : Int32), (S.cn h - i) + (E.ns - s) ≤ q → kk + q ≤ S.cn h + E.ns → wayT S R E h = kk + wln (stS S R E h) (S.cn h) E.ns q i s → wkp (stS S R E h) kk = (i, s) → i ≤ S.cn h → s ≤ E.ns → 200 * q + 200 ≤ m → off [(9, 0, 7), (9, 0, 8)] σ τ → τ.1 9 0 8 0 = nI kk →
      (∀ j, j < kk → τ.1 9 0 7 j = nI (stS S R E h (wkp (stS S R E h) j).1 (wkp (stS S R E h) j).2)) → x3 = nI i → x4 = nI s → x5 = nI kk →
      wp N m (e, 0) TX9_followSteps 6 [some (.inr (.inr (9, 0, 0))), some (.inl x1), some (.inl x2), some (.inl x3), some (.inl x4), some (.inl x5)] [] τ Q := by
  intro q
  induction q with
  | zero =>
    intro kk m i s τ x3 x4 x5 hq hk hT hw hi hs hm ho h9 h8 e3 e4 e5
    obtain ⟨n, rfl⟩ := il_ex (K := 20) (m := m) (by omega)
    have fin : Q none τ := hQ τ ho (by rw [h9, hT]; rfl) (fun j hj => h8 j (by rw [hT] at hj; exact hj))
    refine b_ge e5 rfl (by omega) (by omega) (fun _ => fin) (fun _ => ?_)
    refine b_lt e3 e1 (by omega) (by omega) (fun z => by omega) (fun _ => ?_)
    refine b_ge e4 e2 (by omega) (by omega) (fun _ => fin) (fun z => by omega)
  | succ q ih =>
    intro kk m i s τ x3 x4 x5 hq hk hT hw hi hs hm ho h9 h8 e3 e4 e5
    obtain ⟨n, rfl⟩ := il_ex (K := 100) (m := m) (by omega)
    by_cases hend : i = S.cn h ∧ s = E.ns
    · have fin : Q none τ := by
        rw [hend.1, hend.2, wln_end] at hT
        exact hQ τ ho (by rw [h9, hT]; rfl) (fun j hj => h8 j (by rw [hT] at hj; exact hj))
      refine b_ge e5 rfl (by omega) (by omega) (fun _ => fin) (fun _ => ?_)
      refine b_lt e3 e1 (by omega) (by omega) (fun z => by omega) (fun _ => ?_)
      refine b_ge e4 e2 (by omega) (by omega) (fun _ => fin) (fun z => by omega)
    · have hnx := stS_nx (R := R) hi hs hend
      have hok := stS_ok (R := R) hi hs hend
      rw [wln, if_neg hend] at hT
      have g : x3 * (Int8.ofInt 61).toInt32 + x4 = nI (i * 61 + s) := by rw [e3, e4, i61, pk_mul, nI_add]
      have v : τ.1 9 0 6 (x3 * (Int8.ofInt 61).toInt32 + x4).toNatClampNeg = nI (stS S R E h i s) := by rw [il_cl g (by omega), off_1 ho (by decide)]; exact htb i s hi hs hend
      generalize hp : stS S R E h i s = p at hnx hok v hT
      have hp2 : p ≤ 2 := by omega
      have go : ∀ n', 200 * q + 300 ≤ n' → wp N n' (e, 0) TX9_followSteps 17 [some (.inr (.inr (9, 0, 0))), some (.inl x1), some (.inl x2), some (.inl x3), some (.inl x4), some (.inl x5)] [] τ Q := by
        intro n' hn'
        obtain ⟨n2, rfl⟩ := il_ex (K := 60) (m := n') (by omega)
        refine ⟨il_in g (by omega) (by omega), ?_⟩
        refine ⟨il_in e5 (by omega) (by omega), ?_⟩
        have w8 : (uI τ 9 0 7 x5.toNatClampNeg (τ.1 9 0 6 (x3 * (Int8.ofInt 61).toInt32 + x4).toNatClampNeg)).1 9 0 7 x5.toNatClampNeg = nI p := (uI_at ..).trans v
        refine ⟨il_in e5 (by omega) (by omega), ?_⟩
        -- the last stretch
        have fin : ∀ (y3 y : Int32) (n3 : Nat), 200 * q + 210 ≤ n3 → y3 = nI (nxI p i) → x4 + y = nI (nxS p s) → wp N n3 (e, 0) TX9_followSteps 51 [some (.inr (.inr (9, 0, 0))), some (.inl x1), some (.inl x2), some (.inl y3), some (.inl x4), some (.inl x5)] [.inl y, .inl x4] (uI τ 9 0 7 x5.toNatClampNeg (τ.1 9 0 6 (x3 * (Int8.ofInt 61).toInt32 + x4).toNatClampNeg)) Q := by
          intro y3 y n3 hn3 g3 g4
          obtain ⟨n4, rfl⟩ := il_ex (K := 9) (m := n3) (by omega)
          refine ⟨trivial, ih (kk + 1) _ (nxI p i) (nxS p s) _ _ _ _ (by omega) (by omega) (by rw [hT]; omega) ?_ hnx.1 hnx.2.1 (by omega) (off_uI (off_uI ho (by decide)) (by decide)) ?_ ?_ g3 g4 (il_inc e5)⟩
          · rw [wkp, hw]; simp only [hp]
          · exact (uI_at ..).trans (il_inc e5)
          · intro j hj
            show (uI (uI τ 9 0 7 _ _) 9 0 8 _ _).1 9 0 7 j = _
            rw [uI_nr _ _ _ _ _ _ (by decide), il_cl e5 (by omega)]
            by_cases hj2 : j = kk
            · subst hj2
              rw [uI_at, v, hw]
              simp only [hp]
            · rw [uI_ne _ _ _ _ _ _ hj2]
              exact h8 j (by omega)
        have mid : ∀ (y3 : Int32) (y : Int32) (n3 : Nat), 200 * q + 240 ≤ n3 → x3 + y = nI (nxI p i) → wp N n3 (e, 0) TX9_followSteps 39 [some (.inr (.inr (9, 0, 0))), some (.inl x1), some (.inl x2), some (.inl x3), some (.inl x4), some (.inl x5)] [.inl y, .inl x3] (uI τ 9 0 7 x5.toNatClampNeg (τ.1 9 0 6 (x3 * (Int8.ofInt 61).toInt32 + x4).toNatClampNeg)) Q := by
          intro y3 y n3 hn3 g3
          obtain ⟨n4, rfl⟩ := il_ex (K := 20) (m := n3) (by omega)
          refine ⟨il_in e5 (by omega) (by omega), ?_⟩
          refine b_ne w8 i2 (by omega) (by omega) (fun z => ?_) (fun z => ?_)
          · refine adv 1 (200 * q + 210) (by omega) (fun n5 hn5 => ?_)
            exact fin _ _ n5 hn5 g3 (by rw [il_inc e4]; unfold nxS; rw [if_neg z])
          · exact ⟨trivial, fin _ _ _ (by omega) g3 (by rw [e4, oi_0, nI_add]; unfold nxS; rw [if_pos z]; rfl)⟩
        refine b_ne w8 oi_1 (by omega) (by omega) (fun z => ?_) (fun z => ?_)
        · refine adv 1 (200 * q + 240) (by omega) (fun n5 hn5 => ?_)
          exact mid 0 _ n5 hn5 (by rw [il_inc e3]; unfold nxI; rw [if_neg z])
        · exact ⟨trivial, mid 0 _ _ (by omega) (by rw [e3, oi_0, nI_add]; unfold nxI; rw [if_pos z]; rfl)⟩
      refine b_ge e5 rfl (by omega) (by omega) (fun z => by omega) (fun _ => ?_)
      refine b_lt e3 e1 (by omega) (by omega) (fun _ => go _ (by omega)) (fun z => ?_)
      refine b_ge e4 e2 (by omega) (by omega) (fun z2 => by omega) (fun _ => go _ (by omega))
set_option maxRecDepth 100000 in
theorem c_followSteps {h m : Nat} (hcn : 1 ≤ S.cn h ∧ S.cn h ≤ 12) (hns : E.ns ≤ 60) {x1 x2 : Int32} (e1 : x1 = nI (S.cn h)) (e2 : x2 = nI E.ns) (htb : ∀ i s, i ≤ S.cn h → s ≤ E.ns → ¬ (i = S.cn h ∧ s = E.ns) → σ.1 9 0 6 (i * 61 + s) = nI (stS S R E h i s)) (h9 : σ.1 9 0 8 0 = nI 0) (hm : 20000 ≤ m)
    (hQ : ∀ τ, off [(9, 0, 7), (9, 0, 8)] σ τ → τ.1 9 0 8 0 = nI (wayT S R E h) → (∀ j, j < wayT S R E h → τ.1 9 0 7 j = nI (stS S R E h (wkp (stS S R E h) j).1 (wkp (stS S R E h) j).2)) → Q none τ) :
    wp N m (e, 0) TX9_followSteps 0 [some (.inr (.inr (9, 0, 0))), some (.inl x1), some (.inl x2), none, none, none] [] σ Q := by
  refine adv 6 15000 (by omega) (fun n hn => ?_)
  exact fs_loop hcn hns e1 e2 htb hQ (S.cn h + E.ns) 0 n 0 0 σ _ _ _ (by omega) (by omega) (by rw [wayT, Nat.zero_add]) rfl (by omega) (by omega) (by omega) (off_rf _ _) h9 (fun j hj => by omega) oi_0 oi_0 oi_0
set_option maxRecDepth 100000 in
theorem pl_out (hS : vSP S) (hR : vRU S R) (hE : vNE S E) (cS : cSP σ 0 S) (cR : cRU σ 0 S R) (cE : cNE σ k E) {h M : Nat} (hM : 900000 ≤ M) (hh : h < S.nh) {x2 x3 x4 : Int32} (e2 : x2 = nI h) (e3 : x3 = nI (S.cn h)) (e4 : x4 = nI E.ns)
    (K : ∀ (m : Nat) (τ : ST) (o5 o6 o7 o8 o9 : Option AV), M ≤ m → off plOff σ τ → cFA τ S → (∀ i' s', i' ≤ S.cn h → s' ≤ E.ns → tbe S R E h (τ.1 9 0 5) (τ.1 9 0 6) i' s') → wp N m (e + 4, 0) TX9_plan 146 (plV k x2 x3 x4 o5 o6 o7 o8 o9) [] τ Q) :
    ∀ (c m : Nat) (τ : ST) (x5 : Int32) (o6 o7 o8 o9 : Option AV), c ≤ E.ns + 1 → 6000 * c + 10 + M ≤ m → off plOff σ τ → cFA τ S →
      (∀ i' s', c ≤ s' → s' ≤ E.ns → i' ≤ S.cn h → tbe S R E h (τ.1 9 0 5) (τ.1 9 0 6) i' s') → x5 = nI c - 1 →
      wp N m (e + 4, 0) TX9_plan 25 (plV k x2 x3 x4 (some (.inl x5)) o6 o7 o8 o9) [] τ Q := by
  have hns := vNE_ns hS hE
  have hcn := hS.2.1 h hh
  intro c
  induction c with
  | zero =>
    intro m τ x5 o6 o7 o8 o9 hc hm ho hf ht e5
    obtain ⟨n, rfl⟩ := il_ex (K := 2) (m := m) (by omega)
    refine b_down e5 (by omega) (fun _ => ?_) (fun i q _ => by omega)
    exact K n τ _ _ _ _ _ (by omega) ho hf (fun i' s' q1 q2 => ht i' s' (by omega) q2 q1)
  | succ s ih =>
    intro m τ x5 o6 o7 o8 o9 hc hm ho hf ht e5
    obtain ⟨n, rfl⟩ := il_ex (K := 20) (m := m) (by omega)
    refine b_down e5 (by omega) (fun q => by omega) (fun s0 q e5' => ?_)
    obtain rfl : s0 = s := by omega
    have go : ∀ (τ1 : ST) (n1 : Nat), 6000 * s0 + 5900 + M ≤ n1 → off plOff σ τ1 → cFA τ1 S → (s0 < E.ns → cLK τ1 S R E s0) → (∀ i' s', s0 + 1 ≤ s' → s' ≤ E.ns → i' ≤ S.cn h → tbe S R E h (τ1.1 9 0 5) (τ1.1 9 0 6) i' s') →
        wp N n1 (e + 4, 0) TX9_plan 34 (plV k x2 x3 x4 (some (.inl x5)) o6 o7 o8 o9) [] τ1 Q := by
      intro τ1 n1 hn1 ho1 hf1 hl1 ht1
      refine adv 2 (6000 * s0 + 5800 + M) (by omega) (fun n2 hn2 => ?_)
      refine pl_in (k := k) hS hR hE (cSP_off ho1 (by decide) cS) (cRU_off ho1 (by decide) cR) (M := 6000 * s0 + 12 + M) (by omega) hh e2 e3 e4 e5' (by omega) hl1 ?_ (S.cn h + 1) n2 τ1 _ _ _ _ (by omega) (by omega) (off_rf _ _) hf1 (fun i' s' q1 q2 q3 => ht1 i' s' (by omega) q2 q3) (fun i' q1 q2 => by omega) (by rw [e3]; exact (nI_pred _).symm)
      intro m' τ' p6 p7 p8 p9 hm' ho' hf' ht'
      obtain ⟨n', rfl⟩ := il_ex (K := 2) (m := m') (by omega)
      exact ⟨trivial, ih _ τ' _ _ _ _ _ (by omega) (by omega) (off_tr ho1 (off_in ho' (by decide))) hf' ht' (il_down e5')⟩
    refine b_ge e5' e4 (by omega) (by omega) (fun q1 => ?_) (fun q1 => ?_)
    · exact go τ _ (by omega) ho hf (fun q2 => by omega) ht
    · refine ⟨trivial, c_lookInto hS hR hE (cSP_off ho (by decide) cS) (cRU_off ho (by decide) cR) (cNE_off ho (by intro r hr; simp only [List.mem_cons, List.not_mem_nil, or_false] at hr; rintro ⟨z1, -⟩; rcases hr with rfl | rfl | rfl | rfl | rfl | rfl | rfl <;> simp at z1) cE) q1 e5' (by omega) ?_⟩
      intro τ1 ho1 hl1
      refine go τ1 _ (by omega) (off_tr ho (off_in ho1 (by decide))) (fun w v hw hv => by rw [off_1 ho1 (by decide)]; exact hf w v hw hv) (fun _ => hl1) ?_
      rw [(ho1 9 0 5 (by decide)).1, (ho1 9 0 6 (by decide)).1]
      exact ht
set_option maxRecDepth 100000 in
/-- Weaver.plan -/
theorem c_plan (hS : vSP S) (hR : vRU S R) (hE : vNE S E) (cS : cSP σ 0 S) (cR : cRU σ 0 S R) (cE : cNE σ k E) (cF : cFA σ S) {h m : Nat} (hh : h < S.nh) {x2 : Int32} (e2 : x2 = nI h) (hm : 2000000 ≤ m)
    (hQ : ∀ τ, off pOff σ τ → cFA τ S → τ.1 9 0 8 0 = nI (wayT S R E h) → (∀ j, j < wayT S R E h → τ.1 9 0 7 j = nI (stS S R E h (wkp (stS S R E h) j).1 (wkp (stS S R E h) j).2)) → Q (some (.inl (nI (dwS S R E h (S.cn h) E.ns).1))) τ) :
    wp N m (e + 4, 0) TX9_plan 0 [some (.inr (.inr (9, 0, 0))), some (.inr (.inr (3, k, 0))), some (.inl x2), none, none, none, none, none, none, none] [] σ Q := by
  have hns := vNE_ns hS hE
  have hcn := hS.2.1 h hh
  have hnh := hS.1
  have nE : ∀ {L : List RF} {τ : ST}, off L σ τ → (∀ r ∈ L, r.1 ≠ 3) → cNE τ k E := fun ho hL => cNE_off ho (fun r hr q => hL r hr q.1) cE
  obtain ⟨n, rfl⟩ := il_ex (K := 22) (m := m) (by omega)
  refine ⟨trivial, c_countOf e2 (by omega) (by omega) ?_⟩
  rw [cS.2.2.1 h hh]
  refine b_lt rfl z0 (by omega) (by omega) (fun q => by omega) (fun _ => ?_)
  refine b_gt rfl i12 (by omega) (by omega) (fun q => by omega) (fun _ => ?_)
  refine b_lt cE.1 z0 (by omega) (by omega) (fun q => by omega) (fun _ => ?_)
  refine b_le cE.1 i60 (by omega) (by omega) (fun _ => ?_) (fun q => by omega)
  refine adv 2 1990000 (by omega) (fun n1 hn1 => ?_)
  have ho1 : off [(9, 0, 8)] σ (uI σ 9 0 8 0 (Int32.ofInt 0)) := off_uI (off_rf _ _) (by decide)
  have h9 : (uI σ 9 0 8 0 (Int32.ofInt 0)).1 9 0 8 0 = nI 0 := (uI_at ..).trans oi_0
  have cF1 : cFA (uI σ 9 0 8 0 (Int32.ofInt 0)) S := fun w v hw hv => by rw [off_1 ho1 (by decide)]; exact cF w v hw hv
  refine pl_out hS hR hE (cSP_off ho1 (by decide) cS) (cRU_off ho1 (by decide) cR) (nE ho1 (by decide)) (M := 1000000) (by omega) hh e2 rfl cE.1 ?_ (E.ns + 1) n1 (uI σ 9 0 8 0 (Int32.ofInt 0)) _ _ _ _ _ (by omega) (by omega) (off_rf _ _) cF1 (fun i' s' q1 q2 q3 => by omega) (cE.1.trans (nI_pred _).symm)
  intro m2 τ2 p5 p6 p7 p8 p9 hm2 ho2 hf2 ht2
  obtain ⟨n3, rfl⟩ := il_ex (K := 20) (m := m2) (by omega)
  refine ⟨trivial, c_followSteps (R := R) hcn hns rfl cE.1 (fun i s q1 q2 q3 => (ht2 i s q1 q2).2 q3) (by rw [off_1 ho2 (by decide)]; exact h9) (by omega) ?_⟩
  intro τ3 ho3 g9 g8
  have hoa : off pOff σ τ3 := off_tr (off_tr (off_in ho1 (by decide)) (off_in ho2 (by decide))) (off_in ho3 (by decide))
  have hr : τ3.1 9 0 5 (Int32.ofInt 0).toNatClampNeg = nI (dwS S R E h (S.cn h) E.ns).1 := by
    rw [show (Int32.ofInt 0).toNatClampNeg = 0 from by decide, off_1 ho3 (by decide)]
    have := (ht2 0 0 (by omega) (by omega)).1
    rw [Nat.sub_zero, Nat.sub_zero, Nat.zero_mul, Nat.zero_add] at this
    exact this
  refine ⟨il_in oi_0 (by omega) (by omega), Or.inl rfl, ?_⟩
  have hq := hQ τ3 hoa (fun w v hw hv => by rw [off_1 ho3 (by decide)]; exact hf2 w v hw hv) g9 g8
  rw [← hr] at hq
  exact hq
end FS
end
section
/-! the cheapest WAYS, as the reference finds them -/
abbrev wOff : List RF := [(11, 0, 32), (11, 0, 33), (11, 0, 31), (11, 0, 34), (11, 0, 35)]
def tbm (S : SPc) (R : RUc) (E : NEc) (h : Nat) (ro so : Nat → Int32) (i s : Nat) : Prop := ro (61 * i + s) = nI (dwS S R E h (S.cn h - i) (E.ns - s)).1 ∧ so (61 * i + s) = if i = S.cn h ∧ s = E.ns then -1 else nI (dwS S R E h (S.cn h - i) (E.ns - s)).2
theorem i21 : (Int8.ofInt 21).toInt32 = nI 21 := by decide
section WY
variable {N e jv : Nat} {σ : ST} {Q : POST} {S : SPc} {R : RUc} {E : NEc}
abbrev wyV (jv : Nat) (x2 x3 x4 : Int32) (o5 o6 o7 o8 : Option AV) : List (Option AV) := [some (.inr (.inr (11, 0, 0))), some (.inr (.inr (11, 0, jv))), some (.inl x2), some (.inl x3), some (.inl x4), o5, o6, o7, o8]
set_option maxRecDepth 100000 in
theorem wy_in (a : arO N 11 jv = some (1, 322)) (hj : (11, 0, jv) ∉ wOff) (hS : vSP S) (hR : vRU S R) (hE : vNE S E) (cS : mSP σ S) (cR : mRU (σ.1 11 0 jv) S R) (cE : mNE (σ.1 11 0 jv) E) {h M i : Nat} (hM : 1600000 ≤ M) (hh : h < S.nh) {x2 x3 x4 x5 : Int32} (e2 : x2 = nI h) (e3 : x3 = nI (S.cn h)) (e4 : x4 = nI E.ns) (e5 : x5 = nI i) (hi : i ≤ S.cn h)
    (K : ∀ (m : Nat) (τ : ST) (o6 o7 o8 : Option AV), M ≤ m → off wOff σ τ → (∀ i' s', i ≤ i' → i' ≤ S.cn h → s' ≤ E.ns → tbm S R E h (τ.1 11 0 34) (τ.1 11 0 35) i' s') → wp N m (e + 4, 0) TX11_ways 155 (wyV jv x2 x3 x4 (some (.inl x5)) o6 o7 o8) [] τ Q) :
    ∀ (b m : Nat) (τ : ST) (x6 : Int32) (o7 o8 : Option AV), b ≤ E.ns + 1 → 300 * b + 100 + M ≤ m → off wOff σ τ →
      (∀ i' s', i < i' → i' ≤ S.cn h → s' ≤ E.ns → tbm S R E h (τ.1 11 0 34) (τ.1 11 0 35) i' s') → (∀ s', b ≤ s' → s' ≤ E.ns → tbm S R E h (τ.1 11 0 34) (τ.1 11 0 35) i s') → x6 = nI b - 1 →
      wp N m (e + 4, 0) TX11_ways 15 (wyV jv x2 x3 x4 (some (.inl x5)) (some (.inl x6)) o7 o8) [] τ Q := by
  have hns := vNE_ns hS hE
  have hcn := hS.2.1 h hh
  intro b
  induction b with
  | zero =>
    intro m τ x6 o7 o8 hb hm ho h1 h2 e6
    obtain ⟨n, rfl⟩ := il_ex (K := 2) (m := m) (by omega)
    refine b_down e6 (by omega) (fun _ => ?_) (fun i q _ => by omega)
    refine K n τ _ _ _ (by omega) ho (fun i' s' q1 q2 q3 => ?_)
    by_cases q : i' = i
    · subst q; exact h2 s' (by omega) q3
    · exact h1 i' s' (by omega) q2 q3
  | succ s ih =>
    intro m τ x6 o7 o8 hb hm ho h1 h2 e6
    obtain ⟨n, rfl⟩ := il_ex (K := 150) (m := m) (by omega)
    have bA : ∀ a b, (dwS S R E h a b).1 ≤ 9 * (a + b) := dwS_le hR
    have cR' : ∀ τ', off wOff σ τ' → mRU (τ'.1 11 0 jv) S R := fun τ' ho' => mRU_off ho' hj cR
    refine b_down e6 (by omega) (fun q => by omega) (fun s0 q e6' => ?_)
    clear e6
    obtain rfl : s0 = s := by omega
    have g7 : (Int8.ofInt 61).toInt32 * x5 + x6 = nI (61 * i + s0) := by rw [e5, e6', i61, pk_mul, nI_add]
    have fin : ∀ (τ' : ST) (y7 y8 : Int32) (n' : Nat), 300 * s0 + 130 + M ≤ n' → off wOff σ τ' → τ'.1 11 0 34 = τ.1 11 0 34 → τ'.1 11 0 35 = τ.1 11 0 35 → y7 = nI (dwS S R E h (S.cn h - i) (E.ns - s0)).1 → (y8 = if i = S.cn h ∧ s0 = E.ns then -1 else nI (dwS S R E h (S.cn h - i) (E.ns - s0)).2) →
        wp N n' (e + 4, 0) TX11_ways 135 (wyV jv x2 x3 x4 (some (.inl x5)) (some (.inl x6)) (some (.inl y7)) (some (.inl y8))) [] τ' Q := by
      intro τ' y7 y8 n' hn' ho' t5 t6 g8 g9
      obtain ⟨n2, rfl⟩ := il_ex (K := 30) (m := n') (by omega)
      refine ⟨il_in g7 (by omega) (by omega), ?_⟩
      refine ⟨il_in g7 (by omega) (by omega), trivial, ?_⟩
      have r5 : ∀ z, (uI (uI τ' 11 0 34 ((Int8.ofInt 61).toInt32 * x5 + x6).toNatClampNeg y7) 11 0 35 ((Int8.ofInt 61).toInt32 * x5 + x6).toNatClampNeg y8).1 11 0 34 z = if z = 61 * i + s0 then y7 else τ.1 11 0 34 z := by
        intro z
        rw [uI_nr _ _ _ _ _ _ (by decide), uI_row, t5, il_cl g7 (by omega)]
        rfl
      have r6 : ∀ z, (uI (uI τ' 11 0 34 ((Int8.ofInt 61).toInt32 * x5 + x6).toNatClampNeg y7) 11 0 35 ((Int8.ofInt 61).toInt32 * x5 + x6).toNatClampNeg y8).1 11 0 35 z = if z = 61 * i + s0 then y8 else τ.1 11 0 35 z := by
        intro z
        rw [uI_row, il_cl g7 (by omega)]
        unfold upd
        rw [uI_nr _ _ _ _ _ _ (by decide), t6]
      refine ih _ _ _ _ _ (by omega) (by omega) (off_uI (off_uI ho' (by decide)) (by decide)) ?_ ?_ (il_down e6')
      · intro i' s' q1 q2 q3
        have hx := h1 i' s' q1 q2 q3
        unfold tbm at hx ⊢
        show (uI (uI τ' 11 0 34 _ _) 11 0 35 _ _).1 11 0 34 _ = _ ∧ (uI (uI τ' 11 0 34 _ _) 11 0 35 _ _).1 11 0 35 _ = _
        rw [r5, r6, if_neg (by omega), if_neg (by omega)]
        exact hx
      · intro s' q1 q2
        unfold tbm
        show (uI (uI τ' 11 0 34 _ _) 11 0 35 _ _).1 11 0 34 _ = _ ∧ (uI (uI τ' 11 0 34 _ _) 11 0 35 _ _).1 11 0 35 _ = _
        rw [r5, r6]
        by_cases hq : s' = s0
        · subst hq
          rw [if_pos rfl, if_pos rfl]
          exact ⟨g8, g9⟩
        · rw [if_neg (by omega), if_neg (by omega)]
          exact h2 s' (by omega) q2
    have g1 : (Int8.ofInt 61).toInt32 * x5 + x6 + Int32.ofInt 1 = nI (61 * i + (s0 + 1)) := by rw [g7, oi_1, nI_add]; rfl
    have g61 : (Int8.ofInt 61).toInt32 * (x5 + Int32.ofInt 1) + x6 = nI (61 * (i + 1) + s0) := by rw [il_inc e5, e6', i61, pk_mul, nI_add]
    have g62 : (Int8.ofInt 61).toInt32 * (x5 + Int32.ofInt 1) + x6 + Int32.ofInt 1 = nI (61 * (i + 1) + (s0 + 1)) := by rw [g61, oi_1, nI_add]; rfl
    have hgp := hR.2.1.2
    have hfr := hR.1.2
    have vfr : ∀ τ', off wOff σ τ' → τ'.1 11 0 34 = τ.1 11 0 34 → i < S.cn h → τ'.1 11 0 jv (Int32.ofInt 0).toNatClampNeg + τ'.1 11 0 34 ((Int8.ofInt 61).toInt32 * (x5 + Int32.ofInt 1) + x6).toNatClampNeg = nI (R.fr + (dwS S R E h (S.cn h - (i + 1)) (E.ns - s0)).1) := by
      intro τ' ho' t5 hin
      rw [il_cl oi_0 (by omega), il_cl g61 (by omega), t5, (cR' τ' ho').1, (h1 (i + 1) s0 (by omega) (by omega) (by omega)).1, nI_add]
    have vgp : ∀ τ', off wOff σ τ' → τ'.1 11 0 34 = τ.1 11 0 34 → s0 < E.ns → τ'.1 11 0 jv (Int32.ofInt 1).toNatClampNeg + τ'.1 11 0 34 ((Int8.ofInt 61).toInt32 * x5 + x6 + Int32.ofInt 1).toNatClampNeg = nI (R.gp + (dwS S R E h (S.cn h - i) (E.ns - (s0 + 1))).1) := by
      intro τ' ho' t5 hsn
      rw [il_cl oi_1 (by omega), il_cl g1 (by omega), t5, (cR' τ' ho').2.1, (h2 (s0 + 1) (by omega) (by omega)).1, nI_add]
    -- the third choice is taken
    have tk3 : ∀ (τ' : ST) (y7 y8 : Int32) (n' : Nat), 300 * s0 + 160 + M ≤ n' → off wOff σ τ' → τ'.1 11 0 34 = τ.1 11 0 34 → τ'.1 11 0 35 = τ.1 11 0 35 → i < S.cn h → dwS S R E h (S.cn h - i) (E.ns - s0) = (R.fr + (dwS S R E h (S.cn h - (i + 1)) (E.ns - s0)).1, 2) →
        wp N n' (e + 4, 0) TX11_ways 118 (wyV jv x2 x3 x4 (some (.inl x5)) (some (.inl x6)) (some (.inl y7)) (some (.inl y8))) [] τ' Q := by
      intro τ' y7 y8 n' hn' ho' t5 t6 hin hd
      obtain ⟨n2, rfl⟩ := il_ex (K := 30) (m := n') (by omega)
      refine arr_of a ⟨il_in oi_0 (by omega) (by omega), ?_⟩
      refine ⟨il_in g61 (by omega) (by omega), ?_⟩
      refine adv 4 (300 * s0 + 130 + M) (by omega) (fun n3 hn3 => ?_)
      exact fin τ' _ _ n3 hn3 ho' t5 t6 (by rw [hd]; exact vfr τ' ho' t5 hin) (by rw [if_neg (by omega), hd]; exact i2)
    by_cases hin : i = S.cn h
    · by_cases hsn : s0 = E.ns
      · refine b_ne e5 e3 (by omega) (by omega) (fun q => by omega) (fun _ => ?_)
        refine b_ne e6' e4 (by omega) (by omega) (fun q => by omega) (fun _ => ?_)
        refine ⟨trivial, ?_⟩
        refine b_ge e5 e3 (by omega) (by omega) (fun _ => ?_) (fun q => by omega)
        refine b_ge e6' e4 (by omega) (by omega) (fun _ => ?_) (fun q => by omega)
        refine b_ge e5 e3 (by omega) (by omega) (fun _ => ?_) (fun q => by omega)
        refine fin τ _ _ _ (by omega) ho rfl rfl ?_ (by rw [if_pos ⟨hin, hsn⟩, im1])
        rw [show S.cn h - i = 0 by omega, show E.ns - s0 = 0 by omega, dwS, dwc_00]
        exact oi_0
      · have hd : dwS S R E h (S.cn h - i) (E.ns - s0) = (R.gp + (dwS S R E h (S.cn h - i) (E.ns - (s0 + 1))).1, 1) := by
          rw [show S.cn h - i = 0 by omega, show E.ns - s0 = (E.ns - (s0 + 1)) + 1 by omega, dwS, dwc_0s]; rfl
        refine b_ne e5 e3 (by omega) (by omega) (fun q => by omega) (fun _ => ?_)
        refine b_ne e6' e4 (by omega) (by omega) (fun _ => ?_) (fun q => by omega)
        refine b_ge e5 e3 (by omega) (by omega) (fun _ => ?_) (fun q => by omega)
        refine b_ge e6' e4 (by omega) (by omega) (fun q => by omega) (fun _ => ?_)
        refine ⟨fun _ => ?_, fun q => absurd rfl q⟩
        refine arr_of a ⟨il_in oi_1 (by omega) (by omega), ?_⟩
        refine ⟨il_in g1 (by omega) (by omega), ?_⟩
        refine b_ge e5 e3 (by omega) (by omega) (fun _ => ?_) (fun q => by omega)
        exact fin τ _ _ _ (by omega) ho rfl rfl (by rw [hd]; exact vgp τ ho rfl (by omega)) (by rw [if_neg (by omega), hd]; exact oi_1)
    · by_cases hsn : s0 = E.ns
      · refine b_ne e5 e3 (by omega) (by omega) (fun _ => ?_) (fun q => by omega)
        refine b_ge e5 e3 (by omega) (by omega) (fun q => by omega) (fun _ => ?_)
        refine b_ge e6' e4 (by omega) (by omega) (fun _ => ?_) (fun q => by omega)
        refine b_ge e6' e4 (by omega) (by omega) (fun _ => ?_) (fun q => by omega)
        refine b_ge e5 e3 (by omega) (by omega) (fun q => by omega) (fun _ => ?_)
        refine ⟨fun _ => ?_, fun q => absurd rfl q⟩
        refine tk3 τ _ _ _ (by omega) ho rfl rfl (by omega) ?_
        rw [show S.cn h - i = (S.cn h - (i + 1)) + 1 by omega, show E.ns - s0 = 0 by omega, dwS, dwc_s0]
        rfl
      · have hd : dwS S R E h (S.cn h - i) (E.ns - s0) = pick3 (mcS S R E h i s0 + (dwS S R E h (S.cn h - (i + 1)) (E.ns - (s0 + 1))).1) (R.gp + (dwS S R E h (S.cn h - i) (E.ns - (s0 + 1))).1) (R.fr + (dwS S R E h (S.cn h - (i + 1)) (E.ns - s0)).1) := by
          have q1 : S.cn h - i = (S.cn h - (i + 1)) + 1 := by omega
          have q2 : E.ns - s0 = (E.ns - (s0 + 1)) + 1 := by omega
          unfold dwS
          rw [q1, q2, dwc_ss, ← q1, ← q2, show S.cn h - (S.cn h - i) = i by omega, show E.ns - (E.ns - s0) = s0 by omega]
        have b1 := bA (S.cn h - (i + 1)) (E.ns - (s0 + 1))
        have b2 := bA (S.cn h - i) (E.ns - (s0 + 1))
        have b3 := bA (S.cn h - (i + 1)) (E.ns - s0)
        have bm := mcS_le (E := E) (h := h) (i := i) (s := s0) hR
        -- the third choice is looked at
        have thr : ∀ (τ' : ST) (y7 y8 : Int32) (v7 v8 n' : Nat), 300 * s0 + 200 + M ≤ n' → off wOff σ τ' → τ'.1 11 0 34 = τ.1 11 0 34 → τ'.1 11 0 35 = τ.1 11 0 35 → y7 = nI v7 → y8 = nI v8 → v7 ≤ 2000 → v8 ≤ 2 →
            dwS S R E h (S.cn h - i) (E.ns - s0) = (if R.fr + (dwS S R E h (S.cn h - (i + 1)) (E.ns - s0)).1 < v7 then (R.fr + (dwS S R E h (S.cn h - (i + 1)) (E.ns - s0)).1, 2) else (v7, v8)) →
            wp N n' (e + 4, 0) TX11_ways 96 (wyV jv x2 x3 x4 (some (.inl x5)) (some (.inl x6)) (some (.inl y7)) (some (.inl y8))) [] τ' Q := by
          intro τ' y7 y8 v7 v8 n' hn' ho' t5 t6 g8 g9 hv hv8 hd'
          obtain ⟨n2, rfl⟩ := il_ex (K := 30) (m := n') (by omega)
          refine b_ge e5 e3 (by omega) (by omega) (fun q => by omega) (fun _ => ?_)
          refine ⟨fun q => absurd (show nI v8 = (-1 : Int32) by rw [← g9, ← im1]; exact q) (nI_m1 (by omega)), fun _ => ?_⟩
          refine arr_of a ⟨il_in oi_0 (by omega) (by omega), ?_⟩
          refine ⟨il_in g61 (by omega) (by omega), ?_⟩
          refine b_ge (vfr τ' ho' t5 (by omega)) g8 (by omega) (by omega) (fun q => ?_) (fun q => ?_)
          · rw [if_neg (by omega)] at hd'
            exact fin τ' _ _ _ (by omega) ho' t5 t6 (by rw [hd']; exact g8) (by rw [if_neg (by omega), hd']; exact g9)
          · rw [if_pos q] at hd'
            exact tk3 τ' _ _ _ (by omega) ho' t5 t6 (by omega) hd'
        refine b_ne e5 e3 (by omega) (by omega) (fun _ => ?_) (fun q => by omega)
        refine b_ge e5 e3 (by omega) (by omega) (fun q => by omega) (fun _ => ?_)
        refine b_ge e6' e4 (by omega) (by omega) (fun q => by omega) (fun _ => ?_)
        refine ⟨trivial, c_match a (fun q => hj (by revert q; simp; omega)) hS hR hE (mSP_off ho (by decide) cS) (cR' τ ho) (mNE_off ho hj cE) (by omega) hh (by omega) e2 e5 e6' (by omega) ?_⟩
        intro τ2 ho2
        have ho3 : off wOff σ τ2 := off_tr ho (off_in ho2 (by decide))
        have t5 : τ2.1 11 0 34 = τ.1 11 0 34 := (ho2 11 0 34 (by decide)).1
        have t6 : τ2.1 11 0 35 = τ.1 11 0 35 := (ho2 11 0 35 (by decide)).1
        have v0 : nI (mcS S R E h i s0) + τ2.1 11 0 34 ((Int8.ofInt 61).toInt32 * (x5 + Int32.ofInt 1) + x6 + Int32.ofInt 1).toNatClampNeg = nI (mcS S R E h i s0 + (dwS S R E h (S.cn h - (i + 1)) (E.ns - (s0 + 1))).1) := by
          rw [il_cl g62 (by omega), t5, (h1 (i + 1) (s0 + 1) (by omega) (by omega) (by omega)).1, nI_add]
        have v1 := vgp τ2 ho3 t5 (by omega)
        refine ⟨il_in g62 (by omega) (by omega), ?_⟩
        refine b_ge e6' e4 (by omega) (by omega) (fun q => by omega) (fun _ => ?_)
        refine ⟨fun q => absurd (show nI 0 = (-1 : Int32) by rw [← im1, ← oi_0]; exact q) (nI_m1 (by omega)), fun _ => ?_⟩
        refine arr_of a ⟨il_in oi_1 (by omega) (by omega), ?_⟩
        refine ⟨il_in g1 (by omega) (by omega), ?_⟩
        refine b_ge v1 v0 (by omega) (by omega) (fun q => ?_) (fun q => ?_)
        · refine thr τ2 _ _ _ 0 _ (by omega) ho3 t5 t6 v0 oi_0 (by omega) (by omega) ?_
          rw [hd]; unfold pick3; rw [if_neg (by omega)]
        · refine arr_of a ⟨il_in oi_1 (by omega) (by omega), ?_⟩
          refine ⟨il_in g1 (by omega) (by omega), ?_⟩
          refine adv 4 (300 * s0 + 200 + M) (by omega) (fun n3 hn3 => ?_)
          refine thr τ2 _ _ _ 1 n3 hn3 ho3 t5 t6 v1 oi_1 (by omega) (by omega) ?_
          rw [hd]; unfold pick3; rw [if_pos q]
set_option maxRecDepth 100000 in
theorem wy_out (a : arO N 11 jv = some (1, 322)) (hj : (11, 0, jv) ∉ wOff) (hS : vSP S) (hR : vRU S R) (hE : vNE S E) (cS : mSP σ S) (cR : mRU (σ.1 11 0 jv) S R) (cE : mNE (σ.1 11 0 jv) E) {h M : Nat} (hM : 1600000 ≤ M) (hh : h < S.nh) {x2 x3 x4 : Int32} (e2 : x2 = nI h) (e3 : x3 = nI (S.cn h)) (e4 : x4 = nI E.ns)
    (K : ∀ (m : Nat) (τ : ST) (o5 o6 o7 o8 : Option AV), M ≤ m → off wOff σ τ → (∀ i' s', i' ≤ S.cn h → s' ≤ E.ns → tbm S R E h (τ.1 11 0 34) (τ.1 11 0 35) i' s') → wp N m (e + 4, 0) TX11_ways 157 (wyV jv x2 x3 x4 o5 o6 o7 o8) [] τ Q) :
    ∀ (c m : Nat) (τ : ST) (x5 : Int32) (o6 o7 o8 : Option AV), c ≤ S.cn h + 1 → 20000 * c + 10 + M ≤ m → off wOff σ τ → (∀ i' s', c ≤ i' → i' ≤ S.cn h → s' ≤ E.ns → tbm S R E h (τ.1 11 0 34) (τ.1 11 0 35) i' s') → x5 = nI c - 1 →
      wp N m (e + 4, 0) TX11_ways 11 (wyV jv x2 x3 x4 (some (.inl x5)) o6 o7 o8) [] τ Q := by
  have hns := vNE_ns hS hE
  have hcn := hS.2.1 h hh
  intro c
  induction c with
  | zero =>
    intro m τ x5 o6 o7 o8 hc hm ho ht e5
    obtain ⟨n, rfl⟩ := il_ex (K := 2) (m := m) (by omega)
    refine b_down e5 (by omega) (fun _ => ?_) (fun i q _ => by omega)
    exact K n τ _ _ _ _ (by omega) ho (fun i' s' q1 q2 => ht i' s' (by omega) q1 q2)
  | succ i ih =>
    intro m τ x5 o6 o7 o8 hc hm ho ht e5
    obtain ⟨n, rfl⟩ := il_ex (K := 4) (m := m) (by omega)
    refine b_down e5 (by omega) (fun q => by omega) (fun i0 q e5' => ?_)
    obtain rfl : i0 = i := by omega
    refine wy_in a hj hS hR hE cS cR cE (M := 20000 * i0 + 12 + M) (by omega) hh e2 e3 e4 e5' (by omega) ?_ (E.ns + 1) n τ _ _ _ (by omega) (by omega) ho (fun i' s' q1 q2 q3 => ht i' s' (by omega) q2 q3) (fun s' q1 q2 => by omega) (by rw [e4]; exact (nI_pred _).symm)
    intro m' τ' p6 p7 p8 hm' ho' ht'
    obtain ⟨n', rfl⟩ := il_ex (K := 2) (m := m') (by omega)
    exact ⟨trivial, ih _ τ' _ _ _ _ (by omega) (by omega) ho' ht' (il_down e5')⟩
set_option maxRecDepth 100000 in
/-- the reference's ways -/
theorem c_ways (a : arO N 11 jv = some (1, 322)) (hj : (11, 0, jv) ∉ wOff) (hS : vSP S) (hR : vRU S R) (hE : vNE S E) (cS : mSP σ S) (cR : mRU (σ.1 11 0 jv) S R) (cE : mNE (σ.1 11 0 jv) E) {h m : Nat} (hh : h < S.nh) {x2 : Int32} (e2 : x2 = nI h) (hm : 2500000 ≤ m)
    (hQ : ∀ τ, off wOff σ τ → (∀ i' s', i' ≤ S.cn h → s' ≤ E.ns → tbm S R E h (τ.1 11 0 34) (τ.1 11 0 35) i' s') → Q (some (.inl (nI (dwS S R E h (S.cn h) E.ns).1))) τ) :
    wp N m (e + 4, 0) TX11_ways 0 [some (.inr (.inr (11, 0, 0))), some (.inr (.inr (11, 0, jv))), some (.inl x2), none, none, none, none, none, none] [] σ Q := by
  have hns := vNE_ns hS hE
  have hcn := hS.2.1 h hh
  have hnh := hS.1
  obtain ⟨n, rfl⟩ := il_ex (K := 11) (m := m) (by omega)
  refine ⟨il_in e2 (by omega) (by omega), ?_⟩
  refine arr_of a ⟨il_in i21 (by omega) (by omega), ?_⟩
  have e3 : σ.1 11 0 21 x2.toNatClampNeg = nI (S.cn h) := by rw [il_cl e2 (by omega)]; exact cS.2.2.1 h hh
  have e4 : σ.1 11 0 jv (Int8.ofInt 21).toInt32.toNatClampNeg = nI E.ns := by rw [il_cl i21 (by omega)]; exact cE.2.1
  refine wy_out a hj hS hR hE cS cR cE (M := 2000000) (by omega) hh e2 e3 e4 ?_ (S.cn h + 1) n σ _ _ _ _ (by omega) (by omega) (off_rf _ _) (fun i' s' q1 q2 q3 => by omega) (e3.trans (nI_pred _).symm)
  intro m1 τ o5 o6 o7 o8 hm1 ho ht
  obtain ⟨n1, rfl⟩ := il_ex (K := 10) (m := m1) (by omega)
  have hr : τ.1 11 0 34 (Int32.ofInt 0).toNatClampNeg = nI (dwS S R E h (S.cn h) E.ns).1 := by
    rw [il_cl oi_0 (by omega)]
    exact (ht 0 0 (by omega) (by omega)).1
  refine ⟨il_in oi_0 (by omega) (by omega), Or.inl rfl, ?_⟩
  have hq := hQ τ ho ht
  rw [← hr] at hq
  exact hq
end WY
end
section
/-! a WAY gone: which words and SLOTS it passes; the net that comes out -/
section WK
variable {S : SPc} {R : RUc} {E : NEc} {h : Nat}
theorem wk_inv : ∀ k, k ≤ wayT S R E h → ∃ q, (S.cn h - (wkp (stS S R E h) k).1) + (E.ns - (wkp (stS S R E h) k).2) ≤ q ∧ wayT S R E h = k + wln (stS S R E h) (S.cn h) E.ns q (wkp (stS S R E h) k).1 (wkp (stS S R E h) k).2 ∧ (wkp (stS S R E h) k).1 ≤ S.cn h ∧ (wkp (stS S R E h) k).2 ≤ E.ns := by
  intro k
  induction k with
  | zero => intro _; exact ⟨S.cn h + E.ns, by simp [wkp], by rw [wayT, Nat.zero_add]; rfl, Nat.zero_le _, Nat.zero_le _⟩
  | succ k ih =>
    intro hk
    obtain ⟨q, h1, h2, h3, h4⟩ := ih (by omega)
    by_cases hend : (wkp (stS S R E h) k).1 = S.cn h ∧ (wkp (stS S R E h) k).2 = E.ns
    · rw [hend.1, hend.2, wln_end] at h2; omega
    · cases q with
      | zero => omega
      | succ q =>
        rw [wln, if_neg hend] at h2
        obtain ⟨g1, g2, g3⟩ := stS_nx (R := R) h3 h4 hend
        exact ⟨q, by simp only [wkp]; omega, by simp only [wkp]; omega, by simp only [wkp]; exact g1, by simp only [wkp]; exact g2⟩
theorem wk_end : wkp (stS S R E h) (wayT S R E h) = (S.cn h, E.ns) := by
  obtain ⟨q, h1, h2, h3, h4⟩ := wk_inv (S := S) (R := R) (E := E) (h := h) (wayT S R E h) (Nat.le_refl _)
  by_cases hend : (wkp (stS S R E h) (wayT S R E h)).1 = S.cn h ∧ (wkp (stS S R E h) (wayT S R E h)).2 = E.ns
  · exact Prod.ext hend.1 hend.2
  · exfalso
    cases q with
    | zero => omega
    | succ q => rw [wln, if_neg hend] at h2; omega
theorem wk_ne {k : Nat} (hk : k < wayT S R E h) : ¬ ((wkp (stS S R E h) k).1 = S.cn h ∧ (wkp (stS S R E h) k).2 = E.ns) := by
  intro hend
  obtain ⟨q, h1, h2, h3, h4⟩ := wk_inv (S := S) (R := R) (E := E) (h := h) k (by omega)
  rw [hend.1, hend.2, wln_end] at h2; omega
theorem wk_le {k : Nat} (hk : k ≤ wayT S R E h) : (wkp (stS S R E h) k).1 ≤ S.cn h ∧ (wkp (stS S R E h) k).2 ≤ E.ns := by
  obtain ⟨q, h1, h2, h3, h4⟩ := wk_inv (S := S) (R := R) (E := E) (h := h) k hk
  exact ⟨h3, h4⟩
/-- the step at the k-th place -/
def stK (S : SPc) (R : RUc) (E : NEc) (h k : Nat) : Nat := stS S R E h (wkp (stS S R E h) k).1 (wkp (stS S R E h) k).2
abbrev wkI (S : SPc) (R : RUc) (E : NEc) (h k : Nat) : Nat := (wkp (stS S R E h) k).1
abbrev wkS (S : SPc) (R : RUc) (E : NEc) (h k : Nat) : Nat := (wkp (stS S R E h) k).2
theorem wk_ok {k : Nat} (hk : k < wayT S R E h) : (stK S R E h k = 0 ∧ wkI S R E h k < S.cn h ∧ wkS S R E h k < E.ns) ∨ (stK S R E h k = 1 ∧ wkS S R E h k < E.ns) ∨ (stK S R E h k = 2 ∧ wkI S R E h k < S.cn h) :=
  stS_ok (wk_le (by omega)).1 (wk_le (by omega)).2 (wk_ne hk)
theorem wkI_s (k : Nat) : wkI S R E h (k + 1) = if stK S R E h k = 1 then wkI S R E h k else wkI S R E h k + 1 := rfl
theorem wkS_s (k : Nat) : wkS S R E h (k + 1) = if stK S R E h k = 2 then wkS S R E h k else wkS S R E h k + 1 := rfl
theorem wkS_le : ∀ k, wkS S R E h k ≤ k
  | 0 => Nat.le_refl _
  | k + 1 => by rw [wkS_s]; have := wkS_le k; split <;> omega
theorem wkI_mono : ∀ {a b : Nat}, a ≤ b → wkI S R E h a ≤ wkI S R E h b := by
  intro a b hab
  induction b with
  | zero => obtain rfl : a = 0 := by omega
            exact Nat.le_refl _
  | succ b ih =>
    by_cases e : a = b + 1
    · subst e; exact Nat.le_refl _
    · have := ih (by omega)
      rw [wkI_s]; split <;> omega
theorem wkS_mono : ∀ {a b : Nat}, a ≤ b → wkS S R E h a ≤ wkS S R E h b := by
  intro a b hab
  induction b with
  | zero => obtain rfl : a = 0 := by omega
            exact Nat.le_refl _
  | succ b ih =>
    by_cases e : a = b + 1
    · subst e; exact Nat.le_refl _
    · have := ih (by omega)
      rw [wkS_s]; split <;> omega
theorem wkI_lt {a b : Nat} (hab : a < b) (hs : stK S R E h a ≠ 1) : wkI S R E h a < wkI S R E h b := by
  have h1 : wkI S R E h (a + 1) ≤ wkI S R E h b := wkI_mono (by omega)
  rw [wkI_s, if_neg hs] at h1; omega
theorem wkS_lt {a b : Nat} (hab : a < b) (hs : stK S R E h a ≠ 2) : wkS S R E h a < wkS S R E h b := by
  have h1 : wkS S R E h (a + 1) ≤ wkS S R E h b := wkS_mono (by omega)
  rw [wkS_s, if_neg hs] at h1; omega
theorem wkI_cov : ∀ (t i : Nat), i < wkI S R E h t → ∃ t', t' < t ∧ wkI S R E h t' = i ∧ stK S R E h t' ≠ 1
  | 0, i, hi => absurd hi (Nat.not_lt_zero _)
  | t + 1, i, hi => by
    by_cases hs : stK S R E h t = 1
    · rw [wkI_s, if_pos hs] at hi
      obtain ⟨t', h1, h2, h3⟩ := wkI_cov t i hi
      exact ⟨t', by omega, h2, h3⟩
    · rw [wkI_s, if_neg hs] at hi
      by_cases he : i = wkI S R E h t
      · exact ⟨t, by omega, he.symm, hs⟩
      · obtain ⟨t', h1, h2, h3⟩ := wkI_cov t i (by omega)
        exact ⟨t', by omega, h2, h3⟩
theorem wkS_cov : ∀ (t s : Nat), s < wkS S R E h t → ∃ t', t' < t ∧ wkS S R E h t' = s ∧ stK S R E h t' ≠ 2
  | 0, s, hs => absurd hs (Nat.not_lt_zero _)
  | t + 1, s, hi => by
    by_cases hs : stK S R E h t = 2
    · rw [wkS_s, if_pos hs] at hi
      obtain ⟨t', h1, h2, h3⟩ := wkS_cov t s hi
      exact ⟨t', by omega, h2, h3⟩
    · rw [wkS_s, if_neg hs] at hi
      by_cases he : s = wkS S R E h t
      · exact ⟨t, by omega, he.symm, hs⟩
      · obtain ⟨t', h1, h2, h3⟩ := wkS_cov t s (by omega)
        exact ⟨t', by omega, h2, h3⟩
end WK
/-- what lies at the t-th SLOT of the new net -/
def thJ (S : SPc) (R : RUc) (E : NEc) (h t g : Nat) : Option Nat :=
  if g = h then (if stK S R E h t = 1 then none else some (wkI S R E h t)) else (if stK S R E h t = 2 then none else E.th (wkS S R E h t) g)
/-- the net with a hearing more -/
def jnE (S : SPc) (R : RUc) (E : NEc) (h : Nat) : NEc := (wayT S R E h, E.nj + 1, fun p => if p = E.nj then h else E.od p, fun p => if p = E.nj then (dwS S R E h (S.cn h) E.ns).1 else E.ct p, thJ S R E h)
theorem plc_some {E : NEc} {h p : Nat} (hp : plc E h = some p) : p < E.nj ∧ E.od p = h := by
  unfold plc at hp
  have h1 := List.find?_some hp
  have h2 := List.mem_of_find?_eq_some hp
  exact ⟨List.mem_range.mp h2, by simpa using h1⟩
theorem plc_none {E : NEc} {h : Nat} (hp : plc E h = none) : ∀ p, p < E.nj → E.od p ≠ h := by
  unfold plc at hp
  intro p hlt
  have := List.find?_eq_none.mp hp p (List.mem_range.mpr hlt)
  simpa using this
theorem plc_jn (S : SPc) (R : RUc) {E : NEc} {h : Nat} (hn : plc E h = none) (g : Nat) : plc (jnE S R E h) g = if g = h then some E.nj else plc E g := by
  unfold plc jnE
  simp only [NEc.nj, NEc.od]
  rw [List.range_succ, List.find?_append]
  have e : (List.range E.2.1).find? (fun p => (if p = E.2.1 then h else E.2.2.1 p) == g) = (List.range E.2.1).find? (fun p => E.2.2.1 p == g) := by
    have : ∀ l : List Nat, (∀ p ∈ l, p < E.2.1) → l.find? (fun p => (if p = E.2.1 then h else E.2.2.1 p) == g) = l.find? (fun p => E.2.2.1 p == g) := by
      intro l
      induction l with
      | nil => intro _; rfl
      | cons a l ih =>
        intro hl
        have ha := hl a List.mem_cons_self
        rw [List.find?_cons, List.find?_cons, if_neg (by omega), ih (fun p hp => hl p (List.mem_cons_of_mem _ hp))]
    exact this _ (fun p hp => List.mem_range.mp hp)
  rw [e]
  by_cases hg : g = h
  · subst hg
    rw [if_pos rfl]
    have hn' : (List.range E.2.1).find? (fun p => E.2.2.1 p == g) = none := hn
    rw [hn']
    simp
  · rw [if_neg hg]
    have : ([E.2.1].find? fun p => (if p = E.2.1 then h else E.2.2.1 p) == g) = none := by
      simp
      exact fun z => hg z.symm
    rw [this, Option.or_none]
theorem vNE_jn {S : SPc} {R : RUc} {E : NEc} {h : Nat} (hS : vSP S) (hR : vRU S R) (hE : vNE S E) (hh : h < S.nh) (hn : plc E h = none) : vNE S (jnE S R E h) := by
  have hns := vNE_ns hS hE
  have hcn := hS.2.1 h hh
  have hod := plc_none hn
  have hTe := wk_end (S := S) (R := R) (E := E) (h := h)
  have hthn : ∀ s, s < E.ns → E.th s h = none := by
    intro s hs
    cases q : E.th s h with
    | none => rfl
    | some i => have := (hE.2.2.2.2.1 s h i hs q).2.2; rw [hn] at this; cases this
  have hnj : E.nj + 1 ≤ S.nh := by
    -- the joined and h are different hearings, all below nh
    apply Nat.lt_of_le_of_ne hE.1
    intro he
    have hinj : ∀ n, n ≤ E.nj → ∀ f : Nat → Nat, (∀ p, p < n → f p < n) → (∀ p q, p < n → q < n → f p = f q → p = q) → ∀ y, y < n → ∃ p, p < n ∧ f p = y := by
      intro n
      induction n with
      | zero => intro _ f _ _ y hy; omega
      | succ n ih =>
        intro hn' f hf hi y hy
        -- put f n away
        let g : Nat → Nat := fun p => if f p = n then f n else f p
        have hg : ∀ p, p < n → g p < n := by
          intro p hp
          show (if f p = n then f n else f p) < n
          have h1 := hf p (by omega)
          have h2 := hf n (by omega)
          split
          · rename_i e
            have : f n ≠ n := fun e2 => by have := hi p n (by omega) (by omega) (by rw [e, e2]); omega
            omega
          · omega
        have hgi : ∀ p q, p < n → q < n → g p = g q → p = q := by
          intro p q hp hq hpq
          have hpq : (if f p = n then f n else f p) = (if f q = n then f n else f q) := hpq
          by_cases e1 : f p = n
          · by_cases e2 : f q = n
            · exact hi p q (by omega) (by omega) (by rw [e1, e2])
            · rw [if_pos e1, if_neg e2] at hpq
              have := hi n q (by omega) (by omega) hpq; omega
          · by_cases e2 : f q = n
            · rw [if_neg e1, if_pos e2] at hpq
              have := hi p n (by omega) (by omega) hpq; omega
            · rw [if_neg e1, if_neg e2] at hpq
              exact hi p q (by omega) (by omega) hpq
        by_cases hyn : f n = y
        · exact ⟨n, by omega, hyn⟩
        · by_cases hy2 : y = n
          · -- n itself is met: through f n < n
            subst hy2
            have hfn : f y < y := by have := hf y (by omega); omega
            obtain ⟨p, hp, hgp⟩ := ih (by omega) g hg hgi (f y) hfn
            have hgp : (if f p = y then f y else f p) = f y := hgp
            by_cases e1 : f p = y
            · exact ⟨p, by omega, e1⟩
            · rw [if_neg e1] at hgp
              have := hi p y (by omega) (by omega) hgp; omega
          · obtain ⟨p, hp, hgp⟩ := ih (by omega) g hg hgi y (by omega)
            have hgp : (if f p = n then f n else f p) = y := hgp
            by_cases e1 : f p = n
            · rw [if_pos e1] at hgp; exact absurd hgp hyn
            · rw [if_neg e1] at hgp; exact ⟨p, by omega, hgp⟩
    obtain ⟨p, hp, hpe⟩ := hinj E.nj (Nat.le_refl _) E.od (fun p hp => by have := hE.2.1 p hp; omega) (fun p q hp hq e => hE.2.2.1 p q hp hq e) h (by omega)
    exact hod p hp hpe
  refine ⟨hnj, ?_, ?_, ?_, ?_, ?_, ?_, ?_, ?_⟩
  · intro p hp
    show (if p = E.nj then h else E.od p) < S.nh
    split
    · exact hh
    · exact hE.2.1 p (by have : p < E.nj + 1 := hp; omega)
  · intro p q hp hq
    show (if p = E.nj then h else E.od p) = (if q = E.nj then h else E.od q) → p = q
    have hp : p < E.nj + 1 := hp
    have hq : q < E.nj + 1 := hq
    intro e
    by_cases e1 : p = E.nj
    · by_cases e2 : q = E.nj
      · omega
      · rw [if_pos e1, if_neg e2] at e; exact absurd e.symm (hod q (by omega))
    · by_cases e2 : q = E.nj
      · rw [if_neg e1, if_pos e2] at e; exact absurd e (hod p (by omega))
      · rw [if_neg e1, if_neg e2] at e; exact hE.2.2.1 p q (by omega) (by omega) e
  · show wayT S R E h ≤ sm (fun p => S.cn (if p = E.nj then h else E.od p)) (E.nj + 1)
    rw [sm, if_pos rfl, sm_congr (g := fun p => S.cn (E.od p)) (fun i hi => by show S.cn (if i = E.nj then h else E.od i) = _; rw [if_neg (by omega)])]
    have h1 := wln_le (stS S R E h) (S.cn h) E.ns (S.cn h + E.ns) 0 0
    have h2 := hE.2.2.2.1
    unfold wayT
    omega
  · intro t g i ht hth
    have ht : t < wayT S R E h := ht
    have hth : thJ S R E h t g = some i := hth
    rw [plc_jn S R hn]
    unfold thJ at hth
    by_cases hg : g = h
    · subst hg
      rw [if_pos rfl] at hth
      rw [if_pos rfl]
      by_cases h1 : stK S R E g t = 1
      · rw [if_pos h1] at hth; cases hth
      · rw [if_neg h1] at hth
        cases hth
        rcases wk_ok ht with q | q | q
        · exact ⟨hh, q.2.1, rfl⟩
        · exact absurd q.1 h1
        · exact ⟨hh, q.2, rfl⟩
    · rw [if_neg hg] at hth
      rw [if_neg hg]
      by_cases h1 : stK S R E h t = 2
      · rw [if_pos h1] at hth; cases hth
      · rw [if_neg h1] at hth
        have hs : wkS S R E h t < E.ns := by
          rcases wk_ok ht with q | q | q
          · exact q.2.2
          · exact q.2
          · exact absurd q.1 h1
        exact hE.2.2.2.2.1 _ g i hs hth
  · intro t ht
    have ht : t < wayT S R E h := ht
    by_cases h1 : stK S R E h t = 1
    · have hs : wkS S R E h t < E.ns := by
        rcases wk_ok ht with q | q | q
        · exact q.2.2
        · exact q.2
        · omega
      obtain ⟨g, i, hgi⟩ := hE.2.2.2.2.2.1 _ hs
      refine ⟨g, i, ?_⟩
      show thJ S R E h t g = some i
      unfold thJ
      have hg : g ≠ h := fun e => by subst e; rw [hthn _ hs] at hgi; cases hgi
      rw [if_neg hg, if_neg (by omega)]
      exact hgi
    · refine ⟨h, wkI S R E h t, ?_⟩
      show thJ S R E h t h = _
      unfold thJ
      rw [if_pos rfl, if_neg h1]
  · intro g hg hjo i hi
    rw [plc_jn S R hn] at hjo
    by_cases hgh : g = h
    · subst hgh
      have : wkI S R E g (wayT S R E g) = S.cn g := by show (wkp _ _).1 = _; rw [hTe]
      obtain ⟨t, h1, h2, h3⟩ := wkI_cov (S := S) (R := R) (E := E) (h := g) (wayT S R E g) i (by rw [this]; exact hi)
      refine ⟨t, h1, ?_⟩
      show thJ S R E g t g = some i
      unfold thJ
      rw [if_pos rfl, if_neg h3, h2]
    · rw [if_neg hgh] at hjo
      obtain ⟨s, hs, hse⟩ := hE.2.2.2.2.2.2.1 g hg hjo i hi
      have : wkS S R E h (wayT S R E h) = E.ns := by show (wkp _ _).2 = _; rw [hTe]
      obtain ⟨t, h1, h2, h3⟩ := wkS_cov (S := S) (R := R) (E := E) (h := h) (wayT S R E h) s (by rw [this]; exact hs)
      refine ⟨t, h1, ?_⟩
      show thJ S R E h t g = some i
      unfold thJ
      rw [if_neg hgh, if_neg h3, h2]
      exact hse
  · intro t t' g i i' htt ht' h1 h2
    have ht' : t' < wayT S R E h := ht'
    have h1 : thJ S R E h t g = some i := h1
    have h2 : thJ S R E h t' g = some i' := h2
    unfold thJ at h1 h2
    by_cases hg : g = h
    · rw [if_pos hg] at h1 h2
      by_cases q1 : stK S R E h t = 1
      · rw [if_pos q1] at h1; cases h1
      · by_cases q2 : stK S R E h t' = 1
        · rw [if_pos q2] at h2; cases h2
        · rw [if_neg q1] at h1
          rw [if_neg q2] at h2
          cases h1; cases h2
          exact wkI_lt htt q1
    · rw [if_neg hg] at h1 h2
      by_cases q1 : stK S R E h t = 2
      · rw [if_pos q1] at h1; cases h1
      · by_cases q2 : stK S R E h t' = 2
        · rw [if_pos q2] at h2; cases h2
        · rw [if_neg q1] at h1
          rw [if_neg q2] at h2
          have hs : wkS S R E h t' < E.ns := by
            rcases wk_ok ht' with q | q | q
            · exact q.2.2
            · exact q.2
            · exact absurd q.1 q2
          exact hE.2.2.2.2.2.2.2.1 _ _ g i i' (wkS_lt htt q1) hs h1 h2
  · intro p hp
    show (if p = E.nj then (dwS S R E h (S.cn h) E.ns).1 else E.ct p) ≤ 2000
    split
    · have := dwS_le (E := E) (h := h) hR (S.cn h) E.ns; omega
    · exact hE.2.2.2.2.2.2.2.2 p (by have : p < E.nj + 1 := hp; omega)
end
section
/-! a HEARING is joined to a net of the class -/
theorem im2 : (Int8.ofInt (-2)).toInt32 = (-2 : Int32) := by decide
section NT
variable {N e k : Nat} {σ : ST} {Q : POST}
set_option maxRecDepth 100000 in
theorem es_loop {x1 : Int32} {s : Nat} (e1 : x1 = nI s) (hs : s < 60) (hQ : ∀ τ, off [(3, k, 6)] σ τ → (∀ s' h', h' < 5 → τ.1 3 k 6 (s' * 5 + h') = if s' = s then -2 else σ.1 3 k 6 (s' * 5 + h')) → Q none τ) :
    ∀ (r h m : Nat) (τ : ST) (x2 : Int32), h + r = 5 → 100 * r + 100 ≤ m → off [(3, k, 6)] σ τ → (∀ s' h', h' < 5 → τ.1 3 k 6 (s' * 5 + h') = if s' = s ∧ h' < h then -2 else σ.1 3 k 6 (s' * 5 + h')) → x2 = nI h →
      wp N m (e + 1, 0) TX3_emptySlot 2 [some (.inr (.inr (3, k, 0))), some (.inl x1), some (.inl x2)] [] τ Q := by
  intro r
  induction r with
  | zero =>
    intro h m τ x2 hr hm ho h1 e2
    obtain ⟨n, rfl⟩ := il_ex (K := 10) (m := m) (by omega)
    obtain rfl : h = 5 := by omega
    refine b_ge e2 i5 (by omega) (by omega) (fun _ => ?_) (fun q => by omega)
    refine hQ τ ho (fun s' h' hh => ?_)
    rw [h1 s' h' hh]
    by_cases q : s' = s
    · rw [if_pos ⟨q, hh⟩, if_pos q]
    · rw [if_neg (fun z => q z.1), if_neg q]
  | succ r ih =>
    intro h m τ x2 hr hm ho h1 e2
    obtain ⟨n, rfl⟩ := il_ex (K := 60) (m := m) (by omega)
    refine b_ge e2 i5 (by omega) (by omega) (fun q => by omega) (fun _ => ?_)
    refine ⟨trivial, c_putThere e1 e2 hs (by omega) (by omega) ?_⟩
    refine ⟨trivial, ih (h + 1) _ _ _ (by omega) (by omega) (off_uI ho (by simp)) ?_ (il_inc e2)⟩
    intro s' h' hh
    by_cases q : s' * 5 + h' = s * 5 + h
    · rw [q, uI_at, if_pos ⟨by omega, by omega⟩]; exact im2
    · rw [uI_ne _ _ _ _ _ _ q, h1 s' h' hh]
      by_cases q2 : s' = s ∧ h' < h
      · rw [if_pos q2, if_pos ⟨q2.1, by omega⟩]
      · rw [if_neg q2, if_neg (fun z => q2 ⟨z.1, by have := z.2; have := z.1; omega⟩)]
theorem c_emptySlot {x1 : Int32} {s m : Nat} (e1 : x1 = nI s) (hs : s < 60) (hm : 700 ≤ m) (hQ : ∀ τ, off [(3, k, 6)] σ τ → (∀ s' h', h' < 5 → τ.1 3 k 6 (s' * 5 + h') = if s' = s then -2 else σ.1 3 k 6 (s' * 5 + h')) → Q none τ) :
    wp N m (e + 1, 0) TX3_emptySlot 0 [some (.inr (.inr (3, k, 0))), some (.inl x1), none] [] σ Q := by
  refine adv 2 600 (by omega) (fun n hn => ?_)
  exact es_loop e1 hs hQ 5 0 n σ _ (by omega) (by omega) (off_rf _ _) (fun s' h' hh => by rw [if_neg (by omega)]) oi_0
set_option maxRecDepth 100000 in
theorem ms_loop {x1 x2 : Int32} {f s : Nat} (e1 : x1 = nI f) (e2 : x2 = nI s) (hf : f < 60) (hs : s < 60) (hQ : ∀ τ, off [(3, k, 6)] σ τ → (∀ s' h', h' < 5 → τ.1 3 k 6 (s' * 5 + h') = if s' = s then σ.1 3 k 6 (f * 5 + h') else σ.1 3 k 6 (s' * 5 + h')) → Q none τ) :
    ∀ (r h m : Nat) (τ : ST) (x3 : Int32), h + r = 5 → 200 * r + 200 ≤ m → off [(3, k, 6)] σ τ → (∀ s' h', h' < 5 → τ.1 3 k 6 (s' * 5 + h') = if s' = s ∧ h' < h then σ.1 3 k 6 (f * 5 + h') else σ.1 3 k 6 (s' * 5 + h')) → x3 = nI h →
      wp N m (e + 1, 0) TX3_moveSlot 2 [some (.inr (.inr (3, k, 0))), some (.inl x1), some (.inl x2), some (.inl x3)] [] τ Q := by
  intro r
  induction r with
  | zero =>
    intro h m τ x3 hr hm ho h1 e3
    obtain ⟨n, rfl⟩ := il_ex (K := 10) (m := m) (by omega)
    obtain rfl : h = 5 := by omega
    refine b_ge e3 i5 (by omega) (by omega) (fun _ => ?_) (fun q => by omega)
    refine hQ τ ho (fun s' h' hh => ?_)
    rw [h1 s' h' hh]
    by_cases q : s' = s
    · rw [if_pos ⟨q, hh⟩, if_pos q]
    · rw [if_neg (fun z => q z.1), if_neg q]
  | succ r ih =>
    intro h m τ x3 hr hm ho h1 e3
    obtain ⟨n, rfl⟩ := il_ex (K := 100) (m := m) (by omega)
    refine b_ge e3 i5 (by omega) (by omega) (fun q => by omega) (fun _ => ?_)
    refine ⟨trivial, c_thereOf e1 e3 hf (by omega) (by omega) ?_⟩
    refine ⟨trivial, c_putThere e2 e3 hs (by omega) (by omega) ?_⟩
    refine ⟨trivial, ih (h + 1) _ _ _ (by omega) (by omega) (off_uI ho (by simp)) ?_ (il_inc e3)⟩
    have hv : τ.1 3 k 6 (f * 5 + h) = σ.1 3 k 6 (f * 5 + h) := by rw [h1 f h (by omega), if_neg (by omega)]
    intro s' h' hh
    by_cases q : s' * 5 + h' = s * 5 + h
    · rw [q, uI_at, if_pos ⟨by omega, by omega⟩, show h' = h by omega]
      exact hv
    · rw [uI_ne _ _ _ _ _ _ q, h1 s' h' hh]
      by_cases q2 : s' = s ∧ h' < h
      · rw [if_pos q2, if_pos ⟨q2.1, by omega⟩]
      · rw [if_neg q2, if_neg (fun z => q2 ⟨z.1, by have := z.2; have := z.1; omega⟩)]
theorem c_moveSlot {x1 x2 : Int32} {f s m : Nat} (e1 : x1 = nI f) (e2 : x2 = nI s) (hf : f < 60) (hs : s < 60) (hm : 1300 ≤ m) (hQ : ∀ τ, off [(3, k, 6)] σ τ → (∀ s' h', h' < 5 → τ.1 3 k 6 (s' * 5 + h') = if s' = s then σ.1 3 k 6 (f * 5 + h') else σ.1 3 k 6 (s' * 5 + h')) → Q none τ) :
    wp N m (e + 1, 0) TX3_moveSlot 0 [some (.inr (.inr (3, k, 0))), some (.inl x1), some (.inl x2), none] [] σ Q := by
  refine adv 2 1200 (by omega) (fun n hn => ?_)
  exact ms_loop e1 e2 hf hs hQ 5 0 n σ _ (by omega) (by omega) (off_rf _ _) (fun s' h' hh => by rw [if_neg (by omega)]) oi_0
theorem c_stepOf {x1 : Int32} {j T m : Nat} (e1 : x1 = nI j) (h9 : σ.1 9 0 8 0 = nI T) (hj : j < T) (hT : T ≤ 72) (hm : 40 ≤ m) (hQ : Q (some (.inl (σ.1 9 0 7 j))) σ) : wp N m (e, 0) TX9_stepOf 0 [some (.inr (.inr (9, 0, 0))), some (.inl x1)] [] σ Q := by
  obtain ⟨n, rfl⟩ := il_ex hm
  refine b_lt e1 z0 (by omega) (by omega) (fun q => by omega) (fun _ => ?_)
  refine b_ge e1 h9 (by omega) (by omega) (fun q => by omega) (fun _ => ?_)
  refine ⟨il_in e1 (by omega) (by omega), trivial, Or.inl rfl, ?_⟩
  rw [← il_cl e1 (by omega)] at hQ
  exact hQ
theorem c_addJoined {x1 x2 : Int32} {h j m : Nat} (e1 : x1 = nI h) (hh : h < 5) (hj : σ.1 3 k 2 0 = nI j) (hj5 : j < 5) (hm : 80 ≤ m)
    (hQ : Q none (uI (uI (uI (uI σ 3 k 3 j x1) 3 k 4 h (nI j)) 3 k 5 h x2) 3 k 2 0 (nI (j + 1)))) : wp N m (e, 0) TX3_addJoined 0 [some (.inr (.inr (3, k, 0))), some (.inl x1), some (.inl x2)] [] σ Q := by
  obtain ⟨n, rfl⟩ := il_ex hm
  refine b_lt e1 z0 (by omega) (by omega) (fun q => by omega) (fun _ => ?_)
  refine b_ge e1 i5 (by omega) (by omega) (fun q => by omega) (fun _ => ?_)
  refine b_lt hj z0 (by omega) (by omega) (fun q => by omega) (fun _ => ?_)
  refine b_ge hj i5 (by omega) (by omega) (fun q => by omega) (fun _ => ?_)
  refine ⟨il_in hj (by omega) (by omega), ?_⟩
  refine ⟨il_in e1 (by omega) (by omega), ?_⟩
  refine ⟨il_in e1 (by omega) (by omega), ?_⟩
  have t1 : (uI σ 3 k 3 (σ.1 3 k 2 0).toNatClampNeg x1).1 3 k 2 0 = nI j := by rw [uI_nr _ _ _ _ _ _ (by omega)]; exact hj
  have t2 : (uI (uI (uI σ 3 k 3 (σ.1 3 k 2 0).toNatClampNeg x1) 3 k 4 x1.toNatClampNeg ((uI σ 3 k 3 (σ.1 3 k 2 0).toNatClampNeg x1).1 3 k 2 0)) 3 k 5 x1.toNatClampNeg x2).1 3 k 2 0 + Int32.ofInt 1 = nI (j + 1) := by
    rw [uI_nr _ _ _ _ _ _ (by omega), uI_nr _ _ _ _ _ _ (by omega)]
    exact il_inc t1
  have : (uI (uI (uI (uI σ 3 k 3 j x1) 3 k 4 h (nI j)) 3 k 5 h x2) 3 k 2 0 (nI (j + 1))) = (uI (uI (uI (uI σ 3 k 3 (σ.1 3 k 2 0).toNatClampNeg x1) 3 k 4 x1.toNatClampNeg ((uI σ 3 k 3 (σ.1 3 k 2 0).toNatClampNeg x1).1 3 k 2 0)) 3 k 5 x1.toNatClampNeg x2) 3 k 2 0 ((uI (uI (uI σ 3 k 3 (σ.1 3 k 2 0).toNatClampNeg x1) 3 k 4 x1.toNatClampNeg ((uI σ 3 k 3 (σ.1 3 k 2 0).toNatClampNeg x1).1 3 k 2 0)) 3 k 5 x1.toNatClampNeg x2).1 3 k 2 0 + Int32.ofInt 1)) := by
    rw [t2, t1, hj, il_cl rfl (by omega), il_cl e1 (by omega)]
  rw [this] at hQ
  exact hQ
end NT
end
section
theorem i1m : Int32.ofInt 1 = (1 : Int32) := by decide
abbrev vOff (k : Nat) : List RF := [(6, 0, 1), (2, 0, 3), (9, 0, 5), (9, 0, 6), (9, 0, 7), (9, 0, 8), (9, 0, 9), (9, 0, 10), (9, 0, 11), (3, k, 1), (3, k, 2), (3, k, 3), (3, k, 4), (3, k, 5), (3, k, 6)]
section WV
variable {N e k : Nat} {σ : ST} {Q : POST} {S : SPc} {R : RUc} {E : NEc}
set_option maxRecDepth 100000 in
theorem wv_loop {h M : Nat} (hM : 2000 ≤ M) (hh5 : h < 5) (hT60 : wayT S R E h ≤ 60) (hthn : ∀ s, s < E.ns → E.th s h = none) {x2 x3 : Int32} (e2 : x2 = nI h) (h9 : σ.1 9 0 8 0 = nI (wayT S R E h)) (h8 : ∀ j, j < wayT S R E h → σ.1 9 0 7 j = nI (stK S R E h j))
    (K : ∀ (m : Nat) (τ : ST) (x4 x5 x6 : Int32), M ≤ m → off [(3, k, 6)] σ τ → (∀ t, t < wayT S R E h → ∀ g, g < 5 → τ.1 3 k 6 (t * 5 + g) = oI (-2) (thJ S R E h t g)) → wp N m (e + 2, 0) TX9_weave 60 [some (.inr (.inr (9, 0, 0))), some (.inr (.inr (3, k, 0))), some (.inl x2), some (.inl x3), some (.inl x4), some (.inl x5), some (.inl x6)] [] τ Q) :
    ∀ (c m : Nat) (τ : ST) (x4 x5 x6 : Int32), c ≤ wayT S R E h → 300 * c + 100 + M ≤ m → off [(3, k, 6)] σ τ → (∀ t, c ≤ t → t < wayT S R E h → ∀ g, g < 5 → τ.1 3 k 6 (t * 5 + g) = oI (-2) (thJ S R E h t g)) → (∀ s, s < wkS S R E h c → ∀ g, g < 5 → τ.1 3 k 6 (s * 5 + g) = oI (-2) (E.th s g)) →
      x4 = nI (wkI S R E h c) → x5 = nI (wkS S R E h c) → x6 = nI c - 1 →
      wp N m (e + 2, 0) TX9_weave 31 [some (.inr (.inr (9, 0, 0))), some (.inr (.inr (3, k, 0))), some (.inl x2), some (.inl x3), some (.inl x4), some (.inl x5), some (.inl x6)] [] τ Q := by
  intro c
  induction c with
  | zero =>
    intro m τ x4 x5 x6 hc hm ho h1 h2 e4 e5 e6
    obtain ⟨n, rfl⟩ := il_ex (K := 2) (m := m) (by omega)
    refine b_down e6 (by omega) (fun _ => ?_) (fun i q _ => by omega)
    exact K n τ _ _ _ (by omega) ho (fun t ht g hg => h1 t (by omega) ht g hg)
  | succ c ih =>
    intro m τ x4 x5 x6 hc hm ho h1 h2 e4 e5 e6
    obtain ⟨n, rfl⟩ := il_ex (K := 100) (m := m) (by omega)
    have hok := wk_ok (S := S) (R := R) (E := E) (h := h) (k := c) (by omega)
    have hsle := wkS_le (S := S) (R := R) (E := E) (h := h) c
    have q9 : ∀ τ', off [(3, k, 6)] σ τ' → τ'.1 9 0 8 0 = nI (wayT S R E h) := fun τ' ho' => by rw [off_1 ho' (by simp)]; exact h9
    have q8 : ∀ τ', off [(3, k, 6)] σ τ' → τ'.1 9 0 7 c = nI (stK S R E h c) := fun τ' ho' => by rw [off_1 ho' (by simp)]; exact h8 c (by omega)
    refine b_down e6 (by omega) (fun q => by omega) (fun c0 q e6' => ?_)
    obtain rfl : c0 = c := by omega
    clear e6
    have nxt : ∀ (τ' : ST) (y4 y5 : Int32) (n' : Nat), 300 * c0 + 110 + M ≤ n' → off [(3, k, 6)] σ τ' → (∀ s g, g < 5 → s ≠ c0 → τ'.1 3 k 6 (s * 5 + g) = τ.1 3 k 6 (s * 5 + g)) → (∀ g, g < 5 → τ'.1 3 k 6 (c0 * 5 + g) = oI (-2) (thJ S R E h c0 g)) → y4 = nI (wkI S R E h c0) → y5 = nI (wkS S R E h c0) →
        wp N n' (e + 2, 0) TX9_weave 58 [some (.inr (.inr (9, 0, 0))), some (.inr (.inr (3, k, 0))), some (.inl x2), some (.inl x3), some (.inl y4), some (.inl y5), some (.inl x6)] [] τ' Q := by
      intro τ' y4 y5 n' hn' ho' r1 r2 g4 g5
      obtain ⟨n2, rfl⟩ := il_ex (K := 2) (m := n') (by omega)
      refine ⟨trivial, ih _ τ' _ _ _ (by omega) (by omega) ho' ?_ ?_ g4 g5 (il_down e6')⟩
      · intro t ht1 ht2 g hg
        by_cases q : t = c0
        · subst q; exact r2 g hg
        · rw [r1 t g hg q]; exact h1 t (by omega) ht2 g hg
      · intro s hs g hg
        rw [r1 s g hg (by omega)]
        exact h2 s (Nat.lt_of_lt_of_le hs (wkS_mono (by omega))) g hg
    -- behind the row's own move
    have mid : ∀ (τ' : ST) (y5 : Int32) (n' : Nat), 300 * c0 + 200 + M ≤ n' → off [(3, k, 6)] σ τ' → (∀ s g, g < 5 → s ≠ c0 → τ'.1 3 k 6 (s * 5 + g) = τ.1 3 k 6 (s * 5 + g)) → (∀ g, g < 5 → τ'.1 3 k 6 (c0 * 5 + g) = if stK S R E h c0 = 2 then -2 else oI (-2) (E.th (wkS S R E h c0) g)) → y5 = nI (wkS S R E h c0) →
        wp N n' (e + 2, 0) TX9_weave 47 [some (.inr (.inr (9, 0, 0))), some (.inr (.inr (3, k, 0))), some (.inl x2), some (.inl x3), some (.inl x4), some (.inl y5), some (.inl x6)] [] τ' Q := by
      intro τ' y5 n' hn' ho' r1 r2 g5
      obtain ⟨n2, rfl⟩ := il_ex (K := 50) (m := n') (by omega)
      refine ⟨trivial, c_stepOf e6' (q9 τ' ho') (by omega) (by omega) (by omega) ?_⟩
      rw [q8 τ' ho']
      refine b_eq rfl oi_1 (by omega) (by omega) (fun z => ?_) (fun z => ?_)
      · refine nxt τ' _ _ _ (by omega) ho' r1 ?_ (by rw [e4, wkI_s, if_pos z]) g5
        intro g hg
        have z2 : ¬ stK S R E h c0 = 2 := by omega
        have zs : wkS S R E h c0 < E.ns := by omega
        rw [r2 g hg, if_neg z2]
        unfold thJ
        by_cases hgh : g = h
        · rw [if_pos hgh, if_pos z, hgh, hthn _ zs]
        · rw [if_neg hgh, if_neg z2]
      · have g4 : x4 + Int32.ofInt (-1) = nI (wkI S R E h c0) := il_dec (by rw [e4, wkI_s, if_neg z])
        refine ⟨trivial, c_putThere e6' e2 (by omega) hh5 (by omega) ?_⟩
        refine nxt _ _ _ _ (by omega) (off_uI ho' (by simp)) ?_ ?_ g4 g5
        · intro s g hg hs
          rw [uI_ne _ _ _ _ _ _ (by omega)]
          exact r1 s g hg hs
        · intro g hg
          unfold thJ
          rw [if_neg z]
          by_cases hgh : g = h
          · rw [if_pos hgh, hgh, uI_at, g4]; rfl
          · rw [if_neg hgh, uI_ne _ _ _ _ _ _ (by omega), r2 g hg]
            by_cases h2' : stK S R E h c0 = 2
            · rw [if_pos h2', if_pos h2']; rfl
            · rw [if_neg h2', if_neg h2']
    refine ⟨trivial, c_stepOf e6' (q9 τ ho) (by omega) (by omega) (by omega) ?_⟩
    rw [q8 τ ho]
    refine b_ne rfl i2 (by omega) (by omega) (fun z => ?_) (fun z => ?_)
    · have g5 : x5 + Int32.ofInt (-1) = nI (wkS S R E h c0) := il_dec (by rw [e5, wkS_s, if_neg z])
      have hlt : wkS S R E h c0 < wkS S R E h (c0 + 1) := by rw [wkS_s, if_neg z]; omega
      refine ⟨trivial, c_moveSlot g5 e6' (by omega) (by omega) (by omega) ?_⟩
      intro τ' ho' r'
      refine mid τ' _ _ (by omega) (off_tr ho ho') (fun s g hg hs => by rw [r' s g hg, if_neg hs]) (fun g hg => ?_) g5
      rw [r' c0 g hg, if_pos rfl, if_neg z]
      exact h2 _ hlt g hg
    · refine ⟨trivial, c_emptySlot e6' (by omega) (by omega) ?_⟩
      intro τ' ho' r'
      refine ⟨trivial, mid τ' _ _ (by omega) (off_tr ho ho') (fun s g hg hs => by rw [r' s g hg, if_neg hs]) (fun g hg => ?_) (by rw [e5, wkS_s, if_pos z])⟩
      rw [r' c0 g hg, if_pos rfl, if_pos z]
theorem off_app {L L' : List RF} {σ τ : ST} (h : off L σ τ) (hs : ∀ r ∈ L, r ∈ L') : off L' σ τ := off_mono h hs
set_option maxRecDepth 100000 in
/-- Weaver.weave: a HEARING is joined -/
theorem c_weave (hS : vSP S) (hR : vRU S R) (hE : vNE S E) (cS : cSP σ 0 S) (cR : cRU σ 0 S R) (cE : cNE σ k E) (cF : cFA σ S) {h m : Nat} (hh : h < S.nh) (hn : plc E h = none) {x2 : Int32} (e2 : x2 = nI h) (hm : 2100000 ≤ m)
    (hQ : ∀ τ, off (vOff k) σ τ → cFA τ S → cNE τ k (jnE S R E h) → Q (some (.inl (nI (dwS S R E h (S.cn h) E.ns).1))) τ) :
    wp N m (e + 5, 0) TX9_weave 0 [some (.inr (.inr (9, 0, 0))), some (.inr (.inr (3, k, 0))), some (.inl x2), none, none, none, none] [] σ Q := by
  have hns := vNE_ns hS hE
  have hcn := hS.2.1 h hh
  have hnh := hS.1
  have hvj := vNE_jn (R := R) hS hR hE hh hn
  have hT60 : wayT S R E h ≤ 60 := vNE_ns hS hvj
  have hnj : E.nj + 1 ≤ S.nh := hvj.1
  have hthn : ∀ s, s < E.ns → E.th s h = none := by
    intro s hs
    cases q : E.th s h with
    | none => rfl
    | some i => have := (hE.2.2.2.2.1 s h i hs q).2.2; rw [hn] at this; cases this
  obtain ⟨n, rfl⟩ := il_ex (K := 100) (m := m) (by omega)
  refine b_lt e2 z0 (by omega) (by omega) (fun q => by omega) (fun _ => ?_)
  refine b_ge e2 cS.1 (by omega) (by omega) (fun q => by omega) (fun _ => ?_)
  refine ⟨trivial, c_holds e2 (by omega) (by omega) ?_⟩
  rw [cE.2.2.2.1 h (by omega), hn, if_pos (show oI (-2) none < 0 from ne2)]
  refine b_eq (a := 0) rfl z0 (by omega) (by omega) (fun _ => ?_) (fun q => by omega)
  refine ⟨trivial, c_plan hS hR hE cS cR cE cF hh e2 (by omega) ?_⟩
  intro τ1 ho1 hf1 h9 h8
  have cS1 : cSP τ1 0 S := cSP_off ho1 (by decide) cS
  have cE1 : cNE τ1 k E := cNE_off ho1 (fun r hr q => absurd q.1 ((show ∀ r ∈ pOff, r.1 ≠ 3 by decide) r hr)) cE
  refine ⟨trivial, c_countOf e2 (by omega) (by omega) ?_⟩
  rw [cS1.2.2.1 h hh]
  refine adv 9 2090000 (by omega) (fun n1 hn1 => ?_)
  have he := wk_end (S := S) (R := R) (E := E) (h := h)
  refine wv_loop (M := 10000) (by omega) (by omega) hT60 hthn e2 h9 h8 ?_ (wayT S R E h) n1 τ1 _ _ _ (Nat.le_refl _) (by omega) (off_rf _ _) (fun t h1 h2 => by omega) ?_ ?_ ?_ (by rw [i1m]; exact congrArg (fun z => z - 1) h9)
  · intro m2 τ2 x4 x5 x6 hm2 ho2 ht
    obtain ⟨n2, rfl⟩ := il_ex (K := 20) (m := m2) (by omega)
    have h92 : τ2.1 9 0 8 0 = nI (wayT S R E h) := by rw [off_1 ho2 (by simp)]; exact h9
    have cE2 : ∀ j, j ≠ 6 → ∀ z, τ2.1 3 k j z = τ1.1 3 k j z := fun j hj z => off_1 ho2 (by simp; omega) z
    refine ⟨trivial, c_addJoined (σ := uI τ2 3 k 1 0 (τ2.1 9 0 8 0)) (j := E.nj) e2 (by omega) ?_ (by omega) (by omega) ?_⟩
    · rw [uI_nr _ _ _ _ _ _ (by omega), cE2 2 (by omega)]; exact cE1.2.1
    · refine ⟨Or.inl rfl, ?_⟩
      refine hQ _ ?_ ?_ ?_
      · refine off_uI (off_uI (off_uI (off_uI (off_uI (off_tr (off_mono ho1 (by intro r hr; simp only [List.mem_cons, List.not_mem_nil, or_false] at hr ⊢; rcases hr with rfl | rfl | rfl | rfl | rfl | rfl | rfl | rfl | rfl <;> simp)) (off_mono ho2 (by simp))) (by simp)) (by simp)) (by simp)) (by simp)) (by simp)
      · intro w v hw hv
        rw [uI_nr _ _ _ _ _ _ (by omega), uI_nr _ _ _ _ _ _ (by omega), uI_nr _ _ _ _ _ _ (by omega), uI_nr _ _ _ _ _ _ (by omega), uI_nr _ _ _ _ _ _ (by omega), off_1 ho2 (by simp)]
        exact hf1 w v hw hv
      · refine ⟨?_, ?_, ?_, ?_, ?_, ?_⟩
        · rw [uI_nr _ _ _ _ _ _ (by omega), uI_nr _ _ _ _ _ _ (by omega), uI_nr _ _ _ _ _ _ (by omega), uI_nr _ _ _ _ _ _ (by omega), uI_at]
          exact h92
        · rw [uI_at]; rfl
        · intro p hp
          have hp : p < E.nj + 1 := hp
          rw [uI_nr _ _ _ _ _ _ (by omega), uI_nr _ _ _ _ _ _ (by omega), uI_nr _ _ _ _ _ _ (by omega)]
          show _ = nI (if p = E.nj then h else E.od p)
          by_cases q : p = E.nj
          · rw [if_pos q, q, uI_at, e2]
          · rw [if_neg q, uI_ne _ _ _ _ _ _ q, uI_nr _ _ _ _ _ _ (by omega), cE2 3 (by omega)]
            exact cE1.2.2.1 p (by omega)
        · intro g hg
          rw [uI_nr _ _ _ _ _ _ (by omega), uI_nr _ _ _ _ _ _ (by omega), plc_jn S R hn]
          by_cases q : g = h
          · rw [if_pos q, q, uI_at]; rfl
          · rw [if_neg q, uI_ne _ _ _ _ _ _ q, uI_nr _ _ _ _ _ _ (by omega), uI_nr _ _ _ _ _ _ (by omega), cE2 4 (by omega)]
            exact cE1.2.2.2.1 g hg
        · intro p hp
          have hp : p < E.nj + 1 := hp
          rw [uI_nr _ _ _ _ _ _ (by omega)]
          show (uI _ 3 k 5 h _).1 3 k 5 (if p = E.nj then h else E.od p) = nI (if p = E.nj then (dwS S R E h (S.cn h) E.ns).1 else E.ct p)
          by_cases q : p = E.nj
          · rw [if_pos q, if_pos q, uI_at]
          · rw [if_neg q, if_neg q, uI_ne _ _ _ _ _ _ (plc_none hn p (by omega)), uI_nr _ _ _ _ _ _ (by omega), uI_nr _ _ _ _ _ _ (by omega), uI_nr _ _ _ _ _ _ (by omega), cE2 5 (by omega)]
            exact cE1.2.2.2.2.1 p (by omega)
        · intro s hs g hg
          rw [uI_nr _ _ _ _ _ _ (by omega), uI_nr _ _ _ _ _ _ (by omega), uI_nr _ _ _ _ _ _ (by omega), uI_nr _ _ _ _ _ _ (by omega), uI_nr _ _ _ _ _ _ (by omega)]
          exact ht s hs g hg
  · intro s hs g hg
    have : wkS S R E h (wayT S R E h) = E.ns := by show (wkp _ _).2 = _; rw [he]
    rw [this] at hs
    exact cE1.2.2.2.2.2 s hs g hg
  · show _ = nI (wkp _ _).1; rw [he]
  · show _ = nI (wkp _ _).2; rw [he]; exact cE1.1
end WV
end
section
/-! a HEARING is joined to a row of the reference -/
section JN
variable {N e jv : Nat} {σ : ST} {Q : POST} {S : SPc} {R : RUc} {E : NEc}
abbrev jnV (jv : Nat) (x2 x3 x4 x5 x6 x7 : Int32) (o8 : Option AV) : List (Option AV) := [some (.inr (.inr (11, 0, 0))), some (.inr (.inr (11, 0, jv))), some (.inl x2), some (.inl x3), some (.inl x4), some (.inl x5), some (.inl x6), some (.inl x7), o8]
set_option maxRecDepth 100000 in
theorem jn_in (a : arO N 11 jv = some (1, 322)) (hj : jv ≠ 36) (cE : mNE (σ.1 11 0 jv) E) {s to p M : Nat} (hM : 200 ≤ M) (hs : p ≠ 2 → s < E.ns) (hns : E.ns ≤ 60) (hto : to < 60) (hp : p ≤ 2) {x2 x3 x4 x5 x6 x7 : Int32} (e5 : x5 = nI s) (e6 : x6 = nI to) (e7 : x7 = nI p)
    (K : ∀ (m : Nat) (τ : ST) (x8 : Int32), M ≤ m → off [(11, 0, 36)] σ τ → (∀ t z, z < 5 → τ.1 11 0 36 (5 * t + z) = if t = to then (if p = 2 then -1 else oI (-1) (E.th s z)) else σ.1 11 0 36 (5 * t + z)) → wp N m (e + 1, 0) TX11_joins 43 (jnV jv x2 x3 x4 x5 x6 x7 (some (.inl x8))) [] τ Q) :
    ∀ (r g m : Nat) (τ : ST) (x8 : Int32), g + r = 5 → 100 * r + 20 + M ≤ m → off [(11, 0, 36)] σ τ → (∀ t z, z < 5 → τ.1 11 0 36 (5 * t + z) = if t = to ∧ z < g then (if p = 2 then -1 else oI (-1) (E.th s z)) else σ.1 11 0 36 (5 * t + z)) → x8 = nI g →
      wp N m (e + 1, 0) TX11_joins 21 (jnV jv x2 x3 x4 x5 x6 x7 (some (.inl x8))) [] τ Q := by
  intro r
  induction r with
  | zero =>
    intro g m τ x8 hr hm ho h1 e8
    obtain ⟨n, rfl⟩ := il_ex (K := 3) (m := m) (by omega)
    obtain rfl : g = 5 := by omega
    refine b_ge e8 i5 (by omega) (by omega) (fun _ => ?_) (fun q => by omega)
    refine K n τ x8 (by omega) ho (fun t z hz => ?_)
    rw [h1 t z hz]
    by_cases q : t = to
    · rw [if_pos ⟨q, hz⟩, if_pos q]
    · rw [if_neg (fun y => q y.1), if_neg q]
  | succ r ih =>
    intro g m τ x8 hr hm ho h1 e8
    obtain ⟨n, rfl⟩ := il_ex (K := 60) (m := m) (by omega)
    have g1 : Int32.ofInt 5 * x6 + x8 = nI (5 * to + g) := by rw [e6, e8, i5, pk_mul, nI_add]
    have fin : ∀ (y : Int32) (n' : Nat), 100 * r + 30 + M ≤ n' → (y = if p = 2 then -1 else oI (-1) (E.th s g)) → wp N n' (e + 1, 0) TX11_joins 40 (jnV jv x2 x3 x4 x5 x6 x7 (some (.inl x8))) [.inl y, .inl (Int32.ofInt 5 * x6 + x8), .inr (.inr (11, 0, 36))] τ Q := by
      intro y n' hn' hy
      obtain ⟨n2, rfl⟩ := il_ex (K := 10) (m := n') (by omega)
      refine ⟨il_in g1 (by omega) (by omega), trivial, ih (g + 1) _ _ _ (by omega) (by omega) (off_uI ho (by simp)) ?_ (il_inc e8)⟩
      intro t z hz
      rw [il_cl g1 (by omega)]
      by_cases q : 5 * t + z = 5 * to + g
      · rw [q, uI_at, if_pos (show t = to ∧ z < g + 1 from ⟨by omega, by omega⟩), show z = g by omega]; exact hy
      · rw [uI_ne _ _ _ _ _ _ q, h1 t z hz]
        by_cases q2 : t = to ∧ z < g
        · rw [if_pos q2, if_pos (show t = to ∧ z < g + 1 from ⟨q2.1, by omega⟩)]
        · rw [if_neg q2, if_neg (show ¬ (t = to ∧ z < g + 1) from fun y => q2 ⟨y.1, by have := y.2; have := y.1; omega⟩)]
    refine b_ge e8 i5 (by omega) (by omega) (fun q => by omega) (fun _ => ?_)
    refine b_ne e7 i2 (by omega) (by omega) (fun z => ?_) (fun z => ?_)
    · have hs' := hs z
      refine ⟨trivial, c_there a e5 e8 (by omega) (by omega) (by omega) ?_⟩
      have cE' : mNE (τ.1 11 0 jv) E := mNE_off ho (by simp; omega) cE
      rw [cE'.2.2.2 s hs' g (by omega)]
      exact fin _ _ (by omega) (by rw [if_neg z])
    · exact ⟨trivial, fin _ _ (by omega) (by rw [if_pos z, im1])⟩
theorem uI_if (σ : ST) (c k j i : Nat) (x : Int32) (i' : Nat) : (uI σ c k j i x).1 c k j i' = if i' = i then x else σ.1 c k j i' := by rw [uI_row]; rfl
set_option maxRecDepth 100000 in
theorem jn_out (a : arO N 11 jv = some (1, 322)) (hj : jv ≠ 36) (cE : mNE (σ.1 11 0 jv) E) {h M : Nat} (hM : 1000 ≤ M) (hh5 : h < 5) (hns : E.ns ≤ 60) (hcn : S.cn h ≤ 12) (hT60 : wayT S R E h ≤ 60) (hthn : ∀ s, s < E.ns → E.th s h = none) (ht : ∀ i' s', i' ≤ S.cn h → s' ≤ E.ns → tbm S R E h (σ.1 11 0 34) (σ.1 11 0 35) i' s') {x2 x3 : Int32} (e2 : x2 = nI h)
    (K : ∀ (m : Nat) (τ : ST) (x4 x5 x6 x7 : Int32) (o8 : Option AV), M ≤ m → off [(11, 0, 36)] σ τ → (∀ t z, t < wayT S R E h → z < 5 → τ.1 11 0 36 (5 * t + z) = oI (-1) (thJ S R E h t z)) → x6 = nI (wayT S R E h) → wp N m (e + 1, 0) TX11_joins 86 (jnV jv x2 x3 x4 x5 x6 x7 o8) [] τ Q) :
    ∀ (r k m : Nat) (τ : ST) (x4 x5 x6 x7 : Int32) (o8 : Option AV), k + r = wayT S R E h → 1000 * r + 100 + M ≤ m → off [(11, 0, 36)] σ τ → (∀ t z, t < k → z < 5 → τ.1 11 0 36 (5 * t + z) = oI (-1) (thJ S R E h t z)) → x4 = nI (wkI S R E h k) → x5 = nI (wkS S R E h k) → x6 = nI k → (x7 = if k = wayT S R E h then -1 else nI (stK S R E h k)) →
      wp N m (e + 1, 0) TX11_joins 16 (jnV jv x2 x3 x4 x5 x6 x7 o8) [] τ Q := by
  intro r
  induction r with
  | zero =>
    intro k m τ x4 x5 x6 x7 o8 hr hm ho h1 e4 e5 e6 e7
    obtain ⟨n, rfl⟩ := il_ex (K := 3) (m := m) (by omega)
    have hk : k = wayT S R E h := by omega
    rw [if_pos hk] at e7
    refine ⟨fun _ => ?_, fun q => absurd (show x7 = Int32.ofInt (-1) by rw [e7, im1]) q⟩
    exact K n τ x4 x5 x6 x7 o8 (by omega) ho (fun t z ht' hz => h1 t z (by omega) hz) (by rw [e6, hk])
  | succ r ih =>
    intro k m τ x4 x5 x6 x7 o8 hr hm ho h1 e4 e5 e6 e7
    obtain ⟨n, rfl⟩ := il_ex (K := 5) (m := m) (by omega)
    have hk : k < wayT S R E h := by omega
    rw [if_neg (by omega)] at e7
    have hok := wk_ok (S := S) (R := R) (E := E) (h := h) (k := k) hk
    have hle := wk_le (S := S) (R := R) (E := E) (h := h) (k := k) (by omega)
    have hle1 := wk_le (S := S) (R := R) (E := E) (h := h) (k := k + 1) (by omega)
    have hle2 : wkI S R E h (k + 1) ≤ S.cn h ∧ wkS S R E h (k + 1) ≤ E.ns := hle1
    have hp2 : stK S R E h k ≤ 2 := by omega
    have hI := wkI_s (S := S) (R := R) (E := E) (h := h) k
    have hSs := wkS_s (S := S) (R := R) (E := E) (h := h) k
    refine ⟨fun q => absurd (show nI (stK S R E h k) = (-1 : Int32) by rw [← e7, ← im1]; exact q) (nI_m1 (by omega)), fun _ => ?_⟩
    have cE' : mNE (τ.1 11 0 jv) E := mNE_off ho (by simp; omega) cE
    refine jn_in a hj cE' (M := 1000 * r + 400 + M) (by omega) (fun z => by omega) hns (by omega) hp2 e5 e6 e7 ?_ 5 0 n τ _ (by omega) (by omega) (off_rf _ _) (fun t z hz => by rw [if_neg (by omega)]) oi_0
    intro m1 τ1 x8 hm1 ho1 r1
    obtain ⟨n1, rfl⟩ := il_ex (K := 100) (m := m1) (by omega)
    have g1 : Int32.ofInt 5 * x6 + x2 = nI (5 * k + h) := by rw [e6, e2, i5, pk_mul, nI_add]
    have body : ∀ (y : Int32) (n' : Nat), 1000 * r + 200 + M ≤ n' → (y = if stK S R E h k = 1 then -1 else nI (wkI S R E h k)) → wp N n' (e + 1, 0) TX11_joins 56 (jnV jv x2 x3 x4 x5 x6 x7 (some (.inl x8))) [.inl y, .inl (Int32.ofInt 5 * x6 + x2), .inr (.inr (11, 0, 36))] τ1 Q := by
      intro y n' hn' hy
      obtain ⟨n2, rfl⟩ := il_ex (K := 60) (m := n') (by omega)
      refine ⟨il_in g1 (by omega) (by omega), ?_⟩
      have ho2 : off [(11, 0, 36)] σ (uI τ1 11 0 36 (Int32.ofInt 5 * x6 + x2).toNatClampNeg y) := off_uI (off_tr ho ho1) (by simp)
      have rows : ∀ t z, t < k + 1 → z < 5 → (uI τ1 11 0 36 (Int32.ofInt 5 * x6 + x2).toNatClampNeg y).1 11 0 36 (5 * t + z) = oI (-1) (thJ S R E h t z) := by
        intro t z ht' hz
        rw [il_cl g1 (by omega), uI_if]
        by_cases q : 5 * t + z = 5 * k + h
        · have q1 : t = k := by omega
          have q2 : z = h := by omega
          rw [if_pos q, q1, q2, hy]
          unfold thJ
          rw [if_pos rfl]
          by_cases q3 : stK S R E h k = 1
          · rw [if_pos q3, if_pos q3]; rfl
          · rw [if_neg q3, if_neg q3]; rfl
        · rw [if_neg q, r1 t z hz]
          by_cases q1 : t = k
          · have q2 : z ≠ h := by omega
            rw [if_pos q1, q1]
            unfold thJ
            rw [if_neg q2]
            by_cases q3 : stK S R E h k = 2
            · rw [if_pos q3, if_pos q3]; rfl
            · rw [if_neg q3, if_neg q3]
          · rw [if_neg q1]
            exact h1 t z (by omega) hz
      generalize uI τ1 11 0 36 (Int32.ofInt 5 * x6 + x2).toNatClampNeg y = τ2 at ho2 rows ⊢
      have tail : ∀ (y4 w : Int32) (n3 : Nat), 1000 * r + 120 + M ≤ n3 → y4 = nI (wkI S R E h (k + 1)) → x5 + w = nI (wkS S R E h (k + 1)) → wp N n3 (e + 1, 0) TX11_joins 73 (jnV jv x2 x3 y4 x5 x6 x7 (some (.inl x8))) [.inl w, .inl x5] τ2 Q := by
        intro y4 w n3 hn3 g4 g5
        obtain ⟨n4, rfl⟩ := il_ex (K := 15) (m := n3) (by omega)
        have gi : (Int8.ofInt 61).toInt32 * y4 + (x5 + w) = nI (61 * wkI S R E h (k + 1) + wkS S R E h (k + 1)) := by rw [g4, g5, i61, pk_mul, nI_add]
        refine ⟨il_in gi (by omega) (by omega), trivial, ih (k + 1) _ τ2 _ _ _ _ _ (by omega) (by omega) ho2 rows g4 g5 (il_inc e6) ?_⟩
        rw [il_cl gi (by omega), off_1 ho2 (by simp)]
        have := (ht (wkI S R E h (k + 1)) (wkS S R E h (k + 1)) hle1.1 hle1.2).2
        rw [show σ.1 11 0 (34 + 1) (61 * wkI S R E h (k + 1) + wkS S R E h (k + 1)) = σ.1 11 0 35 (61 * wkI S R E h (k + 1) + wkS S R E h (k + 1)) from rfl, this]
        by_cases q : k + 1 = wayT S R E h
        · have he := wk_end (S := S) (R := R) (E := E) (h := h)
          rw [← q] at he
          rw [if_pos q, if_pos ⟨by show (wkp _ _).1 = _; rw [he], by show (wkp _ _).2 = _; rw [he]⟩]
        · rw [if_neg q, if_neg (wk_ne (by omega))]
          rfl
      have mid : ∀ (w : Int32) (n3 : Nat), 1000 * r + 150 + M ≤ n3 → x4 + w = nI (wkI S R E h (k + 1)) → wp N n3 (e + 1, 0) TX11_joins 64 (jnV jv x2 x3 x4 x5 x6 x7 (some (.inl x8))) [.inl w, .inl x4] τ2 Q := by
        intro w n3 hn3 g4
        obtain ⟨n4, rfl⟩ := il_ex (K := 15) (m := n3) (by omega)
        refine b_ne e7 i2 (by omega) (by omega) (fun z => ?_) (fun z => ?_)
        · refine adv 1 (1000 * r + 120 + M) (by omega) (fun n5 hn5 => ?_)
          exact tail _ _ n5 hn5 g4 (by rw [il_inc e5, hSs, if_neg z])
        · exact ⟨trivial, tail _ _ _ (by omega) g4 (by rw [e5, oi_0, nI_add, hSs, if_pos z]; rfl)⟩
      refine b_ne e7 oi_1 (by omega) (by omega) (fun z => ?_) (fun z => ?_)
      · refine adv 1 (1000 * r + 150 + M) (by omega) (fun n5 hn5 => ?_)
        exact mid _ n5 hn5 (by rw [il_inc e4, hI, if_neg z])
      · exact ⟨trivial, mid _ _ (by omega) (by rw [e4, oi_0, nI_add, hI, if_pos z]; rfl)⟩
    refine b_ne e7 oi_1 (by omega) (by omega) (fun z => ?_) (fun z => ?_)
    · refine adv 1 (1000 * r + 200 + M) (by omega) (fun n5 hn5 => ?_)
      exact body _ n5 hn5 (by rw [if_neg z]; exact e4)
    · exact ⟨trivial, body _ _ (by omega) (by rw [if_pos z, im1])⟩
theorem i10 : (Int8.ofInt 10).toInt32 = nI 10 := by decide
theorem i11 : (Int8.ofInt 11).toInt32 = nI 11 := by decide
theorem i16 : (Int8.ofInt 16).toInt32 = nI 16 := by decide
set_option maxRecDepth 100000 in
theorem jn_cp (a : arO N 11 jv = some (1, 322)) (hj : jv ≠ 36) {T M : Nat} (hT : T ≤ 60) {x2 x3 x4 x5 x6 : Int32} {o8 : Option AV} (e6 : x6 = nI T)
    (K : ∀ (m : Nat) (τ : ST) (x7 : Int32), M ≤ m → off [(11, 0, jv)] σ τ → (∀ z, z < 22 → τ.1 11 0 jv z = σ.1 11 0 jv z) → (∀ z, z < 5 * T → τ.1 11 0 jv (22 + z) = σ.1 11 0 36 z) → wp N m (e + 1, 0) TX11_joins 104 (jnV jv x2 x3 x4 x5 x6 x7 o8) [] τ Q) :
    ∀ (r c m : Nat) (τ : ST) (x7 : Int32), c + r = 5 * T → 30 * r + 20 + M ≤ m → off [(11, 0, jv)] σ τ → (∀ z, z < 22 → τ.1 11 0 jv z = σ.1 11 0 jv z) → (∀ z, z < c → τ.1 11 0 jv (22 + z) = σ.1 11 0 36 z) → x7 = nI c →
      wp N m (e + 1, 0) TX11_joins 88 (jnV jv x2 x3 x4 x5 x6 x7 o8) [] τ Q := by
  have g5 : Int32.ofInt 5 * x6 = nI (5 * T) := by rw [e6, i5, pk_mul]
  intro r
  induction r with
  | zero =>
    intro c m τ x7 hr hm ho h1 h2 e7
    obtain ⟨n, rfl⟩ := il_ex (K := 5) (m := m) (by omega)
    refine b_ge e7 g5 (by omega) (by omega) (fun _ => ?_) (fun q => by omega)
    exact K n τ x7 (by omega) ho h1 (fun z hz => h2 z (by omega))
  | succ r ih =>
    intro c m τ x7 hr hm ho h1 h2 e7
    obtain ⟨n, rfl⟩ := il_ex (K := 20) (m := m) (by omega)
    have g7 : (Int8.ofInt 22).toInt32 + x7 = nI (22 + c) := by rw [e7, i22, nI_add]
    refine b_ge e7 g5 (by omega) (by omega) (fun q => by omega) (fun _ => ?_)
    refine ⟨il_in e7 (by omega) (by omega), ?_⟩
    refine arr_of a ⟨il_in g7 (by omega) (by omega), trivial, ih (c + 1) _ _ _ (by omega) (by omega) (off_uI ho (by simp)) ?_ ?_ (il_inc e7)⟩
    · intro z hz
      rw [il_cl g7 (by omega), uI_if, if_neg (by omega)]
      exact h1 z hz
    · intro z hz
      rw [il_cl g7 (by omega), uI_if]
      by_cases q : z = c
      · rw [if_pos (by omega), il_cl e7 (by omega), q]
        exact off_1 ho (by simp; omega) c
      · rw [if_neg (by omega)]
        exact h2 z (by omega)
abbrev jOff (jv : Nat) : List RF := [(11, 0, 32), (11, 0, 33), (11, 0, 31), (11, 0, 34), (11, 0, 35), (11, 0, 36), (11, 0, jv)]
set_option maxRecDepth 100000 in
/-- the reference's joins -/
theorem c_joins (a : arO N 11 jv = some (1, 322)) (hj : (11, 0, jv) ∉ wOff) (hj36 : jv ≠ 36) (hS : vSP S) (hR : vRU S R) (hE : vNE S E) (cS : mSP σ S) (cR : mRU (σ.1 11 0 jv) S R) (cE : mNE (σ.1 11 0 jv) E) {h m : Nat} (hh : h < S.nh) (hn : plc E h = none) {x2 : Int32} (e2 : x2 = nI h) (hm : 2600000 ≤ m)
    (hQ : ∀ τ, off (jOff jv) σ τ → mRU (τ.1 11 0 jv) S R → mNE (τ.1 11 0 jv) (jnE S R E h) → Q (some (.inl (nI (dwS S R E h (S.cn h) E.ns).1))) τ) :
    wp N m (e + 5, 0) TX11_joins 0 [some (.inr (.inr (11, 0, 0))), some (.inr (.inr (11, 0, jv))), some (.inl x2), none, none, none, none, none, none] [] σ Q := by
  have hns := vNE_ns hS hE
  have hcn := hS.2.1 h hh
  have hnh := hS.1
  have hvj := vNE_jn (R := R) hS hR hE hh hn
  have hT60 : wayT S R E h ≤ 60 := vNE_ns hS hvj
  have hnj : E.nj + 1 ≤ S.nh := hvj.1
  have hthn : ∀ s, s < E.ns → E.th s h = none := by
    intro s hs
    cases q : E.th s h with
    | none => rfl
    | some i => have := (hE.2.2.2.2.1 s h i hs q).2.2; rw [hn] at this; cases this
  have hTp : 0 < wayT S R E h := by
    apply Nat.pos_of_ne_zero
    intro q
    have he := wk_end (S := S) (R := R) (E := E) (h := h)
    rw [q] at he
    have : S.cn h = 0 := by have := congrArg Prod.fst he; exact this.symm
    omega
  obtain ⟨n, rfl⟩ := il_ex (K := 100) (m := m) (by omega)
  refine ⟨trivial, c_ways a hj hS hR hE cS cR cE hh e2 (by omega) ?_⟩
  intro τ1 ho1 ht
  refine ⟨il_in oi_0 (by omega) (by omega), ?_⟩
  refine adv 1 2590000 (by omega) (fun n1 hn1 => ?_)
  have e7 : τ1.1 11 0 35 (Int32.ofInt 0).toNatClampNeg = if 0 = wayT S R E h then -1 else nI (stK S R E h 0) := by
    rw [il_cl oi_0 (by omega), if_neg (by omega)]
    have := (ht 0 0 (by omega) (by omega)).2
    rw [if_neg (by omega)] at this
    exact this
  refine jn_out (e := e + 4) a hj36 (mNE_off ho1 hj cE) (M := 2500000) (by omega) (by omega) hns (by omega) hT60 hthn ht e2 ?_ (wayT S R E h) 0 n1 τ1 _ _ _ _ _ (by omega) (by omega) (off_rf _ _) (fun t z ht' hz => by omega) oi_0 oi_0 oi_0 e7
  intro m2 τ2 x4 x5 x6 x7 o8 hm2 ho2 rows e6
  refine adv 2 2490000 (by omega) (fun n2 hn2 => ?_)
  refine jn_cp (e := e + 4) a hj36 (M := 1000) hT60 e6 ?_ (5 * wayT S R E h) 0 n2 τ2 _ (by omega) (by omega) (off_rf _ _) (fun z hz => rfl) (fun z hz => by omega) oi_0
  intro m3 τ3 x7' hm3 ho3 l1 l2
  obtain ⟨n3, rfl⟩ := il_ex (K := 100) (m := m3) (by omega)
  have cR2 : mRU (τ2.1 11 0 jv) S R := mRU_off ho2 (by simp; omega) (mRU_off ho1 hj cR)
  have cE2 : mNE (τ2.1 11 0 jv) E := mNE_off ho2 (by simp; omega) (mNE_off ho1 hj cE)
  have v10 : τ3.1 11 0 jv 10 = nI E.nj := by rw [l1 10 (by omega)]; exact cE2.1
  refine arr_of a ⟨il_in i21 (by omega) (by omega), ?_⟩
  rw [il_cl i21 (by omega)]
  have w10 : (uI τ3 11 0 jv 21 x6).1 11 0 jv (Int8.ofInt 10).toInt32.toNatClampNeg = nI E.nj := by rw [il_cl i10 (by omega), uI_if, if_neg (by omega)]; exact v10
  refine arr_of a ⟨il_in i10 (by omega) (by omega), ?_⟩
  have g16 : (Int8.ofInt 16).toInt32 + (uI τ3 11 0 jv 21 x6).1 11 0 jv (Int8.ofInt 10).toInt32.toNatClampNeg = nI (16 + E.nj) := by rw [w10, i16, nI_add]
  refine arr_of a ⟨il_in g16 (by omega) (by omega), ?_⟩
  rw [il_cl g16 (by omega)]
  have w10b : (uI (uI τ3 11 0 jv 21 x6) 11 0 jv (16 + E.nj) (nI (dwS S R E h (S.cn h) E.ns).1)).1 11 0 jv (Int8.ofInt 10).toInt32.toNatClampNeg = nI E.nj := by rw [il_cl i10 (by omega), uI_if, if_neg (by omega), uI_if, if_neg (by omega)]; exact v10
  refine arr_of a ⟨il_in i10 (by omega) (by omega), ?_⟩
  have g11 : (Int8.ofInt 11).toInt32 + (uI (uI τ3 11 0 jv 21 x6) 11 0 jv (16 + E.nj) (nI (dwS S R E h (S.cn h) E.ns).1)).1 11 0 jv (Int8.ofInt 10).toInt32.toNatClampNeg = nI (11 + E.nj) := by rw [w10b, i11, nI_add]
  refine arr_of a ⟨il_in g11 (by omega) (by omega), ?_⟩
  rw [il_cl g11 (by omega)]
  have w10c : (uI (uI (uI τ3 11 0 jv 21 x6) 11 0 jv (16 + E.nj) (nI (dwS S R E h (S.cn h) E.ns).1)) 11 0 jv (11 + E.nj) x2).1 11 0 jv (Int8.ofInt 10).toInt32.toNatClampNeg + Int32.ofInt 1 = nI (E.nj + 1) := by rw [il_cl i10 (by omega), uI_if, if_neg (by omega), uI_if, if_neg (by omega), uI_if, if_neg (by omega)]; exact il_inc v10
  refine arr_of a ⟨il_in i10 (by omega) (by omega), ?_⟩
  refine arr_of a ⟨il_in i10 (by omega) (by omega), Or.inl rfl, ?_⟩
  rw [w10c, il_cl i10 (by omega)]
  have rw1 : ∀ z, (uI (uI (uI (uI τ3 11 0 jv 21 x6) 11 0 jv (16 + E.nj) (nI (dwS S R E h (S.cn h) E.ns).1)) 11 0 jv (11 + E.nj) x2) 11 0 jv 10 (nI (E.nj + 1))).1 11 0 jv z = if z = 10 then nI (E.nj + 1) else if z = 11 + E.nj then x2 else if z = 16 + E.nj then nI (dwS S R E h (S.cn h) E.ns).1 else if z = 21 then x6 else τ3.1 11 0 jv z := by
    intro z
    rw [uI_if, uI_if, uI_if, uI_if]
  refine hQ _ ?_ ?_ ?_
  · refine off_uI (off_uI (off_uI (off_uI (off_tr (off_tr (off_mono ho1 ?_) (off_mono ho2 (by simp))) (off_mono ho3 (by simp))) (by simp)) (by simp)) (by simp)) (by simp)
    intro r hr
    simp only [List.mem_cons, List.not_mem_nil, or_false] at hr ⊢
    rcases hr with rfl | rfl | rfl | rfl | rfl <;> simp
  · obtain ⟨c1, c2, c3, c4, c5, c6⟩ := cR2
    refine ⟨?_, ?_, ?_, ?_, ?_, ?_⟩
    · rw [rw1, if_neg (by omega), if_neg (by omega), if_neg (by omega), if_neg (by omega), l1 0 (by omega)]; exact c1
    · rw [rw1, if_neg (by omega), if_neg (by omega), if_neg (by omega), if_neg (by omega), l1 1 (by omega)]; exact c2
    · rw [rw1, if_neg (by omega), if_neg (by omega), if_neg (by omega), if_neg (by omega), l1 2 (by omega)]; exact c3
    · rw [rw1, if_neg (by omega), if_neg (by omega), if_neg (by omega), if_neg (by omega), l1 3 (by omega)]; exact c4
    · rw [rw1, if_neg (by omega), if_neg (by omega), if_neg (by omega), if_neg (by omega), l1 4 (by omega)]; exact c5
    · intro g hg
      rw [rw1, if_neg (by omega), if_neg (by omega), if_neg (by omega), if_neg (by omega), l1 (5 + g) (by omega)]; exact c6 g hg
  · refine ⟨?_, ?_, ?_, ?_⟩
    · rw [rw1, if_pos rfl]; rfl
    · rw [rw1, if_neg (by omega), if_neg (by omega), if_neg (by omega), if_pos rfl]; exact e6
    · intro p hp
      have hp : p < E.nj + 1 := hp
      refine ⟨?_, ?_⟩
      · rw [rw1]
        show _ = nI (if p = E.nj then h else E.od p)
        by_cases q : p = E.nj
        · rw [if_pos q, if_neg (show ¬ 11 + p = 10 by omega), if_pos (show 11 + p = 11 + E.nj by omega)]; exact e2
        · rw [if_neg q, if_neg (show ¬ 11 + p = 10 by omega), if_neg (show ¬ 11 + p = 11 + E.nj by omega), if_neg (show ¬ 11 + p = 16 + E.nj by omega), if_neg (show ¬ 11 + p = 21 by omega), l1 _ (by omega)]
          exact (cE2.2.2.1 p (by omega)).1
      · rw [rw1]
        show _ = nI (if p = E.nj then (dwS S R E h (S.cn h) E.ns).1 else E.ct p)
        by_cases q : p = E.nj
        · rw [if_pos q, if_neg (show ¬ 16 + p = 10 by omega), if_neg (show ¬ 16 + p = 11 + E.nj by omega), if_pos (show 16 + p = 16 + E.nj by omega)]
        · rw [if_neg q, if_neg (show ¬ 16 + p = 10 by omega), if_neg (show ¬ 16 + p = 11 + E.nj by omega), if_neg (show ¬ 16 + p = 16 + E.nj by omega), if_neg (show ¬ 16 + p = 21 by omega), l1 _ (by omega)]
          exact (cE2.2.2.1 p (by omega)).2
    · intro t ht' g hg
      have ht' : t < wayT S R E h := ht'
      rw [rw1, if_neg (by omega), if_neg (by omega), if_neg (by omega), if_neg (by omega), show 22 + 5 * t + g = 22 + (5 * t + g) by omega, l2 _ (by omega)]
      exact rows t g ht' hg
end JN
end
section
/-! rows filled, nets and rules copied -/
theorem off_uR {L : List RF} {σ τ : ST} (h : off L σ τ) {c k j : Nat} {f : Nat → Int32} (hm : (c, k, j) ∈ L) : off L σ (uR τ c k j f) := by
  intro c' k' j' hn
  have := uR_off τ c k j f c' k' j' (by rintro ⟨rfl, rfl, rfl⟩; exact hn hm)
  exact ⟨this.1.trans (h c' k' j' hn).1, this.2.trans (h c' k' j' hn).2⟩
theorem uR_nr (σ : ST) (c k j : Nat) (f : Nat → Int32) {c' k' j' : Nat} (h : ¬ (c' = c ∧ k' = k ∧ j' = j)) (i' : Nat) : (uR σ c k j f).1 c' k' j' i' = σ.1 c' k' j' i' := by rw [(uR_off σ c k j f c' k' j' h).1]
theorem uR_at (σ : ST) (c k j : Nat) (f : Nat → Int32) (i : Nat) : (uR σ c k j f).1 c k j i = f i := by rw [uR_row]
/-- the net without anyone -/
def emE : NEc := (0, 0, fun _ => 0, fun _ => 0, fun _ _ => none)
theorem plc_em (g : Nat) : plc emE g = none := rfl
theorem vNE_em (S : SPc) : vNE S emE := ⟨Nat.zero_le _, fun p hp => absurd hp (Nat.not_lt_zero _), fun p q hp => absurd hp (Nat.not_lt_zero _), Nat.zero_le _, fun s h i hs => absurd hs (Nat.not_lt_zero _), fun s hs => absurd hs (Nat.not_lt_zero _), fun h hh hj => absurd hj (by rw [plc_em]; simp), fun s s' h i i' _ hs => absurd hs (Nat.not_lt_zero _), fun p hp => absurd hp (Nat.not_lt_zero _)⟩
theorem cndF {c : Bool} {P : Prop} (h : c = false) (p : P) : cond c False P := by rw [h]; exact p
section CP
variable {N e m : Nat} {σ : ST} {Q : POST} {S : SPc} {R : RUc} {E : NEc}
set_option maxRecDepth 100000 in
theorem fl_loop {c k j L : Nat} (a : arO N c j = some (1, L)) (h13 : Nat.beq c 13 = false) (hL : L < 100000) {v x3 : Int32} (e3 : x3 = nI L) (hQ : ∀ τ, off [(c, k, j)] σ τ → (∀ z, z < L → τ.1 c k j z = v) → Q none τ) :
    ∀ (r i m : Nat) (τ : ST) (x2 : Int32), i + r = L → 20 * r + 20 ≤ m → off [(c, k, j)] σ τ → (∀ z, z < i → τ.1 c k j z = v) → x2 = nI i →
      wp N m (e, 0) TJ7_fill_53178 5 [some (.inr (.inr (c, k, j))), some (.inl v), some (.inl x2), some (.inl x3)] [] τ Q := by
  intro r
  induction r with
  | zero =>
    intro i m τ x2 hr hm ho h1 e2
    obtain ⟨n, rfl⟩ := il_ex (K := 10) (m := m) (by omega)
    refine b_ge e2 e3 (by omega) (by omega) (fun _ => ?_) (fun q => by omega)
    exact hQ τ ho (fun z hz => h1 z (by omega))
  | succ r ih =>
    intro i m τ x2 hr hm ho h1 e2
    obtain ⟨n, rfl⟩ := il_ex (K := 15) (m := m) (by omega)
    refine b_ge e2 e3 (by omega) (by omega) (fun q => by omega) (fun _ => ?_)
    refine cndF h13 (arr_of a ⟨il_in e2 (by omega) (by omega), trivial, ih (i + 1) _ _ _ (by omega) (by omega) (off_uI ho (by simp)) ?_ (il_inc e2)⟩)
    intro z hz
    rw [il_cl e2 (by omega)]
    by_cases q : z = i
    · rw [q, uI_at]
    · rw [uI_ne _ _ _ _ _ _ q]
      exact h1 z (by omega)
set_option maxRecDepth 100000 in
theorem c_fill {c k j L : Nat} (a : arO N c j = some (1, L)) (h13 : Nat.beq c 13 = false) (hL : L < 100000) {v : Int32} (hm : 20 * L + 50 ≤ m) (hQ : ∀ τ, off [(c, k, j)] σ τ → (∀ z, z < L → τ.1 c k j z = v) → Q none τ) :
    wp N m (e, 0) TJ7_fill_53178 0 [some (.inr (.inr (c, k, j))), some (.inl v), none, none] [] σ Q := by
  obtain ⟨n, rfl⟩ := il_ex (K := 5) (m := m) (by omega)
  refine arl_of a (by decide) ?_
  exact fl_loop a h13 hL rfl hQ L 0 n σ _ (by omega) (by omega) (off_rf _ _) (fun z hz => by omega) oi_0
set_option maxRecDepth 100000 in
theorem c_netClear {k : Nat} (hm : 300 ≤ m) (hQ : ∀ τ, off [(3, k, 1), (3, k, 2), (3, k, 4)] σ τ → cNE τ k emE → Q none τ) : wp N m (e + 1, 0) TX3_clear 0 [some (.inr (.inr (3, k, 0)))] [] σ Q := by
  obtain ⟨n, rfl⟩ := il_ex (K := 20) (m := m) (by omega)
  refine ⟨trivial, c_fill (L := 5) rfl rfl (by omega) (by omega) ?_⟩
  intro τ ho h1
  refine hQ τ (off_tr (off_uI (off_uI (off_rf _ _) (by simp)) (by simp)) (off_mono ho (by simp))) ⟨?_, ?_, fun p hp => absurd hp (Nat.not_lt_zero _), fun g hg => ?_, fun p hp => absurd hp (Nat.not_lt_zero _), fun s hs => absurd hs (Nat.not_lt_zero _)⟩
  · rw [off_1 ho (by simp)]
    show (uI (uI σ 3 k 1 0 (Int32.ofInt 0)) 3 k 2 0 (Int32.ofInt 0)).1 3 k 1 0 = _
    rw [uI_nr _ _ _ _ _ _ (by omega), uI_at]; exact oi_0
  · rw [off_1 ho (by simp)]
    show (uI (uI σ 3 k 1 0 (Int32.ofInt 0)) 3 k 2 0 (Int32.ofInt 0)).1 3 k 2 0 = _
    rw [uI_at]; exact oi_0
  · rw [plc_em, show oI (-2) none = (-2 : Int32) from rfl, ← im2]
    exact h1 g hg
abbrev nOff (k : Nat) : List RF := [(3, k, 1), (3, k, 2), (3, k, 3), (3, k, 4), (3, k, 5), (3, k, 6)]
theorem cpy0 {f g : Nat → Int32} {n z : Nat} (h : z < n) : va_cpy f g 0 0 n z = f z := by unfold va_cpy; rw [if_pos (by omega)]; congr 1; omega
set_option maxRecDepth 100000 in
/-- Net.copyFrom -/
theorem c_netCopy {k k2 : Nat} (hk : k2 ≠ k) (hS : vSP S) (hE : vNE S E) (cE : cNE σ k2 E) (hm : 100 ≤ m) (hQ : ∀ τ, off (nOff k) σ τ → cNE τ k E → Q none τ) :
    wp N m (e + 1, 0) TX3_copyFrom 0 [some (.inr (.inr (3, k, 0))), some (.inr (.inr (3, k2, 0)))] [] σ Q := by
  have hns := vNE_ns hS hE
  have hnh := hS.1
  have hnj := hE.1
  obtain ⟨n, rfl⟩ := il_ex (K := 60) (m := m) (by omega)
  refine ⟨by decide, by decide, by decide, by decide, by decide, ?_⟩
  refine ⟨by decide, by decide, by decide, by decide, by decide, ?_⟩
  refine ⟨by decide, by decide, by decide, by decide, by decide, ?_⟩
  refine ⟨by decide, by decide, by decide, by decide, by decide, ?_⟩
  have t1 : (uI σ 3 k 1 0 (σ.1 3 k2 1 0)).1 3 k2 2 0 = nI E.nj := by rw [uI_nr _ _ _ _ _ _ (by omega)]; exact cE.2.1
  refine hQ _ ?_ ?_
  · exact off_uR (off_uR (off_uR (off_uR (off_uI (off_uI (off_rf _ _) (by simp)) (by simp)) (by simp)) (by simp)) (by simp)) (by simp)
  · refine ⟨?_, ?_, fun p hp => ?_, fun g hg => ?_, fun p hp => ?_, fun s hs g hg => ?_⟩
    · show (cpI (cpI (cpI (cpI (uI (uI σ 3 k 1 0 _) 3 k 2 0 _) 3 k2 3 3 k 3 _ _ _) 3 k2 4 3 k 4 _ _ _) 3 k2 5 3 k 5 _ _ _) 3 k2 6 3 k 6 _ _ _).1 3 k 1 0 = _
      unfold cpI
      rw [uR_nr _ _ _ _ _ (by omega), uR_nr _ _ _ _ _ (by omega), uR_nr _ _ _ _ _ (by omega), uR_nr _ _ _ _ _ (by omega), uI_nr _ _ _ _ _ _ (by omega), uI_at]
      exact cE.1
    · show (cpI (cpI (cpI (cpI (uI (uI σ 3 k 1 0 _) 3 k 2 0 _) 3 k2 3 3 k 3 _ _ _) 3 k2 4 3 k 4 _ _ _) 3 k2 5 3 k 5 _ _ _) 3 k2 6 3 k 6 _ _ _).1 3 k 2 0 = _
      unfold cpI
      rw [uR_nr _ _ _ _ _ (by omega), uR_nr _ _ _ _ _ (by omega), uR_nr _ _ _ _ _ (by omega), uR_nr _ _ _ _ _ (by omega), uI_at]
      exact t1
    · show (cpI (cpI (cpI (cpI (uI (uI σ 3 k 1 0 _) 3 k 2 0 _) 3 k2 3 3 k 3 0 0 5) 3 k2 4 3 k 4 _ _ _) 3 k2 5 3 k 5 _ _ _) 3 k2 6 3 k 6 _ _ _).1 3 k 3 p = _
      unfold cpI
      rw [uR_nr _ _ _ _ _ (by omega), uR_nr _ _ _ _ _ (by omega), uR_nr _ _ _ _ _ (by omega), uR_at, cpy0 (by omega), uI_nr _ _ _ _ _ _ (by omega), uI_nr _ _ _ _ _ _ (by omega)]
      exact cE.2.2.1 p hp
    · show (cpI (cpI (cpI (cpI (uI (uI σ 3 k 1 0 _) 3 k 2 0 _) 3 k2 3 3 k 3 0 0 5) 3 k2 4 3 k 4 0 0 5) 3 k2 5 3 k 5 _ _ _) 3 k2 6 3 k 6 _ _ _).1 3 k 4 g = _
      unfold cpI
      rw [uR_nr _ _ _ _ _ (by omega), uR_nr _ _ _ _ _ (by omega), uR_at, cpy0 (by omega), uR_nr _ _ _ _ _ (by omega), uI_nr _ _ _ _ _ _ (by omega), uI_nr _ _ _ _ _ _ (by omega)]
      exact cE.2.2.2.1 g hg
    · have hod := hE.2.1 p hp
      show (cpI (cpI (cpI (cpI (uI (uI σ 3 k 1 0 _) 3 k 2 0 _) 3 k2 3 3 k 3 0 0 5) 3 k2 4 3 k 4 0 0 5) 3 k2 5 3 k 5 0 0 5) 3 k2 6 3 k 6 _ _ _).1 3 k 5 (E.od p) = _
      unfold cpI
      rw [uR_nr _ _ _ _ _ (by omega), uR_at, cpy0 (by omega), uR_nr _ _ _ _ _ (by omega), uR_nr _ _ _ _ _ (by omega), uI_nr _ _ _ _ _ _ (by omega), uI_nr _ _ _ _ _ _ (by omega)]
      exact cE.2.2.2.2.1 p hp
    · show (cpI (cpI (cpI (cpI (uI (uI σ 3 k 1 0 _) 3 k 2 0 _) 3 k2 3 3 k 3 0 0 5) 3 k2 4 3 k 4 0 0 5) 3 k2 5 3 k 5 0 0 5) 3 k2 6 3 k 6 0 0 300).1 3 k 6 (s * 5 + g) = _
      unfold cpI
      rw [uR_at, cpy0 (by omega), uR_nr _ _ _ _ _ (by omega), uR_nr _ _ _ _ _ (by omega), uR_nr _ _ _ _ _ (by omega), uI_nr _ _ _ _ _ _ (by omega), uI_nr _ _ _ _ _ _ (by omega)]
      exact cE.2.2.2.2.2 s hs g hg
end CP
end
section
/-! a net begun anew with all that are joined but one -/
def wwN (S : SPc) (R : RUc) (E : NEc) (x : Nat) : Nat → NEc
  | 0 => emE
  | p + 1 => if E.od p = x then wwN S R E x p else jnE S R (wwN S R E x p) (E.od p)
theorem wwN_plc {S : SPc} {R : RUc} {E : NEc} {x : Nat} (hE : vNE S E) : ∀ p, p ≤ E.nj → ∀ g, (plc (wwN S R E x p) g).isSome = true → ∃ q, q < p ∧ E.od q = g
  | 0, _, g, h => by rw [wwN, plc_em] at h; simp at h
  | p + 1, hp, g, h => by
    rw [wwN] at h
    by_cases hx : E.od p = x
    · rw [if_pos hx] at h
      obtain ⟨q, h1, h2⟩ := wwN_plc hE p (by omega) g h
      exact ⟨q, by omega, h2⟩
    · rw [if_neg hx] at h
      have hn : plc (wwN S R E x p) (E.od p) = none := by
        cases hc : plc (wwN S R E x p) (E.od p) with
        | none => rfl
        | some z =>
          obtain ⟨q, h1, h2⟩ := wwN_plc hE p (by omega) (E.od p) (by rw [hc]; rfl)
          have := hE.2.2.1 q p (by omega) (by omega) h2
          omega
      rw [plc_jn S R hn] at h
      by_cases hg : g = E.od p
      · exact ⟨p, by omega, hg.symm⟩
      · rw [if_neg hg] at h
        obtain ⟨q, h1, h2⟩ := wwN_plc hE p (by omega) g h
        exact ⟨q, by omega, h2⟩
theorem wwN_none {S : SPc} {R : RUc} {E : NEc} {x : Nat} (hE : vNE S E) {p : Nat} (hp : p < E.nj) : plc (wwN S R E x p) (E.od p) = none := by
  cases hc : plc (wwN S R E x p) (E.od p) with
  | none => rfl
  | some z =>
    obtain ⟨q, h1, h2⟩ := wwN_plc (R := R) (x := x) hE p (by omega) (E.od p) (by rw [hc]; rfl)
    have := hE.2.2.1 q p (by omega) (by omega) h2
    omega
theorem wwN_v {S : SPc} {R : RUc} {E : NEc} {x : Nat} (hS : vSP S) (hR : vRU S R) (hE : vNE S E) : ∀ p, p ≤ E.nj → vNE S (wwN S R E x p)
  | 0, _ => vNE_em S
  | p + 1, hp => by
    have ih := wwN_v (R := R) (x := x) hS hR hE p (by omega)
    rw [wwN]
    by_cases hx : E.od p = x
    · rw [if_pos hx]; exact ih
    · rw [if_neg hx]; exact vNE_jn hS hR ih (hE.2.1 p (by omega)) (wwN_none hE (by omega))
section WW
variable {N e m k k2 : Nat} {σ : ST} {Q : POST} {S : SPc} {R : RUc} {E : NEc}
set_option maxRecDepth 100000 in
theorem ww_loop (hk : k ≠ k2) (hS : vSP S) (hR : vRU S R) (hE : vNE S E) (cS : cSP σ 0 S) (cR : cRU σ 0 S R) (cE : cNE σ k E) {x : Nat} (hx : x < S.nh) {x2 : Int32} (e2 : x2 = nI x) (hQ : ∀ τ, off (vOff k2) σ τ → cFA τ S → cNE τ k2 (wwN S R E x E.nj) → Q none τ) :
    ∀ (r p m : Nat) (τ : ST) (x4 : Int32) (o5 : Option AV), p + r = E.nj → 2200000 + 200 * r ≤ m → off (vOff k2) σ τ → cFA τ S → cNE τ k2 (wwN S R E x p) → x4 = nI p →
      wp N m (e + 6, 0) TX9_weaveWithout 4 [some (.inr (.inr (9, 0, 0))), some (.inr (.inr (3, k, 0))), some (.inl x2), some (.inr (.inr (3, k2, 0))), some (.inl x4), o5] [] τ Q := by
  have hnh := hS.1
  have hnj := hE.1
  have kE : ∀ τ, off (vOff k2) σ τ → cNE τ k E := fun τ ho => cNE_off ho (fun r hr q => by
    simp only [List.mem_cons, List.not_mem_nil, or_false] at hr
    rcases hr with rfl | rfl | rfl | rfl | rfl | rfl | rfl | rfl | rfl | rfl | rfl | rfl | rfl | rfl | rfl <;> simp at q <;> exact hk q.symm) cE
  have k8 : ∀ r ∈ vOff k2, r.1 ≠ 8 := fun r hr => by
    simp only [List.mem_cons, List.not_mem_nil, or_false] at hr
    rcases hr with rfl | rfl | rfl | rfl | rfl | rfl | rfl | rfl | rfl | rfl | rfl | rfl | rfl | rfl | rfl <;> simp
  have k7 : ∀ r ∈ vOff k2, r.1 ≠ 7 := fun r hr => by
    simp only [List.mem_cons, List.not_mem_nil, or_false] at hr
    rcases hr with rfl | rfl | rfl | rfl | rfl | rfl | rfl | rfl | rfl | rfl | rfl | rfl | rfl | rfl | rfl <;> simp
  intro r
  induction r with
  | zero =>
    intro p m τ x4 o5 hr hm ho hf hc e4
    obtain ⟨n, rfl⟩ := il_ex (K := 20) (m := m) (by omega)
    refine b_ge e4 (kE τ ho).2.1 (by omega) (by omega) (fun _ => ?_) (fun q => by omega)
    obtain rfl : p = E.nj := by omega
    exact hQ τ ho hf hc
  | succ r ih =>
    intro p m τ x4 o5 hr hm ho hf hc e4
    obtain ⟨n, rfl⟩ := il_ex (K := 50) (m := m) (by omega)
    have hod := hE.2.1 p (by omega)
    have nxt : ∀ (τ' : ST) (p5 : Option AV) (n' : Nat), 2200000 + 200 * r + 2 ≤ n' → off (vOff k2) σ τ' → cFA τ' S → cNE τ' k2 (wwN S R E x (p + 1)) → wp N n' (e + 6, 0) TX9_weaveWithout 20 [some (.inr (.inr (9, 0, 0))), some (.inr (.inr (3, k, 0))), some (.inl x2), some (.inr (.inr (3, k2, 0))), some (.inl x4), p5] [] τ' Q := by
      intro τ' p5 n' hn' ho' hf' hc'
      obtain ⟨n2, rfl⟩ := il_ex (K := 2) (m := n') (by omega)
      exact ⟨trivial, ih (p + 1) _ τ' _ _ (by omega) (by omega) ho' hf' hc' (il_inc e4)⟩
    refine b_ge e4 (kE τ ho).2.1 (by omega) (by omega) (fun q => by omega) (fun _ => ?_)
    refine ⟨trivial, c_joinedAt e4 (by omega) (by omega) ?_⟩
    rw [(kE τ ho).2.2.1 p (by omega)]
    refine b_eq rfl e2 (by omega) (by omega) (fun z => ?_) (fun z => ?_)
    · exact nxt τ _ _ (by omega) ho hf (by rw [wwN, if_pos z]; exact hc)
    · refine ⟨trivial, c_weave hS hR (wwN_v hS hR hE p (by omega)) (cSP_off ho k8 cS) (cRU_off ho k7 cR) hc hf hod (wwN_none hE (by omega)) rfl (by omega) ?_⟩
      intro τ2 ho2 hf2 hc2
      refine adv 1 (2200000 + 200 * r + 2) (by omega) (fun n3 hn3 => ?_)
      exact nxt τ2 _ n3 hn3 (off_tr ho ho2) hf2 (by rw [wwN, if_neg z]; exact hc2)
set_option maxRecDepth 100000 in
/-- Weaver.weaveWithout -/
theorem c_weaveWithout (hk : k ≠ k2) (hS : vSP S) (hR : vRU S R) (hE : vNE S E) (cS : cSP σ 0 S) (cR : cRU σ 0 S R) (cE : cNE σ k E) (cF : cFA σ S) {x : Nat} (hx : x < S.nh) {x2 : Int32} (e2 : x2 = nI x) (hm : 2300000 ≤ m) (hQ : ∀ τ, off (vOff k2) σ τ → cFA τ S → cNE τ k2 (wwN S R E x E.nj) → Q none τ) :
    wp N m (e + 6, 0) TX9_weaveWithout 0 [some (.inr (.inr (9, 0, 0))), some (.inr (.inr (3, k, 0))), some (.inl x2), some (.inr (.inr (3, k2, 0))), none, none] [] σ Q := by
  have hnh := hS.1
  have hnj := hE.1
  obtain ⟨n, rfl⟩ := il_ex (K := 10) (m := m) (by omega)
  refine ⟨trivial, c_netClear (by omega) ?_⟩
  intro τ ho hc
  refine adv 2 2250000 (by omega) (fun n1 hn1 => ?_)
  have ho' : off (vOff k2) σ τ := off_mono ho (by simp)
  exact ww_loop hk hS hR hE cS cR cE hx e2 hQ E.nj 0 n1 τ _ _ (by omega) (by omega) ho' (fun w v hw hv => by rw [off_1 ho (by simp)]; exact cF w v hw hv) hc oi_0
end WW
end
