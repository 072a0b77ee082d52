-- ===== PART A: goes FIRST, ahead of the names: the tables' words, and 'selects' of the private methods out of them =====
/-- a private method of a class that the tables say can be made, by its rows of tables_1 -/
def lw_okq (q : MethodName × Nat) : Prop := (q.1.cls ≠ "java/lang/invoke/MethodHandle" ∧ q.1.cls ≠ "java/lang/invoke/VarHandle") ∧ Cond.instantiable q.1.cls q.2 ∈ tables_1 ∧ Cond.privateMethod q.1 ∈ tables_1 ∧ Cond.instanceMethod q.1 ∈ tables_1
theorem lw_p0 : lw_okq (⟨"TermStrategies", "refuse", "(I)I"⟩, 14) := ⟨⟨by decide +kernel, by decide +kernel⟩, List.mem_of_getElem? (i := 18) (by decide +kernel), List.mem_of_getElem? (i := 366) (by decide +kernel), List.mem_of_getElem? (i := 367) (by decide +kernel)⟩
theorem lw_p1 : lw_okq (⟨"TermStrategies", "copyRefusal", "(II)I"⟩, 14) := ⟨⟨by decide +kernel, by decide +kernel⟩, List.mem_of_getElem? (i := 18) (by decide +kernel), List.mem_of_getElem? (i := 421) (by decide +kernel), List.mem_of_getElem? (i := 422) (by decide +kernel)⟩
theorem lw_p2 : lw_okq (⟨"TermStrategies$Reader", "next", "(III)I"⟩, 5) := ⟨⟨by decide +kernel, by decide +kernel⟩, List.mem_of_getElem? (i := 105) (by decide +kernel), List.mem_of_getElem? (i := 501) (by decide +kernel), List.mem_of_getElem? (i := 502) (by decide +kernel)⟩
theorem lw_p3 : lw_okq (⟨"TermStrategies$Reader", "nextToSign", "(II)I"⟩, 5) := ⟨⟨by decide +kernel, by decide +kernel⟩, List.mem_of_getElem? (i := 105) (by decide +kernel), List.mem_of_getElem? (i := 505) (by decide +kernel), List.mem_of_getElem? (i := 506) (by decide +kernel)⟩
theorem lw_p4 : lw_okq (⟨"TermStrategies", "newTerm", "(I)I"⟩, 14) := ⟨⟨by decide +kernel, by decide +kernel⟩, List.mem_of_getElem? (i := 18) (by decide +kernel), List.mem_of_getElem? (i := 518) (by decide +kernel), List.mem_of_getElem? (i := 519) (by decide +kernel)⟩
theorem lw_p5 : lw_okq (⟨"TermStrategies", "hasNode", "(II)Z"⟩, 14) := ⟨⟨by decide +kernel, by decide +kernel⟩, List.mem_of_getElem? (i := 18) (by decide +kernel), List.mem_of_getElem? (i := 568) (by decide +kernel), List.mem_of_getElem? (i := 569) (by decide +kernel)⟩
theorem lw_p6 : lw_okq (⟨"TermStrategies$Layout", "layArgument", "(III)V"⟩, 4) := ⟨⟨by decide +kernel, by decide +kernel⟩, List.mem_of_getElem? (i := 127) (by decide +kernel), List.mem_of_getElem? (i := 590) (by decide +kernel), List.mem_of_getElem? (i := 591) (by decide +kernel)⟩
theorem lw_p7 : lw_okq (⟨"TermStrategies", "redexesAt", "(I)J"⟩, 14) := ⟨⟨by decide +kernel, by decide +kernel⟩, List.mem_of_getElem? (i := 18) (by decide +kernel), List.mem_of_getElem? (i := 610) (by decide +kernel), List.mem_of_getElem? (i := 611) (by decide +kernel)⟩
theorem lw_p8 : lw_okq (⟨"TermStrategies", "someRuleFits", "(I)Z"⟩, 14) := ⟨⟨by decide +kernel, by decide +kernel⟩, List.mem_of_getElem? (i := 18) (by decide +kernel), List.mem_of_getElem? (i := 614) (by decide +kernel), List.mem_of_getElem? (i := 615) (by decide +kernel)⟩
theorem lw_p9 : lw_okq (⟨"TermStrategies$Matching", "countTurns", "(III)V"⟩, 6) := ⟨⟨by decide +kernel, by decide +kernel⟩, List.mem_of_getElem? (i := 165) (by decide +kernel), List.mem_of_getElem? (i := 626) (by decide +kernel), List.mem_of_getElem? (i := 627) (by decide +kernel)⟩
theorem lw_p10 : lw_okq (⟨"TermStrategies$Matching", "mayTurn", "(I)Z"⟩, 6) := ⟨⟨by decide +kernel, by decide +kernel⟩, List.mem_of_getElem? (i := 165) (by decide +kernel), List.mem_of_getElem? (i := 631) (by decide +kernel), List.mem_of_getElem? (i := 632) (by decide +kernel)⟩
theorem lw_p11 : lw_okq (⟨"TermStrategies$Matching", "attempt", "(IIII)Z"⟩, 6) := ⟨⟨by decide +kernel, by decide +kernel⟩, List.mem_of_getElem? (i := 165) (by decide +kernel), List.mem_of_getElem? (i := 635) (by decide +kernel), List.mem_of_getElem? (i := 636) (by decide +kernel)⟩
theorem lw_p12 : lw_okq (⟨"TermStrategies$Matching", "faceArguments", "(IIII)V"⟩, 6) := ⟨⟨by decide +kernel, by decide +kernel⟩, List.mem_of_getElem? (i := 165) (by decide +kernel), List.mem_of_getElem? (i := 648) (by decide +kernel), List.mem_of_getElem? (i := 649) (by decide +kernel)⟩
theorem lw_p13 : lw_okq (⟨"TermStrategies$Exchange", "argumentsAlike", "(III)Z"⟩, 4) := ⟨⟨by decide +kernel, by decide +kernel⟩, List.mem_of_getElem? (i := 146) (by decide +kernel), List.mem_of_getElem? (i := 676) (by decide +kernel), List.mem_of_getElem? (i := 677) (by decide +kernel)⟩
theorem lw_p14 : lw_okq (⟨"TermStrategies$Exchange", "isAlike", "(II)Z"⟩, 4) := ⟨⟨by decide +kernel, by decide +kernel⟩, List.mem_of_getElem? (i := 146) (by decide +kernel), List.mem_of_getElem? (i := 681) (by decide +kernel), List.mem_of_getElem? (i := 682) (by decide +kernel)⟩
theorem lw_p15 : lw_okq (⟨"TermStrategies", "countFits", "(II)I"⟩, 14) := ⟨⟨by decide +kernel, by decide +kernel⟩, List.mem_of_getElem? (i := 18) (by decide +kernel), List.mem_of_getElem? (i := 722) (by decide +kernel), List.mem_of_getElem? (i := 723) (by decide +kernel)⟩
def lw_privs_1 : List (MethodName × Nat) := [(⟨"TermStrategies", "refuse", "(I)I"⟩, 14), (⟨"TermStrategies", "copyRefusal", "(II)I"⟩, 14), (⟨"TermStrategies$Reader", "next", "(III)I"⟩, 5), (⟨"TermStrategies$Reader", "nextToSign", "(II)I"⟩, 5), (⟨"TermStrategies", "newTerm", "(I)I"⟩, 14), (⟨"TermStrategies", "hasNode", "(II)Z"⟩, 14), (⟨"TermStrategies$Layout", "layArgument", "(III)V"⟩, 4), (⟨"TermStrategies", "redexesAt", "(I)J"⟩, 14), (⟨"TermStrategies", "someRuleFits", "(I)Z"⟩, 14), (⟨"TermStrategies$Matching", "countTurns", "(III)V"⟩, 6), (⟨"TermStrategies$Matching", "mayTurn", "(I)Z"⟩, 6), (⟨"TermStrategies$Matching", "attempt", "(IIII)Z"⟩, 6), (⟨"TermStrategies$Matching", "faceArguments", "(IIII)V"⟩, 6), (⟨"TermStrategies$Exchange", "argumentsAlike", "(III)Z"⟩, 4), (⟨"TermStrategies$Exchange", "isAlike", "(II)Z"⟩, 4), (⟨"TermStrategies", "countFits", "(II)I"⟩, 14)]
theorem lw_r1 : ∀ q ∈ lw_privs_1, lw_okq q := List.forall_mem_cons.mpr ⟨lw_p0, List.forall_mem_cons.mpr ⟨lw_p1, List.forall_mem_cons.mpr ⟨lw_p2, List.forall_mem_cons.mpr ⟨lw_p3, List.forall_mem_cons.mpr ⟨lw_p4, List.forall_mem_cons.mpr ⟨lw_p5, List.forall_mem_cons.mpr ⟨lw_p6, List.forall_mem_cons.mpr ⟨lw_p7, List.forall_mem_cons.mpr ⟨lw_p8, List.forall_mem_cons.mpr ⟨lw_p9, List.forall_mem_cons.mpr ⟨lw_p10, List.forall_mem_cons.mpr ⟨lw_p11, List.forall_mem_cons.mpr ⟨lw_p12, List.forall_mem_cons.mpr ⟨lw_p13, List.forall_mem_cons.mpr ⟨lw_p14, List.forall_mem_cons.mpr ⟨lw_p15, fun _ h => absurd h List.not_mem_nil⟩⟩⟩⟩⟩⟩⟩⟩⟩⟩⟩⟩⟩⟩⟩⟩
theorem lw_p16 : lw_okq (⟨"TermStrategies", "fittingNode", "(III)I"⟩, 14) := ⟨⟨by decide +kernel, by decide +kernel⟩, List.mem_of_getElem? (i := 18) (by decide +kernel), List.mem_of_getElem? (i := 726) (by decide +kernel), List.mem_of_getElem? (i := 727) (by decide +kernel)⟩
theorem lw_p17 : lw_okq (⟨"TermStrategies", "rewriteToWork", "(III)I"⟩, 14) := ⟨⟨by decide +kernel, by decide +kernel⟩, List.mem_of_getElem? (i := 18) (by decide +kernel), List.mem_of_getElem? (i := 738) (by decide +kernel), List.mem_of_getElem? (i := 739) (by decide +kernel)⟩
theorem lw_p18 : lw_okq (⟨"TermStrategies", "isStrategyOver", "(III)Z"⟩, 14) := ⟨⟨by decide +kernel, by decide +kernel⟩, List.mem_of_getElem? (i := 18) (by decide +kernel), List.mem_of_getElem? (i := 759) (by decide +kernel), List.mem_of_getElem? (i := 760) (by decide +kernel)⟩
theorem lw_p19 : lw_okq (⟨"TermStrategies$State", "writeStrategy", "(IIII)V"⟩, 10) := ⟨⟨by decide +kernel, by decide +kernel⟩, List.mem_of_getElem? (i := 26) (by decide +kernel), List.mem_of_getElem? (i := 767) (by decide +kernel), List.mem_of_getElem? (i := 768) (by decide +kernel)⟩
theorem lw_p20 : lw_okq (⟨"TermStrategies$Runner", "ask", "(IIIIJ)V"⟩, 17) := ⟨⟨by decide +kernel, by decide +kernel⟩, List.mem_of_getElem? (i := 190) (by decide +kernel), List.mem_of_getElem? (i := 797) (by decide +kernel), List.mem_of_getElem? (i := 798) (by decide +kernel)⟩
theorem lw_p21 : lw_okq (⟨"TermStrategies$Runner", "countBegun", "()Z"⟩, 17) := ⟨⟨by decide +kernel, by decide +kernel⟩, List.mem_of_getElem? (i := 190) (by decide +kernel), List.mem_of_getElem? (i := 802) (by decide +kernel), List.mem_of_getElem? (i := 803) (by decide +kernel)⟩
theorem lw_p22 : lw_okq (⟨"TermStrategies$Runner", "start", "(I)V"⟩, 17) := ⟨⟨by decide +kernel, by decide +kernel⟩, List.mem_of_getElem? (i := 190) (by decide +kernel), List.mem_of_getElem? (i := 808) (by decide +kernel), List.mem_of_getElem? (i := 809) (by decide +kernel)⟩
theorem lw_p23 : lw_okq (⟨"TermStrategies$Runner", "rewritten", "(IIJ)I"⟩, 17) := ⟨⟨by decide +kernel, by decide +kernel⟩, List.mem_of_getElem? (i := 190) (by decide +kernel), List.mem_of_getElem? (i := 815) (by decide +kernel), List.mem_of_getElem? (i := 816) (by decide +kernel)⟩
theorem lw_p24 : lw_okq (⟨"TermStrategies$Runner", "finish", "(II)V"⟩, 17) := ⟨⟨by decide +kernel, by decide +kernel⟩, List.mem_of_getElem? (i := 190) (by decide +kernel), List.mem_of_getElem? (i := 831) (by decide +kernel), List.mem_of_getElem? (i := 832) (by decide +kernel)⟩
theorem lw_p25 : lw_okq (⟨"TermStrategies$Runner", "goOnWith", "(II)V"⟩, 17) := ⟨⟨by decide +kernel, by decide +kernel⟩, List.mem_of_getElem? (i := 190) (by decide +kernel), List.mem_of_getElem? (i := 835) (by decide +kernel), List.mem_of_getElem? (i := 836) (by decide +kernel)⟩
theorem lw_p26 : lw_okq (⟨"TermStrategies$Runner", "walk", "(I)V"⟩, 17) := ⟨⟨by decide +kernel, by decide +kernel⟩, List.mem_of_getElem? (i := 190) (by decide +kernel), List.mem_of_getElem? (i := 840) (by decide +kernel), List.mem_of_getElem? (i := 841) (by decide +kernel)⟩
theorem lw_p27 : lw_okq (⟨"TermStrategies$Runner", "walkerOf", "(I)I"⟩, 17) := ⟨⟨by decide +kernel, by decide +kernel⟩, List.mem_of_getElem? (i := 190) (by decide +kernel), List.mem_of_getElem? (i := 846) (by decide +kernel), List.mem_of_getElem? (i := 847) (by decide +kernel)⟩
theorem lw_p28 : lw_okq (⟨"TermStrategies$Runner", "mayPassOver", "(I)Z"⟩, 17) := ⟨⟨by decide +kernel, by decide +kernel⟩, List.mem_of_getElem? (i := 190) (by decide +kernel), List.mem_of_getElem? (i := 851) (by decide +kernel), List.mem_of_getElem? (i := 852) (by decide +kernel)⟩
theorem lw_p29 : lw_okq (⟨"TermStrategies$Runner", "endWalk", "(II)V"⟩, 17) := ⟨⟨by decide +kernel, by decide +kernel⟩, List.mem_of_getElem? (i := 190) (by decide +kernel), List.mem_of_getElem? (i := 855) (by decide +kernel), List.mem_of_getElem? (i := 856) (by decide +kernel)⟩
theorem lw_p30 : lw_okq (⟨"TermStrategies$Runner", "askWhole", "(IIII)V"⟩, 17) := ⟨⟨by decide +kernel, by decide +kernel⟩, List.mem_of_getElem? (i := 190) (by decide +kernel), List.mem_of_getElem? (i := 859) (by decide +kernel), List.mem_of_getElem? (i := 860) (by decide +kernel)⟩
theorem lw_p31 : lw_okq (⟨"TermStrategies$Runner", "goOnFromWhole", "(I)V"⟩, 17) := ⟨⟨by decide +kernel, by decide +kernel⟩, List.mem_of_getElem? (i := 190) (by decide +kernel), List.mem_of_getElem? (i := 863) (by decide +kernel), List.mem_of_getElem? (i := 864) (by decide +kernel)⟩
def lw_privs_2 : List (MethodName × Nat) := [(⟨"TermStrategies", "fittingNode", "(III)I"⟩, 14), (⟨"TermStrategies", "rewriteToWork", "(III)I"⟩, 14), (⟨"TermStrategies", "isStrategyOver", "(III)Z"⟩, 14), (⟨"TermStrategies$State", "writeStrategy", "(IIII)V"⟩, 10), (⟨"TermStrategies$Runner", "ask", "(IIIIJ)V"⟩, 17), (⟨"TermStrategies$Runner", "countBegun", "()Z"⟩, 17), (⟨"TermStrategies$Runner", "start", "(I)V"⟩, 17), (⟨"TermStrategies$Runner", "rewritten", "(IIJ)I"⟩, 17), (⟨"TermStrategies$Runner", "finish", "(II)V"⟩, 17), (⟨"TermStrategies$Runner", "goOnWith", "(II)V"⟩, 17), (⟨"TermStrategies$Runner", "walk", "(I)V"⟩, 17), (⟨"TermStrategies$Runner", "walkerOf", "(I)I"⟩, 17), (⟨"TermStrategies$Runner", "mayPassOver", "(I)Z"⟩, 17), (⟨"TermStrategies$Runner", "endWalk", "(II)V"⟩, 17), (⟨"TermStrategies$Runner", "askWhole", "(IIII)V"⟩, 17), (⟨"TermStrategies$Runner", "goOnFromWhole", "(I)V"⟩, 17)]
theorem lw_r2 : ∀ q ∈ lw_privs_2, lw_okq q := List.forall_mem_cons.mpr ⟨lw_p16, List.forall_mem_cons.mpr ⟨lw_p17, List.forall_mem_cons.mpr ⟨lw_p18, List.forall_mem_cons.mpr ⟨lw_p19, List.forall_mem_cons.mpr ⟨lw_p20, List.forall_mem_cons.mpr ⟨lw_p21, List.forall_mem_cons.mpr ⟨lw_p22, List.forall_mem_cons.mpr ⟨lw_p23, List.forall_mem_cons.mpr ⟨lw_p24, List.forall_mem_cons.mpr ⟨lw_p25, List.forall_mem_cons.mpr ⟨lw_p26, List.forall_mem_cons.mpr ⟨lw_p27, List.forall_mem_cons.mpr ⟨lw_p28, List.forall_mem_cons.mpr ⟨lw_p29, List.forall_mem_cons.mpr ⟨lw_p30, List.forall_mem_cons.mpr ⟨lw_p31, fun _ h => absurd h List.not_mem_nil⟩⟩⟩⟩⟩⟩⟩⟩⟩⟩⟩⟩⟩⟩⟩⟩
theorem lw_p32 : lw_okq (⟨"TermStrategies$Runner", "goOnFromFirst", "(I)V"⟩, 17) := ⟨⟨by decide +kernel, by decide +kernel⟩, List.mem_of_getElem? (i := 190) (by decide +kernel), List.mem_of_getElem? (i := 868) (by decide +kernel), List.mem_of_getElem? (i := 869) (by decide +kernel)⟩
theorem lw_p33 : lw_okq (⟨"TermStrategies$Runner", "join", "(III)V"⟩, 17) := ⟨⟨by decide +kernel, by decide +kernel⟩, List.mem_of_getElem? (i := 190) (by decide +kernel), List.mem_of_getElem? (i := 874) (by decide +kernel), List.mem_of_getElem? (i := 875) (by decide +kernel)⟩
theorem lw_p34 : lw_okq (⟨"TermStrategies$Runner", "goOnFromSecond", "(I)V"⟩, 17) := ⟨⟨by decide +kernel, by decide +kernel⟩, List.mem_of_getElem? (i := 190) (by decide +kernel), List.mem_of_getElem? (i := 880) (by decide +kernel), List.mem_of_getElem? (i := 881) (by decide +kernel)⟩
theorem lw_p35 : lw_okq (⟨"TermStrategies$Runner", "goOnFromWalk", "(I)V"⟩, 17) := ⟨⟨by decide +kernel, by decide +kernel⟩, List.mem_of_getElem? (i := 190) (by decide +kernel), List.mem_of_getElem? (i := 884) (by decide +kernel), List.mem_of_getElem? (i := 885) (by decide +kernel)⟩
theorem lw_p36 : lw_okq (⟨"TermStrategies", "rewriteInHand", "(IJ)I"⟩, 14) := ⟨⟨by decide +kernel, by decide +kernel⟩, List.mem_of_getElem? (i := 18) (by decide +kernel), List.mem_of_getElem? (i := 922) (by decide +kernel), List.mem_of_getElem? (i := 923) (by decide +kernel)⟩
theorem lw_p37 : lw_okq (⟨"TermStrategies", "hasTooManyVariables", "(I)Z"⟩, 14) := ⟨⟨by decide +kernel, by decide +kernel⟩, List.mem_of_getElem? (i := 18) (by decide +kernel), List.mem_of_getElem? (i := 934) (by decide +kernel), List.mem_of_getElem? (i := 935) (by decide +kernel)⟩
theorem lw_p38 : lw_okq (⟨"TermStrategies$Unifier", "clear", "()V"⟩, 13) := ⟨⟨by decide +kernel, by decide +kernel⟩, List.mem_of_getElem? (i := 267) (by decide +kernel), List.mem_of_getElem? (i := 948) (by decide +kernel), List.mem_of_getElem? (i := 949) (by decide +kernel)⟩
theorem lw_p39 : lw_okq (⟨"TermStrategies$Unifier", "load", "(II)V"⟩, 13) := ⟨⟨by decide +kernel, by decide +kernel⟩, List.mem_of_getElem? (i := 267) (by decide +kernel), List.mem_of_getElem? (i := 954) (by decide +kernel), List.mem_of_getElem? (i := 955) (by decide +kernel)⟩
theorem lw_p40 : lw_okq (⟨"TermStrategies$Unifier", "putOff", "(II)V"⟩, 13) := ⟨⟨by decide +kernel, by decide +kernel⟩, List.mem_of_getElem? (i := 267) (by decide +kernel), List.mem_of_getElem? (i := 962) (by decide +kernel), List.mem_of_getElem? (i := 963) (by decide +kernel)⟩
theorem lw_p41 : lw_okq (⟨"TermStrategies$Unifier", "joins", "(II)Z"⟩, 13) := ⟨⟨by decide +kernel, by decide +kernel⟩, List.mem_of_getElem? (i := 267) (by decide +kernel), List.mem_of_getElem? (i := 967) (by decide +kernel), List.mem_of_getElem? (i := 968) (by decide +kernel)⟩
theorem lw_p42 : lw_okq (⟨"TermStrategies$Unifier", "idOf", "(I)I"⟩, 13) := ⟨⟨by decide +kernel, by decide +kernel⟩, List.mem_of_getElem? (i := 267) (by decide +kernel), List.mem_of_getElem? (i := 971) (by decide +kernel), List.mem_of_getElem? (i := 972) (by decide +kernel)⟩
theorem lw_p43 : lw_okq (⟨"TermStrategies$Unifier", "root", "(I)I"⟩, 13) := ⟨⟨by decide +kernel, by decide +kernel⟩, List.mem_of_getElem? (i := 267) (by decide +kernel), List.mem_of_getElem? (i := 976) (by decide +kernel), List.mem_of_getElem? (i := 977) (by decide +kernel)⟩
theorem lw_p44 : lw_okq (⟨"TermStrategies$Unifier", "isWithoutCircle", "()Z"⟩, 13) := ⟨⟨by decide +kernel, by decide +kernel⟩, List.mem_of_getElem? (i := 267) (by decide +kernel), List.mem_of_getElem? (i := 980) (by decide +kernel), List.mem_of_getElem? (i := 981) (by decide +kernel)⟩
theorem lw_p45 : lw_okq (⟨"TermStrategies$Unifier", "settles", "(I)Z"⟩, 13) := ⟨⟨by decide +kernel, by decide +kernel⟩, List.mem_of_getElem? (i := 267) (by decide +kernel), List.mem_of_getElem? (i := 984) (by decide +kernel), List.mem_of_getElem? (i := 985) (by decide +kernel)⟩
theorem lw_p46 : lw_okq (⟨"TermStrategies$Unifier", "writeClass", "(I)V"⟩, 13) := ⟨⟨by decide +kernel, by decide +kernel⟩, List.mem_of_getElem? (i := 267) (by decide +kernel), List.mem_of_getElem? (i := 996) (by decide +kernel), List.mem_of_getElem? (i := 997) (by decide +kernel)⟩
theorem lw_p47 : lw_okq (⟨"TermStrategies$Unifier", "nameOf", "(I)I"⟩, 13) := ⟨⟨by decide +kernel, by decide +kernel⟩, List.mem_of_getElem? (i := 267) (by decide +kernel), List.mem_of_getElem? (i := 1000) (by decide +kernel), List.mem_of_getElem? (i := 1001) (by decide +kernel)⟩
def lw_privs_3 : List (MethodName × Nat) := [(⟨"TermStrategies$Runner", "goOnFromFirst", "(I)V"⟩, 17), (⟨"TermStrategies$Runner", "join", "(III)V"⟩, 17), (⟨"TermStrategies$Runner", "goOnFromSecond", "(I)V"⟩, 17), (⟨"TermStrategies$Runner", "goOnFromWalk", "(I)V"⟩, 17), (⟨"TermStrategies", "rewriteInHand", "(IJ)I"⟩, 14), (⟨"TermStrategies", "hasTooManyVariables", "(I)Z"⟩, 14), (⟨"TermStrategies$Unifier", "clear", "()V"⟩, 13), (⟨"TermStrategies$Unifier", "load", "(II)V"⟩, 13), (⟨"TermStrategies$Unifier", "putOff", "(II)V"⟩, 13), (⟨"TermStrategies$Unifier", "joins", "(II)Z"⟩, 13), (⟨"TermStrategies$Unifier", "idOf", "(I)I"⟩, 13), (⟨"TermStrategies$Unifier", "root", "(I)I"⟩, 13), (⟨"TermStrategies$Unifier", "isWithoutCircle", "()Z"⟩, 13), (⟨"TermStrategies$Unifier", "settles", "(I)Z"⟩, 13), (⟨"TermStrategies$Unifier", "writeClass", "(I)V"⟩, 13), (⟨"TermStrategies$Unifier", "nameOf", "(I)I"⟩, 13)]
theorem lw_r3 : ∀ q ∈ lw_privs_3, lw_okq q := List.forall_mem_cons.mpr ⟨lw_p32, List.forall_mem_cons.mpr ⟨lw_p33, List.forall_mem_cons.mpr ⟨lw_p34, List.forall_mem_cons.mpr ⟨lw_p35, List.forall_mem_cons.mpr ⟨lw_p36, List.forall_mem_cons.mpr ⟨lw_p37, List.forall_mem_cons.mpr ⟨lw_p38, List.forall_mem_cons.mpr ⟨lw_p39, List.forall_mem_cons.mpr ⟨lw_p40, List.forall_mem_cons.mpr ⟨lw_p41, List.forall_mem_cons.mpr ⟨lw_p42, List.forall_mem_cons.mpr ⟨lw_p43, List.forall_mem_cons.mpr ⟨lw_p44, List.forall_mem_cons.mpr ⟨lw_p45, List.forall_mem_cons.mpr ⟨lw_p46, List.forall_mem_cons.mpr ⟨lw_p47, fun _ h => absurd h List.not_mem_nil⟩⟩⟩⟩⟩⟩⟩⟩⟩⟩⟩⟩⟩⟩⟩⟩
theorem lw_p48 : lw_okq (⟨"TermStrategies$Unifier", "writeSign", "(I)V"⟩, 13) := ⟨⟨by decide +kernel, by decide +kernel⟩, List.mem_of_getElem? (i := 267) (by decide +kernel), List.mem_of_getElem? (i := 1004) (by decide +kernel), List.mem_of_getElem? (i := 1005) (by decide +kernel)⟩
theorem lw_p49 : lw_okq (⟨"TermStrategies", "seekOverlap", "(III)I"⟩, 14) := ⟨⟨by decide +kernel, by decide +kernel⟩, List.mem_of_getElem? (i := 18) (by decide +kernel), List.mem_of_getElem? (i := 1013) (by decide +kernel), List.mem_of_getElem? (i := 1014) (by decide +kernel)⟩
theorem lw_p50 : lw_okq (⟨"TermStrategies", "layOverlap", "(III)Z"⟩, 14) := ⟨⟨by decide +kernel, by decide +kernel⟩, List.mem_of_getElem? (i := 18) (by decide +kernel), List.mem_of_getElem? (i := 1017) (by decide +kernel), List.mem_of_getElem? (i := 1018) (by decide +kernel)⟩
theorem lw_p51 : lw_okq (⟨"TermStrategies", "judgeRefusal", "(III)I"⟩, 14) := ⟨⟨by decide +kernel, by decide +kernel⟩, List.mem_of_getElem? (i := 18) (by decide +kernel), List.mem_of_getElem? (i := 1037) (by decide +kernel), List.mem_of_getElem? (i := 1038) (by decide +kernel)⟩
theorem lw_p52 : lw_okq (⟨"TermStrategies", "rewriteAtLeast", "(II)Z"⟩, 14) := ⟨⟨by decide +kernel, by decide +kernel⟩, List.mem_of_getElem? (i := 18) (by decide +kernel), List.mem_of_getElem? (i := 1052) (by decide +kernel), List.mem_of_getElem? (i := 1053) (by decide +kernel)⟩
theorem lw_p53 : lw_okq (⟨"TermStrategies", "nodesOfAll", "()I"⟩, 14) := ⟨⟨by decide +kernel, by decide +kernel⟩, List.mem_of_getElem? (i := 18) (by decide +kernel), List.mem_of_getElem? (i := 1088) (by decide +kernel), List.mem_of_getElem? (i := 1089) (by decide +kernel)⟩
theorem lw_p54 : lw_okq (⟨"TermStrategiesModel", "no", "(I)I"⟩, 61) := ⟨⟨by decide +kernel, by decide +kernel⟩, List.mem_of_getElem? (i := 1092) (by decide +kernel), List.mem_of_getElem? (i := 1290) (by decide +kernel), List.mem_of_getElem? (i := 1291) (by decide +kernel)⟩
theorem lw_p55 : lw_okq (⟨"TermStrategiesModel", "noRow", "(I)I"⟩, 61) := ⟨⟨by decide +kernel, by decide +kernel⟩, List.mem_of_getElem? (i := 1092) (by decide +kernel), List.mem_of_getElem? (i := 1298) (by decide +kernel), List.mem_of_getElem? (i := 1299) (by decide +kernel)⟩
theorem lw_p56 : lw_okq (⟨"TermStrategiesModel", "isRow", "(I)Z"⟩, 61) := ⟨⟨by decide +kernel, by decide +kernel⟩, List.mem_of_getElem? (i := 1092) (by decide +kernel), List.mem_of_getElem? (i := 1302) (by decide +kernel), List.mem_of_getElem? (i := 1303) (by decide +kernel)⟩
theorem lw_p57 : lw_okq (⟨"TermStrategiesModel", "isStrategy", "(I)Z"⟩, 61) := ⟨⟨by decide +kernel, by decide +kernel⟩, List.mem_of_getElem? (i := 1092) (by decide +kernel), List.mem_of_getElem? (i := 1318) (by decide +kernel), List.mem_of_getElem? (i := 1319) (by decide +kernel)⟩
theorem lw_p58 : lw_okq (⟨"TermStrategiesModel", "weight", "(I)I"⟩, 61) := ⟨⟨by decide +kernel, by decide +kernel⟩, List.mem_of_getElem? (i := 1092) (by decide +kernel), List.mem_of_getElem? (i := 1333) (by decide +kernel), List.mem_of_getElem? (i := 1334) (by decide +kernel)⟩
theorem lw_p59 : lw_okq (⟨"TermStrategiesModel", "reads", "(I)I"⟩, 61) := ⟨⟨by decide +kernel, by decide +kernel⟩, List.mem_of_getElem? (i := 1092) (by decide +kernel), List.mem_of_getElem? (i := 1342) (by decide +kernel), List.mem_of_getElem? (i := 1343) (by decide +kernel)⟩
theorem lw_p60 : lw_okq (⟨"TermStrategiesModel", "read", "(II)I"⟩, 61) := ⟨⟨by decide +kernel, by decide +kernel⟩, List.mem_of_getElem? (i := 1092) (by decide +kernel), List.mem_of_getElem? (i := 1346) (by decide +kernel), List.mem_of_getElem? (i := 1347) (by decide +kernel)⟩
theorem lw_p61 : lw_okq (⟨"TermStrategiesModel", "newTerm", "([II)I"⟩, 61) := ⟨⟨by decide +kernel, by decide +kernel⟩, List.mem_of_getElem? (i := 1092) (by decide +kernel), List.mem_of_getElem? (i := 1356) (by decide +kernel), List.mem_of_getElem? (i := 1357) (by decide +kernel)⟩
theorem lw_p62 : lw_okq (⟨"TermStrategiesModel", "isTerm", "(I)Z"⟩, 61) := ⟨⟨by decide +kernel, by decide +kernel⟩, List.mem_of_getElem? (i := 1092) (by decide +kernel), List.mem_of_getElem? (i := 1376) (by decide +kernel), List.mem_of_getElem? (i := 1377) (by decide +kernel)⟩
theorem lw_p63 : lw_okq (⟨"TermStrategiesModel", "depth", "(I)I"⟩, 61) := ⟨⟨by decide +kernel, by decide +kernel⟩, List.mem_of_getElem? (i := 1092) (by decide +kernel), List.mem_of_getElem? (i := 1384) (by decide +kernel), List.mem_of_getElem? (i := 1385) (by decide +kernel)⟩
def lw_privs_4 : List (MethodName × Nat) := [(⟨"TermStrategies$Unifier", "writeSign", "(I)V"⟩, 13), (⟨"TermStrategies", "seekOverlap", "(III)I"⟩, 14), (⟨"TermStrategies", "layOverlap", "(III)Z"⟩, 14), (⟨"TermStrategies", "judgeRefusal", "(III)I"⟩, 14), (⟨"TermStrategies", "rewriteAtLeast", "(II)Z"⟩, 14), (⟨"TermStrategies", "nodesOfAll", "()I"⟩, 14), (⟨"TermStrategiesModel", "no", "(I)I"⟩, 61), (⟨"TermStrategiesModel", "noRow", "(I)I"⟩, 61), (⟨"TermStrategiesModel", "isRow", "(I)Z"⟩, 61), (⟨"TermStrategiesModel", "isStrategy", "(I)Z"⟩, 61), (⟨"TermStrategiesModel", "weight", "(I)I"⟩, 61), (⟨"TermStrategiesModel", "reads", "(I)I"⟩, 61), (⟨"TermStrategiesModel", "read", "(II)I"⟩, 61), (⟨"TermStrategiesModel", "newTerm", "([II)I"⟩, 61), (⟨"TermStrategiesModel", "isTerm", "(I)Z"⟩, 61), (⟨"TermStrategiesModel", "depth", "(I)I"⟩, 61)]
theorem lw_r4 : ∀ q ∈ lw_privs_4, lw_okq q := List.forall_mem_cons.mpr ⟨lw_p48, List.forall_mem_cons.mpr ⟨lw_p49, List.forall_mem_cons.mpr ⟨lw_p50, List.forall_mem_cons.mpr ⟨lw_p51, List.forall_mem_cons.mpr ⟨lw_p52, List.forall_mem_cons.mpr ⟨lw_p53, List.forall_mem_cons.mpr ⟨lw_p54, List.forall_mem_cons.mpr ⟨lw_p55, List.forall_mem_cons.mpr ⟨lw_p56, List.forall_mem_cons.mpr ⟨lw_p57, List.forall_mem_cons.mpr ⟨lw_p58, List.forall_mem_cons.mpr ⟨lw_p59, List.forall_mem_cons.mpr ⟨lw_p60, List.forall_mem_cons.mpr ⟨lw_p61, List.forall_mem_cons.mpr ⟨lw_p62, List.forall_mem_cons.mpr ⟨lw_p63, fun _ h => absurd h List.not_mem_nil⟩⟩⟩⟩⟩⟩⟩⟩⟩⟩⟩⟩⟩⟩⟩⟩
theorem lw_p64 : lw_okq (⟨"TermStrategiesModel", "fitting", "(I)J"⟩, 61) := ⟨⟨by decide +kernel, by decide +kernel⟩, List.mem_of_getElem? (i := 1092) (by decide +kernel), List.mem_of_getElem? (i := 1398) (by decide +kernel), List.mem_of_getElem? (i := 1399) (by decide +kernel)⟩
theorem lw_p65 : lw_okq (⟨"TermStrategiesModel", "grows", "(I)V"⟩, 61) := ⟨⟨by decide +kernel, by decide +kernel⟩, List.mem_of_getElem? (i := 1092) (by decide +kernel), List.mem_of_getElem? (i := 1402) (by decide +kernel), List.mem_of_getElem? (i := 1403) (by decide +kernel)⟩
theorem lw_p66 : lw_okq (⟨"TermStrategiesModel", "isFit", "(II)Z"⟩, 61) := ⟨⟨by decide +kernel, by decide +kernel⟩, List.mem_of_getElem? (i := 1092) (by decide +kernel), List.mem_of_getElem? (i := 1406) (by decide +kernel), List.mem_of_getElem? (i := 1407) (by decide +kernel)⟩
theorem lw_p67 : lw_okq (⟨"TermStrategiesModel", "matches", "([III)Z"⟩, 61) := ⟨⟨by decide +kernel, by decide +kernel⟩, List.mem_of_getElem? (i := 1092) (by decide +kernel), List.mem_of_getElem? (i := 1410) (by decide +kernel), List.mem_of_getElem? (i := 1411) (by decide +kernel)⟩
theorem lw_p68 : lw_okq (⟨"TermStrategiesModel", "commutes", "(I)Z"⟩, 61) := ⟨⟨by decide +kernel, by decide +kernel⟩, List.mem_of_getElem? (i := 1092) (by decide +kernel), List.mem_of_getElem? (i := 1414) (by decide +kernel), List.mem_of_getElem? (i := 1415) (by decide +kernel)⟩
theorem lw_p69 : lw_okq (⟨"TermStrategiesModel", "goal", "(III)V"⟩, 61) := ⟨⟨by decide +kernel, by decide +kernel⟩, List.mem_of_getElem? (i := 1092) (by decide +kernel), List.mem_of_getElem? (i := 1418) (by decide +kernel), List.mem_of_getElem? (i := 1419) (by decide +kernel)⟩
theorem lw_p70 : lw_okq (⟨"TermStrategiesModel", "solves", "(I)Z"⟩, 61) := ⟨⟨by decide +kernel, by decide +kernel⟩, List.mem_of_getElem? (i := 1092) (by decide +kernel), List.mem_of_getElem? (i := 1422) (by decide +kernel), List.mem_of_getElem? (i := 1423) (by decide +kernel)⟩
theorem lw_p71 : lw_okq (⟨"TermStrategiesModel", "bindsTo", "(III)Z"⟩, 61) := ⟨⟨by decide +kernel, by decide +kernel⟩, List.mem_of_getElem? (i := 1092) (by decide +kernel), List.mem_of_getElem? (i := 1426) (by decide +kernel), List.mem_of_getElem? (i := 1427) (by decide +kernel)⟩
theorem lw_p72 : lw_okq (⟨"TermStrategiesModel", "bothMatch", "(IIIZ)Z"⟩, 61) := ⟨⟨by decide +kernel, by decide +kernel⟩, List.mem_of_getElem? (i := 1092) (by decide +kernel), List.mem_of_getElem? (i := 1433) (by decide +kernel), List.mem_of_getElem? (i := 1434) (by decide +kernel)⟩
theorem lw_p73 : lw_okq (⟨"TermStrategiesModel", "isSameBut", "(II)Z"⟩, 61) := ⟨⟨by decide +kernel, by decide +kernel⟩, List.mem_of_getElem? (i := 1092) (by decide +kernel), List.mem_of_getElem? (i := 1449) (by decide +kernel), List.mem_of_getElem? (i := 1450) (by decide +kernel)⟩
theorem lw_p74 : lw_okq (⟨"TermStrategiesModel", "isRule", "(I)Z"⟩, 61) := ⟨⟨by decide +kernel, by decide +kernel⟩, List.mem_of_getElem? (i := 1092) (by decide +kernel), List.mem_of_getElem? (i := 1461) (by decide +kernel), List.mem_of_getElem? (i := 1462) (by decide +kernel)⟩
theorem lw_p75 : lw_okq (⟨"TermStrategiesModel", "no10", "(I)I"⟩, 61) := ⟨⟨by decide +kernel, by decide +kernel⟩, List.mem_of_getElem? (i := 1092) (by decide +kernel), List.mem_of_getElem? (i := 1473) (by decide +kernel), List.mem_of_getElem? (i := 1474) (by decide +kernel)⟩
theorem lw_p76 : lw_okq (⟨"TermStrategiesModel", "builds", "(I)V"⟩, 61) := ⟨⟨by decide +kernel, by decide +kernel⟩, List.mem_of_getElem? (i := 1092) (by decide +kernel), List.mem_of_getElem? (i := 1485) (by decide +kernel), List.mem_of_getElem? (i := 1486) (by decide +kernel)⟩
theorem lw_p77 : lw_okq (⟨"TermStrategiesModel", "becomes", "(I[III)V"⟩, 61) := ⟨⟨by decide +kernel, by decide +kernel⟩, List.mem_of_getElem? (i := 1092) (by decide +kernel), List.mem_of_getElem? (i := 1489) (by decide +kernel), List.mem_of_getElem? (i := 1490) (by decide +kernel)⟩
theorem lw_p78 : lw_okq (⟨"TermStrategiesModel", "counts", "()V"⟩, 61) := ⟨⟨by decide +kernel, by decide +kernel⟩, List.mem_of_getElem? (i := 1092) (by decide +kernel), List.mem_of_getElem? (i := 1505) (by decide +kernel), List.mem_of_getElem? (i := 1506) (by decide +kernel)⟩
theorem lw_p79 : lw_okq (⟨"TermStrategiesModel", "goes", "(I)I"⟩, 61) := ⟨⟨by decide +kernel, by decide +kernel⟩, List.mem_of_getElem? (i := 1092) (by decide +kernel), List.mem_of_getElem? (i := 1509) (by decide +kernel), List.mem_of_getElem? (i := 1510) (by decide +kernel)⟩
def lw_privs_5 : List (MethodName × Nat) := [(⟨"TermStrategiesModel", "fitting", "(I)J"⟩, 61), (⟨"TermStrategiesModel", "grows", "(I)V"⟩, 61), (⟨"TermStrategiesModel", "isFit", "(II)Z"⟩, 61), (⟨"TermStrategiesModel", "matches", "([III)Z"⟩, 61), (⟨"TermStrategiesModel", "commutes", "(I)Z"⟩, 61), (⟨"TermStrategiesModel", "goal", "(III)V"⟩, 61), (⟨"TermStrategiesModel", "solves", "(I)Z"⟩, 61), (⟨"TermStrategiesModel", "bindsTo", "(III)Z"⟩, 61), (⟨"TermStrategiesModel", "bothMatch", "(IIIZ)Z"⟩, 61), (⟨"TermStrategiesModel", "isSameBut", "(II)Z"⟩, 61), (⟨"TermStrategiesModel", "isRule", "(I)Z"⟩, 61), (⟨"TermStrategiesModel", "no10", "(I)I"⟩, 61), (⟨"TermStrategiesModel", "builds", "(I)V"⟩, 61), (⟨"TermStrategiesModel", "becomes", "(I[III)V"⟩, 61), (⟨"TermStrategiesModel", "counts", "()V"⟩, 61), (⟨"TermStrategiesModel", "goes", "(I)I"⟩, 61)]
theorem lw_r5 : ∀ q ∈ lw_privs_5, lw_okq q := List.forall_mem_cons.mpr ⟨lw_p64, List.forall_mem_cons.mpr ⟨lw_p65, List.forall_mem_cons.mpr ⟨lw_p66, List.forall_mem_cons.mpr ⟨lw_p67, List.forall_mem_cons.mpr ⟨lw_p68, List.forall_mem_cons.mpr ⟨lw_p69, List.forall_mem_cons.mpr ⟨lw_p70, List.forall_mem_cons.mpr ⟨lw_p71, List.forall_mem_cons.mpr ⟨lw_p72, List.forall_mem_cons.mpr ⟨lw_p73, List.forall_mem_cons.mpr ⟨lw_p74, List.forall_mem_cons.mpr ⟨lw_p75, List.forall_mem_cons.mpr ⟨lw_p76, List.forall_mem_cons.mpr ⟨lw_p77, List.forall_mem_cons.mpr ⟨lw_p78, List.forall_mem_cons.mpr ⟨lw_p79, fun _ h => absurd h List.not_mem_nil⟩⟩⟩⟩⟩⟩⟩⟩⟩⟩⟩⟩⟩⟩⟩⟩
theorem lw_p80 : lw_okq (⟨"TermStrategiesModel", "goes", "(II)Z"⟩, 61) := ⟨⟨by decide +kernel, by decide +kernel⟩, List.mem_of_getElem? (i := 1092) (by decide +kernel), List.mem_of_getElem? (i := 1513) (by decide +kernel), List.mem_of_getElem? (i := 1514) (by decide +kernel)⟩
theorem lw_p81 : lw_okq (⟨"TermStrategiesModel", "begins", "()Z"⟩, 61) := ⟨⟨by decide +kernel, by decide +kernel⟩, List.mem_of_getElem? (i := 1092) (by decide +kernel), List.mem_of_getElem? (i := 1517) (by decide +kernel), List.mem_of_getElem? (i := 1518) (by decide +kernel)⟩
theorem lw_p82 : lw_okq (⟨"TermStrategiesModel", "end", "()Z"⟩, 61) := ⟨⟨by decide +kernel, by decide +kernel⟩, List.mem_of_getElem? (i := 1092) (by decide +kernel), List.mem_of_getElem? (i := 1521) (by decide +kernel), List.mem_of_getElem? (i := 1522) (by decide +kernel)⟩
theorem lw_p83 : lw_okq (⟨"TermStrategiesModel", "oneOf", "(I)I"⟩, 61) := ⟨⟨by decide +kernel, by decide +kernel⟩, List.mem_of_getElem? (i := 1092) (by decide +kernel), List.mem_of_getElem? (i := 1525) (by decide +kernel), List.mem_of_getElem? (i := 1526) (by decide +kernel)⟩
theorem lw_p84 : lw_okq (⟨"TermStrategiesModel", "kindOf", "(I)I"⟩, 61) := ⟨⟨by decide +kernel, by decide +kernel⟩, List.mem_of_getElem? (i := 1092) (by decide +kernel), List.mem_of_getElem? (i := 1529) (by decide +kernel), List.mem_of_getElem? (i := 1530) (by decide +kernel)⟩
theorem lw_p85 : lw_okq (⟨"TermStrategiesModel", "rewrites", "(II)Z"⟩, 61) := ⟨⟨by decide +kernel, by decide +kernel⟩, List.mem_of_getElem? (i := 1092) (by decide +kernel), List.mem_of_getElem? (i := 1533) (by decide +kernel), List.mem_of_getElem? (i := 1534) (by decide +kernel)⟩
theorem lw_p86 : lw_okq (⟨"TermStrategiesModel", "twoOf", "(I)I"⟩, 61) := ⟨⟨by decide +kernel, by decide +kernel⟩, List.mem_of_getElem? (i := 1092) (by decide +kernel), List.mem_of_getElem? (i := 1537) (by decide +kernel), List.mem_of_getElem? (i := 1538) (by decide +kernel)⟩
theorem lw_p87 : lw_okq (⟨"TermStrategiesModel", "tries", "(II)Z"⟩, 61) := ⟨⟨by decide +kernel, by decide +kernel⟩, List.mem_of_getElem? (i := 1092) (by decide +kernel), List.mem_of_getElem? (i := 1541) (by decide +kernel), List.mem_of_getElem? (i := 1542) (by decide +kernel)⟩
theorem lw_p88 : lw_okq (⟨"TermStrategiesModel", "lays", "(I)V"⟩, 61) := ⟨⟨by decide +kernel, by decide +kernel⟩, List.mem_of_getElem? (i := 1092) (by decide +kernel), List.mem_of_getElem? (i := 1545) (by decide +kernel), List.mem_of_getElem? (i := 1546) (by decide +kernel)⟩
theorem lw_p89 : lw_okq (⟨"TermStrategiesModel", "again", "(IZ)V"⟩, 61) := ⟨⟨by decide +kernel, by decide +kernel⟩, List.mem_of_getElem? (i := 1092) (by decide +kernel), List.mem_of_getElem? (i := 1549) (by decide +kernel), List.mem_of_getElem? (i := 1550) (by decide +kernel)⟩
theorem lw_p90 : lw_okq (⟨"TermStrategiesModel", "goesAll", "(II)Z"⟩, 61) := ⟨⟨by decide +kernel, by decide +kernel⟩, List.mem_of_getElem? (i := 1092) (by decide +kernel), List.mem_of_getElem? (i := 1553) (by decide +kernel), List.mem_of_getElem? (i := 1554) (by decide +kernel)⟩
theorem lw_p91 : lw_okq (⟨"TermStrategiesModel", "fitsIn", "(I)Z"⟩, 61) := ⟨⟨by decide +kernel, by decide +kernel⟩, List.mem_of_getElem? (i := 1092) (by decide +kernel), List.mem_of_getElem? (i := 1557) (by decide +kernel), List.mem_of_getElem? (i := 1558) (by decide +kernel)⟩
theorem lw_p92 : lw_okq (⟨"TermStrategiesModel", "goesOne", "(II)Z"⟩, 61) := ⟨⟨by decide +kernel, by decide +kernel⟩, List.mem_of_getElem? (i := 1092) (by decide +kernel), List.mem_of_getElem? (i := 1561) (by decide +kernel), List.mem_of_getElem? (i := 1562) (by decide +kernel)⟩
theorem lw_p93 : lw_okq (⟨"TermStrategiesModel", "goesSome", "(II)Z"⟩, 61) := ⟨⟨by decide +kernel, by decide +kernel⟩, List.mem_of_getElem? (i := 1092) (by decide +kernel), List.mem_of_getElem? (i := 1565) (by decide +kernel), List.mem_of_getElem? (i := 1566) (by decide +kernel)⟩
theorem lw_p94 : lw_okq (⟨"TermStrategiesModel", "innermost", "(II)Z"⟩, 61) := ⟨⟨by decide +kernel, by decide +kernel⟩, List.mem_of_getElem? (i := 1092) (by decide +kernel), List.mem_of_getElem? (i := 1569) (by decide +kernel), List.mem_of_getElem? (i := 1570) (by decide +kernel)⟩
theorem lw_p95 : lw_okq (⟨"TermStrategiesModel", "repeats", "(II)Z"⟩, 61) := ⟨⟨by decide +kernel, by decide +kernel⟩, List.mem_of_getElem? (i := 1092) (by decide +kernel), List.mem_of_getElem? (i := 1573) (by decide +kernel), List.mem_of_getElem? (i := 1574) (by decide +kernel)⟩
def lw_privs_6 : List (MethodName × Nat) := [(⟨"TermStrategiesModel", "goes", "(II)Z"⟩, 61), (⟨"TermStrategiesModel", "begins", "()Z"⟩, 61), (⟨"TermStrategiesModel", "end", "()Z"⟩, 61), (⟨"TermStrategiesModel", "oneOf", "(I)I"⟩, 61), (⟨"TermStrategiesModel", "kindOf", "(I)I"⟩, 61), (⟨"TermStrategiesModel", "rewrites", "(II)Z"⟩, 61), (⟨"TermStrategiesModel", "twoOf", "(I)I"⟩, 61), (⟨"TermStrategiesModel", "tries", "(II)Z"⟩, 61), (⟨"TermStrategiesModel", "lays", "(I)V"⟩, 61), (⟨"TermStrategiesModel", "again", "(IZ)V"⟩, 61), (⟨"TermStrategiesModel", "goesAll", "(II)Z"⟩, 61), (⟨"TermStrategiesModel", "fitsIn", "(I)Z"⟩, 61), (⟨"TermStrategiesModel", "goesOne", "(II)Z"⟩, 61), (⟨"TermStrategiesModel", "goesSome", "(II)Z"⟩, 61), (⟨"TermStrategiesModel", "innermost", "(II)Z"⟩, 61), (⟨"TermStrategiesModel", "repeats", "(II)Z"⟩, 61)]
theorem lw_r6 : ∀ q ∈ lw_privs_6, lw_okq q := List.forall_mem_cons.mpr ⟨lw_p80, List.forall_mem_cons.mpr ⟨lw_p81, List.forall_mem_cons.mpr ⟨lw_p82, List.forall_mem_cons.mpr ⟨lw_p83, List.forall_mem_cons.mpr ⟨lw_p84, List.forall_mem_cons.mpr ⟨lw_p85, List.forall_mem_cons.mpr ⟨lw_p86, List.forall_mem_cons.mpr ⟨lw_p87, List.forall_mem_cons.mpr ⟨lw_p88, List.forall_mem_cons.mpr ⟨lw_p89, List.forall_mem_cons.mpr ⟨lw_p90, List.forall_mem_cons.mpr ⟨lw_p91, List.forall_mem_cons.mpr ⟨lw_p92, List.forall_mem_cons.mpr ⟨lw_p93, List.forall_mem_cons.mpr ⟨lw_p94, List.forall_mem_cons.mpr ⟨lw_p95, fun _ h => absurd h List.not_mem_nil⟩⟩⟩⟩⟩⟩⟩⟩⟩⟩⟩⟩⟩⟩⟩⟩
theorem lw_p96 : lw_okq (⟨"TermStrategiesModel", "nodeOf", "(J)I"⟩, 61) := ⟨⟨by decide +kernel, by decide +kernel⟩, List.mem_of_getElem? (i := 1092) (by decide +kernel), List.mem_of_getElem? (i := 1594) (by decide +kernel), List.mem_of_getElem? (i := 1595) (by decide +kernel)⟩
theorem lw_p97 : lw_okq (⟨"TermStrategiesModel", "unbinds", "()V"⟩, 61) := ⟨⟨by decide +kernel, by decide +kernel⟩, List.mem_of_getElem? (i := 1092) (by decide +kernel), List.mem_of_getElem? (i := 1603) (by decide +kernel), List.mem_of_getElem? (i := 1604) (by decide +kernel)⟩
theorem lw_p98 : lw_okq (⟨"TermStrategiesModel", "pools", "(I[IIIZ)V"⟩, 61) := ⟨⟨by decide +kernel, by decide +kernel⟩, List.mem_of_getElem? (i := 1092) (by decide +kernel), List.mem_of_getElem? (i := 1607) (by decide +kernel), List.mem_of_getElem? (i := 1608) (by decide +kernel)⟩
theorem lw_p99 : lw_okq (⟨"TermStrategiesModel", "unifies", "(II)Z"⟩, 61) := ⟨⟨by decide +kernel, by decide +kernel⟩, List.mem_of_getElem? (i := 1092) (by decide +kernel), List.mem_of_getElem? (i := 1611) (by decide +kernel), List.mem_of_getElem? (i := 1612) (by decide +kernel)⟩
theorem lw_p100 : lw_okq (⟨"TermStrategiesModel", "standsFor", "(I)I"⟩, 61) := ⟨⟨by decide +kernel, by decide +kernel⟩, List.mem_of_getElem? (i := 1092) (by decide +kernel), List.mem_of_getElem? (i := 1615) (by decide +kernel), List.mem_of_getElem? (i := 1616) (by decide +kernel)⟩
theorem lw_p101 : lw_okq (⟨"TermStrategiesModel", "isIn", "(II)Z"⟩, 61) := ⟨⟨by decide +kernel, by decide +kernel⟩, List.mem_of_getElem? (i := 1092) (by decide +kernel), List.mem_of_getElem? (i := 1625) (by decide +kernel), List.mem_of_getElem? (i := 1626) (by decide +kernel)⟩
theorem lw_p102 : lw_okq (⟨"TermStrategiesModel", "poolArgument", "(II)I"⟩, 61) := ⟨⟨by decide +kernel, by decide +kernel⟩, List.mem_of_getElem? (i := 1092) (by decide +kernel), List.mem_of_getElem? (i := 1632) (by decide +kernel), List.mem_of_getElem? (i := 1633) (by decide +kernel)⟩
theorem lw_p103 : lw_okq (⟨"TermStrategiesModel", "poolSpan", "(I)I"⟩, 61) := ⟨⟨by decide +kernel, by decide +kernel⟩, List.mem_of_getElem? (i := 1092) (by decide +kernel), List.mem_of_getElem? (i := 1636) (by decide +kernel), List.mem_of_getElem? (i := 1637) (by decide +kernel)⟩
theorem lw_p104 : lw_okq (⟨"TermStrategiesModel", "puts", "([III)I"⟩, 61) := ⟨⟨by decide +kernel, by decide +kernel⟩, List.mem_of_getElem? (i := 1092) (by decide +kernel), List.mem_of_getElem? (i := 1640) (by decide +kernel), List.mem_of_getElem? (i := 1641) (by decide +kernel)⟩
theorem lw_p105 : lw_okq (⟨"TermStrategiesModel", "overlapsTill", "(III)I"⟩, 61) := ⟨⟨by decide +kernel, by decide +kernel⟩, List.mem_of_getElem? (i := 1092) (by decide +kernel), List.mem_of_getElem? (i := 1648) (by decide +kernel), List.mem_of_getElem? (i := 1649) (by decide +kernel)⟩
theorem lw_p106 : lw_okq (⟨"TermStrategiesModel", "isNarrow", "(I)Z"⟩, 61) := ⟨⟨by decide +kernel, by decide +kernel⟩, List.mem_of_getElem? (i := 1092) (by decide +kernel), List.mem_of_getElem? (i := 1652) (by decide +kernel), List.mem_of_getElem? (i := 1653) (by decide +kernel)⟩
theorem lw_p107 : lw_okq (⟨"TermStrategiesModel", "overlapsAt", "(III)Z"⟩, 61) := ⟨⟨by decide +kernel, by decide +kernel⟩, List.mem_of_getElem? (i := 1092) (by decide +kernel), List.mem_of_getElem? (i := 1656) (by decide +kernel), List.mem_of_getElem? (i := 1657) (by decide +kernel)⟩
theorem lw_p108 : lw_okq (⟨"TermStrategiesModel", "putsBut", "(III)I"⟩, 61) := ⟨⟨by decide +kernel, by decide +kernel⟩, List.mem_of_getElem? (i := 1092) (by decide +kernel), List.mem_of_getElem? (i := 1660) (by decide +kernel), List.mem_of_getElem? (i := 1661) (by decide +kernel)⟩
theorem lw_p109 : lw_okq (⟨"TermStrategiesModel", "isOverlap", "(III)Z"⟩, 61) := ⟨⟨by decide +kernel, by decide +kernel⟩, List.mem_of_getElem? (i := 1092) (by decide +kernel), List.mem_of_getElem? (i := 1668) (by decide +kernel), List.mem_of_getElem? (i := 1669) (by decide +kernel)⟩
theorem lw_p110 : lw_okq (⟨"TermStrategiesModel", "normal", "([II)I"⟩, 61) := ⟨⟨by decide +kernel, by decide +kernel⟩, List.mem_of_getElem? (i := 1092) (by decide +kernel), List.mem_of_getElem? (i := 1676) (by decide +kernel), List.mem_of_getElem? (i := 1677) (by decide +kernel)⟩
theorem lw_p111 : lw_okq (⟨"TermStrategiesModel", "isMade", "(III)Z"⟩, 61) := ⟨⟨by decide +kernel, by decide +kernel⟩, List.mem_of_getElem? (i := 1092) (by decide +kernel), List.mem_of_getElem? (i := 1685) (by decide +kernel), List.mem_of_getElem? (i := 1686) (by decide +kernel)⟩
def lw_privs_7 : List (MethodName × Nat) := [(⟨"TermStrategiesModel", "nodeOf", "(J)I"⟩, 61), (⟨"TermStrategiesModel", "unbinds", "()V"⟩, 61), (⟨"TermStrategiesModel", "pools", "(I[IIIZ)V"⟩, 61), (⟨"TermStrategiesModel", "unifies", "(II)Z"⟩, 61), (⟨"TermStrategiesModel", "standsFor", "(I)I"⟩, 61), (⟨"TermStrategiesModel", "isIn", "(II)Z"⟩, 61), (⟨"TermStrategiesModel", "poolArgument", "(II)I"⟩, 61), (⟨"TermStrategiesModel", "poolSpan", "(I)I"⟩, 61), (⟨"TermStrategiesModel", "puts", "([III)I"⟩, 61), (⟨"TermStrategiesModel", "overlapsTill", "(III)I"⟩, 61), (⟨"TermStrategiesModel", "isNarrow", "(I)Z"⟩, 61), (⟨"TermStrategiesModel", "overlapsAt", "(III)Z"⟩, 61), (⟨"TermStrategiesModel", "putsBut", "(III)I"⟩, 61), (⟨"TermStrategiesModel", "isOverlap", "(III)Z"⟩, 61), (⟨"TermStrategiesModel", "normal", "([II)I"⟩, 61), (⟨"TermStrategiesModel", "isMade", "(III)Z"⟩, 61)]
theorem lw_r7 : ∀ q ∈ lw_privs_7, lw_okq q := List.forall_mem_cons.mpr ⟨lw_p96, List.forall_mem_cons.mpr ⟨lw_p97, List.forall_mem_cons.mpr ⟨lw_p98, List.forall_mem_cons.mpr ⟨lw_p99, List.forall_mem_cons.mpr ⟨lw_p100, List.forall_mem_cons.mpr ⟨lw_p101, List.forall_mem_cons.mpr ⟨lw_p102, List.forall_mem_cons.mpr ⟨lw_p103, List.forall_mem_cons.mpr ⟨lw_p104, List.forall_mem_cons.mpr ⟨lw_p105, List.forall_mem_cons.mpr ⟨lw_p106, List.forall_mem_cons.mpr ⟨lw_p107, List.forall_mem_cons.mpr ⟨lw_p108, List.forall_mem_cons.mpr ⟨lw_p109, List.forall_mem_cons.mpr ⟨lw_p110, List.forall_mem_cons.mpr ⟨lw_p111, fun _ h => absurd h List.not_mem_nil⟩⟩⟩⟩⟩⟩⟩⟩⟩⟩⟩⟩⟩⟩⟩⟩
theorem lw_p112 : lw_okq (⟨"TermStrategiesModel", "draw", "(I)I"⟩, 61) := ⟨⟨by decide +kernel, by decide +kernel⟩, List.mem_of_getElem? (i := 1092) (by decide +kernel), List.mem_of_getElem? (i := 1693) (by decide +kernel), List.mem_of_getElem? (i := 1694) (by decide +kernel)⟩
theorem lw_p113 : lw_okq (⟨"TermStrategiesModel", "isDone", "(II)Z"⟩, 61) := ⟨⟨by decide +kernel, by decide +kernel⟩, List.mem_of_getElem? (i := 1092) (by decide +kernel), List.mem_of_getElem? (i := 1698) (by decide +kernel), List.mem_of_getElem? (i := 1699) (by decide +kernel)⟩
theorem lw_p114 : lw_okq (⟨"TermStrategiesModel", "allNodes", "()I"⟩, 61) := ⟨⟨by decide +kernel, by decide +kernel⟩, List.mem_of_getElem? (i := 1092) (by decide +kernel), List.mem_of_getElem? (i := 1718) (by decide +kernel), List.mem_of_getElem? (i := 1719) (by decide +kernel)⟩
def lw_privs_8 : List (MethodName × Nat) := [(⟨"TermStrategiesModel", "draw", "(I)I"⟩, 61), (⟨"TermStrategiesModel", "isDone", "(II)Z"⟩, 61), (⟨"TermStrategiesModel", "allNodes", "()I"⟩, 61)]
theorem lw_r8 : ∀ q ∈ lw_privs_8, lw_okq q := List.forall_mem_cons.mpr ⟨lw_p112, List.forall_mem_cons.mpr ⟨lw_p113, List.forall_mem_cons.mpr ⟨lw_p114, fun _ h => absurd h List.not_mem_nil⟩⟩⟩
def lw_privs : List (MethodName × Nat) := lw_privs_1 ++ (lw_privs_2 ++ (lw_privs_3 ++ (lw_privs_4 ++ (lw_privs_5 ++ (lw_privs_6 ++ (lw_privs_7 ++ (lw_privs_8)))))))
def lw_tbl : List Cond := k2_sels lw_privs ++ tables_1
theorem lw_privs_ok : ∀ q ∈ lw_privs, lw_okq q := by
  show ∀ q ∈ lw_privs_1 ++ (lw_privs_2 ++ (lw_privs_3 ++ (lw_privs_4 ++ (lw_privs_5 ++ (lw_privs_6 ++ (lw_privs_7 ++ (lw_privs_8))))))), lw_okq q
  exact List.forall_mem_append.mpr ⟨lw_r1, List.forall_mem_append.mpr ⟨lw_r2, List.forall_mem_append.mpr ⟨lw_r3, List.forall_mem_append.mpr ⟨lw_r4, List.forall_mem_append.mpr ⟨lw_r5, List.forall_mem_append.mpr ⟨lw_r6, List.forall_mem_append.mpr ⟨lw_r7, lw_r8⟩⟩⟩⟩⟩⟩⟩
-- ===== end of PART A; then your names; then what follows =====
def RX0 : String := "TermStrategies$Exchange"
def TX0 : u_T := fun k => match k with
  | 0 => ("TermStrategies$Exchange", "signs", "LTermStrategies$Signs;", true)
  | 1 => ("TermStrategies$Exchange", "alike", "[J", true)
  | 2 => ("TermStrategies$Exchange", "one", "I", false)
  | _ => ("TermStrategies$Exchange", "two", "I", false)
def tyX0 : Nat → FieldType := fun k => match k with
  | 0 => .object "TermStrategies$Signs"
  | 1 => .array .long
  | 2 => .int
  | _ => .int
theorem nmX0 : ∀ a, a < 4 → ∀ b, b < 4 → a ≠ b → (TX0 a).2.1 ≠ (TX0 b).2.1 := by decide +kernel
theorem tyX0_ok : ∀ k, k < 4 → parseFieldDescriptor (TX0 k).2.2.1 = some (tyX0 k) := by decide +kernel
abbrev cX0_init : ByteArray := prog_2_method_1_code
def yX0_init : MethodName := ⟨RX0, "<init>", "(LTermStrategies$Signs;)V"⟩
abbrev cX0_makesAlike : ByteArray := prog_2_method_2_code
def yX0_makesAlike : MethodName := ⟨RX0, "makesAlike", "(III)Z"⟩
abbrev cX0_argumentsAlike : ByteArray := prog_2_method_3_code
def yX0_argumentsAlike : MethodName := ⟨RX0, "argumentsAlike", "(III)Z"⟩
abbrev cX0_isAlike : ByteArray := prog_2_method_4_code
def yX0_isAlike : MethodName := ⟨RX0, "isAlike", "(II)Z"⟩
def RX1 : String := "TermStrategies$Layout"
def TX1 : u_T := fun k => match k with
  | 0 => ("TermStrategies$Layout", "signs", "LTermStrategies$Signs;", true)
  | 1 => ("TermStrategies$Layout", "levels", "[I", true)
  | 2 => ("TermStrategies$Layout", "paths", "[J", true)
  | _ => ("TermStrategies$Layout", "size", "I", false)
def tyX1 : Nat → FieldType := fun k => match k with
  | 0 => .object "TermStrategies$Signs"
  | 1 => .array .int
  | 2 => .array .long
  | _ => .int
theorem nmX1 : ∀ a, a < 4 → ∀ b, b < 4 → a ≠ b → (TX1 a).2.1 ≠ (TX1 b).2.1 := by decide +kernel
theorem tyX1_ok : ∀ k, k < 4 → parseFieldDescriptor (TX1 k).2.2.1 = some (tyX1 k) := by decide +kernel
abbrev cX1_init : ByteArray := prog_3_method_1_code
def yX1_init : MethodName := ⟨RX1, "<init>", "(LTermStrategies$Signs;)V"⟩
abbrev cX1_lay : ByteArray := prog_3_method_2_code
def yX1_lay : MethodName := ⟨RX1, "lay", "(I)V"⟩
abbrev cX1_layArgument : ByteArray := prog_3_method_3_code
def yX1_layArgument : MethodName := ⟨RX1, "layArgument", "(III)V"⟩
abbrev cX1_deepest : ByteArray := prog_3_method_4_code
def yX1_deepest : MethodName := ⟨RX1, "deepest", "()I"⟩
abbrev cX1_pathAt : ByteArray := prog_3_method_5_code
def yX1_pathAt : MethodName := ⟨RX1, "pathAt", "(I)J"⟩
abbrev cX1_nodeAt : ByteArray := prog_3_method_6_code
def yX1_nodeAt : MethodName := ⟨RX1, "nodeAt", "(J)I"⟩
def RX2 : String := "TermStrategies$Matching"
def TX2 : u_T := fun k => match k with
  | 0 => ("TermStrategies$Matching", "signs", "LTermStrategies$Signs;", true)
  | 1 => ("TermStrategies$Matching", "bindings", "[I", true)
  | 2 => ("TermStrategies$Matching", "facing", "[I", true)
  | 3 => ("TermStrategies$Matching", "turning", "I", false)
  | 4 => ("TermStrategies$Matching", "turns", "I", false)
  | _ => ("TermStrategies$Matching", "decided", "I", false)
def tyX2 : Nat → FieldType := fun k => match k with
  | 0 => .object "TermStrategies$Signs"
  | 1 => .array .int
  | 2 => .array .int
  | 3 => .int
  | 4 => .int
  | _ => .int
theorem nmX2 : ∀ a, a < 6 → ∀ b, b < 6 → a ≠ b → (TX2 a).2.1 ≠ (TX2 b).2.1 := by decide +kernel
theorem tyX2_ok : ∀ k, k < 6 → parseFieldDescriptor (TX2 k).2.2.1 = some (tyX2 k) := by decide +kernel
abbrev cX2_init : ByteArray := prog_4_method_1_code
def yX2_init : MethodName := ⟨RX2, "<init>", "(LTermStrategies$Signs;)V"⟩
abbrev cX2_matches : ByteArray := prog_4_method_2_code
def yX2_matches : MethodName := ⟨RX2, "matches", "(III)Z"⟩
abbrev cX2_countTurns : ByteArray := prog_4_method_3_code
def yX2_countTurns : MethodName := ⟨RX2, "countTurns", "(III)V"⟩
abbrev cX2_mayTurn : ByteArray := prog_4_method_4_code
def yX2_mayTurn : MethodName := ⟨RX2, "mayTurn", "(I)Z"⟩
abbrev cX2_attempt : ByteArray := prog_4_method_5_code
def yX2_attempt : MethodName := ⟨RX2, "attempt", "(IIII)Z"⟩
abbrev cX2_faceArguments : ByteArray := prog_4_method_6_code
def yX2_faceArguments : MethodName := ⟨RX2, "faceArguments", "(IIII)V"⟩
abbrev cX2_boundTo : ByteArray := prog_4_method_7_code
def yX2_boundTo : MethodName := ⟨RX2, "boundTo", "(I)I"⟩
abbrev cX2_sizeOf : ByteArray := prog_4_method_8_code
def yX2_sizeOf : MethodName := ⟨RX2, "sizeOf", "(I)I"⟩
abbrev cX2_append : ByteArray := prog_4_method_9_code
def yX2_append : MethodName := ⟨RX2, "append", "(II)I"⟩
def RX3 : String := "TermStrategies$Reader"
def TX3 : u_T := fun k => match k with
  | 0 => ("TermStrategies$Reader", "shelves", "LTermStrategies$Shelves;", true)
  | 1 => ("TermStrategies$Reader", "signs", "LTermStrategies$Signs;", true)
  | 2 => ("TermStrategies$Reader", "awaited", "[I", true)
  | 3 => ("TermStrategies$Reader", "open", "I", false)
  | _ => ("TermStrategies$Reader", "read", "I", false)
def tyX3 : Nat → FieldType := fun k => match k with
  | 0 => .object "TermStrategies$Shelves"
  | 1 => .object "TermStrategies$Signs"
  | 2 => .array .int
  | 3 => .int
  | _ => .int
theorem nmX3 : ∀ a, a < 5 → ∀ b, b < 5 → a ≠ b → (TX3 a).2.1 ≠ (TX3 b).2.1 := by decide +kernel
theorem tyX3_ok : ∀ k, k < 5 → parseFieldDescriptor (TX3 k).2.2.1 = some (tyX3 k) := by decide +kernel
abbrev cX3_init : ByteArray := prog_5_method_1_code
def yX3_init : MethodName := ⟨RX3, "<init>", "(LTermStrategies$Shelves;LTermStrategies$Signs;)V"⟩
abbrev cX3_readInto : ByteArray := prog_5_method_2_code
def yX3_readInto : MethodName := ⟨RX3, "readInto", "(II)I"⟩
abbrev cX3_next : ByteArray := prog_5_method_3_code
def yX3_next : MethodName := ⟨RX3, "next", "(III)I"⟩
abbrev cX3_nextToSign : ByteArray := prog_5_method_4_code
def yX3_nextToSign : MethodName := ⟨RX3, "nextToSign", "(II)I"⟩
def RX4 : String := "TermStrategies$Runner"
def TX4 : u_T := fun k => match k with
  | 0 => ("TermStrategies$Runner", "state", "LTermStrategies$State;", true)
  | 1 => ("TermStrategies$Runner", "signs", "LTermStrategies$Signs;", true)
  | 2 => ("TermStrategies$Runner", "matching", "LTermStrategies$Matching;", true)
  | 3 => ("TermStrategies$Runner", "trail", "LTermStrategies$Trail;", true)
  | 4 => ("TermStrategies$Runner", "strategies", "[I", true)
  | 5 => ("TermStrategies$Runner", "wholes", "[I", true)
  | 6 => ("TermStrategies$Runner", "paths", "[J", true)
  | 7 => ("TermStrategies$Runner", "stages", "[I", true)
  | 8 => ("TermStrategies$Runner", "firsts", "[I", true)
  | 9 => ("TermStrategies$Runner", "marks", "[I", true)
  | 10 => ("TermStrategies$Runner", "bases", "[I", true)
  | 11 => ("TermStrategies$Runner", "frames", "I", false)
  | 12 => ("TermStrategies$Runner", "begun", "I", false)
  | 13 => ("TermStrategies$Runner", "rewritings", "I", false)
  | 14 => ("TermStrategies$Runner", "top", "I", false)
  | 15 => ("TermStrategies$Runner", "result", "I", false)
  | _ => ("TermStrategies$Runner", "ended", "Z", false)
def tyX4 : Nat → FieldType := fun k => match k with
  | 0 => .object "TermStrategies$State"
  | 1 => .object "TermStrategies$Signs"
  | 2 => .object "TermStrategies$Matching"
  | 3 => .object "TermStrategies$Trail"
  | 4 => .array .int
  | 5 => .array .int
  | 6 => .array .long
  | 7 => .array .int
  | 8 => .array .int
  | 9 => .array .int
  | 10 => .array .int
  | 11 => .int
  | 12 => .int
  | 13 => .int
  | 14 => .int
  | 15 => .int
  | _ => .boolean
theorem nmX4 : ∀ a, a < 17 → ∀ b, b < 17 → a ≠ b → (TX4 a).2.1 ≠ (TX4 b).2.1 := by decide +kernel
theorem tyX4_ok : ∀ k, k < 17 → parseFieldDescriptor (TX4 k).2.2.1 = some (tyX4 k) := by decide +kernel
abbrev cX4_init : ByteArray := prog_6_method_1_code
def yX4_init : MethodName := ⟨RX4, "<init>", "(LTermStrategies$State;LTermStrategies$Matching;)V"⟩
abbrev cX4_forgetCounts : ByteArray := prog_6_method_2_code
def yX4_forgetCounts : MethodName := ⟨RX4, "forgetCounts", "()V"⟩
abbrev cX4_go : ByteArray := prog_6_method_3_code
def yX4_go : MethodName := ⟨RX4, "go", "(II)I"⟩
abbrev cX4_ask : ByteArray := prog_6_method_4_code
def yX4_ask : MethodName := ⟨RX4, "ask", "(IIIIJ)V"⟩
abbrev cX4_countBegun : ByteArray := prog_6_method_5_code
def yX4_countBegun : MethodName := ⟨RX4, "countBegun", "()Z"⟩
abbrev cX4_goOnWith : ByteArray := prog_6_method_6_code
def yX4_goOnWith : MethodName := ⟨RX4, "goOnWith", "(II)V"⟩
abbrev cX4_askWhole : ByteArray := prog_6_method_7_code
def yX4_askWhole : MethodName := ⟨RX4, "askWhole", "(IIII)V"⟩
abbrev cX4_finish : ByteArray := prog_6_method_8_code
def yX4_finish : MethodName := ⟨RX4, "finish", "(II)V"⟩
abbrev cX4_start : ByteArray := prog_6_method_9_code
def yX4_start : MethodName := ⟨RX4, "start", "(I)V"⟩
abbrev cX4_rewritten : ByteArray := prog_6_method_10_code
def yX4_rewritten : MethodName := ⟨RX4, "rewritten", "(IIJ)I"⟩
abbrev cX4_goOnFromWhole : ByteArray := prog_6_method_11_code
def yX4_goOnFromWhole : MethodName := ⟨RX4, "goOnFromWhole", "(I)V"⟩
abbrev cX4_walk : ByteArray := prog_6_method_12_code
def yX4_walk : MethodName := ⟨RX4, "walk", "(I)V"⟩
abbrev cX4_endWalk : ByteArray := prog_6_method_13_code
def yX4_endWalk : MethodName := ⟨RX4, "endWalk", "(II)V"⟩
abbrev cX4_walkerOf : ByteArray := prog_6_method_14_code
def yX4_walkerOf : MethodName := ⟨RX4, "walkerOf", "(I)I"⟩
abbrev cX4_mayPassOver : ByteArray := prog_6_method_15_code
def yX4_mayPassOver : MethodName := ⟨RX4, "mayPassOver", "(I)Z"⟩
abbrev cX4_goOnFromFirst : ByteArray := prog_6_method_16_code
def yX4_goOnFromFirst : MethodName := ⟨RX4, "goOnFromFirst", "(I)V"⟩
abbrev cX4_goOnFromSecond : ByteArray := prog_6_method_17_code
def yX4_goOnFromSecond : MethodName := ⟨RX4, "goOnFromSecond", "(I)V"⟩
abbrev cX4_join : ByteArray := prog_6_method_18_code
def yX4_join : MethodName := ⟨RX4, "join", "(III)V"⟩
abbrev cX4_goOnFromWalk : ByteArray := prog_6_method_19_code
def yX4_goOnFromWalk : MethodName := ⟨RX4, "goOnFromWalk", "(I)V"⟩
def RX5 : String := "TermStrategies$Shelves"
def TX5 : u_T := fun k => match k with
  | 0 => ("TermStrategies$Shelves", "held", "[I", true)
  | 1 => ("TermStrategies$Shelves", "sizes", "[I", true)
  | _ => ("TermStrategies$Shelves", "elements", "[J", true)
def tyX5 : Nat → FieldType := fun k => match k with
  | 0 => .array .int
  | 1 => .array .int
  | _ => .array .long
theorem nmX5 : ∀ a, a < 3 → ∀ b, b < 3 → a ≠ b → (TX5 a).2.1 ≠ (TX5 b).2.1 := by decide +kernel
theorem tyX5_ok : ∀ k, k < 3 → parseFieldDescriptor (TX5 k).2.2.1 = some (tyX5 k) := by decide +kernel
abbrev cX5_init : ByteArray := prog_7_method_1_code
def yX5_init : MethodName := ⟨RX5, "<init>", "()V"⟩
abbrev cX5_isThere : ByteArray := prog_7_method_2_code
def yX5_isThere : MethodName := ⟨RX5, "isThere", "(I)Z"⟩
abbrev cX5_heldBy : ByteArray := prog_7_method_3_code
def yX5_heldBy : MethodName := ⟨RX5, "heldBy", "(I)I"⟩
abbrev cX5_holdsRow : ByteArray := prog_7_method_4_code
def yX5_holdsRow : MethodName := ⟨RX5, "holdsRow", "(I)Z"⟩
abbrev cX5_holdsStrategy : ByteArray := prog_7_method_5_code
def yX5_holdsStrategy : MethodName := ⟨RX5, "holdsStrategy", "(I)Z"⟩
abbrev cX5_rowRefusal : ByteArray := prog_7_method_6_code
def yX5_rowRefusal : MethodName := ⟨RX5, "rowRefusal", "(I)I"⟩
abbrev cX5_sizeOf : ByteArray := prog_7_method_7_code
def yX5_sizeOf : MethodName := ⟨RX5, "sizeOf", "(I)I"⟩
abbrev cX5_lay : ByteArray := prog_7_method_8_code
def yX5_lay : MethodName := ⟨RX5, "lay", "(III)V"⟩
abbrev cX5_hold : ByteArray := prog_7_method_9_code
def yX5_hold : MethodName := ⟨RX5, "hold", "(II)V"⟩
abbrev cX5_elementAt : ByteArray := prog_7_method_10_code
def yX5_elementAt : MethodName := ⟨RX5, "elementAt", "(II)J"⟩
abbrev cX5_intAt : ByteArray := prog_7_method_11_code
def yX5_intAt : MethodName := ⟨RX5, "intAt", "(II)I"⟩
abbrev cX5_change : ByteArray := prog_7_method_12_code
def yX5_change : MethodName := ⟨RX5, "change", "(IIJ)V"⟩
abbrev cX5_lowestBits : ByteArray := prog_7_method_13_code
def yX5_lowestBits : MethodName := ⟨RX5, "lowestBits", "(IJ)J"⟩
abbrev cX5_move : ByteArray := prog_7_method_14_code
def yX5_move : MethodName := ⟨RX5, "move", "(IIIII)V"⟩
abbrev cX5_forgetStrategiesFrom : ByteArray := prog_7_method_15_code
def yX5_forgetStrategiesFrom : MethodName := ⟨RX5, "forgetStrategiesFrom", "(I)V"⟩
def RX6 : String := "TermStrategies$Signs"
def TX6 : u_T := fun k => match k with
  | _ => ("TermStrategies$Signs", "cells", "[I", true)
def tyX6 : Nat → FieldType := fun k => match k with
  | _ => .array .int
theorem nmX6 : ∀ a, a < 1 → ∀ b, b < 1 → a ≠ b → (TX6 a).2.1 ≠ (TX6 b).2.1 := by decide +kernel
theorem tyX6_ok : ∀ k, k < 1 → parseFieldDescriptor (TX6 k).2.2.1 = some (tyX6 k) := by decide +kernel
abbrev cX6_init : ByteArray := prog_8_method_1_code
def yX6_init : MethodName := ⟨RX6, "<init>", "(I)V"⟩
abbrev cX6_at : ByteArray := prog_8_method_2_code
def yX6_at : MethodName := ⟨RX6, "at", "(I)I"⟩
abbrev cX6_write : ByteArray := prog_8_method_3_code
def yX6_write : MethodName := ⟨RX6, "write", "(II)V"⟩
abbrev cX6_end : ByteArray := prog_8_method_4_code
def yX6_end : MethodName := ⟨RX6, "end", "(I)I"⟩
abbrev cX6_sizeAt : ByteArray := prog_8_method_5_code
def yX6_sizeAt : MethodName := ⟨RX6, "sizeAt", "(I)I"⟩
abbrev cX6_alike : ByteArray := prog_8_method_6_code
def yX6_alike : MethodName := ⟨RX6, "alike", "(II)Z"⟩
abbrev cX6_variablesAt : ByteArray := prog_8_method_7_code
def yX6_variablesAt : MethodName := ⟨RX6, "variablesAt", "(I)I"⟩
abbrev cX6_append : ByteArray := prog_8_method_8_code
def yX6_append : MethodName := ⟨RX6, "append", "(II)I"⟩
abbrev cX6_appendCells : ByteArray := prog_8_method_9_code
def yX6_appendCells : MethodName := ⟨RX6, "appendCells", "(III)I"⟩
abbrev cX6_takeFrom : ByteArray := prog_8_method_10_code
def yX6_takeFrom : MethodName := ⟨RX6, "takeFrom", "(LTermStrategies$Signs;I)V"⟩
def RX7 : String := "TermStrategies$State"
def TX7 : u_T := fun k => match k with
  | 0 => ("TermStrategies$State", "signs", "LTermStrategies$Signs;", true)
  | 1 => ("TermStrategies$State", "kinds", "[I", true)
  | 2 => ("TermStrategies$State", "firsts", "[I", true)
  | 3 => ("TermStrategies$State", "seconds", "[I", true)
  | 4 => ("TermStrategies$State", "weights", "[I", true)
  | 5 => ("TermStrategies$State", "terms", "I", false)
  | 6 => ("TermStrategies$State", "rules", "I", false)
  | 7 => ("TermStrategies$State", "strategies", "I", false)
  | 8 => ("TermStrategies$State", "commuting", "I", false)
  | _ => ("TermStrategies$State", "seed", "I", false)
def tyX7 : Nat → FieldType := fun k => match k with
  | 0 => .object "TermStrategies$Signs"
  | 1 => .array .int
  | 2 => .array .int
  | 3 => .array .int
  | 4 => .array .int
  | 5 => .int
  | 6 => .int
  | 7 => .int
  | 8 => .int
  | _ => .int
theorem nmX7 : ∀ a, a < 10 → ∀ b, b < 10 → a ≠ b → (TX7 a).2.1 ≠ (TX7 b).2.1 := by decide +kernel
theorem tyX7_ok : ∀ k, k < 10 → parseFieldDescriptor (TX7 k).2.2.1 = some (tyX7 k) := by decide +kernel
abbrev cX7_init : ByteArray := prog_9_method_1_code
def yX7_init : MethodName := ⟨RX7, "<init>", "(I)V"⟩
abbrev cX7_hasTerm : ByteArray := prog_9_method_2_code
def yX7_hasTerm : MethodName := ⟨RX7, "hasTerm", "(I)Z"⟩
abbrev cX7_hasRule : ByteArray := prog_9_method_3_code
def yX7_hasRule : MethodName := ⟨RX7, "hasRule", "(I)Z"⟩
abbrev cX7_hasStrategy : ByteArray := prog_9_method_4_code
def yX7_hasStrategy : MethodName := ⟨RX7, "hasStrategy", "(I)Z"⟩
abbrev cX7_addTerm : ByteArray := prog_9_method_5_code
def yX7_addTerm : MethodName := ⟨RX7, "addTerm", "(I)I"⟩
abbrev cX7_addRule : ByteArray := prog_9_method_6_code
def yX7_addRule : MethodName := ⟨RX7, "addRule", "(II)I"⟩
abbrev cX7_addStrategy : ByteArray := prog_9_method_7_code
def yX7_addStrategy : MethodName := ⟨RX7, "addStrategy", "(III)I"⟩
abbrev cX7_writeStrategy : ByteArray := prog_9_method_8_code
def yX7_writeStrategy : MethodName := ⟨RX7, "writeStrategy", "(IIII)V"⟩
abbrev cX7_buildInnermost : ByteArray := prog_9_method_9_code
def yX7_buildInnermost : MethodName := ⟨RX7, "buildInnermost", "()I"⟩
abbrev cX7_kindOf : ByteArray := prog_9_method_10_code
def yX7_kindOf : MethodName := ⟨RX7, "kindOf", "(I)I"⟩
abbrev cX7_firstOf : ByteArray := prog_9_method_11_code
def yX7_firstOf : MethodName := ⟨RX7, "firstOf", "(I)I"⟩
abbrev cX7_secondOf : ByteArray := prog_9_method_12_code
def yX7_secondOf : MethodName := ⟨RX7, "secondOf", "(I)I"⟩
abbrev cX7_weightOf : ByteArray := prog_9_method_13_code
def yX7_weightOf : MethodName := ⟨RX7, "weightOf", "(I)I"⟩
abbrev cX7_draw : ByteArray := prog_9_method_14_code
def yX7_draw : MethodName := ⟨RX7, "draw", "(I)I"⟩
abbrev cX7_takeFrom : ByteArray := prog_9_method_15_code
def yX7_takeFrom : MethodName := ⟨RX7, "takeFrom", "(LTermStrategies$State;)V"⟩
def RX8 : String := "TermStrategies$Trail"
def TX8 : u_T := fun k => match k with
  | 0 => ("TermStrategies$Trail", "rules", "[I", true)
  | 1 => ("TermStrategies$Trail", "paths", "[J", true)
  | _ => ("TermStrategies$Trail", "size", "I", false)
def tyX8 : Nat → FieldType := fun k => match k with
  | 0 => .array .int
  | 1 => .array .long
  | _ => .int
theorem nmX8 : ∀ a, a < 3 → ∀ b, b < 3 → a ≠ b → (TX8 a).2.1 ≠ (TX8 b).2.1 := by decide +kernel
theorem tyX8_ok : ∀ k, k < 3 → parseFieldDescriptor (TX8 k).2.2.1 = some (tyX8 k) := by decide +kernel
abbrev cX8_init : ByteArray := prog_10_method_1_code
def yX8_init : MethodName := ⟨RX8, "<init>", "()V"⟩
abbrev cX8_add : ByteArray := prog_10_method_2_code
def yX8_add : MethodName := ⟨RX8, "add", "(IJ)V"⟩
abbrev cX8_cut : ByteArray := prog_10_method_3_code
def yX8_cut : MethodName := ⟨RX8, "cut", "(I)V"⟩
abbrev cX8_ruleAt : ByteArray := prog_10_method_4_code
def yX8_ruleAt : MethodName := ⟨RX8, "ruleAt", "(I)I"⟩
abbrev cX8_pathAt : ByteArray := prog_10_method_5_code
def yX8_pathAt : MethodName := ⟨RX8, "pathAt", "(I)J"⟩
abbrev cX8_takeFrom : ByteArray := prog_10_method_6_code
def yX8_takeFrom : MethodName := ⟨RX8, "takeFrom", "(LTermStrategies$Trail;)V"⟩
def RX9 : String := "TermStrategies$Unifier"
def TX9 : u_T := fun k => match k with
  | 0 => ("TermStrategies$Unifier", "signs", "LTermStrategies$Signs;", true)
  | 1 => ("TermStrategies$Unifier", "text", "[I", true)
  | 2 => ("TermStrategies$Unifier", "seconds", "[I", true)
  | 3 => ("TermStrategies$Unifier", "parents", "[I", true)
  | 4 => ("TermStrategies$Unifier", "shapes", "[I", true)
  | 5 => ("TermStrategies$Unifier", "settled", "[I", true)
  | 6 => ("TermStrategies$Unifier", "names", "[I", true)
  | 7 => ("TermStrategies$Unifier", "todo", "[I", true)
  | 8 => ("TermStrategies$Unifier", "waiting", "I", false)
  | 9 => ("TermStrategies$Unifier", "named", "I", false)
  | 10 => ("TermStrategies$Unifier", "out", "I", false)
  | 11 => ("TermStrategies$Unifier", "written", "I", false)
  | _ => ("TermStrategies$Unifier", "over", "Z", false)
def tyX9 : Nat → FieldType := fun k => match k with
  | 0 => .object "TermStrategies$Signs"
  | 1 => .array .int
  | 2 => .array .int
  | 3 => .array .int
  | 4 => .array .int
  | 5 => .array .int
  | 6 => .array .int
  | 7 => .array .int
  | 8 => .int
  | 9 => .int
  | 10 => .int
  | 11 => .int
  | _ => .boolean
theorem nmX9 : ∀ a, a < 13 → ∀ b, b < 13 → a ≠ b → (TX9 a).2.1 ≠ (TX9 b).2.1 := by decide +kernel
theorem tyX9_ok : ∀ k, k < 13 → parseFieldDescriptor (TX9 k).2.2.1 = some (tyX9 k) := by decide +kernel
abbrev cX9_init : ByteArray := prog_11_method_1_code
def yX9_init : MethodName := ⟨RX9, "<init>", "(LTermStrategies$Signs;)V"⟩
abbrev cX9_unifies : ByteArray := prog_11_method_2_code
def yX9_unifies : MethodName := ⟨RX9, "unifies", "(III)Z"⟩
abbrev cX9_clear : ByteArray := prog_11_method_3_code
def yX9_clear : MethodName := ⟨RX9, "clear", "()V"⟩
abbrev cX9_load : ByteArray := prog_11_method_4_code
def yX9_load : MethodName := ⟨RX9, "load", "(II)V"⟩
abbrev cX9_putOff : ByteArray := prog_11_method_5_code
def yX9_putOff : MethodName := ⟨RX9, "putOff", "(II)V"⟩
abbrev cX9_joins : ByteArray := prog_11_method_6_code
def yX9_joins : MethodName := ⟨RX9, "joins", "(II)Z"⟩
abbrev cX9_idOf : ByteArray := prog_11_method_7_code
def yX9_idOf : MethodName := ⟨RX9, "idOf", "(I)I"⟩
abbrev cX9_root : ByteArray := prog_11_method_8_code
def yX9_root : MethodName := ⟨RX9, "root", "(I)I"⟩
abbrev cX9_isWithoutCircle : ByteArray := prog_11_method_9_code
def yX9_isWithoutCircle : MethodName := ⟨RX9, "isWithoutCircle", "()Z"⟩
abbrev cX9_settles : ByteArray := prog_11_method_10_code
def yX9_settles : MethodName := ⟨RX9, "settles", "(I)Z"⟩
abbrev cX9_writeTo : ByteArray := prog_11_method_11_code
def yX9_writeTo : MethodName := ⟨RX9, "writeTo", "(I)V"⟩
abbrev cX9_write : ByteArray := prog_11_method_12_code
def yX9_write : MethodName := ⟨RX9, "write", "(III)V"⟩
abbrev cX9_writeSign : ByteArray := prog_11_method_13_code
def yX9_writeSign : MethodName := ⟨RX9, "writeSign", "(I)V"⟩
abbrev cX9_writeClass : ByteArray := prog_11_method_14_code
def yX9_writeClass : MethodName := ⟨RX9, "writeClass", "(I)V"⟩
abbrev cX9_nameOf : ByteArray := prog_11_method_15_code
def yX9_nameOf : MethodName := ⟨RX9, "nameOf", "(I)I"⟩
def RX10 : String := "TermStrategies"
def TX10 : u_T := fun k => match k with
  | 0 => ("TermStrategies", "state", "LTermStrategies$State;", true)
  | 1 => ("TermStrategies", "taken", "LTermStrategies$State;", true)
  | 2 => ("TermStrategies", "signs", "LTermStrategies$Signs;", true)
  | 3 => ("TermStrategies", "shelves", "LTermStrategies$Shelves;", true)
  | 4 => ("TermStrategies", "reader", "LTermStrategies$Reader;", true)
  | 5 => ("TermStrategies", "layout", "LTermStrategies$Layout;", true)
  | 6 => ("TermStrategies", "exchange", "LTermStrategies$Exchange;", true)
  | 7 => ("TermStrategies", "matching", "LTermStrategies$Matching;", true)
  | 8 => ("TermStrategies", "runner", "LTermStrategies$Runner;", true)
  | 9 => ("TermStrategies", "unifier", "LTermStrategies$Unifier;", true)
  | 10 => ("TermStrategies", "trail", "LTermStrategies$Trail;", true)
  | 11 => ("TermStrategies", "refusals", "[I", true)
  | 12 => ("TermStrategies", "hasImage", "Z", false)
  | _ => ("TermStrategies", "latestFault", "I", false)
def tyX10 : Nat → FieldType := fun k => match k with
  | 0 => .object "TermStrategies$State"
  | 1 => .object "TermStrategies$State"
  | 2 => .object "TermStrategies$Signs"
  | 3 => .object "TermStrategies$Shelves"
  | 4 => .object "TermStrategies$Reader"
  | 5 => .object "TermStrategies$Layout"
  | 6 => .object "TermStrategies$Exchange"
  | 7 => .object "TermStrategies$Matching"
  | 8 => .object "TermStrategies$Runner"
  | 9 => .object "TermStrategies$Unifier"
  | 10 => .object "TermStrategies$Trail"
  | 11 => .array .int
  | 12 => .boolean
  | _ => .int
theorem nmX10 : ∀ a, a < 14 → ∀ b, b < 14 → a ≠ b → (TX10 a).2.1 ≠ (TX10 b).2.1 := by decide +kernel
theorem tyX10_ok : ∀ k, k < 14 → parseFieldDescriptor (TX10 k).2.2.1 = some (tyX10 k) := by decide +kernel
abbrev cX10_init : ByteArray := prog_1_method_1_code
def yX10_init : MethodName := ⟨RX10, "<init>", "()V"⟩
abbrev cX10_row : ByteArray := prog_1_method_2_code
def yX10_row : MethodName := ⟨RX10, "row", "(III)I"⟩
abbrev cX10_set : ByteArray := prog_1_method_3_code
def yX10_set : MethodName := ⟨RX10, "set", "(IIJ)I"⟩
abbrev cX10_copy : ByteArray := prog_1_method_4_code
def yX10_copy : MethodName := ⟨RX10, "copy", "(IIIII)I"⟩
abbrev cX10_copyRefusal : ByteArray := prog_1_method_5_code
def yX10_copyRefusal : MethodName := ⟨RX10, "copyRefusal", "(II)I"⟩
abbrev cX10_element : ByteArray := prog_1_method_6_code
def yX10_element : MethodName := ⟨RX10, "element", "(II)J"⟩
abbrev cX10_show : ByteArray := prog_1_method_7_code
def yX10_show : MethodName := ⟨RX10, "show", "(II)I"⟩
abbrev cX10_holds : ByteArray := prog_1_method_8_code
def yX10_holds : MethodName := ⟨RX10, "holds", "(I)I"⟩
abbrev cX10_says : ByteArray := prog_1_method_9_code
def yX10_says : MethodName := ⟨RX10, "says", "(II)I"⟩
abbrev cX10_isOfSort : ByteArray := prog_1_method_10_code
def yX10_isOfSort : MethodName := ⟨RX10, "isOfSort", "(II)Z"⟩
abbrev cX10_term : ByteArray := prog_1_method_11_code
def yX10_term : MethodName := ⟨RX10, "term", "(I)I"⟩
abbrev cX10_fault : ByteArray := prog_1_method_12_code
def yX10_fault : MethodName := ⟨RX10, "fault", "()I"⟩
abbrev cX10_drop : ByteArray := prog_1_method_13_code
def yX10_drop : MethodName := ⟨RX10, "drop", "()I"⟩
abbrev cX10_commute : ByteArray := prog_1_method_14_code
def yX10_commute : MethodName := ⟨RX10, "commute", "(IZ)I"⟩
abbrev cX10_node : ByteArray := prog_1_method_15_code
def yX10_node : MethodName := ⟨RX10, "node", "(II)I"⟩
abbrev cX10_termOf : ByteArray := prog_1_method_16_code
def yX10_termOf : MethodName := ⟨RX10, "termOf", "(II)I"⟩
abbrev cX10_path : ByteArray := prog_1_method_17_code
def yX10_path : MethodName := ⟨RX10, "path", "(II)J"⟩
abbrev cX10_same : ByteArray := prog_1_method_18_code
def yX10_same : MethodName := ⟨RX10, "same", "(II)I"⟩
abbrev cX10_rule : ByteArray := prog_1_method_19_code
def yX10_rule : MethodName := ⟨RX10, "rule", "(II)I"⟩
abbrev cX10_ruleOf : ByteArray := prog_1_method_20_code
def yX10_ruleOf : MethodName := ⟨RX10, "ruleOf", "(IZI)I"⟩
abbrev cX10_bound : ByteArray := prog_1_method_21_code
def yX10_bound : MethodName := ⟨RX10, "bound", "(IIII)I"⟩
abbrev cX10_fits : ByteArray := prog_1_method_22_code
def yX10_fits : MethodName := ⟨RX10, "fits", "(III)I"⟩
abbrev cX10_countFits : ByteArray := prog_1_method_23_code
def yX10_countFits : MethodName := ⟨RX10, "countFits", "(II)I"⟩
abbrev cX10_fittingNode : ByteArray := prog_1_method_24_code
def yX10_fittingNode : MethodName := ⟨RX10, "fittingNode", "(III)I"⟩
abbrev cX10_redexes : ByteArray := prog_1_method_25_code
def yX10_redexes : MethodName := ⟨RX10, "redexes", "(I)J"⟩
abbrev cX10_redexesAt : ByteArray := prog_1_method_26_code
def yX10_redexesAt : MethodName := ⟨RX10, "redexesAt", "(I)J"⟩
abbrev cX10_someRuleFits : ByteArray := prog_1_method_27_code
def yX10_someRuleFits : MethodName := ⟨RX10, "someRuleFits", "(I)Z"⟩
abbrev cX10_rewrite : ByteArray := prog_1_method_28_code
def yX10_rewrite : MethodName := ⟨RX10, "rewrite", "(III)I"⟩
abbrev cX10_rewriteToWork : ByteArray := prog_1_method_29_code
def yX10_rewriteToWork : MethodName := ⟨RX10, "rewriteToWork", "(III)I"⟩
abbrev cX10_strategy : ByteArray := prog_1_method_30_code
def yX10_strategy : MethodName := ⟨RX10, "strategy", "(III)I"⟩
abbrev cX10_isStrategyOver : ByteArray := prog_1_method_31_code
def yX10_isStrategyOver : MethodName := ⟨RX10, "isStrategyOver", "(III)Z"⟩
abbrev cX10_strategyOf : ByteArray := prog_1_method_32_code
def yX10_strategyOf : MethodName := ⟨RX10, "strategyOf", "(II)I"⟩
abbrev cX10_run : ByteArray := prog_1_method_33_code
def yX10_run : MethodName := ⟨RX10, "run", "(II)I"⟩
abbrev cX10_trial : ByteArray := prog_1_method_34_code
def yX10_trial : MethodName := ⟨RX10, "trial", "(III)I"⟩
abbrev cX10_trace : ByteArray := prog_1_method_35_code
def yX10_trace : MethodName := ⟨RX10, "trace", "(I)I"⟩
abbrev cX10_tracePath : ByteArray := prog_1_method_36_code
def yX10_tracePath : MethodName := ⟨RX10, "tracePath", "(I)J"⟩
abbrev cX10_replay : ByteArray := prog_1_method_37_code
def yX10_replay : MethodName := ⟨RX10, "replay", "(II)I"⟩
abbrev cX10_rewriteInHand : ByteArray := prog_1_method_38_code
def yX10_rewriteInHand : MethodName := ⟨RX10, "rewriteInHand", "(IJ)I"⟩
abbrev cX10_unify : ByteArray := prog_1_method_39_code
def yX10_unify : MethodName := ⟨RX10, "unify", "(II)I"⟩
abbrev cX10_hasTooManyVariables : ByteArray := prog_1_method_40_code
def yX10_hasTooManyVariables : MethodName := ⟨RX10, "hasTooManyVariables", "(I)Z"⟩
abbrev cX10_overlaps : ByteArray := prog_1_method_41_code
def yX10_overlaps : MethodName := ⟨RX10, "overlaps", "(II)I"⟩
abbrev cX10_overlap : ByteArray := prog_1_method_42_code
def yX10_overlap : MethodName := ⟨RX10, "overlap", "(IIII)I"⟩
abbrev cX10_meets : ByteArray := prog_1_method_43_code
def yX10_meets : MethodName := ⟨RX10, "meets", "(III)I"⟩
abbrev cX10_seekOverlap : ByteArray := prog_1_method_44_code
def yX10_seekOverlap : MethodName := ⟨RX10, "seekOverlap", "(III)I"⟩
abbrev cX10_layOverlap : ByteArray := prog_1_method_45_code
def yX10_layOverlap : MethodName := ⟨RX10, "layOverlap", "(III)Z"⟩
abbrev cX10_judge : ByteArray := prog_1_method_46_code
def yX10_judge : MethodName := ⟨RX10, "judge", "(III)I"⟩
abbrev cX10_judgeRefusal : ByteArray := prog_1_method_47_code
def yX10_judgeRefusal : MethodName := ⟨RX10, "judgeRefusal", "(III)I"⟩
abbrev cX10_days : ByteArray := prog_1_method_48_code
def yX10_days : MethodName := ⟨RX10, "days", "(I)I"⟩
abbrev cX10_rewriteAtLeast : ByteArray := prog_1_method_49_code
def yX10_rewriteAtLeast : MethodName := ⟨RX10, "rewriteAtLeast", "(II)Z"⟩
abbrev cX10_seed : ByteArray := prog_1_method_50_code
def yX10_seed : MethodName := ⟨RX10, "seed", "(I)I"⟩
abbrev cX10_image : ByteArray := prog_1_method_51_code
def yX10_image : MethodName := ⟨RX10, "image", "()I"⟩
abbrev cX10_restore : ByteArray := prog_1_method_52_code
def yX10_restore : MethodName := ⟨RX10, "restore", "()I"⟩
abbrev cX10_status : ByteArray := prog_1_method_53_code
def yX10_status : MethodName := ⟨RX10, "status", "(I)I"⟩
abbrev cX10_nodesOfAll : ByteArray := prog_1_method_54_code
def yX10_nodesOfAll : MethodName := ⟨RX10, "nodesOfAll", "()I"⟩
abbrev cX10_refuse : ByteArray := prog_1_method_55_code
def yX10_refuse : MethodName := ⟨RX10, "refuse", "(I)I"⟩
abbrev cX10_newTerm : ByteArray := prog_1_method_56_code
def yX10_newTerm : MethodName := ⟨RX10, "newTerm", "(I)I"⟩
abbrev cX10_hasNode : ByteArray := prog_1_method_57_code
def yX10_hasNode : MethodName := ⟨RX10, "hasNode", "(II)Z"⟩
abbrev cX10_termPlace : ByteArray := prog_1_method_58_code
def yX10_termPlace : MethodName := ⟨RX10, "termPlace", "(I)I"⟩
abbrev cX10_leftPlace : ByteArray := prog_1_method_59_code
def yX10_leftPlace : MethodName := ⟨RX10, "leftPlace", "(I)I"⟩
abbrev cX10_rightPlace : ByteArray := prog_1_method_60_code
def yX10_rightPlace : MethodName := ⟨RX10, "rightPlace", "(I)I"⟩
abbrev cX10_isVariable : ByteArray := prog_1_method_61_code
def yX10_isVariable : MethodName := ⟨RX10, "isVariable", "(I)Z"⟩
abbrev cX10_arity : ByteArray := prog_1_method_62_code
def yX10_arity : MethodName := ⟨RX10, "arity", "(I)I"⟩
abbrev cX10_isOverTwo : ByteArray := prog_1_method_63_code
def yX10_isOverTwo : MethodName := ⟨RX10, "isOverTwo", "(I)Z"⟩
abbrev cX10_get : ByteArray := prog_1_method_64_code
def yX10_get : MethodName := ⟨RX10, "get", "([II)I"⟩
abbrev cX10_put : ByteArray := prog_1_method_65_code
def yX10_put : MethodName := ⟨RX10, "put", "([III)V"⟩
abbrev cX10_getLong : ByteArray := prog_1_method_66_code
def yX10_getLong : MethodName := ⟨RX10, "getLong", "([JI)J"⟩
abbrev cX10_putLong : ByteArray := prog_1_method_67_code
def yX10_putLong : MethodName := ⟨RX10, "putLong", "([JIJ)V"⟩
def RX11 : String := "TermStrategiesModel"
def TX11 : u_T := fun k => match k with
  | 0 => ("TermStrategiesModel", "terms", "I", false)
  | 1 => ("TermStrategiesModel", "size", "[I", true)
  | 2 => ("TermStrategiesModel", "signs", "[I", true)
  | 3 => ("TermStrategiesModel", "rules", "I", false)
  | 4 => ("TermStrategiesModel", "ruleSize", "[I", true)
  | 5 => ("TermStrategiesModel", "ruleSigns", "[I", true)
  | 6 => ("TermStrategiesModel", "strategies", "I", false)
  | 7 => ("TermStrategiesModel", "kind", "[I", true)
  | 8 => ("TermStrategiesModel", "one", "[I", true)
  | 9 => ("TermStrategiesModel", "two", "[I", true)
  | 10 => ("TermStrategiesModel", "weights", "[I", true)
  | 11 => ("TermStrategiesModel", "commuting", "I", false)
  | 12 => ("TermStrategiesModel", "seed", "I", false)
  | 13 => ("TermStrategiesModel", "holding", "[I", true)
  | 14 => ("TermStrategiesModel", "rowLength", "[I", true)
  | 15 => ("TermStrategiesModel", "rowOf", "[J", true)
  | 16 => ("TermStrategiesModel", "fault", "I", false)
  | 17 => ("TermStrategiesModel", "refusals", "[I", true)
  | 18 => ("TermStrategiesModel", "tree", "[I", true)
  | 19 => ("TermStrategiesModel", "grown", "I", false)
  | 20 => ("TermStrategiesModel", "pattern", "[I", false)
  | 21 => ("TermStrategiesModel", "commutingHere", "I", false)
  | 22 => ("TermStrategiesModel", "goalP", "[I", true)
  | 23 => ("TermStrategiesModel", "goalT", "[I", true)
  | 24 => ("TermStrategiesModel", "bound", "[I", true)
  | 25 => ("TermStrategiesModel", "made", "[I", true)
  | 26 => ("TermStrategiesModel", "makes", "I", false)
  | 27 => ("TermStrategiesModel", "ended", "Z", false)
  | 28 => ("TermStrategiesModel", "begun", "I", false)
  | 29 => ("TermStrategiesModel", "rewritten", "I", false)
  | 30 => ("TermStrategiesModel", "traced", "I", false)
  | 31 => ("TermStrategiesModel", "traceRule", "[I", true)
  | 32 => ("TermStrategiesModel", "tracePath", "[J", true)
  | 33 => ("TermStrategiesModel", "kept", "I", false)
  | 34 => ("TermStrategiesModel", "keeps", "[I", true)
  | 35 => ("TermStrategiesModel", "lastTraced", "I", false)
  | 36 => ("TermStrategiesModel", "lastRule", "[I", true)
  | 37 => ("TermStrategiesModel", "lastPath", "[J", true)
  | 38 => ("TermStrategiesModel", "pool", "[I", true)
  | 39 => ("TermStrategiesModel", "binding", "[I", true)
  | 40 => ("TermStrategiesModel", "named", "[I", true)
  | 41 => ("TermStrategiesModel", "names", "I", false)
  | 42 => ("TermStrategiesModel", "peak", "[I", true)
  | 43 => ("TermStrategiesModel", "peakSize", "I", false)
  | 44 => ("TermStrategiesModel", "wayR", "[I", true)
  | 45 => ("TermStrategiesModel", "sizeR", "I", false)
  | 46 => ("TermStrategiesModel", "wayQ", "[I", true)
  | 47 => ("TermStrategiesModel", "sizeQ", "I", false)
  | 48 => ("TermStrategiesModel", "imaged", "Z", false)
  | 49 => ("TermStrategiesModel", "oldTerms", "I", false)
  | 50 => ("TermStrategiesModel", "oldSize", "[I", true)
  | 51 => ("TermStrategiesModel", "oldSigns", "[I", true)
  | 52 => ("TermStrategiesModel", "oldRules", "I", false)
  | 53 => ("TermStrategiesModel", "oldRuleSize", "[I", true)
  | 54 => ("TermStrategiesModel", "oldRuleSigns", "[I", true)
  | 55 => ("TermStrategiesModel", "oldStrategies", "I", false)
  | 56 => ("TermStrategiesModel", "oldKind", "[I", true)
  | 57 => ("TermStrategiesModel", "oldOne", "[I", true)
  | 58 => ("TermStrategiesModel", "oldTwo", "[I", true)
  | 59 => ("TermStrategiesModel", "oldCommuting", "I", false)
  | _ => ("TermStrategiesModel", "oldSeed", "I", false)
def tyX11 : Nat → FieldType := fun k => match k with
  | 0 => .int
  | 1 => .array .int
  | 2 => .array .int
  | 3 => .int
  | 4 => .array .int
  | 5 => .array .int
  | 6 => .int
  | 7 => .array .int
  | 8 => .array .int
  | 9 => .array .int
  | 10 => .array .int
  | 11 => .int
  | 12 => .int
  | 13 => .array .int
  | 14 => .array .int
  | 15 => .array .long
  | 16 => .int
  | 17 => .array .int
  | 18 => .array .int
  | 19 => .int
  | 20 => .array .int
  | 21 => .int
  | 22 => .array .int
  | 23 => .array .int
  | 24 => .array .int
  | 25 => .array .int
  | 26 => .int
  | 27 => .boolean
  | 28 => .int
  | 29 => .int
  | 30 => .int
  | 31 => .array .int
  | 32 => .array .long
  | 33 => .int
  | 34 => .array .int
  | 35 => .int
  | 36 => .array .int
  | 37 => .array .long
  | 38 => .array .int
  | 39 => .array .int
  | 40 => .array .int
  | 41 => .int
  | 42 => .array .int
  | 43 => .int
  | 44 => .array .int
  | 45 => .int
  | 46 => .array .int
  | 47 => .int
  | 48 => .boolean
  | 49 => .int
  | 50 => .array .int
  | 51 => .array .int
  | 52 => .int
  | 53 => .array .int
  | 54 => .array .int
  | 55 => .int
  | 56 => .array .int
  | 57 => .array .int
  | 58 => .array .int
  | 59 => .int
  | _ => .int
theorem nmX11 : ∀ a, a < 61 → ∀ b, b < 61 → a ≠ b → (TX11 a).2.1 ≠ (TX11 b).2.1 := by decide +kernel
theorem tyX11_ok : ∀ k, k < 61 → parseFieldDescriptor (TX11 k).2.2.1 = some (tyX11 k) := by decide +kernel
abbrev cX11_init : ByteArray := prog_13_method_1_code
def yX11_init : MethodName := ⟨RX11, "<init>", "()V"⟩
abbrev cX11_no : ByteArray := prog_13_method_2_code
def yX11_no : MethodName := ⟨RX11, "no", "(I)I"⟩
abbrev cX11_no10 : ByteArray := prog_13_method_3_code
def yX11_no10 : MethodName := ⟨RX11, "no10", "(I)I"⟩
abbrev cX11_within : ByteArray := prog_13_method_4_code
def yX11_within : MethodName := ⟨RX11, "within", "(III)Z"⟩
abbrev cX11_isTerm : ByteArray := prog_13_method_5_code
def yX11_isTerm : MethodName := ⟨RX11, "isTerm", "(I)Z"⟩
abbrev cX11_isRule : ByteArray := prog_13_method_6_code
def yX11_isRule : MethodName := ⟨RX11, "isRule", "(I)Z"⟩
abbrev cX11_isStrategy : ByteArray := prog_13_method_7_code
def yX11_isStrategy : MethodName := ⟨RX11, "isStrategy", "(I)Z"⟩
abbrev cX11_isRow : ByteArray := prog_13_method_8_code
def yX11_isRow : MethodName := ⟨RX11, "isRow", "(I)Z"⟩
abbrev cX11_isVariable : ByteArray := prog_13_method_9_code
def yX11_isVariable : MethodName := ⟨RX11, "isVariable", "(I)Z"⟩
abbrev cX11_arity : ByteArray := prog_13_method_10_code
def yX11_arity : MethodName := ⟨RX11, "arity", "(I)I"⟩
abbrev cX11_span : ByteArray := prog_13_method_11_code
def yX11_span : MethodName := ⟨RX11, "span", "([II)I"⟩
abbrev cX11_argument : ByteArray := prog_13_method_12_code
def yX11_argument : MethodName := ⟨RX11, "argument", "([III)I"⟩
abbrev cX11_row : ByteArray := prog_13_method_13_code
def yX11_row : MethodName := ⟨RX11, "row", "(III)I"⟩
abbrev cX11_noRow : ByteArray := prog_13_method_14_code
def yX11_noRow : MethodName := ⟨RX11, "noRow", "(I)I"⟩
abbrev cX11_set : ByteArray := prog_13_method_15_code
def yX11_set : MethodName := ⟨RX11, "set", "(IIJ)I"⟩
abbrev cX11_copy : ByteArray := prog_13_method_16_code
def yX11_copy : MethodName := ⟨RX11, "copy", "(IIIII)I"⟩
abbrev cX11_element : ByteArray := prog_13_method_17_code
def yX11_element : MethodName := ⟨RX11, "element", "(II)J"⟩
abbrev cX11_show : ByteArray := prog_13_method_18_code
def yX11_show : MethodName := ⟨RX11, "show", "(II)I"⟩
abbrev cX11_holds : ByteArray := prog_13_method_19_code
def yX11_holds : MethodName := ⟨RX11, "holds", "(I)I"⟩
abbrev cX11_isSuch : ByteArray := prog_13_method_20_code
def yX11_isSuch : MethodName := ⟨RX11, "isSuch", "(II)Z"⟩
abbrev cX11_weight : ByteArray := prog_13_method_21_code
def yX11_weight : MethodName := ⟨RX11, "weight", "(I)I"⟩
abbrev cX11_says : ByteArray := prog_13_method_22_code
def yX11_says : MethodName := ⟨RX11, "says", "(II)I"⟩
abbrev cX11_read : ByteArray := prog_13_method_23_code
def yX11_read : MethodName := ⟨RX11, "read", "(II)I"⟩
abbrev cX11_reads : ByteArray := prog_13_method_24_code
def yX11_reads : MethodName := ⟨RX11, "reads", "(I)I"⟩
abbrev cX11_newTerm : ByteArray := prog_13_method_25_code
def yX11_newTerm : MethodName := ⟨RX11, "newTerm", "([II)I"⟩
abbrev cX11_term : ByteArray := prog_13_method_26_code
def yX11_term : MethodName := ⟨RX11, "term", "(I)I"⟩
abbrev cX11_fault : ByteArray := prog_13_method_27_code
def yX11_fault : MethodName := ⟨RX11, "fault", "()I"⟩
abbrev cX11_drop : ByteArray := prog_13_method_28_code
def yX11_drop : MethodName := ⟨RX11, "drop", "()I"⟩
abbrev cX11_commute : ByteArray := prog_13_method_29_code
def yX11_commute : MethodName := ⟨RX11, "commute", "(IZ)I"⟩
abbrev cX11_commutes : ByteArray := prog_13_method_30_code
def yX11_commutes : MethodName := ⟨RX11, "commutes", "(I)Z"⟩
abbrev cX11_node : ByteArray := prog_13_method_31_code
def yX11_node : MethodName := ⟨RX11, "node", "(II)I"⟩
abbrev cX11_depth : ByteArray := prog_13_method_32_code
def yX11_depth : MethodName := ⟨RX11, "depth", "(I)I"⟩
abbrev cX11_variables : ByteArray := prog_13_method_33_code
def yX11_variables : MethodName := ⟨RX11, "variables", "([III)I"⟩
abbrev cX11_termOf : ByteArray := prog_13_method_34_code
def yX11_termOf : MethodName := ⟨RX11, "termOf", "(II)I"⟩
abbrev cX11_pathTo : ByteArray := prog_13_method_35_code
def yX11_pathTo : MethodName := ⟨RX11, "pathTo", "([III)J"⟩
abbrev cX11_path : ByteArray := prog_13_method_36_code
def yX11_path : MethodName := ⟨RX11, "path", "(II)J"⟩
abbrev cX11_isSame : ByteArray := prog_13_method_37_code
def yX11_isSame : MethodName := ⟨RX11, "isSame", "([II[II)Z"⟩
abbrev cX11_isSameBut : ByteArray := prog_13_method_38_code
def yX11_isSameBut : MethodName := ⟨RX11, "isSameBut", "(II)Z"⟩
abbrev cX11_same : ByteArray := prog_13_method_39_code
def yX11_same : MethodName := ⟨RX11, "same", "(II)I"⟩
abbrev cX11_rule : ByteArray := prog_13_method_40_code
def yX11_rule : MethodName := ⟨RX11, "rule", "(II)I"⟩
abbrev cX11_ruleOf : ByteArray := prog_13_method_41_code
def yX11_ruleOf : MethodName := ⟨RX11, "ruleOf", "(IZI)I"⟩
abbrev cX11_bindsTo : ByteArray := prog_13_method_42_code
def yX11_bindsTo : MethodName := ⟨RX11, "bindsTo", "(III)Z"⟩
abbrev cX11_goal : ByteArray := prog_13_method_43_code
def yX11_goal : MethodName := ⟨RX11, "goal", "(III)V"⟩
abbrev cX11_bothMatch : ByteArray := prog_13_method_44_code
def yX11_bothMatch : MethodName := ⟨RX11, "bothMatch", "(IIIZ)Z"⟩
abbrev cX11_solves : ByteArray := prog_13_method_45_code
def yX11_solves : MethodName := ⟨RX11, "solves", "(I)Z"⟩
abbrev cX11_matches : ByteArray := prog_13_method_46_code
def yX11_matches : MethodName := ⟨RX11, "matches", "([III)Z"⟩
abbrev cX11_isFit : ByteArray := prog_13_method_47_code
def yX11_isFit : MethodName := ⟨RX11, "isFit", "(II)Z"⟩
abbrev cX11_grows : ByteArray := prog_13_method_48_code
def yX11_grows : MethodName := ⟨RX11, "grows", "(I)V"⟩
abbrev cX11_bound : ByteArray := prog_13_method_49_code
def yX11_bound : MethodName := ⟨RX11, "bound", "(IIII)I"⟩
abbrev cX11_fits : ByteArray := prog_13_method_50_code
def yX11_fits : MethodName := ⟨RX11, "fits", "(III)I"⟩
abbrev cX11_fitting : ByteArray := prog_13_method_51_code
def yX11_fitting : MethodName := ⟨RX11, "fitting", "(I)J"⟩
abbrev cX11_redexes : ByteArray := prog_13_method_52_code
def yX11_redexes : MethodName := ⟨RX11, "redexes", "(I)J"⟩
abbrev cX11_builds : ByteArray := prog_13_method_53_code
def yX11_builds : MethodName := ⟨RX11, "builds", "(I)V"⟩
abbrev cX11_becomes : ByteArray := prog_13_method_54_code
def yX11_becomes : MethodName := ⟨RX11, "becomes", "(I[III)V"⟩
abbrev cX11_rewrite : ByteArray := prog_13_method_55_code
def yX11_rewrite : MethodName := ⟨RX11, "rewrite", "(III)I"⟩
abbrev cX11_strategy : ByteArray := prog_13_method_56_code
def yX11_strategy : MethodName := ⟨RX11, "strategy", "(III)I"⟩
abbrev cX11_strategyOf : ByteArray := prog_13_method_57_code
def yX11_strategyOf : MethodName := ⟨RX11, "strategyOf", "(II)I"⟩
abbrev cX11_end : ByteArray := prog_13_method_58_code
def yX11_end : MethodName := ⟨RX11, "end", "()Z"⟩
abbrev cX11_rewrites : ByteArray := prog_13_method_59_code
def yX11_rewrites : MethodName := ⟨RX11, "rewrites", "(II)Z"⟩
abbrev cX11_kindOf : ByteArray := prog_13_method_60_code
def yX11_kindOf : MethodName := ⟨RX11, "kindOf", "(I)I"⟩
abbrev cX11_oneOf : ByteArray := prog_13_method_61_code
def yX11_oneOf : MethodName := ⟨RX11, "oneOf", "(I)I"⟩
abbrev cX11_twoOf : ByteArray := prog_13_method_62_code
def yX11_twoOf : MethodName := ⟨RX11, "twoOf", "(I)I"⟩
abbrev cX11_lays : ByteArray := prog_13_method_63_code
def yX11_lays : MethodName := ⟨RX11, "lays", "(I)V"⟩
abbrev cX11_again : ByteArray := prog_13_method_64_code
def yX11_again : MethodName := ⟨RX11, "again", "(IZ)V"⟩
abbrev cX11_tries : ByteArray := prog_13_method_65_code
def yX11_tries : MethodName := ⟨RX11, "tries", "(II)Z"⟩
abbrev cX11_fitsIn : ByteArray := prog_13_method_66_code
def yX11_fitsIn : MethodName := ⟨RX11, "fitsIn", "(I)Z"⟩
abbrev cX11_goesAll : ByteArray := prog_13_method_67_code
def yX11_goesAll : MethodName := ⟨RX11, "goesAll", "(II)Z"⟩
abbrev cX11_goesOne : ByteArray := prog_13_method_68_code
def yX11_goesOne : MethodName := ⟨RX11, "goesOne", "(II)Z"⟩
abbrev cX11_goesSome : ByteArray := prog_13_method_69_code
def yX11_goesSome : MethodName := ⟨RX11, "goesSome", "(II)Z"⟩
abbrev cX11_repeats : ByteArray := prog_13_method_70_code
def yX11_repeats : MethodName := ⟨RX11, "repeats", "(II)Z"⟩
abbrev cX11_innermost : ByteArray := prog_13_method_71_code
def yX11_innermost : MethodName := ⟨RX11, "innermost", "(II)Z"⟩
abbrev cX11_begins : ByteArray := prog_13_method_72_code
def yX11_begins : MethodName := ⟨RX11, "begins", "()Z"⟩
abbrev cX11_goes : ByteArray := prog_13_method_73_code
def yX11_goes : MethodName := ⟨RX11, "goes", "(II)Z"⟩
abbrev cX11_counts : ByteArray := prog_13_method_74_code
def yX11_counts : MethodName := ⟨RX11, "counts", "()V"⟩
abbrev cX11_goes_ : ByteArray := prog_13_method_75_code
def yX11_goes_ : MethodName := ⟨RX11, "goes", "(I)I"⟩
abbrev cX11_run : ByteArray := prog_13_method_76_code
def yX11_run : MethodName := ⟨RX11, "run", "(II)I"⟩
abbrev cX11_trial : ByteArray := prog_13_method_77_code
def yX11_trial : MethodName := ⟨RX11, "trial", "(III)I"⟩
abbrev cX11_trace : ByteArray := prog_13_method_78_code
def yX11_trace : MethodName := ⟨RX11, "trace", "(I)I"⟩
abbrev cX11_tracePath : ByteArray := prog_13_method_79_code
def yX11_tracePath : MethodName := ⟨RX11, "tracePath", "(I)J"⟩
abbrev cX11_nodeOf : ByteArray := prog_13_method_80_code
def yX11_nodeOf : MethodName := ⟨RX11, "nodeOf", "(J)I"⟩
abbrev cX11_replay : ByteArray := prog_13_method_81_code
def yX11_replay : MethodName := ⟨RX11, "replay", "(II)I"⟩
abbrev cX11_isFree : ByteArray := prog_13_method_82_code
def yX11_isFree : MethodName := ⟨RX11, "isFree", "(I)Z"⟩
abbrev cX11_number : ByteArray := prog_13_method_83_code
def yX11_number : MethodName := ⟨RX11, "number", "(I)I"⟩
abbrev cX11_wide : ByteArray := prog_13_method_84_code
def yX11_wide : MethodName := ⟨RX11, "wide", "(I)I"⟩
abbrev cX11_poolSpan : ByteArray := prog_13_method_85_code
def yX11_poolSpan : MethodName := ⟨RX11, "poolSpan", "(I)I"⟩
abbrev cX11_poolArgument : ByteArray := prog_13_method_86_code
def yX11_poolArgument : MethodName := ⟨RX11, "poolArgument", "(II)I"⟩
abbrev cX11_standsFor : ByteArray := prog_13_method_87_code
def yX11_standsFor : MethodName := ⟨RX11, "standsFor", "(I)I"⟩
abbrev cX11_isIn : ByteArray := prog_13_method_88_code
def yX11_isIn : MethodName := ⟨RX11, "isIn", "(II)Z"⟩
abbrev cX11_unifies : ByteArray := prog_13_method_89_code
def yX11_unifies : MethodName := ⟨RX11, "unifies", "(II)Z"⟩
abbrev cX11_pools : ByteArray := prog_13_method_90_code
def yX11_pools : MethodName := ⟨RX11, "pools", "(I[IIIZ)V"⟩
abbrev cX11_unbinds : ByteArray := prog_13_method_91_code
def yX11_unbinds : MethodName := ⟨RX11, "unbinds", "()V"⟩
abbrev cX11_puts : ByteArray := prog_13_method_92_code
def yX11_puts : MethodName := ⟨RX11, "puts", "([III)I"⟩
abbrev cX11_unify : ByteArray := prog_13_method_93_code
def yX11_unify : MethodName := ⟨RX11, "unify", "(II)I"⟩
abbrev cX11_putsBut : ByteArray := prog_13_method_94_code
def yX11_putsBut : MethodName := ⟨RX11, "putsBut", "(III)I"⟩
abbrev cX11_overlapsAt : ByteArray := prog_13_method_95_code
def yX11_overlapsAt : MethodName := ⟨RX11, "overlapsAt", "(III)Z"⟩
abbrev cX11_isNarrow : ByteArray := prog_13_method_96_code
def yX11_isNarrow : MethodName := ⟨RX11, "isNarrow", "(I)Z"⟩
abbrev cX11_overlapsTill : ByteArray := prog_13_method_97_code
def yX11_overlapsTill : MethodName := ⟨RX11, "overlapsTill", "(III)I"⟩
abbrev cX11_overlaps : ByteArray := prog_13_method_98_code
def yX11_overlaps : MethodName := ⟨RX11, "overlaps", "(II)I"⟩
abbrev cX11_isOverlap : ByteArray := prog_13_method_99_code
def yX11_isOverlap : MethodName := ⟨RX11, "isOverlap", "(III)Z"⟩
abbrev cX11_overlap : ByteArray := prog_13_method_100_code
def yX11_overlap : MethodName := ⟨RX11, "overlap", "(IIII)I"⟩
abbrev cX11_normal : ByteArray := prog_13_method_101_code
def yX11_normal : MethodName := ⟨RX11, "normal", "([II)I"⟩
abbrev cX11_meets : ByteArray := prog_13_method_102_code
def yX11_meets : MethodName := ⟨RX11, "meets", "(III)I"⟩
abbrev cX11_isMade : ByteArray := prog_13_method_103_code
def yX11_isMade : MethodName := ⟨RX11, "isMade", "(III)Z"⟩
abbrev cX11_judge : ByteArray := prog_13_method_104_code
def yX11_judge : MethodName := ⟨RX11, "judge", "(III)I"⟩
abbrev cX11_draw : ByteArray := prog_13_method_105_code
def yX11_draw : MethodName := ⟨RX11, "draw", "(I)I"⟩
abbrev cX11_isDone : ByteArray := prog_13_method_106_code
def yX11_isDone : MethodName := ⟨RX11, "isDone", "(II)Z"⟩
abbrev cX11_days : ByteArray := prog_13_method_107_code
def yX11_days : MethodName := ⟨RX11, "days", "(I)I"⟩
abbrev cX11_seed : ByteArray := prog_13_method_108_code
def yX11_seed : MethodName := ⟨RX11, "seed", "(I)I"⟩
abbrev cX11_image : ByteArray := prog_13_method_109_code
def yX11_image : MethodName := ⟨RX11, "image", "()I"⟩
abbrev cX11_restore : ByteArray := prog_13_method_110_code
def yX11_restore : MethodName := ⟨RX11, "restore", "()I"⟩
abbrev cX11_allNodes : ByteArray := prog_13_method_111_code
def yX11_allNodes : MethodName := ⟨RX11, "allNodes", "()I"⟩
abbrev cX11_status : ByteArray := prog_13_method_112_code
def yX11_status : MethodName := ⟨RX11, "status", "(I)I"⟩
def RJ6 : String := "java/lang/Integer"
def TJ6 : u_T := fun k => match k with
  | _ => ("", "", "", false)
def tyJ6 : Nat → FieldType := fun k => match k with
  | _ => .int
abbrev cJ6_bitCount_0f7a4 : ByteArray := prog_14_method_49_code
def yJ6_bitCount_0f7a4 : MethodName := ⟨RJ6, "bitCount", "(I)I"⟩
def RJ9 : String := "java/lang/Math"
def TJ9 : u_T := fun k => match k with
  | _ => ("", "", "", false)
def tyJ9 : Nat → FieldType := fun k => match k with
  | _ => .int
abbrev cJ9_max_7cf53 : ByteArray := prog_15_method_65_code
def yJ9_max_7cf53 : MethodName := ⟨RJ9, "max", "(II)I"⟩
abbrev cJ9_min_7cf53 : ByteArray := prog_15_method_69_code
def yJ9_min_7cf53 : MethodName := ⟨RJ9, "min", "(II)I"⟩
def RJ10 : String := "java/lang/System"
def TJ10 : u_T := fun k => match k with
  | _ => ("", "", "", false)
def tyJ10 : Nat → FieldType := fun k => match k with
  | _ => .int
def RJ7 : String := "java/util/Arrays"
def TJ7 : u_T := fun k => match k with
  | _ => ("", "", "", false)
def tyJ7 : Nat → FieldType := fun k => match k with
  | _ => .int
abbrev cJ7_fill_d0a16 : ByteArray := prog_17_method_101_code
def yJ7_fill_d0a16 : MethodName := ⟨RJ7, "fill", "([JJ)V"⟩
abbrev cJ7_fill_53178 : ByteArray := prog_17_method_103_code
def yJ7_fill_53178 : MethodName := ⟨RJ7, "fill", "([II)V"⟩
def RL : String := "TermStrategiesLaw"
abbrev cL_law : ByteArray := code
def yL_law : MethodName := ⟨RL, "law", "([I)Z"⟩
abbrev vwCl : List vw_C := [(RX0, TX0, 4), (RX1, TX1, 4), (RX2, TX2, 6), (RX3, TX3, 5), (RX4, TX4, 17), (RX5, TX5, 3), (RX6, TX6, 1), (RX7, TX7, 10), (RX8, TX8, 3), (RX9, TX9, 13), (RX10, TX10, 14), (RX11, TX11, 61)]
