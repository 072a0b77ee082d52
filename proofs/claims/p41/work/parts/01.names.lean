-- ===== PART A: goes FIRST, ahead of the names: the tables' words, and 'selects' of the private methods out of them =====
/-- a private method of a class that the tables say can be made, by its rows of tables_1 -/
def lw_okq (q : MethodName × Nat) : Prop := (q.1.cls ≠ "java/lang/invoke/MethodHandle" ∧ q.1.cls ≠ "java/lang/invoke/VarHandle") ∧ Cond.instantiable q.1.cls q.2 ∈ tables_1 ∧ Cond.privateMethod q.1 ∈ tables_1 ∧ Cond.instanceMethod q.1 ∈ tables_1
theorem lw_p0 : lw_okq (⟨"TermStrategies", "refuse", "(I)I"⟩, 14) := ⟨⟨by decide +kernel, by decide +kernel⟩, List.mem_of_getElem? (i := 25) (by decide +kernel), List.mem_of_getElem? (i := 373) (by decide +kernel), List.mem_of_getElem? (i := 374) (by decide +kernel)⟩
theorem lw_p1 : lw_okq (⟨"TermStrategies", "hasNode", "(II)Z"⟩, 14) := ⟨⟨by decide +kernel, by decide +kernel⟩, List.mem_of_getElem? (i := 25) (by decide +kernel), List.mem_of_getElem? (i := 460) (by decide +kernel), List.mem_of_getElem? (i := 461) (by decide +kernel)⟩
theorem lw_p2 : lw_okq (⟨"TermStrategies", "rewriteToWork", "(III)I"⟩, 14) := ⟨⟨by decide +kernel, by decide +kernel⟩, List.mem_of_getElem? (i := 25) (by decide +kernel), List.mem_of_getElem? (i := 468) (by decide +kernel), List.mem_of_getElem? (i := 469) (by decide +kernel)⟩
theorem lw_p3 : lw_okq (⟨"TermStrategies$Matching", "countTurns", "(III)V"⟩, 6) := ⟨⟨by decide +kernel, by decide +kernel⟩, List.mem_of_getElem? (i := 172) (by decide +kernel), List.mem_of_getElem? (i := 478) (by decide +kernel), List.mem_of_getElem? (i := 479) (by decide +kernel)⟩
theorem lw_p4 : lw_okq (⟨"TermStrategies$Matching", "mayTurn", "(I)Z"⟩, 6) := ⟨⟨by decide +kernel, by decide +kernel⟩, List.mem_of_getElem? (i := 172) (by decide +kernel), List.mem_of_getElem? (i := 483) (by decide +kernel), List.mem_of_getElem? (i := 484) (by decide +kernel)⟩
theorem lw_p5 : lw_okq (⟨"TermStrategies$Matching", "attempt", "(IIII)Z"⟩, 6) := ⟨⟨by decide +kernel, by decide +kernel⟩, List.mem_of_getElem? (i := 172) (by decide +kernel), List.mem_of_getElem? (i := 487) (by decide +kernel), List.mem_of_getElem? (i := 488) (by decide +kernel)⟩
theorem lw_p6 : lw_okq (⟨"TermStrategies$Matching", "faceArguments", "(IIII)V"⟩, 6) := ⟨⟨by decide +kernel, by decide +kernel⟩, List.mem_of_getElem? (i := 172) (by decide +kernel), List.mem_of_getElem? (i := 500) (by decide +kernel), List.mem_of_getElem? (i := 501) (by decide +kernel)⟩
theorem lw_p7 : lw_okq (⟨"TermStrategies", "newTerm", "(I)I"⟩, 14) := ⟨⟨by decide +kernel, by decide +kernel⟩, List.mem_of_getElem? (i := 25) (by decide +kernel), List.mem_of_getElem? (i := 523) (by decide +kernel), List.mem_of_getElem? (i := 524) (by decide +kernel)⟩
theorem lw_p8 : lw_okq (⟨"TermStrategies", "isStrategyOver", "(III)Z"⟩, 14) := ⟨⟨by decide +kernel, by decide +kernel⟩, List.mem_of_getElem? (i := 25) (by decide +kernel), List.mem_of_getElem? (i := 536) (by decide +kernel), List.mem_of_getElem? (i := 537) (by decide +kernel)⟩
theorem lw_p9 : lw_okq (⟨"TermStrategies$State", "writeStrategy", "(IIII)V"⟩, 10) := ⟨⟨by decide +kernel, by decide +kernel⟩, List.mem_of_getElem? (i := 33) (by decide +kernel), List.mem_of_getElem? (i := 551) (by decide +kernel), List.mem_of_getElem? (i := 552) (by decide +kernel)⟩
theorem lw_p10 : lw_okq (⟨"TermStrategies$Runner", "ask", "(IIIIJ)V"⟩, 17) := ⟨⟨by decide +kernel, by decide +kernel⟩, List.mem_of_getElem? (i := 197) (by decide +kernel), List.mem_of_getElem? (i := 581) (by decide +kernel), List.mem_of_getElem? (i := 582) (by decide +kernel)⟩
theorem lw_p11 : lw_okq (⟨"TermStrategies$Runner", "countBegun", "()Z"⟩, 17) := ⟨⟨by decide +kernel, by decide +kernel⟩, List.mem_of_getElem? (i := 197) (by decide +kernel), List.mem_of_getElem? (i := 586) (by decide +kernel), List.mem_of_getElem? (i := 587) (by decide +kernel)⟩
theorem lw_p12 : lw_okq (⟨"TermStrategies$Runner", "start", "(I)V"⟩, 17) := ⟨⟨by decide +kernel, by decide +kernel⟩, List.mem_of_getElem? (i := 197) (by decide +kernel), List.mem_of_getElem? (i := 592) (by decide +kernel), List.mem_of_getElem? (i := 593) (by decide +kernel)⟩
theorem lw_p13 : lw_okq (⟨"TermStrategies$Runner", "rewritten", "(IIJ)I"⟩, 17) := ⟨⟨by decide +kernel, by decide +kernel⟩, List.mem_of_getElem? (i := 197) (by decide +kernel), List.mem_of_getElem? (i := 607) (by decide +kernel), List.mem_of_getElem? (i := 608) (by decide +kernel)⟩
theorem lw_p14 : lw_okq (⟨"TermStrategies$Runner", "finish", "(II)V"⟩, 17) := ⟨⟨by decide +kernel, by decide +kernel⟩, List.mem_of_getElem? (i := 197) (by decide +kernel), List.mem_of_getElem? (i := 623) (by decide +kernel), List.mem_of_getElem? (i := 624) (by decide +kernel)⟩
theorem lw_p15 : lw_okq (⟨"TermStrategies$Runner", "goOnWith", "(II)V"⟩, 17) := ⟨⟨by decide +kernel, by decide +kernel⟩, List.mem_of_getElem? (i := 197) (by decide +kernel), List.mem_of_getElem? (i := 627) (by decide +kernel), List.mem_of_getElem? (i := 628) (by decide +kernel)⟩
def lw_privs_1 : List (MethodName × Nat) := [(⟨"TermStrategies", "refuse", "(I)I"⟩, 14), (⟨"TermStrategies", "hasNode", "(II)Z"⟩, 14), (⟨"TermStrategies", "rewriteToWork", "(III)I"⟩, 14), (⟨"TermStrategies$Matching", "countTurns", "(III)V"⟩, 6), (⟨"TermStrategies$Matching", "mayTurn", "(I)Z"⟩, 6), (⟨"TermStrategies$Matching", "attempt", "(IIII)Z"⟩, 6), (⟨"TermStrategies$Matching", "faceArguments", "(IIII)V"⟩, 6), (⟨"TermStrategies", "newTerm", "(I)I"⟩, 14), (⟨"TermStrategies", "isStrategyOver", "(III)Z"⟩, 14), (⟨"TermStrategies$State", "writeStrategy", "(IIII)V"⟩, 10), (⟨"TermStrategies$Runner", "ask", "(IIIIJ)V"⟩, 17), (⟨"TermStrategies$Runner", "countBegun", "()Z"⟩, 17), (⟨"TermStrategies$Runner", "start", "(I)V"⟩, 17), (⟨"TermStrategies$Runner", "rewritten", "(IIJ)I"⟩, 17), (⟨"TermStrategies$Runner", "finish", "(II)V"⟩, 17), (⟨"TermStrategies$Runner", "goOnWith", "(II)V"⟩, 17)]
theorem lw_r1 : ∀ q ∈ lw_privs_1, lw_okq q := List.forall_mem_cons.mpr ⟨lw_p0, List.forall_mem_cons.mpr ⟨lw_p1, List.forall_mem_cons.mpr ⟨lw_p2, List.forall_mem_cons.mpr ⟨lw_p3, List.forall_mem_cons.mpr ⟨lw_p4, List.forall_mem_cons.mpr ⟨lw_p5, List.forall_mem_cons.mpr ⟨lw_p6, List.forall_mem_cons.mpr ⟨lw_p7, List.forall_mem_cons.mpr ⟨lw_p8, List.forall_mem_cons.mpr ⟨lw_p9, List.forall_mem_cons.mpr ⟨lw_p10, List.forall_mem_cons.mpr ⟨lw_p11, List.forall_mem_cons.mpr ⟨lw_p12, List.forall_mem_cons.mpr ⟨lw_p13, List.forall_mem_cons.mpr ⟨lw_p14, List.forall_mem_cons.mpr ⟨lw_p15, fun _ h => absurd h List.not_mem_nil⟩⟩⟩⟩⟩⟩⟩⟩⟩⟩⟩⟩⟩⟩⟩⟩
theorem lw_p16 : lw_okq (⟨"TermStrategies$Runner", "walk", "(I)V"⟩, 17) := ⟨⟨by decide +kernel, by decide +kernel⟩, List.mem_of_getElem? (i := 197) (by decide +kernel), List.mem_of_getElem? (i := 632) (by decide +kernel), List.mem_of_getElem? (i := 633) (by decide +kernel)⟩
theorem lw_p17 : lw_okq (⟨"TermStrategies$Runner", "walkerOf", "(I)I"⟩, 17) := ⟨⟨by decide +kernel, by decide +kernel⟩, List.mem_of_getElem? (i := 197) (by decide +kernel), List.mem_of_getElem? (i := 638) (by decide +kernel), List.mem_of_getElem? (i := 639) (by decide +kernel)⟩
theorem lw_p18 : lw_okq (⟨"TermStrategies$Runner", "mayPassOver", "(I)Z"⟩, 17) := ⟨⟨by decide +kernel, by decide +kernel⟩, List.mem_of_getElem? (i := 197) (by decide +kernel), List.mem_of_getElem? (i := 643) (by decide +kernel), List.mem_of_getElem? (i := 644) (by decide +kernel)⟩
theorem lw_p19 : lw_okq (⟨"TermStrategies$Runner", "endWalk", "(II)V"⟩, 17) := ⟨⟨by decide +kernel, by decide +kernel⟩, List.mem_of_getElem? (i := 197) (by decide +kernel), List.mem_of_getElem? (i := 647) (by decide +kernel), List.mem_of_getElem? (i := 648) (by decide +kernel)⟩
theorem lw_p20 : lw_okq (⟨"TermStrategies$Runner", "askWhole", "(IIII)V"⟩, 17) := ⟨⟨by decide +kernel, by decide +kernel⟩, List.mem_of_getElem? (i := 197) (by decide +kernel), List.mem_of_getElem? (i := 651) (by decide +kernel), List.mem_of_getElem? (i := 652) (by decide +kernel)⟩
theorem lw_p21 : lw_okq (⟨"TermStrategies$Runner", "goOnFromWhole", "(I)V"⟩, 17) := ⟨⟨by decide +kernel, by decide +kernel⟩, List.mem_of_getElem? (i := 197) (by decide +kernel), List.mem_of_getElem? (i := 655) (by decide +kernel), List.mem_of_getElem? (i := 656) (by decide +kernel)⟩
theorem lw_p22 : lw_okq (⟨"TermStrategies$Runner", "goOnFromFirst", "(I)V"⟩, 17) := ⟨⟨by decide +kernel, by decide +kernel⟩, List.mem_of_getElem? (i := 197) (by decide +kernel), List.mem_of_getElem? (i := 663) (by decide +kernel), List.mem_of_getElem? (i := 664) (by decide +kernel)⟩
theorem lw_p23 : lw_okq (⟨"TermStrategies$Runner", "join", "(III)V"⟩, 17) := ⟨⟨by decide +kernel, by decide +kernel⟩, List.mem_of_getElem? (i := 197) (by decide +kernel), List.mem_of_getElem? (i := 669) (by decide +kernel), List.mem_of_getElem? (i := 670) (by decide +kernel)⟩
theorem lw_p24 : lw_okq (⟨"TermStrategies$Runner", "goOnFromSecond", "(I)V"⟩, 17) := ⟨⟨by decide +kernel, by decide +kernel⟩, List.mem_of_getElem? (i := 197) (by decide +kernel), List.mem_of_getElem? (i := 675) (by decide +kernel), List.mem_of_getElem? (i := 676) (by decide +kernel)⟩
theorem lw_p25 : lw_okq (⟨"TermStrategies$Runner", "goOnFromWalk", "(I)V"⟩, 17) := ⟨⟨by decide +kernel, by decide +kernel⟩, List.mem_of_getElem? (i := 197) (by decide +kernel), List.mem_of_getElem? (i := 679) (by decide +kernel), List.mem_of_getElem? (i := 680) (by decide +kernel)⟩
theorem lw_p26 : lw_okq (⟨"TermStrategies", "rewriteAtLeast", "(II)Z"⟩, 14) := ⟨⟨by decide +kernel, by decide +kernel⟩, List.mem_of_getElem? (i := 25) (by decide +kernel), List.mem_of_getElem? (i := 707) (by decide +kernel), List.mem_of_getElem? (i := 708) (by decide +kernel)⟩
theorem lw_p27 : lw_okq (⟨"TermStrategies", "fittingNode", "(III)I"⟩, 14) := ⟨⟨by decide +kernel, by decide +kernel⟩, List.mem_of_getElem? (i := 25) (by decide +kernel), List.mem_of_getElem? (i := 711) (by decide +kernel), List.mem_of_getElem? (i := 712) (by decide +kernel)⟩
theorem lw_p28 : lw_okq (⟨"TermStrategies", "nodesOfAll", "()I"⟩, 14) := ⟨⟨by decide +kernel, by decide +kernel⟩, List.mem_of_getElem? (i := 25) (by decide +kernel), List.mem_of_getElem? (i := 758) (by decide +kernel), List.mem_of_getElem? (i := 759) (by decide +kernel)⟩
theorem lw_p29 : lw_okq (⟨"TermStrategies$Reader", "next", "(III)I"⟩, 5) := ⟨⟨by decide +kernel, by decide +kernel⟩, List.mem_of_getElem? (i := 112) (by decide +kernel), List.mem_of_getElem? (i := 1185) (by decide +kernel), List.mem_of_getElem? (i := 1186) (by decide +kernel)⟩
theorem lw_p30 : lw_okq (⟨"TermStrategies$Reader", "nextToSign", "(II)I"⟩, 5) := ⟨⟨by decide +kernel, by decide +kernel⟩, List.mem_of_getElem? (i := 112) (by decide +kernel), List.mem_of_getElem? (i := 1189) (by decide +kernel), List.mem_of_getElem? (i := 1190) (by decide +kernel)⟩
theorem lw_p31 : lw_okq (⟨"TermStrategies$Layout", "layArgument", "(III)V"⟩, 4) := ⟨⟨by decide +kernel, by decide +kernel⟩, List.mem_of_getElem? (i := 134) (by decide +kernel), List.mem_of_getElem? (i := 1229) (by decide +kernel), List.mem_of_getElem? (i := 1230) (by decide +kernel)⟩
def lw_privs_2 : List (MethodName × Nat) := [(⟨"TermStrategies$Runner", "walk", "(I)V"⟩, 17), (⟨"TermStrategies$Runner", "walkerOf", "(I)I"⟩, 17), (⟨"TermStrategies$Runner", "mayPassOver", "(I)Z"⟩, 17), (⟨"TermStrategies$Runner", "endWalk", "(II)V"⟩, 17), (⟨"TermStrategies$Runner", "askWhole", "(IIII)V"⟩, 17), (⟨"TermStrategies$Runner", "goOnFromWhole", "(I)V"⟩, 17), (⟨"TermStrategies$Runner", "goOnFromFirst", "(I)V"⟩, 17), (⟨"TermStrategies$Runner", "join", "(III)V"⟩, 17), (⟨"TermStrategies$Runner", "goOnFromSecond", "(I)V"⟩, 17), (⟨"TermStrategies$Runner", "goOnFromWalk", "(I)V"⟩, 17), (⟨"TermStrategies", "rewriteAtLeast", "(II)Z"⟩, 14), (⟨"TermStrategies", "fittingNode", "(III)I"⟩, 14), (⟨"TermStrategies", "nodesOfAll", "()I"⟩, 14), (⟨"TermStrategies$Reader", "next", "(III)I"⟩, 5), (⟨"TermStrategies$Reader", "nextToSign", "(II)I"⟩, 5), (⟨"TermStrategies$Layout", "layArgument", "(III)V"⟩, 4)]
theorem lw_r2 : ∀ q ∈ lw_privs_2, lw_okq q := List.forall_mem_cons.mpr ⟨lw_p16, List.forall_mem_cons.mpr ⟨lw_p17, List.forall_mem_cons.mpr ⟨lw_p18, List.forall_mem_cons.mpr ⟨lw_p19, List.forall_mem_cons.mpr ⟨lw_p20, List.forall_mem_cons.mpr ⟨lw_p21, List.forall_mem_cons.mpr ⟨lw_p22, List.forall_mem_cons.mpr ⟨lw_p23, List.forall_mem_cons.mpr ⟨lw_p24, List.forall_mem_cons.mpr ⟨lw_p25, List.forall_mem_cons.mpr ⟨lw_p26, List.forall_mem_cons.mpr ⟨lw_p27, List.forall_mem_cons.mpr ⟨lw_p28, List.forall_mem_cons.mpr ⟨lw_p29, List.forall_mem_cons.mpr ⟨lw_p30, List.forall_mem_cons.mpr ⟨lw_p31, fun _ h => absurd h List.not_mem_nil⟩⟩⟩⟩⟩⟩⟩⟩⟩⟩⟩⟩⟩⟩⟩⟩
theorem lw_p32 : lw_okq (⟨"TermStrategies", "redexesAt", "(I)J"⟩, 14) := ⟨⟨by decide +kernel, by decide +kernel⟩, List.mem_of_getElem? (i := 25) (by decide +kernel), List.mem_of_getElem? (i := 1242) (by decide +kernel), List.mem_of_getElem? (i := 1243) (by decide +kernel)⟩
theorem lw_p33 : lw_okq (⟨"TermStrategies", "someRuleFits", "(I)Z"⟩, 14) := ⟨⟨by decide +kernel, by decide +kernel⟩, List.mem_of_getElem? (i := 25) (by decide +kernel), List.mem_of_getElem? (i := 1246) (by decide +kernel), List.mem_of_getElem? (i := 1247) (by decide +kernel)⟩
theorem lw_p34 : lw_okq (⟨"TermStrategies", "countFits", "(II)I"⟩, 14) := ⟨⟨by decide +kernel, by decide +kernel⟩, List.mem_of_getElem? (i := 25) (by decide +kernel), List.mem_of_getElem? (i := 1267) (by decide +kernel), List.mem_of_getElem? (i := 1268) (by decide +kernel)⟩
theorem lw_p35 : lw_okq (⟨"TermStrategies$Exchange", "argumentsAlike", "(III)Z"⟩, 4) := ⟨⟨by decide +kernel, by decide +kernel⟩, List.mem_of_getElem? (i := 153) (by decide +kernel), List.mem_of_getElem? (i := 1285) (by decide +kernel), List.mem_of_getElem? (i := 1286) (by decide +kernel)⟩
theorem lw_p36 : lw_okq (⟨"TermStrategies$Exchange", "isAlike", "(II)Z"⟩, 4) := ⟨⟨by decide +kernel, by decide +kernel⟩, List.mem_of_getElem? (i := 153) (by decide +kernel), List.mem_of_getElem? (i := 1290) (by decide +kernel), List.mem_of_getElem? (i := 1291) (by decide +kernel)⟩
theorem lw_p37 : lw_okq (⟨"TermStrategies", "seekOverlap", "(III)I"⟩, 14) := ⟨⟨by decide +kernel, by decide +kernel⟩, List.mem_of_getElem? (i := 25) (by decide +kernel), List.mem_of_getElem? (i := 1316) (by decide +kernel), List.mem_of_getElem? (i := 1317) (by decide +kernel)⟩
theorem lw_p38 : lw_okq (⟨"TermStrategies", "hasTooManyVariables", "(I)Z"⟩, 14) := ⟨⟨by decide +kernel, by decide +kernel⟩, List.mem_of_getElem? (i := 25) (by decide +kernel), List.mem_of_getElem? (i := 1320) (by decide +kernel), List.mem_of_getElem? (i := 1321) (by decide +kernel)⟩
theorem lw_p39 : lw_okq (⟨"TermStrategies", "layOverlap", "(III)Z"⟩, 14) := ⟨⟨by decide +kernel, by decide +kernel⟩, List.mem_of_getElem? (i := 25) (by decide +kernel), List.mem_of_getElem? (i := 1330) (by decide +kernel), List.mem_of_getElem? (i := 1331) (by decide +kernel)⟩
theorem lw_p40 : lw_okq (⟨"TermStrategies$Unifier", "clear", "()V"⟩, 13) := ⟨⟨by decide +kernel, by decide +kernel⟩, List.mem_of_getElem? (i := 274) (by decide +kernel), List.mem_of_getElem? (i := 1338) (by decide +kernel), List.mem_of_getElem? (i := 1339) (by decide +kernel)⟩
theorem lw_p41 : lw_okq (⟨"TermStrategies$Unifier", "load", "(II)V"⟩, 13) := ⟨⟨by decide +kernel, by decide +kernel⟩, List.mem_of_getElem? (i := 274) (by decide +kernel), List.mem_of_getElem? (i := 1344) (by decide +kernel), List.mem_of_getElem? (i := 1345) (by decide +kernel)⟩
theorem lw_p42 : lw_okq (⟨"TermStrategies$Unifier", "putOff", "(II)V"⟩, 13) := ⟨⟨by decide +kernel, by decide +kernel⟩, List.mem_of_getElem? (i := 274) (by decide +kernel), List.mem_of_getElem? (i := 1352) (by decide +kernel), List.mem_of_getElem? (i := 1353) (by decide +kernel)⟩
theorem lw_p43 : lw_okq (⟨"TermStrategies$Unifier", "joins", "(II)Z"⟩, 13) := ⟨⟨by decide +kernel, by decide +kernel⟩, List.mem_of_getElem? (i := 274) (by decide +kernel), List.mem_of_getElem? (i := 1357) (by decide +kernel), List.mem_of_getElem? (i := 1358) (by decide +kernel)⟩
theorem lw_p44 : lw_okq (⟨"TermStrategies$Unifier", "idOf", "(I)I"⟩, 13) := ⟨⟨by decide +kernel, by decide +kernel⟩, List.mem_of_getElem? (i := 274) (by decide +kernel), List.mem_of_getElem? (i := 1361) (by decide +kernel), List.mem_of_getElem? (i := 1362) (by decide +kernel)⟩
theorem lw_p45 : lw_okq (⟨"TermStrategies$Unifier", "root", "(I)I"⟩, 13) := ⟨⟨by decide +kernel, by decide +kernel⟩, List.mem_of_getElem? (i := 274) (by decide +kernel), List.mem_of_getElem? (i := 1366) (by decide +kernel), List.mem_of_getElem? (i := 1367) (by decide +kernel)⟩
theorem lw_p46 : lw_okq (⟨"TermStrategies$Unifier", "isWithoutCircle", "()Z"⟩, 13) := ⟨⟨by decide +kernel, by decide +kernel⟩, List.mem_of_getElem? (i := 274) (by decide +kernel), List.mem_of_getElem? (i := 1370) (by decide +kernel), List.mem_of_getElem? (i := 1371) (by decide +kernel)⟩
theorem lw_p47 : lw_okq (⟨"TermStrategies$Unifier", "settles", "(I)Z"⟩, 13) := ⟨⟨by decide +kernel, by decide +kernel⟩, List.mem_of_getElem? (i := 274) (by decide +kernel), List.mem_of_getElem? (i := 1374) (by decide +kernel), List.mem_of_getElem? (i := 1375) (by decide +kernel)⟩
def lw_privs_3 : List (MethodName × Nat) := [(⟨"TermStrategies", "redexesAt", "(I)J"⟩, 14), (⟨"TermStrategies", "someRuleFits", "(I)Z"⟩, 14), (⟨"TermStrategies", "countFits", "(II)I"⟩, 14), (⟨"TermStrategies$Exchange", "argumentsAlike", "(III)Z"⟩, 4), (⟨"TermStrategies$Exchange", "isAlike", "(II)Z"⟩, 4), (⟨"TermStrategies", "seekOverlap", "(III)I"⟩, 14), (⟨"TermStrategies", "hasTooManyVariables", "(I)Z"⟩, 14), (⟨"TermStrategies", "layOverlap", "(III)Z"⟩, 14), (⟨"TermStrategies$Unifier", "clear", "()V"⟩, 13), (⟨"TermStrategies$Unifier", "load", "(II)V"⟩, 13), (⟨"TermStrategies$Unifier", "putOff", "(II)V"⟩, 13), (⟨"TermStrategies$Unifier", "joins", "(II)Z"⟩, 13), (⟨"TermStrategies$Unifier", "idOf", "(I)I"⟩, 13), (⟨"TermStrategies$Unifier", "root", "(I)I"⟩, 13), (⟨"TermStrategies$Unifier", "isWithoutCircle", "()Z"⟩, 13), (⟨"TermStrategies$Unifier", "settles", "(I)Z"⟩, 13)]
theorem lw_r3 : ∀ q ∈ lw_privs_3, lw_okq q := List.forall_mem_cons.mpr ⟨lw_p32, List.forall_mem_cons.mpr ⟨lw_p33, List.forall_mem_cons.mpr ⟨lw_p34, List.forall_mem_cons.mpr ⟨lw_p35, List.forall_mem_cons.mpr ⟨lw_p36, List.forall_mem_cons.mpr ⟨lw_p37, List.forall_mem_cons.mpr ⟨lw_p38, List.forall_mem_cons.mpr ⟨lw_p39, List.forall_mem_cons.mpr ⟨lw_p40, List.forall_mem_cons.mpr ⟨lw_p41, List.forall_mem_cons.mpr ⟨lw_p42, List.forall_mem_cons.mpr ⟨lw_p43, List.forall_mem_cons.mpr ⟨lw_p44, List.forall_mem_cons.mpr ⟨lw_p45, List.forall_mem_cons.mpr ⟨lw_p46, List.forall_mem_cons.mpr ⟨lw_p47, fun _ h => absurd h List.not_mem_nil⟩⟩⟩⟩⟩⟩⟩⟩⟩⟩⟩⟩⟩⟩⟩⟩
theorem lw_p48 : lw_okq (⟨"TermStrategies$Unifier", "writeClass", "(I)V"⟩, 13) := ⟨⟨by decide +kernel, by decide +kernel⟩, List.mem_of_getElem? (i := 274) (by decide +kernel), List.mem_of_getElem? (i := 1386) (by decide +kernel), List.mem_of_getElem? (i := 1387) (by decide +kernel)⟩
theorem lw_p49 : lw_okq (⟨"TermStrategies$Unifier", "nameOf", "(I)I"⟩, 13) := ⟨⟨by decide +kernel, by decide +kernel⟩, List.mem_of_getElem? (i := 274) (by decide +kernel), List.mem_of_getElem? (i := 1390) (by decide +kernel), List.mem_of_getElem? (i := 1391) (by decide +kernel)⟩
theorem lw_p50 : lw_okq (⟨"TermStrategies$Unifier", "writeSign", "(I)V"⟩, 13) := ⟨⟨by decide +kernel, by decide +kernel⟩, List.mem_of_getElem? (i := 274) (by decide +kernel), List.mem_of_getElem? (i := 1394) (by decide +kernel), List.mem_of_getElem? (i := 1395) (by decide +kernel)⟩
theorem lw_p51 : lw_okq (⟨"TermStrategies", "rewriteInHand", "(IJ)I"⟩, 14) := ⟨⟨by decide +kernel, by decide +kernel⟩, List.mem_of_getElem? (i := 25) (by decide +kernel), List.mem_of_getElem? (i := 1408) (by decide +kernel), List.mem_of_getElem? (i := 1409) (by decide +kernel)⟩
def lw_privs_4 : List (MethodName × Nat) := [(⟨"TermStrategies$Unifier", "writeClass", "(I)V"⟩, 13), (⟨"TermStrategies$Unifier", "nameOf", "(I)I"⟩, 13), (⟨"TermStrategies$Unifier", "writeSign", "(I)V"⟩, 13), (⟨"TermStrategies", "rewriteInHand", "(IJ)I"⟩, 14)]
theorem lw_r4 : ∀ q ∈ lw_privs_4, lw_okq q := List.forall_mem_cons.mpr ⟨lw_p48, List.forall_mem_cons.mpr ⟨lw_p49, List.forall_mem_cons.mpr ⟨lw_p50, List.forall_mem_cons.mpr ⟨lw_p51, fun _ h => absurd h List.not_mem_nil⟩⟩⟩⟩
def lw_privs : List (MethodName × Nat) := lw_privs_1 ++ (lw_privs_2 ++ (lw_privs_3 ++ (lw_privs_4)))
def lw_tbl : List Cond := k2_sels lw_privs ++ tables_1
theorem lw_privs_ok : ∀ q ∈ lw_privs, lw_okq q := by
  show ∀ q ∈ lw_privs_1 ++ (lw_privs_2 ++ (lw_privs_3 ++ (lw_privs_4))), lw_okq q
  exact List.forall_mem_append.mpr ⟨lw_r1, List.forall_mem_append.mpr ⟨lw_r2, List.forall_mem_append.mpr ⟨lw_r3, lw_r4⟩⟩⟩
-- ===== end of PART A; then your names; then what follows =====
def RX0 : String := "TermStrategies$Exchange"
def TX0 : u_T := fun k => match k with
  | 0 => ("TermStrategies$Exchange", "signs", "LTermStrategies$Signs;", true)
  | 1 => ("TermStrategies$Exchange", "alike", "[J", true)
  | 2 => ("TermStrategies$Exchange", "one", "I", false)
  | _ => ("TermStrategies$Exchange", "two", "I", false)
def tyX0 : Nat → FieldType := fun k => match k with
  | 0 => .object "TermStrategies$Signs"
  | 1 => .array .long
  | 2 => .int
  | _ => .int
theorem nmX0 : ∀ a, a < 4 → ∀ b, b < 4 → a ≠ b → (TX0 a).2.1 ≠ (TX0 b).2.1 := by decide +kernel
theorem tyX0_ok : ∀ k, k < 4 → parseFieldDescriptor (TX0 k).2.2.1 = some (tyX0 k) := by decide +kernel
abbrev cX0_init : ByteArray := prog_2_method_1_code
def yX0_init : MethodName := ⟨RX0, "<init>", "(LTermStrategies$Signs;)V"⟩
abbrev cX0_makesAlike : ByteArray := prog_2_method_2_code
def yX0_makesAlike : MethodName := ⟨RX0, "makesAlike", "(III)Z"⟩
abbrev cX0_argumentsAlike : ByteArray := prog_2_method_3_code
def yX0_argumentsAlike : MethodName := ⟨RX0, "argumentsAlike", "(III)Z"⟩
abbrev cX0_isAlike : ByteArray := prog_2_method_4_code
def yX0_isAlike : MethodName := ⟨RX0, "isAlike", "(II)Z"⟩
def RX1 : String := "TermStrategies$Layout"
def TX1 : u_T := fun k => match k with
  | 0 => ("TermStrategies$Layout", "signs", "LTermStrategies$Signs;", true)
  | 1 => ("TermStrategies$Layout", "levels", "[I", true)
  | 2 => ("TermStrategies$Layout", "paths", "[J", true)
  | _ => ("TermStrategies$Layout", "size", "I", false)
def tyX1 : Nat → FieldType := fun k => match k with
  | 0 => .object "TermStrategies$Signs"
  | 1 => .array .int
  | 2 => .array .long
  | _ => .int
theorem nmX1 : ∀ a, a < 4 → ∀ b, b < 4 → a ≠ b → (TX1 a).2.1 ≠ (TX1 b).2.1 := by decide +kernel
theorem tyX1_ok : ∀ k, k < 4 → parseFieldDescriptor (TX1 k).2.2.1 = some (tyX1 k) := by decide +kernel
abbrev cX1_init : ByteArray := prog_3_method_1_code
def yX1_init : MethodName := ⟨RX1, "<init>", "(LTermStrategies$Signs;)V"⟩
abbrev cX1_lay : ByteArray := prog_3_method_2_code
def yX1_lay : MethodName := ⟨RX1, "lay", "(I)V"⟩
abbrev cX1_layArgument : ByteArray := prog_3_method_3_code
def yX1_layArgument : MethodName := ⟨RX1, "layArgument", "(III)V"⟩
abbrev cX1_deepest : ByteArray := prog_3_method_4_code
def yX1_deepest : MethodName := ⟨RX1, "deepest", "()I"⟩
abbrev cX1_pathAt : ByteArray := prog_3_method_5_code
def yX1_pathAt : MethodName := ⟨RX1, "pathAt", "(I)J"⟩
abbrev cX1_nodeAt : ByteArray := prog_3_method_6_code
def yX1_nodeAt : MethodName := ⟨RX1, "nodeAt", "(J)I"⟩
def RX2 : String := "TermStrategies$Matching"
def TX2 : u_T := fun k => match k with
  | 0 => ("TermStrategies$Matching", "signs", "LTermStrategies$Signs;", true)
  | 1 => ("TermStrategies$Matching", "bindings", "[I", true)
  | 2 => ("TermStrategies$Matching", "facing", "[I", true)
  | 3 => ("TermStrategies$Matching", "turning", "I", false)
  | 4 => ("TermStrategies$Matching", "turns", "I", false)
  | _ => ("TermStrategies$Matching", "decided", "I", false)
def tyX2 : Nat → FieldType := fun k => match k with
  | 0 => .object "TermStrategies$Signs"
  | 1 => .array .int
  | 2 => .array .int
  | 3 => .int
  | 4 => .int
  | _ => .int
theorem nmX2 : ∀ a, a < 6 → ∀ b, b < 6 → a ≠ b → (TX2 a).2.1 ≠ (TX2 b).2.1 := by decide +kernel
theorem tyX2_ok : ∀ k, k < 6 → parseFieldDescriptor (TX2 k).2.2.1 = some (tyX2 k) := by decide +kernel
abbrev cX2_init : ByteArray := prog_4_method_1_code
def yX2_init : MethodName := ⟨RX2, "<init>", "(LTermStrategies$Signs;)V"⟩
abbrev cX2_matches : ByteArray := prog_4_method_2_code
def yX2_matches : MethodName := ⟨RX2, "matches", "(III)Z"⟩
abbrev cX2_countTurns : ByteArray := prog_4_method_3_code
def yX2_countTurns : MethodName := ⟨RX2, "countTurns", "(III)V"⟩
abbrev cX2_mayTurn : ByteArray := prog_4_method_4_code
def yX2_mayTurn : MethodName := ⟨RX2, "mayTurn", "(I)Z"⟩
abbrev cX2_attempt : ByteArray := prog_4_method_5_code
def yX2_attempt : MethodName := ⟨RX2, "attempt", "(IIII)Z"⟩
abbrev cX2_faceArguments : ByteArray := prog_4_method_6_code
def yX2_faceArguments : MethodName := ⟨RX2, "faceArguments", "(IIII)V"⟩
abbrev cX2_boundTo : ByteArray := prog_4_method_7_code
def yX2_boundTo : MethodName := ⟨RX2, "boundTo", "(I)I"⟩
abbrev cX2_sizeOf : ByteArray := prog_4_method_8_code
def yX2_sizeOf : MethodName := ⟨RX2, "sizeOf", "(I)I"⟩
abbrev cX2_append : ByteArray := prog_4_method_9_code
def yX2_append : MethodName := ⟨RX2, "append", "(II)I"⟩
def RX3 : String := "TermStrategies$Reader"
def TX3 : u_T := fun k => match k with
  | 0 => ("TermStrategies$Reader", "shelves", "LTermStrategies$Shelves;", true)
  | 1 => ("TermStrategies$Reader", "signs", "LTermStrategies$Signs;", true)
  | 2 => ("TermStrategies$Reader", "awaited", "[I", true)
  | 3 => ("TermStrategies$Reader", "open", "I", false)
  | _ => ("TermStrategies$Reader", "read", "I", false)
def tyX3 : Nat → FieldType := fun k => match k with
  | 0 => .object "TermStrategies$Shelves"
  | 1 => .object "TermStrategies$Signs"
  | 2 => .array .int
  | 3 => .int
  | _ => .int
theorem nmX3 : ∀ a, a < 5 → ∀ b, b < 5 → a ≠ b → (TX3 a).2.1 ≠ (TX3 b).2.1 := by decide +kernel
theorem tyX3_ok : ∀ k, k < 5 → parseFieldDescriptor (TX3 k).2.2.1 = some (tyX3 k) := by decide +kernel
abbrev cX3_init : ByteArray := prog_5_method_1_code
def yX3_init : MethodName := ⟨RX3, "<init>", "(LTermStrategies$Shelves;LTermStrategies$Signs;)V"⟩
abbrev cX3_readInto : ByteArray := prog_5_method_2_code
def yX3_readInto : MethodName := ⟨RX3, "readInto", "(II)I"⟩
abbrev cX3_next : ByteArray := prog_5_method_3_code
def yX3_next : MethodName := ⟨RX3, "next", "(III)I"⟩
abbrev cX3_nextToSign : ByteArray := prog_5_method_4_code
def yX3_nextToSign : MethodName := ⟨RX3, "nextToSign", "(II)I"⟩
def RX4 : String := "TermStrategies$Runner"
def TX4 : u_T := fun k => match k with
  | 0 => ("TermStrategies$Runner", "state", "LTermStrategies$State;", true)
  | 1 => ("TermStrategies$Runner", "signs", "LTermStrategies$Signs;", true)
  | 2 => ("TermStrategies$Runner", "matching", "LTermStrategies$Matching;", true)
  | 3 => ("TermStrategies$Runner", "trail", "LTermStrategies$Trail;", true)
  | 4 => ("TermStrategies$Runner", "strategies", "[I", true)
  | 5 => ("TermStrategies$Runner", "wholes", "[I", true)
  | 6 => ("TermStrategies$Runner", "paths", "[J", true)
  | 7 => ("TermStrategies$Runner", "stages", "[I", true)
  | 8 => ("TermStrategies$Runner", "firsts", "[I", true)
  | 9 => ("TermStrategies$Runner", "marks", "[I", true)
  | 10 => ("TermStrategies$Runner", "bases", "[I", true)
  | 11 => ("TermStrategies$Runner", "frames", "I", false)
  | 12 => ("TermStrategies$Runner", "begun", "I", false)
  | 13 => ("TermStrategies$Runner", "rewritings", "I", false)
  | 14 => ("TermStrategies$Runner", "top", "I", false)
  | 15 => ("TermStrategies$Runner", "result", "I", false)
  | _ => ("TermStrategies$Runner", "ended", "Z", false)
def tyX4 : Nat → FieldType := fun k => match k with
  | 0 => .object "TermStrategies$State"
  | 1 => .object "TermStrategies$Signs"
  | 2 => .object "TermStrategies$Matching"
  | 3 => .object "TermStrategies$Trail"
  | 4 => .array .int
  | 5 => .array .int
  | 6 => .array .long
  | 7 => .array .int
  | 8 => .array .int
  | 9 => .array .int
  | 10 => .array .int
  | 11 => .int
  | 12 => .int
  | 13 => .int
  | 14 => .int
  | 15 => .int
  | _ => .boolean
theorem nmX4 : ∀ a, a < 17 → ∀ b, b < 17 → a ≠ b → (TX4 a).2.1 ≠ (TX4 b).2.1 := by decide +kernel
theorem tyX4_ok : ∀ k, k < 17 → parseFieldDescriptor (TX4 k).2.2.1 = some (tyX4 k) := by decide +kernel
abbrev cX4_init : ByteArray := prog_6_method_1_code
def yX4_init : MethodName := ⟨RX4, "<init>", "(LTermStrategies$State;LTermStrategies$Matching;)V"⟩
abbrev cX4_forgetCounts : ByteArray := prog_6_method_2_code
def yX4_forgetCounts : MethodName := ⟨RX4, "forgetCounts", "()V"⟩
abbrev cX4_go : ByteArray := prog_6_method_3_code
def yX4_go : MethodName := ⟨RX4, "go", "(II)I"⟩
abbrev cX4_ask : ByteArray := prog_6_method_4_code
def yX4_ask : MethodName := ⟨RX4, "ask", "(IIIIJ)V"⟩
abbrev cX4_countBegun : ByteArray := prog_6_method_5_code
def yX4_countBegun : MethodName := ⟨RX4, "countBegun", "()Z"⟩
abbrev cX4_goOnWith : ByteArray := prog_6_method_6_code
def yX4_goOnWith : MethodName := ⟨RX4, "goOnWith", "(II)V"⟩
abbrev cX4_askWhole : ByteArray := prog_6_method_7_code
def yX4_askWhole : MethodName := ⟨RX4, "askWhole", "(IIII)V"⟩
abbrev cX4_finish : ByteArray := prog_6_method_8_code
def yX4_finish : MethodName := ⟨RX4, "finish", "(II)V"⟩
abbrev cX4_start : ByteArray := prog_6_method_9_code
def yX4_start : MethodName := ⟨RX4, "start", "(I)V"⟩
abbrev cX4_rewritten : ByteArray := prog_6_method_10_code
def yX4_rewritten : MethodName := ⟨RX4, "rewritten", "(IIJ)I"⟩
abbrev cX4_goOnFromWhole : ByteArray := prog_6_method_11_code
def yX4_goOnFromWhole : MethodName := ⟨RX4, "goOnFromWhole", "(I)V"⟩
abbrev cX4_walk : ByteArray := prog_6_method_12_code
def yX4_walk : MethodName := ⟨RX4, "walk", "(I)V"⟩
abbrev cX4_endWalk : ByteArray := prog_6_method_13_code
def yX4_endWalk : MethodName := ⟨RX4, "endWalk", "(II)V"⟩
abbrev cX4_walkerOf : ByteArray := prog_6_method_14_code
def yX4_walkerOf : MethodName := ⟨RX4, "walkerOf", "(I)I"⟩
abbrev cX4_mayPassOver : ByteArray := prog_6_method_15_code
def yX4_mayPassOver : MethodName := ⟨RX4, "mayPassOver", "(I)Z"⟩
abbrev cX4_goOnFromFirst : ByteArray := prog_6_method_16_code
def yX4_goOnFromFirst : MethodName := ⟨RX4, "goOnFromFirst", "(I)V"⟩
abbrev cX4_goOnFromSecond : ByteArray := prog_6_method_17_code
def yX4_goOnFromSecond : MethodName := ⟨RX4, "goOnFromSecond", "(I)V"⟩
abbrev cX4_join : ByteArray := prog_6_method_18_code
def yX4_join : MethodName := ⟨RX4, "join", "(III)V"⟩
abbrev cX4_goOnFromWalk : ByteArray := prog_6_method_19_code
def yX4_goOnFromWalk : MethodName := ⟨RX4, "goOnFromWalk", "(I)V"⟩
def RX5 : String := "TermStrategies$Shelves"
def TX5 : u_T := fun k => match k with
  | 0 => ("TermStrategies$Shelves", "held", "[I", true)
  | 1 => ("TermStrategies$Shelves", "sizes", "[I", true)
  | _ => ("TermStrategies$Shelves", "elements", "[J", true)
def tyX5 : Nat → FieldType := fun k => match k with
  | 0 => .array .int
  | 1 => .array .int
  | _ => .array .long
theorem nmX5 : ∀ a, a < 3 → ∀ b, b < 3 → a ≠ b → (TX5 a).2.1 ≠ (TX5 b).2.1 := by decide +kernel
theorem tyX5_ok : ∀ k, k < 3 → parseFieldDescriptor (TX5 k).2.2.1 = some (tyX5 k) := by decide +kernel
abbrev cX5_init : ByteArray := prog_7_method_1_code
def yX5_init : MethodName := ⟨RX5, "<init>", "()V"⟩
abbrev cX5_isThere : ByteArray := prog_7_method_2_code
def yX5_isThere : MethodName := ⟨RX5, "isThere", "(I)Z"⟩
abbrev cX5_heldBy : ByteArray := prog_7_method_3_code
def yX5_heldBy : MethodName := ⟨RX5, "heldBy", "(I)I"⟩
abbrev cX5_holdsRow : ByteArray := prog_7_method_4_code
def yX5_holdsRow : MethodName := ⟨RX5, "holdsRow", "(I)Z"⟩
abbrev cX5_holdsStrategy : ByteArray := prog_7_method_5_code
def yX5_holdsStrategy : MethodName := ⟨RX5, "holdsStrategy", "(I)Z"⟩
abbrev cX5_rowRefusal : ByteArray := prog_7_method_6_code
def yX5_rowRefusal : MethodName := ⟨RX5, "rowRefusal", "(I)I"⟩
abbrev cX5_sizeOf : ByteArray := prog_7_method_7_code
def yX5_sizeOf : MethodName := ⟨RX5, "sizeOf", "(I)I"⟩
abbrev cX5_lay : ByteArray := prog_7_method_8_code
def yX5_lay : MethodName := ⟨RX5, "lay", "(III)V"⟩
abbrev cX5_elementAt : ByteArray := prog_7_method_10_code
def yX5_elementAt : MethodName := ⟨RX5, "elementAt", "(II)J"⟩
abbrev cX5_intAt : ByteArray := prog_7_method_11_code
def yX5_intAt : MethodName := ⟨RX5, "intAt", "(II)I"⟩
abbrev cX5_change : ByteArray := prog_7_method_12_code
def yX5_change : MethodName := ⟨RX5, "change", "(IIJ)V"⟩
abbrev cX5_lowestBits : ByteArray := prog_7_method_13_code
def yX5_lowestBits : MethodName := ⟨RX5, "lowestBits", "(IJ)J"⟩
abbrev cX5_forgetStrategiesFrom : ByteArray := prog_7_method_15_code
def yX5_forgetStrategiesFrom : MethodName := ⟨RX5, "forgetStrategiesFrom", "(I)V"⟩
def RX6 : String := "TermStrategies$Signs"
def TX6 : u_T := fun k => match k with
  | _ => ("TermStrategies$Signs", "cells", "[I", true)
def tyX6 : Nat → FieldType := fun k => match k with
  | _ => .array .int
theorem nmX6 : ∀ a, a < 1 → ∀ b, b < 1 → a ≠ b → (TX6 a).2.1 ≠ (TX6 b).2.1 := by decide +kernel
theorem tyX6_ok : ∀ k, k < 1 → parseFieldDescriptor (TX6 k).2.2.1 = some (tyX6 k) := by decide +kernel
abbrev cX6_init : ByteArray := prog_8_method_1_code
def yX6_init : MethodName := ⟨RX6, "<init>", "(I)V"⟩
abbrev cX6_at : ByteArray := prog_8_method_2_code
def yX6_at : MethodName := ⟨RX6, "at", "(I)I"⟩
abbrev cX6_write : ByteArray := prog_8_method_3_code
def yX6_write : MethodName := ⟨RX6, "write", "(II)V"⟩
abbrev cX6_end : ByteArray := prog_8_method_4_code
def yX6_end : MethodName := ⟨RX6, "end", "(I)I"⟩
abbrev cX6_sizeAt : ByteArray := prog_8_method_5_code
def yX6_sizeAt : MethodName := ⟨RX6, "sizeAt", "(I)I"⟩
abbrev cX6_alike : ByteArray := prog_8_method_6_code
def yX6_alike : MethodName := ⟨RX6, "alike", "(II)Z"⟩
abbrev cX6_variablesAt : ByteArray := prog_8_method_7_code
def yX6_variablesAt : MethodName := ⟨RX6, "variablesAt", "(I)I"⟩
abbrev cX6_append : ByteArray := prog_8_method_8_code
def yX6_append : MethodName := ⟨RX6, "append", "(II)I"⟩
abbrev cX6_appendCells : ByteArray := prog_8_method_9_code
def yX6_appendCells : MethodName := ⟨RX6, "appendCells", "(III)I"⟩
abbrev cX6_takeFrom : ByteArray := prog_8_method_10_code
def yX6_takeFrom : MethodName := ⟨RX6, "takeFrom", "(LTermStrategies$Signs;I)V"⟩
def RX7 : String := "TermStrategies$State"
def TX7 : u_T := fun k => match k with
  | 0 => ("TermStrategies$State", "signs", "LTermStrategies$Signs;", true)
  | 1 => ("TermStrategies$State", "kinds", "[I", true)
  | 2 => ("TermStrategies$State", "firsts", "[I", true)
  | 3 => ("TermStrategies$State", "seconds", "[I", true)
  | 4 => ("TermStrategies$State", "weights", "[I", true)
  | 5 => ("TermStrategies$State", "terms", "I", false)
  | 6 => ("TermStrategies$State", "rules", "I", false)
  | 7 => ("TermStrategies$State", "strategies", "I", false)
  | 8 => ("TermStrategies$State", "commuting", "I", false)
  | _ => ("TermStrategies$State", "seed", "I", false)
def tyX7 : Nat → FieldType := fun k => match k with
  | 0 => .object "TermStrategies$Signs"
  | 1 => .array .int
  | 2 => .array .int
  | 3 => .array .int
  | 4 => .array .int
  | 5 => .int
  | 6 => .int
  | 7 => .int
  | 8 => .int
  | _ => .int
theorem nmX7 : ∀ a, a < 10 → ∀ b, b < 10 → a ≠ b → (TX7 a).2.1 ≠ (TX7 b).2.1 := by decide +kernel
theorem tyX7_ok : ∀ k, k < 10 → parseFieldDescriptor (TX7 k).2.2.1 = some (tyX7 k) := by decide +kernel
abbrev cX7_init : ByteArray := prog_9_method_1_code
def yX7_init : MethodName := ⟨RX7, "<init>", "(I)V"⟩
abbrev cX7_hasTerm : ByteArray := prog_9_method_2_code
def yX7_hasTerm : MethodName := ⟨RX7, "hasTerm", "(I)Z"⟩
abbrev cX7_hasRule : ByteArray := prog_9_method_3_code
def yX7_hasRule : MethodName := ⟨RX7, "hasRule", "(I)Z"⟩
abbrev cX7_hasStrategy : ByteArray := prog_9_method_4_code
def yX7_hasStrategy : MethodName := ⟨RX7, "hasStrategy", "(I)Z"⟩
abbrev cX7_addTerm : ByteArray := prog_9_method_5_code
def yX7_addTerm : MethodName := ⟨RX7, "addTerm", "(I)I"⟩
abbrev cX7_addRule : ByteArray := prog_9_method_6_code
def yX7_addRule : MethodName := ⟨RX7, "addRule", "(II)I"⟩
abbrev cX7_addStrategy : ByteArray := prog_9_method_7_code
def yX7_addStrategy : MethodName := ⟨RX7, "addStrategy", "(III)I"⟩
abbrev cX7_writeStrategy : ByteArray := prog_9_method_8_code
def yX7_writeStrategy : MethodName := ⟨RX7, "writeStrategy", "(IIII)V"⟩
abbrev cX7_buildInnermost : ByteArray := prog_9_method_9_code
def yX7_buildInnermost : MethodName := ⟨RX7, "buildInnermost", "()I"⟩
abbrev cX7_kindOf : ByteArray := prog_9_method_10_code
def yX7_kindOf : MethodName := ⟨RX7, "kindOf", "(I)I"⟩
abbrev cX7_firstOf : ByteArray := prog_9_method_11_code
def yX7_firstOf : MethodName := ⟨RX7, "firstOf", "(I)I"⟩
abbrev cX7_secondOf : ByteArray := prog_9_method_12_code
def yX7_secondOf : MethodName := ⟨RX7, "secondOf", "(I)I"⟩
abbrev cX7_weightOf : ByteArray := prog_9_method_13_code
def yX7_weightOf : MethodName := ⟨RX7, "weightOf", "(I)I"⟩
abbrev cX7_draw : ByteArray := prog_9_method_14_code
def yX7_draw : MethodName := ⟨RX7, "draw", "(I)I"⟩
abbrev cX7_takeFrom : ByteArray := prog_9_method_15_code
def yX7_takeFrom : MethodName := ⟨RX7, "takeFrom", "(LTermStrategies$State;)V"⟩
def RX8 : String := "TermStrategies$Trail"
def TX8 : u_T := fun k => match k with
  | 0 => ("TermStrategies$Trail", "rules", "[I", true)
  | 1 => ("TermStrategies$Trail", "paths", "[J", true)
  | _ => ("TermStrategies$Trail", "size", "I", false)
def tyX8 : Nat → FieldType := fun k => match k with
  | 0 => .array .int
  | 1 => .array .long
  | _ => .int
theorem nmX8 : ∀ a, a < 3 → ∀ b, b < 3 → a ≠ b → (TX8 a).2.1 ≠ (TX8 b).2.1 := by decide +kernel
theorem tyX8_ok : ∀ k, k < 3 → parseFieldDescriptor (TX8 k).2.2.1 = some (tyX8 k) := by decide +kernel
abbrev cX8_init : ByteArray := prog_10_method_1_code
def yX8_init : MethodName := ⟨RX8, "<init>", "()V"⟩
abbrev cX8_add : ByteArray := prog_10_method_2_code
def yX8_add : MethodName := ⟨RX8, "add", "(IJ)V"⟩
abbrev cX8_cut : ByteArray := prog_10_method_3_code
def yX8_cut : MethodName := ⟨RX8, "cut", "(I)V"⟩
abbrev cX8_ruleAt : ByteArray := prog_10_method_4_code
def yX8_ruleAt : MethodName := ⟨RX8, "ruleAt", "(I)I"⟩
abbrev cX8_pathAt : ByteArray := prog_10_method_5_code
def yX8_pathAt : MethodName := ⟨RX8, "pathAt", "(I)J"⟩
abbrev cX8_takeFrom : ByteArray := prog_10_method_6_code
def yX8_takeFrom : MethodName := ⟨RX8, "takeFrom", "(LTermStrategies$Trail;)V"⟩
def RX9 : String := "TermStrategies$Unifier"
def TX9 : u_T := fun k => match k with
  | 0 => ("TermStrategies$Unifier", "signs", "LTermStrategies$Signs;", true)
  | 1 => ("TermStrategies$Unifier", "text", "[I", true)
  | 2 => ("TermStrategies$Unifier", "seconds", "[I", true)
  | 3 => ("TermStrategies$Unifier", "parents", "[I", true)
  | 4 => ("TermStrategies$Unifier", "shapes", "[I", true)
  | 5 => ("TermStrategies$Unifier", "settled", "[I", true)
  | 6 => ("TermStrategies$Unifier", "names", "[I", true)
  | 7 => ("TermStrategies$Unifier", "todo", "[I", true)
  | 8 => ("TermStrategies$Unifier", "waiting", "I", false)
  | 9 => ("TermStrategies$Unifier", "named", "I", false)
  | 10 => ("TermStrategies$Unifier", "out", "I", false)
  | 11 => ("TermStrategies$Unifier", "written", "I", false)
  | _ => ("TermStrategies$Unifier", "over", "Z", false)
def tyX9 : Nat → FieldType := fun k => match k with
  | 0 => .object "TermStrategies$Signs"
  | 1 => .array .int
  | 2 => .array .int
  | 3 => .array .int
  | 4 => .array .int
  | 5 => .array .int
  | 6 => .array .int
  | 7 => .array .int
  | 8 => .int
  | 9 => .int
  | 10 => .int
  | 11 => .int
  | _ => .boolean
theorem nmX9 : ∀ a, a < 13 → ∀ b, b < 13 → a ≠ b → (TX9 a).2.1 ≠ (TX9 b).2.1 := by decide +kernel
theorem tyX9_ok : ∀ k, k < 13 → parseFieldDescriptor (TX9 k).2.2.1 = some (tyX9 k) := by decide +kernel
abbrev cX9_init : ByteArray := prog_11_method_1_code
def yX9_init : MethodName := ⟨RX9, "<init>", "(LTermStrategies$Signs;)V"⟩
abbrev cX9_unifies : ByteArray := prog_11_method_2_code
def yX9_unifies : MethodName := ⟨RX9, "unifies", "(III)Z"⟩
abbrev cX9_clear : ByteArray := prog_11_method_3_code
def yX9_clear : MethodName := ⟨RX9, "clear", "()V"⟩
abbrev cX9_load : ByteArray := prog_11_method_4_code
def yX9_load : MethodName := ⟨RX9, "load", "(II)V"⟩
abbrev cX9_putOff : ByteArray := prog_11_method_5_code
def yX9_putOff : MethodName := ⟨RX9, "putOff", "(II)V"⟩
abbrev cX9_joins : ByteArray := prog_11_method_6_code
def yX9_joins : MethodName := ⟨RX9, "joins", "(II)Z"⟩
abbrev cX9_idOf : ByteArray := prog_11_method_7_code
def yX9_idOf : MethodName := ⟨RX9, "idOf", "(I)I"⟩
abbrev cX9_root : ByteArray := prog_11_method_8_code
def yX9_root : MethodName := ⟨RX9, "root", "(I)I"⟩
abbrev cX9_isWithoutCircle : ByteArray := prog_11_method_9_code
def yX9_isWithoutCircle : MethodName := ⟨RX9, "isWithoutCircle", "()Z"⟩
abbrev cX9_settles : ByteArray := prog_11_method_10_code
def yX9_settles : MethodName := ⟨RX9, "settles", "(I)Z"⟩
abbrev cX9_writeTo : ByteArray := prog_11_method_11_code
def yX9_writeTo : MethodName := ⟨RX9, "writeTo", "(I)V"⟩
abbrev cX9_write : ByteArray := prog_11_method_12_code
def yX9_write : MethodName := ⟨RX9, "write", "(III)V"⟩
abbrev cX9_writeSign : ByteArray := prog_11_method_13_code
def yX9_writeSign : MethodName := ⟨RX9, "writeSign", "(I)V"⟩
abbrev cX9_writeClass : ByteArray := prog_11_method_14_code
def yX9_writeClass : MethodName := ⟨RX9, "writeClass", "(I)V"⟩
abbrev cX9_nameOf : ByteArray := prog_11_method_15_code
def yX9_nameOf : MethodName := ⟨RX9, "nameOf", "(I)I"⟩
def RX10 : String := "TermStrategies"
def TX10 : u_T := fun k => match k with
  | 0 => ("TermStrategies", "state", "LTermStrategies$State;", true)
  | 1 => ("TermStrategies", "taken", "LTermStrategies$State;", true)
  | 2 => ("TermStrategies", "signs", "LTermStrategies$Signs;", true)
  | 3 => ("TermStrategies", "shelves", "LTermStrategies$Shelves;", true)
  | 4 => ("TermStrategies", "reader", "LTermStrategies$Reader;", true)
  | 5 => ("TermStrategies", "layout", "LTermStrategies$Layout;", true)
  | 6 => ("TermStrategies", "exchange", "LTermStrategies$Exchange;", true)
  | 7 => ("TermStrategies", "matching", "LTermStrategies$Matching;", true)
  | 8 => ("TermStrategies", "runner", "LTermStrategies$Runner;", true)
  | 9 => ("TermStrategies", "unifier", "LTermStrategies$Unifier;", true)
  | 10 => ("TermStrategies", "trail", "LTermStrategies$Trail;", true)
  | 11 => ("TermStrategies", "refusals", "[I", true)
  | 12 => ("TermStrategies", "hasImage", "Z", false)
  | _ => ("TermStrategies", "latestFault", "I", false)
def tyX10 : Nat → FieldType := fun k => match k with
  | 0 => .object "TermStrategies$State"
  | 1 => .object "TermStrategies$State"
  | 2 => .object "TermStrategies$Signs"
  | 3 => .object "TermStrategies$Shelves"
  | 4 => .object "TermStrategies$Reader"
  | 5 => .object "TermStrategies$Layout"
  | 6 => .object "TermStrategies$Exchange"
  | 7 => .object "TermStrategies$Matching"
  | 8 => .object "TermStrategies$Runner"
  | 9 => .object "TermStrategies$Unifier"
  | 10 => .object "TermStrategies$Trail"
  | 11 => .array .int
  | 12 => .boolean
  | _ => .int
theorem nmX10 : ∀ a, a < 14 → ∀ b, b < 14 → a ≠ b → (TX10 a).2.1 ≠ (TX10 b).2.1 := by decide +kernel
theorem tyX10_ok : ∀ k, k < 14 → parseFieldDescriptor (TX10 k).2.2.1 = some (tyX10 k) := by decide +kernel
abbrev cX10_init : ByteArray := prog_1_method_1_code
def yX10_init : MethodName := ⟨RX10, "<init>", "()V"⟩
abbrev cX10_row : ByteArray := prog_1_method_2_code
def yX10_row : MethodName := ⟨RX10, "row", "(III)I"⟩
abbrev cX10_set : ByteArray := prog_1_method_3_code
def yX10_set : MethodName := ⟨RX10, "set", "(IIJ)I"⟩
abbrev cX10_term : ByteArray := prog_1_method_11_code
def yX10_term : MethodName := ⟨RX10, "term", "(I)I"⟩
abbrev cX10_fault : ByteArray := prog_1_method_12_code
def yX10_fault : MethodName := ⟨RX10, "fault", "()I"⟩
abbrev cX10_drop : ByteArray := prog_1_method_13_code
def yX10_drop : MethodName := ⟨RX10, "drop", "()I"⟩
abbrev cX10_commute : ByteArray := prog_1_method_14_code
def yX10_commute : MethodName := ⟨RX10, "commute", "(IZ)I"⟩
abbrev cX10_node : ByteArray := prog_1_method_15_code
def yX10_node : MethodName := ⟨RX10, "node", "(II)I"⟩
abbrev cX10_termOf : ByteArray := prog_1_method_16_code
def yX10_termOf : MethodName := ⟨RX10, "termOf", "(II)I"⟩
abbrev cX10_path : ByteArray := prog_1_method_17_code
def yX10_path : MethodName := ⟨RX10, "path", "(II)J"⟩
abbrev cX10_same : ByteArray := prog_1_method_18_code
def yX10_same : MethodName := ⟨RX10, "same", "(II)I"⟩
abbrev cX10_rule : ByteArray := prog_1_method_19_code
def yX10_rule : MethodName := ⟨RX10, "rule", "(II)I"⟩
abbrev cX10_bound : ByteArray := prog_1_method_21_code
def yX10_bound : MethodName := ⟨RX10, "bound", "(IIII)I"⟩
abbrev cX10_fits : ByteArray := prog_1_method_22_code
def yX10_fits : MethodName := ⟨RX10, "fits", "(III)I"⟩
abbrev cX10_countFits : ByteArray := prog_1_method_23_code
def yX10_countFits : MethodName := ⟨RX10, "countFits", "(II)I"⟩
abbrev cX10_fittingNode : ByteArray := prog_1_method_24_code
def yX10_fittingNode : MethodName := ⟨RX10, "fittingNode", "(III)I"⟩
abbrev cX10_redexes : ByteArray := prog_1_method_25_code
def yX10_redexes : MethodName := ⟨RX10, "redexes", "(I)J"⟩
abbrev cX10_redexesAt : ByteArray := prog_1_method_26_code
def yX10_redexesAt : MethodName := ⟨RX10, "redexesAt", "(I)J"⟩
abbrev cX10_someRuleFits : ByteArray := prog_1_method_27_code
def yX10_someRuleFits : MethodName := ⟨RX10, "someRuleFits", "(I)Z"⟩
abbrev cX10_rewrite : ByteArray := prog_1_method_28_code
def yX10_rewrite : MethodName := ⟨RX10, "rewrite", "(III)I"⟩
abbrev cX10_rewriteToWork : ByteArray := prog_1_method_29_code
def yX10_rewriteToWork : MethodName := ⟨RX10, "rewriteToWork", "(III)I"⟩
abbrev cX10_strategy : ByteArray := prog_1_method_30_code
def yX10_strategy : MethodName := ⟨RX10, "strategy", "(III)I"⟩
abbrev cX10_isStrategyOver : ByteArray := prog_1_method_31_code
def yX10_isStrategyOver : MethodName := ⟨RX10, "isStrategyOver", "(III)Z"⟩
abbrev cX10_strategyOf : ByteArray := prog_1_method_32_code
def yX10_strategyOf : MethodName := ⟨RX10, "strategyOf", "(II)I"⟩
abbrev cX10_run : ByteArray := prog_1_method_33_code
def yX10_run : MethodName := ⟨RX10, "run", "(II)I"⟩
abbrev cX10_trial : ByteArray := prog_1_method_34_code
def yX10_trial : MethodName := ⟨RX10, "trial", "(III)I"⟩
abbrev cX10_trace : ByteArray := prog_1_method_35_code
def yX10_trace : MethodName := ⟨RX10, "trace", "(I)I"⟩
abbrev cX10_tracePath : ByteArray := prog_1_method_36_code
def yX10_tracePath : MethodName := ⟨RX10, "tracePath", "(I)J"⟩
abbrev cX10_replay : ByteArray := prog_1_method_37_code
def yX10_replay : MethodName := ⟨RX10, "replay", "(II)I"⟩
abbrev cX10_rewriteInHand : ByteArray := prog_1_method_38_code
def yX10_rewriteInHand : MethodName := ⟨RX10, "rewriteInHand", "(IJ)I"⟩
abbrev cX10_unify : ByteArray := prog_1_method_39_code
def yX10_unify : MethodName := ⟨RX10, "unify", "(II)I"⟩
abbrev cX10_hasTooManyVariables : ByteArray := prog_1_method_40_code
def yX10_hasTooManyVariables : MethodName := ⟨RX10, "hasTooManyVariables", "(I)Z"⟩
abbrev cX10_overlaps : ByteArray := prog_1_method_41_code
def yX10_overlaps : MethodName := ⟨RX10, "overlaps", "(II)I"⟩
abbrev cX10_overlap : ByteArray := prog_1_method_42_code
def yX10_overlap : MethodName := ⟨RX10, "overlap", "(IIII)I"⟩
abbrev cX10_meets : ByteArray := prog_1_method_43_code
def yX10_meets : MethodName := ⟨RX10, "meets", "(III)I"⟩
abbrev cX10_seekOverlap : ByteArray := prog_1_method_44_code
def yX10_seekOverlap : MethodName := ⟨RX10, "seekOverlap", "(III)I"⟩
abbrev cX10_layOverlap : ByteArray := prog_1_method_45_code
def yX10_layOverlap : MethodName := ⟨RX10, "layOverlap", "(III)Z"⟩
abbrev cX10_days : ByteArray := prog_1_method_48_code
def yX10_days : MethodName := ⟨RX10, "days", "(I)I"⟩
abbrev cX10_rewriteAtLeast : ByteArray := prog_1_method_49_code
def yX10_rewriteAtLeast : MethodName := ⟨RX10, "rewriteAtLeast", "(II)Z"⟩
abbrev cX10_seed : ByteArray := prog_1_method_50_code
def yX10_seed : MethodName := ⟨RX10, "seed", "(I)I"⟩
abbrev cX10_image : ByteArray := prog_1_method_51_code
def yX10_image : MethodName := ⟨RX10, "image", "()I"⟩
abbrev cX10_restore : ByteArray := prog_1_method_52_code
def yX10_restore : MethodName := ⟨RX10, "restore", "()I"⟩
abbrev cX10_status : ByteArray := prog_1_method_53_code
def yX10_status : MethodName := ⟨RX10, "status", "(I)I"⟩
abbrev cX10_nodesOfAll : ByteArray := prog_1_method_54_code
def yX10_nodesOfAll : MethodName := ⟨RX10, "nodesOfAll", "()I"⟩
abbrev cX10_refuse : ByteArray := prog_1_method_55_code
def yX10_refuse : MethodName := ⟨RX10, "refuse", "(I)I"⟩
abbrev cX10_newTerm : ByteArray := prog_1_method_56_code
def yX10_newTerm : MethodName := ⟨RX10, "newTerm", "(I)I"⟩
abbrev cX10_hasNode : ByteArray := prog_1_method_57_code
def yX10_hasNode : MethodName := ⟨RX10, "hasNode", "(II)Z"⟩
abbrev cX10_termPlace : ByteArray := prog_1_method_58_code
def yX10_termPlace : MethodName := ⟨RX10, "termPlace", "(I)I"⟩
abbrev cX10_leftPlace : ByteArray := prog_1_method_59_code
def yX10_leftPlace : MethodName := ⟨RX10, "leftPlace", "(I)I"⟩
abbrev cX10_rightPlace : ByteArray := prog_1_method_60_code
def yX10_rightPlace : MethodName := ⟨RX10, "rightPlace", "(I)I"⟩
abbrev cX10_isVariable : ByteArray := prog_1_method_61_code
def yX10_isVariable : MethodName := ⟨RX10, "isVariable", "(I)Z"⟩
abbrev cX10_arity : ByteArray := prog_1_method_62_code
def yX10_arity : MethodName := ⟨RX10, "arity", "(I)I"⟩
abbrev cX10_isOverTwo : ByteArray := prog_1_method_63_code
def yX10_isOverTwo : MethodName := ⟨RX10, "isOverTwo", "(I)Z"⟩
abbrev cX10_get : ByteArray := prog_1_method_64_code
def yX10_get : MethodName := ⟨RX10, "get", "([II)I"⟩
abbrev cX10_put : ByteArray := prog_1_method_65_code
def yX10_put : MethodName := ⟨RX10, "put", "([III)V"⟩
abbrev cX10_getLong : ByteArray := prog_1_method_66_code
def yX10_getLong : MethodName := ⟨RX10, "getLong", "([JI)J"⟩
abbrev cX10_putLong : ByteArray := prog_1_method_67_code
def yX10_putLong : MethodName := ⟨RX10, "putLong", "([JIJ)V"⟩
def RX11 : String := "TermStrategiesModel"
def TX11 : u_T := fun k => match k with
  | _ => ("", "", "", false)
def tyX11 : Nat → FieldType := fun k => match k with
  | _ => .int
theorem nmX11 : ∀ a, a < 0 → ∀ b, b < 0 → a ≠ b → (TX11 a).2.1 ≠ (TX11 b).2.1 := by decide +kernel
theorem tyX11_ok : ∀ k, k < 0 → parseFieldDescriptor (TX11 k).2.2.1 = some (tyX11 k) := by decide +kernel
def RJx145de : String := "java/io/Serializable"
def TJx145de : u_T := fun k => match k with
  | _ => ("", "", "", false)
def tyJx145de : Nat → FieldType := fun k => match k with
  | _ => .int
theorem nmJx145de : ∀ a, a < 0 → ∀ b, b < 0 → a ≠ b → (TJx145de a).2.1 ≠ (TJx145de b).2.1 := by decide +kernel
theorem tyJx145de_ok : ∀ k, k < 0 → parseFieldDescriptor (TJx145de k).2.2.1 = some (tyJx145de k) := by decide +kernel
def RJ5 : String := "java/lang/AbstractStringBuilder"
def TJ5 : u_T := fun k => match k with
  | _ => ("", "", "", false)
def tyJ5 : Nat → FieldType := fun k => match k with
  | _ => .int
theorem nmJ5 : ∀ a, a < 0 → ∀ b, b < 0 → a ≠ b → (TJ5 a).2.1 ≠ (TJ5 b).2.1 := by decide +kernel
theorem tyJ5_ok : ∀ k, k < 0 → parseFieldDescriptor (TJ5 k).2.2.1 = some (tyJ5 k) := by decide +kernel
abbrev cJ5_init_d00df : ByteArray := prog_14_method_2_code
def yJ5_init_d00df : MethodName := ⟨RJ5, "<init>", "(I)V"⟩
abbrev cJ5_length_8abf5 : ByteArray := prog_14_method_6_code
def yJ5_length_8abf5 : MethodName := ⟨RJ5, "length", "()I"⟩
abbrev cJ5_ensureCapacityInternal_d00df : ByteArray := prog_14_method_9_code
def yJ5_ensureCapacityInternal_d00df : MethodName := ⟨RJ5, "ensureCapacityInternal", "(I)V"⟩
abbrev cJ5_newCapacity_0f7a4 : ByteArray := prog_14_method_10_code
def yJ5_newCapacity_0f7a4 : MethodName := ⟨RJ5, "newCapacity", "(I)I"⟩
abbrev cJ5_inflate_da8c8 : ByteArray := prog_14_method_11_code
def yJ5_inflate_da8c8 : MethodName := ⟨RJ5, "inflate", "()V"⟩
abbrev cJ5_append_cf1ce : ByteArray := prog_14_method_22_code
def yJ5_append_cf1ce : MethodName := ⟨RJ5, "append", "(Ljava/lang/String;)Ljava/lang/AbstractStringBuilder;"⟩
abbrev cJ5_appendNull_278bc : ByteArray := prog_14_method_26_code
def yJ5_appendNull_278bc : MethodName := ⟨RJ5, "appendNull", "()Ljava/lang/AbstractStringBuilder;"⟩
abbrev cJ5_append_3fe6f : ByteArray := prog_14_method_31_code
def yJ5_append_3fe6f : MethodName := ⟨RJ5, "append", "(C)Ljava/lang/AbstractStringBuilder;"⟩
abbrev cJ5_getValue_6d5f1 : ByteArray := prog_14_method_64_code
def yJ5_getValue_6d5f1 : MethodName := ⟨RJ5, "getValue", "()[B"⟩
abbrev cJ5_isLatin1_aae02 : ByteArray := prog_14_method_68_code
def yJ5_isLatin1_aae02 : MethodName := ⟨RJ5, "isLatin1", "()Z"⟩
abbrev cJ5_inflateIfNeededFor_a7421 : ByteArray := prog_14_method_71_code
def yJ5_inflateIfNeededFor_a7421 : MethodName := ⟨RJ5, "inflateIfNeededFor", "(Ljava/lang/String;)V"⟩
abbrev cJ5_putStringAt_47b60 : ByteArray := prog_14_method_73_code
def yJ5_putStringAt_47b60 : MethodName := ⟨RJ5, "putStringAt", "(ILjava/lang/String;)V"⟩
def RJx2cfe8 : String := "java/lang/Appendable"
def TJx2cfe8 : u_T := fun k => match k with
  | _ => ("", "", "", false)
def tyJx2cfe8 : Nat → FieldType := fun k => match k with
  | _ => .int
theorem nmJx2cfe8 : ∀ a, a < 0 → ∀ b, b < 0 → a ≠ b → (TJx2cfe8 a).2.1 ≠ (TJx2cfe8 b).2.1 := by decide +kernel
theorem tyJx2cfe8_ok : ∀ k, k < 0 → parseFieldDescriptor (TJx2cfe8 k).2.2.1 = some (tyJx2cfe8 k) := by decide +kernel
def RJx9f9b0 : String := "java/lang/CharSequence"
def TJx9f9b0 : u_T := fun k => match k with
  | _ => ("", "", "", false)
def tyJx9f9b0 : Nat → FieldType := fun k => match k with
  | _ => .int
theorem nmJx9f9b0 : ∀ a, a < 0 → ∀ b, b < 0 → a ≠ b → (TJx9f9b0 a).2.1 ≠ (TJx9f9b0 b).2.1 := by decide +kernel
theorem tyJx9f9b0_ok : ∀ k, k < 0 → parseFieldDescriptor (TJx9f9b0 k).2.2.1 = some (tyJx9f9b0 k) := by decide +kernel
def RJ11 : String := "java/lang/Character"
def TJ11 : u_T := fun k => match k with
  | _ => ("", "", "", false)
def tyJ11 : Nat → FieldType := fun k => match k with
  | _ => .int
theorem nmJ11 : ∀ a, a < 0 → ∀ b, b < 0 → a ≠ b → (TJ11 a).2.1 ≠ (TJ11 b).2.1 := by decide +kernel
theorem tyJ11_ok : ∀ k, k < 0 → parseFieldDescriptor (TJ11 k).2.2.1 = some (tyJ11 k) := by decide +kernel
abbrev cJ11_isValidCodePoint_9a6ad : ByteArray := prog_15_method_11_code
def yJ11_isValidCodePoint_9a6ad : MethodName := ⟨RJ11, "isValidCodePoint", "(I)Z"⟩
abbrev cJ11_highSurrogate_5068e : ByteArray := prog_15_method_28_code
def yJ11_highSurrogate_5068e : MethodName := ⟨RJ11, "highSurrogate", "(I)C"⟩
abbrev cJ11_lowSurrogate_5068e : ByteArray := prog_15_method_29_code
def yJ11_lowSurrogate_5068e : MethodName := ⟨RJ11, "lowSurrogate", "(I)C"⟩
def RJx8e188 : String := "java/lang/Cloneable"
def TJx8e188 : u_T := fun k => match k with
  | _ => ("", "", "", false)
def tyJx8e188 : Nat → FieldType := fun k => match k with
  | _ => .int
theorem nmJx8e188 : ∀ a, a < 0 → ∀ b, b < 0 → a ≠ b → (TJx8e188 a).2.1 ≠ (TJx8e188 b).2.1 := by decide +kernel
theorem tyJx8e188_ok : ∀ k, k < 0 → parseFieldDescriptor (TJx8e188 k).2.2.1 = some (tyJx8e188 k) := by decide +kernel
def RJxb160c : String := "java/lang/Comparable"
def TJxb160c : u_T := fun k => match k with
  | _ => ("", "", "", false)
def tyJxb160c : Nat → FieldType := fun k => match k with
  | _ => .int
theorem nmJxb160c : ∀ a, a < 0 → ∀ b, b < 0 → a ≠ b → (TJxb160c a).2.1 ≠ (TJxb160c b).2.1 := by decide +kernel
theorem tyJxb160c_ok : ∀ k, k < 0 → parseFieldDescriptor (TJxb160c k).2.2.1 = some (tyJxb160c k) := by decide +kernel
def RJ6 : String := "java/lang/Integer"
def TJ6 : u_T := fun k => match k with
  | _ => ("", "", "", false)
def tyJ6 : Nat → FieldType := fun k => match k with
  | _ => .int
theorem nmJ6 : ∀ a, a < 0 → ∀ b, b < 0 → a ≠ b → (TJ6 a).2.1 ≠ (TJ6 b).2.1 := by decide +kernel
theorem tyJ6_ok : ∀ k, k < 0 → parseFieldDescriptor (TJ6 k).2.2.1 = some (tyJ6 k) := by decide +kernel
abbrev cJ6_bitCount_0f7a4 : ByteArray := prog_17_method_49_code
def yJ6_bitCount_0f7a4 : MethodName := ⟨RJ6, "bitCount", "(I)I"⟩
def RJ9 : String := "java/lang/Math"
def TJ9 : u_T := fun k => match k with
  | _ => ("", "", "", false)
def tyJ9 : Nat → FieldType := fun k => match k with
  | _ => .int
theorem nmJ9 : ∀ a, a < 0 → ∀ b, b < 0 → a ≠ b → (TJ9 a).2.1 ≠ (TJ9 b).2.1 := by decide +kernel
theorem tyJ9_ok : ∀ k, k < 0 → parseFieldDescriptor (TJ9 k).2.2.1 = some (tyJ9 k) := by decide +kernel
abbrev cJ9_max_7cf53 : ByteArray := prog_18_method_65_code
def yJ9_max_7cf53 : MethodName := ⟨RJ9, "max", "(II)I"⟩
abbrev cJ9_min_7cf53 : ByteArray := prog_18_method_69_code
def yJ9_min_7cf53 : MethodName := ⟨RJ9, "min", "(II)I"⟩
def RJ0 : String := "java/lang/String"
def TJ0 : u_T := fun k => match k with
  | 0 => ("java/lang/String", "value", "[B", true)
  | 1 => ("java/lang/String", "coder", "B", true)
  | 2 => ("java/lang/String", "hash", "I", false)
  | _ => ("java/lang/String", "hashIsZero", "Z", false)
def tyJ0 : Nat → FieldType := fun k => match k with
  | 0 => .array .byte
  | 1 => .byte
  | 2 => .int
  | _ => .boolean
theorem nmJ0 : ∀ a, a < 4 → ∀ b, b < 4 → a ≠ b → (TJ0 a).2.1 ≠ (TJ0 b).2.1 := by decide +kernel
theorem tyJ0_ok : ∀ k, k < 4 → parseFieldDescriptor (TJ0 k).2.2.1 = some (tyJ0 k) := by decide +kernel
abbrev cJ0_init_81219 : ByteArray := prog_19_method_53_code
def yJ0_init_81219 : MethodName := ⟨RJ0, "<init>", "(Ljava/lang/StringBuilder;)V"⟩
abbrev cJ0_length_8abf5 : ByteArray := prog_19_method_54_code
def yJ0_length_8abf5 : MethodName := ⟨RJ0, "length", "()I"⟩
abbrev cJ0_charAt_5068e : ByteArray := prog_19_method_56_code
def yJ0_charAt_5068e : MethodName := ⟨RJ0, "charAt", "(I)C"⟩
abbrev cJ0_equals_9ea2d : ByteArray := prog_19_method_66_code
def yJ0_equals_9ea2d : MethodName := ⟨RJ0, "equals", "(Ljava/lang/Object;)Z"⟩
abbrev cJ0_indexOf_0f7a4 : ByteArray := prog_19_method_79_code
def yJ0_indexOf_0f7a4 : MethodName := ⟨RJ0, "indexOf", "(I)I"⟩
abbrev cJ0_indexOf_7cf53 : ByteArray := prog_19_method_80_code
def yJ0_indexOf_7cf53 : MethodName := ⟨RJ0, "indexOf", "(II)I"⟩
abbrev cJ0_substring_b52d3 : ByteArray := prog_19_method_91_code
def yJ0_substring_b52d3 : MethodName := ⟨RJ0, "substring", "(I)Ljava/lang/String;"⟩
abbrev cJ0_substring_37a41 : ByteArray := prog_19_method_92_code
def yJ0_substring_37a41 : MethodName := ⟨RJ0, "substring", "(II)Ljava/lang/String;"⟩
abbrev cJ0_getBytes_840e7 : ByteArray := prog_19_method_147_code
def yJ0_getBytes_840e7 : MethodName := ⟨RJ0, "getBytes", "([BIB)V"⟩
abbrev cJ0_init_db425 : ByteArray := prog_19_method_150_code
def yJ0_init_db425 : MethodName := ⟨RJ0, "<init>", "(Ljava/lang/AbstractStringBuilder;Ljava/lang/Void;)V"⟩
abbrev cJ0_init_031fb : ByteArray := prog_19_method_151_code
def yJ0_init_031fb : MethodName := ⟨RJ0, "<init>", "([BB)V"⟩
abbrev cJ0_coder_7d493 : ByteArray := prog_19_method_152_code
def yJ0_coder_7d493 : MethodName := ⟨RJ0, "coder", "()B"⟩
abbrev cJ0_isLatin1_aae02 : ByteArray := prog_19_method_154_code
def yJ0_isLatin1_aae02 : MethodName := ⟨RJ0, "isLatin1", "()Z"⟩
abbrev cJ0_checkIndex_df160 : ByteArray := prog_19_method_155_code
def yJ0_checkIndex_df160 : MethodName := ⟨RJ0, "checkIndex", "(II)V"⟩
abbrev cJ0_checkBoundsOffCount_cabcc : ByteArray := prog_19_method_157_code
def yJ0_checkBoundsOffCount_cabcc : MethodName := ⟨RJ0, "checkBoundsOffCount", "(III)I"⟩
abbrev cJ0_checkBoundsBeginEnd_23922 : ByteArray := prog_19_method_158_code
def yJ0_checkBoundsBeginEnd_23922 : MethodName := ⟨RJ0, "checkBoundsBeginEnd", "(III)V"⟩
def RJ4 : String := "java/lang/StringBuilder"
def TJ4 : u_T := fun k => match k with
  | 0 => ("java/lang/AbstractStringBuilder", "value", "[B", false)
  | 1 => ("java/lang/AbstractStringBuilder", "coder", "B", false)
  | 2 => ("java/lang/AbstractStringBuilder", "maybeLatin1", "Z", false)
  | _ => ("java/lang/AbstractStringBuilder", "count", "I", false)
def tyJ4 : Nat → FieldType := fun k => match k with
  | 0 => .array .byte
  | 1 => .byte
  | 2 => .boolean
  | _ => .int
theorem nmJ4 : ∀ a, a < 4 → ∀ b, b < 4 → a ≠ b → (TJ4 a).2.1 ≠ (TJ4 b).2.1 := by decide +kernel
theorem tyJ4_ok : ∀ k, k < 4 → parseFieldDescriptor (TJ4 k).2.2.1 = some (tyJ4 k) := by decide +kernel
abbrev cJ4_init_da8c8 : ByteArray := prog_20_method_1_code
def yJ4_init_da8c8 : MethodName := ⟨RJ4, "<init>", "()V"⟩
abbrev cJ4_append_15ec4 : ByteArray := prog_20_method_7_code
def yJ4_append_15ec4 : MethodName := ⟨RJ4, "append", "(Ljava/lang/String;)Ljava/lang/StringBuilder;"⟩
abbrev cJ4_append_cf468 : ByteArray := prog_20_method_14_code
def yJ4_append_cf468 : MethodName := ⟨RJ4, "append", "(C)Ljava/lang/StringBuilder;"⟩
abbrev cJ4_toString_0e30d : ByteArray := prog_20_method_42_code
def yJ4_toString_0e30d : MethodName := ⟨RJ4, "toString", "()Ljava/lang/String;"⟩
abbrev cJ4_length_8abf5 : ByteArray := prog_20_method_93_code
def yJ4_length_8abf5 : MethodName := ⟨RJ4, "length", "()I"⟩
def RJ1 : String := "java/lang/StringLatin1"
def TJ1 : u_T := fun k => match k with
  | _ => ("", "", "", false)
def tyJ1 : Nat → FieldType := fun k => match k with
  | _ => .int
theorem nmJ1 : ∀ a, a < 0 → ∀ b, b < 0 → a ≠ b → (TJ1 a).2.1 ≠ (TJ1 b).2.1 := by decide +kernel
theorem tyJ1_ok : ∀ k, k < 0 → parseFieldDescriptor (TJ1 k).2.2.1 = some (tyJ1 k) := by decide +kernel
abbrev cJ1_charAt_3b067 : ByteArray := prog_21_method_2_code
def yJ1_charAt_3b067 : MethodName := ⟨RJ1, "charAt", "([BI)C"⟩
abbrev cJ1_canEncode_fc78d : ByteArray := prog_21_method_3_code
def yJ1_canEncode_fc78d : MethodName := ⟨RJ1, "canEncode", "(C)Z"⟩
abbrev cJ1_canEncode_9a6ad : ByteArray := prog_21_method_4_code
def yJ1_canEncode_9a6ad : MethodName := ⟨RJ1, "canEncode", "(I)Z"⟩
abbrev cJ1_equals_b5fdf : ByteArray := prog_21_method_13_code
def yJ1_equals_b5fdf : MethodName := ⟨RJ1, "equals", "([B[B)Z"⟩
abbrev cJ1_indexOf_4cfef : ByteArray := prog_21_method_22_code
def yJ1_indexOf_4cfef : MethodName := ⟨RJ1, "indexOf", "([BIII)I"⟩
abbrev cJ1_indexOfChar_4cfef : ByteArray := prog_21_method_23_code
def yJ1_indexOfChar_4cfef : MethodName := ⟨RJ1, "indexOfChar", "([BIII)I"⟩
abbrev cJ1_newString_b4f7a : ByteArray := prog_21_method_47_code
def yJ1_newString_b4f7a : MethodName := ⟨RJ1, "newString", "([BII)Ljava/lang/String;"⟩
abbrev cJ1_inflate_0e8fd : ByteArray := prog_21_method_50_code
def yJ1_inflate_0e8fd : MethodName := ⟨RJ1, "inflate", "([BI[BII)V"⟩
def RJ2 : String := "java/lang/StringUTF16"
def TJ2 : u_T := fun k => match k with
  | _ => ("", "", "", false)
def tyJ2 : Nat → FieldType := fun k => match k with
  | _ => .int
theorem nmJ2 : ∀ a, a < 0 → ∀ b, b < 0 → a ≠ b → (TJ2 a).2.1 ≠ (TJ2 b).2.1 := by decide +kernel
theorem tyJ2_ok : ∀ k, k < 0 → parseFieldDescriptor (TJ2 k).2.2.1 = some (tyJ2 k) := by decide +kernel
abbrev cJ2_newBytesFor_77867 : ByteArray := prog_22_method_2_code
def yJ2_newBytesFor_77867 : MethodName := ⟨RJ2, "newBytesFor", "(I)[B"⟩
abbrev cJ2_newBytesLength_0f7a4 : ByteArray := prog_22_method_3_code
def yJ2_newBytesLength_0f7a4 : MethodName := ⟨RJ2, "newBytesLength", "(I)I"⟩
abbrev cJ2_putChar_b72d1 : ByteArray := prog_22_method_4_code
def yJ2_putChar_b72d1 : MethodName := ⟨RJ2, "putChar", "([BII)V"⟩
abbrev cJ2_getChar_3b067 : ByteArray := prog_22_method_5_code
def yJ2_getChar_3b067 : MethodName := ⟨RJ2, "getChar", "([BI)C"⟩
abbrev cJ2_length_9d52b : ByteArray := prog_22_method_6_code
def yJ2_length_9d52b : MethodName := ⟨RJ2, "length", "([B)I"⟩
abbrev cJ2_coderFromArrayLen_85cad : ByteArray := prog_22_method_15_code
def yJ2_coderFromArrayLen_85cad : MethodName := ⟨RJ2, "coderFromArrayLen", "([BI)B"⟩
abbrev cJ2_compress_39247 : ByteArray := prog_22_method_17_code
def yJ2_compress_39247 : MethodName := ⟨RJ2, "compress", "([BII)[B"⟩
abbrev cJ2_compress_5af95 : ByteArray := prog_22_method_22_code
def yJ2_compress_5af95 : MethodName := ⟨RJ2, "compress", "([BI[BII)I"⟩
abbrev cJ2_indexOf_4cfef : ByteArray := prog_22_method_40_code
def yJ2_indexOf_4cfef : MethodName := ⟨RJ2, "indexOf", "([BIII)I"⟩
abbrev cJ2_indexOfChar_4cfef : ByteArray := prog_22_method_47_code
def yJ2_indexOfChar_4cfef : MethodName := ⟨RJ2, "indexOfChar", "([BIII)I"⟩
abbrev cJ2_indexOfCharUnsafe_4cfef : ByteArray := prog_22_method_48_code
def yJ2_indexOfCharUnsafe_4cfef : MethodName := ⟨RJ2, "indexOfCharUnsafe", "([BIII)I"⟩
abbrev cJ2_indexOfSupplementary_4cfef : ByteArray := prog_22_method_49_code
def yJ2_indexOfSupplementary_4cfef : MethodName := ⟨RJ2, "indexOfSupplementary", "([BIII)I"⟩
abbrev cJ2_newString_b4f7a : ByteArray := prog_22_method_69_code
def yJ2_newString_b4f7a : MethodName := ⟨RJ2, "newString", "([BII)Ljava/lang/String;"⟩
abbrev cJ2_putCharSB_b72d1 : ByteArray := prog_22_method_71_code
def yJ2_putCharSB_b72d1 : MethodName := ⟨RJ2, "putCharSB", "([BII)V"⟩
abbrev cJ2_putCharsAt_cd4e5 : ByteArray := prog_22_method_81_code
def yJ2_putCharsAt_cd4e5 : MethodName := ⟨RJ2, "putCharsAt", "([BICCCC)I"⟩
abbrev cJ2_charAt_3b067 : ByteArray := prog_22_method_83_code
def yJ2_charAt_3b067 : MethodName := ⟨RJ2, "charAt", "([BI)C"⟩
abbrev cJ2_inflate_0e8fd : ByteArray := prog_22_method_86_code
def yJ2_inflate_0e8fd : MethodName := ⟨RJ2, "inflate", "([BI[BII)V"⟩
abbrev cJ2_checkIndex_2214a : ByteArray := prog_22_method_91_code
def yJ2_checkIndex_2214a : MethodName := ⟨RJ2, "checkIndex", "(I[B)V"⟩
abbrev cJ2_checkBoundsBeginEnd_d044e : ByteArray := prog_22_method_93_code
def yJ2_checkBoundsBeginEnd_d044e : MethodName := ⟨RJ2, "checkBoundsBeginEnd", "(II[B)V"⟩
abbrev cJ2_checkBoundsOffCount_d044e : ByteArray := prog_22_method_94_code
def yJ2_checkBoundsOffCount_d044e : MethodName := ⟨RJ2, "checkBoundsOffCount", "(II[B)V"⟩
def RJ10 : String := "java/lang/System"
def TJ10 : u_T := fun k => match k with
  | _ => ("", "", "", false)
def tyJ10 : Nat → FieldType := fun k => match k with
  | _ => .int
theorem nmJ10 : ∀ a, a < 0 → ∀ b, b < 0 → a ≠ b → (TJ10 a).2.1 ≠ (TJ10 b).2.1 := by decide +kernel
theorem tyJ10_ok : ∀ k, k < 0 → parseFieldDescriptor (TJ10 k).2.2.1 = some (tyJ10 k) := by decide +kernel
def RJxfd54e : String := "java/lang/constant/Constable"
def TJxfd54e : u_T := fun k => match k with
  | _ => ("", "", "", false)
def tyJxfd54e : Nat → FieldType := fun k => match k with
  | _ => .int
theorem nmJxfd54e : ∀ a, a < 0 → ∀ b, b < 0 → a ≠ b → (TJxfd54e a).2.1 ≠ (TJxfd54e b).2.1 := by decide +kernel
theorem tyJxfd54e_ok : ∀ k, k < 0 → parseFieldDescriptor (TJxfd54e k).2.2.1 = some (tyJxfd54e k) := by decide +kernel
def RJx3cf43 : String := "java/lang/constant/ConstantDesc"
def TJx3cf43 : u_T := fun k => match k with
  | _ => ("", "", "", false)
def tyJx3cf43 : Nat → FieldType := fun k => match k with
  | _ => .int
theorem nmJx3cf43 : ∀ a, a < 0 → ∀ b, b < 0 → a ≠ b → (TJx3cf43 a).2.1 ≠ (TJx3cf43 b).2.1 := by decide +kernel
theorem tyJx3cf43_ok : ∀ k, k < 0 → parseFieldDescriptor (TJx3cf43 k).2.2.1 = some (tyJx3cf43 k) := by decide +kernel
def RJ7 : String := "java/util/Arrays"
def TJ7 : u_T := fun k => match k with
  | _ => ("", "", "", false)
def tyJ7 : Nat → FieldType := fun k => match k with
  | _ => .int
theorem nmJ7 : ∀ a, a < 0 → ∀ b, b < 0 → a ≠ b → (TJ7 a).2.1 ≠ (TJ7 b).2.1 := by decide +kernel
theorem tyJ7_ok : ∀ k, k < 0 → parseFieldDescriptor (TJ7 k).2.2.1 = some (tyJ7 k) := by decide +kernel
abbrev cJ7_fill_d0a16 : ByteArray := prog_24_method_101_code
def yJ7_fill_d0a16 : MethodName := ⟨RJ7, "fill", "([JJ)V"⟩
abbrev cJ7_fill_53178 : ByteArray := prog_24_method_103_code
def yJ7_fill_53178 : MethodName := ⟨RJ7, "fill", "([II)V"⟩
abbrev cJ7_copyOf_9075b : ByteArray := prog_24_method_121_code
def yJ7_copyOf_9075b : MethodName := ⟨RJ7, "copyOf", "([BI)[B"⟩
abbrev cJ7_checkLength_df160 : ByteArray := prog_24_method_131_code
def yJ7_checkLength_df160 : MethodName := ⟨RJ7, "checkLength", "(II)V"⟩
abbrev cJ7_copyOfRange_39247 : ByteArray := prog_24_method_132_code
def yJ7_copyOfRange_39247 : MethodName := ⟨RJ7, "copyOfRange", "([BII)[B"⟩
abbrev cJ7_copyOfRangeByte_39247 : ByteArray := prog_24_method_133_code
def yJ7_copyOfRangeByte_39247 : MethodName := ⟨RJ7, "copyOfRangeByte", "([BII)[B"⟩
def RJ8 : String := "jdk/internal/util/ArraysSupport"
def TJ8 : u_T := fun k => match k with
  | _ => ("", "", "", false)
def tyJ8 : Nat → FieldType := fun k => match k with
  | _ => .int
theorem nmJ8 : ∀ a, a < 0 → ∀ b, b < 0 → a ≠ b → (TJ8 a).2.1 ≠ (TJ8 b).2.1 := by decide +kernel
theorem tyJ8_ok : ∀ k, k < 0 → parseFieldDescriptor (TJ8 k).2.2.1 = some (tyJ8 k) := by decide +kernel
abbrev cJ8_newLength_cabcc : ByteArray := prog_25_method_27_code
def yJ8_newLength_cabcc : MethodName := ⟨RJ8, "newLength", "(III)I"⟩
abbrev cJ8_hugeLength_7cf53 : ByteArray := prog_25_method_28_code
def yJ8_hugeLength_7cf53 : MethodName := ⟨RJ8, "hugeLength", "(II)I"⟩
def RJ3 : String := "jdk/internal/util/Preconditions"
def TJ3 : u_T := fun k => match k with
  | _ => ("", "", "", false)
def tyJ3 : Nat → FieldType := fun k => match k with
  | _ => .int
theorem nmJ3 : ∀ a, a < 0 → ∀ b, b < 0 → a ≠ b → (TJ3 a).2.1 ≠ (TJ3 b).2.1 := by decide +kernel
theorem tyJ3_ok : ∀ k, k < 0 → parseFieldDescriptor (TJ3 k).2.2.1 = some (tyJ3 k) := by decide +kernel
abbrev cJ3_checkIndex_8e157 : ByteArray := prog_26_method_11_code
def yJ3_checkIndex_8e157 : MethodName := ⟨RJ3, "checkIndex", "(IILjava/util/function/BiFunction;)I"⟩
abbrev cJ3_checkFromToIndex_8c36e : ByteArray := prog_26_method_12_code
def yJ3_checkFromToIndex_8c36e : MethodName := ⟨RJ3, "checkFromToIndex", "(IIILjava/util/function/BiFunction;)I"⟩
abbrev cJ3_checkFromIndexSize_8c36e : ByteArray := prog_26_method_13_code
def yJ3_checkFromIndexSize_8c36e : MethodName := ⟨RJ3, "checkFromIndexSize", "(IIILjava/util/function/BiFunction;)I"⟩
def RL : String := "TermStrategiesLaw"
abbrev cL_at : ByteArray := method_2_code
def yL_at : MethodName := ⟨RL, "at", "([II)I"⟩
abbrev cL_some : ByteArray := method_3_code
def yL_some : MethodName := ⟨RL, "some", "(II)I"⟩
abbrev cL_arity : ByteArray := method_4_code
def yL_arity : MethodName := ⟨RL, "arity", "(C)I"⟩
abbrev cL_variable : ByteArray := method_5_code
def yL_variable : MethodName := ⟨RL, "variable", "(C)Z"⟩
abbrev cL_part : ByteArray := method_6_code
def yL_part : MethodName := ⟨RL, "part", "(Ljava/lang/String;I)Ljava/lang/String;"⟩
abbrev cL_argument : ByteArray := method_7_code
def yL_argument : MethodName := ⟨RL, "argument", "(Ljava/lang/String;I)Ljava/lang/String;"⟩
abbrev cL_text : ByteArray := method_9_code
def yL_text : MethodName := ⟨RL, "text", "(Ljava/lang/String;)Ljava/lang/String;"⟩
abbrev cL_grow : ByteArray := method_10_code
def yL_grow : MethodName := ⟨RL, "grow", "(III)Ljava/lang/String;"⟩
abbrev cL_law : ByteArray := method_11_code
def yL_law : MethodName := ⟨RL, "law", "(II)Ljava/lang/String;"⟩
abbrev cL_comes : ByteArray := method_14_code
def yL_comes : MethodName := ⟨RL, "comes", "(LTermStrategies;Ljava/lang/String;I)Z"⟩
abbrev cL_rules : ByteArray := method_15_code
def yL_rules : MethodName := ⟨RL, "rules", "(LTermStrategies;[III)Ljava/lang/String;"⟩
abbrev cL_terms : ByteArray := method_16_code
def yL_terms : MethodName := ⟨RL, "terms", "(LTermStrategies;[III)Ljava/lang/String;"⟩
abbrev cL_none : ByteArray := method_34_code
def yL_none : MethodName := ⟨RL, "none", "()[I"⟩
abbrev cL_world : ByteArray := method_35_code
def yL_world : MethodName := ⟨RL, "world", "(LTermStrategies;[I[I)Ljava/lang/String;"⟩
abbrev cL_adds : ByteArray := method_36_code
def yL_adds : MethodName := ⟨RL, "adds", "(LTermStrategies;[IIII)Z"⟩
abbrev cL_told : ByteArray := method_38_code
def yL_told : MethodName := ⟨RL, "told", "(LTermStrategies;[I)J"⟩
abbrev cL_law_ : ByteArray := code
def yL_law_ : MethodName := ⟨RL, "law", "([I)Z"⟩
abbrev cL_ran : ByteArray := method_40_code
def yL_ran : MethodName := ⟨RL, "ran", "(LTermStrategies;III)Z"⟩
abbrev cL_laws : ByteArray := method_41_code
def yL_laws : MethodName := ⟨RL, "laws", "(LTermStrategies;II)Z"⟩
abbrev cL_fitted : ByteArray := method_42_code
def yL_fitted : MethodName := ⟨RL, "fitted", "(LTermStrategies;[II)Z"⟩
abbrev cL_peaks : ByteArray := method_43_code
def yL_peaks : MethodName := ⟨RL, "peaks", "(LTermStrategies;III)Z"⟩
abbrev cL_unified : ByteArray := method_44_code
def yL_unified : MethodName := ⟨RL, "unified", "(LTermStrategies;III)Z"⟩
abbrev vwCl : List vw_C := [(RX0, TX0, 4), (RX1, TX1, 4), (RX2, TX2, 6), (RX3, TX3, 5), (RX4, TX4, 17), (RX5, TX5, 3), (RX6, TX6, 1), (RX7, TX7, 10), (RX8, TX8, 3), (RX9, TX9, 13), (RX10, TX10, 14), (RJ0, TJ0, 4), (RJ4, TJ4, 4)]
