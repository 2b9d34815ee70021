-- ===== PART A: goes FIRST, ahead of the names: the tables' words, and 'selects' of the private methods out of them =====
/-- a private method of a class that the tables say can be made, by its rows of tables_1 -/
def lw_okq (q : MethodName × Nat) : Prop := (q.1.cls ≠ "java/lang/invoke/MethodHandle" ∧ q.1.cls ≠ "java/lang/invoke/VarHandle") ∧ Cond.instantiable q.1.cls q.2 ∈ tables_1 ∧ Cond.privateMethod q.1 ∈ tables_1 ∧ Cond.instanceMethod q.1 ∈ tables_1
theorem lw_p0 : lw_okq (⟨"UnlikeCoins$Reader", "advance", "()V"⟩, 10) := ⟨⟨by decide +kernel, by decide +kernel⟩, List.mem_of_getElem? (i := 55) (by decide +kernel), List.mem_of_getElem? (i := 195) (by decide +kernel), List.mem_of_getElem? (i := 196) (by decide +kernel)⟩
theorem lw_p1 : lw_okq (⟨"UnlikeCoins$Reader", "readWord", "()V"⟩, 10) := ⟨⟨by decide +kernel, by decide +kernel⟩, List.mem_of_getElem? (i := 55) (by decide +kernel), List.mem_of_getElem? (i := 208) (by decide +kernel), List.mem_of_getElem? (i := 209) (by decide +kernel)⟩
theorem lw_p2 : lw_okq (⟨"UnlikeCoins$Reader", "isWord", "(I)Z"⟩, 10) := ⟨⟨by decide +kernel, by decide +kernel⟩, List.mem_of_getElem? (i := 55) (by decide +kernel), List.mem_of_getElem? (i := 212) (by decide +kernel), List.mem_of_getElem? (i := 213) (by decide +kernel)⟩
theorem lw_p3 : lw_okq (⟨"UnlikeCoins$Reader", "readNumber", "()V"⟩, 10) := ⟨⟨by decide +kernel, by decide +kernel⟩, List.mem_of_getElem? (i := 55) (by decide +kernel), List.mem_of_getElem? (i := 221) (by decide +kernel), List.mem_of_getElem? (i := 222) (by decide +kernel)⟩
theorem lw_p4 : lw_okq (⟨"UnlikeCoins$Reader", "readToken", "(I)Z"⟩, 10) := ⟨⟨by decide +kernel, by decide +kernel⟩, List.mem_of_getElem? (i := 55) (by decide +kernel), List.mem_of_getElem? (i := 285) (by decide +kernel), List.mem_of_getElem? (i := 286) (by decide +kernel)⟩
theorem lw_p5 : lw_okq (⟨"UnlikeCoins$Reader", "readEither", "()Z"⟩, 10) := ⟨⟨by decide +kernel, by decide +kernel⟩, List.mem_of_getElem? (i := 55) (by decide +kernel), List.mem_of_getElem? (i := 289) (by decide +kernel), List.mem_of_getElem? (i := 290) (by decide +kernel)⟩
theorem lw_p6 : lw_okq (⟨"UnlikeCoins$Reader", "readBoth", "()Z"⟩, 10) := ⟨⟨by decide +kernel, by decide +kernel⟩, List.mem_of_getElem? (i := 55) (by decide +kernel), List.mem_of_getElem? (i := 293) (by decide +kernel), List.mem_of_getElem? (i := 294) (by decide +kernel)⟩
theorem lw_p7 : lw_okq (⟨"UnlikeCoins$Reader", "readDenied", "()Z"⟩, 10) := ⟨⟨by decide +kernel, by decide +kernel⟩, List.mem_of_getElem? (i := 55) (by decide +kernel), List.mem_of_getElem? (i := 297) (by decide +kernel), List.mem_of_getElem? (i := 298) (by decide +kernel)⟩
theorem lw_p8 : lw_okq (⟨"UnlikeCoins$Reader", "readCompared", "()Z"⟩, 10) := ⟨⟨by decide +kernel, by decide +kernel⟩, List.mem_of_getElem? (i := 55) (by decide +kernel), List.mem_of_getElem? (i := 301) (by decide +kernel), List.mem_of_getElem? (i := 302) (by decide +kernel)⟩
theorem lw_p9 : lw_okq (⟨"UnlikeCoins$Reader", "readSum", "()Z"⟩, 10) := ⟨⟨by decide +kernel, by decide +kernel⟩, List.mem_of_getElem? (i := 55) (by decide +kernel), List.mem_of_getElem? (i := 305) (by decide +kernel), List.mem_of_getElem? (i := 306) (by decide +kernel)⟩
theorem lw_p10 : lw_okq (⟨"UnlikeCoins$Reader", "readTerm", "()Z"⟩, 10) := ⟨⟨by decide +kernel, by decide +kernel⟩, List.mem_of_getElem? (i := 55) (by decide +kernel), List.mem_of_getElem? (i := 309) (by decide +kernel), List.mem_of_getElem? (i := 310) (by decide +kernel)⟩
theorem lw_p11 : lw_okq (⟨"UnlikeCoins$Reader", "readOne", "()Z"⟩, 10) := ⟨⟨by decide +kernel, by decide +kernel⟩, List.mem_of_getElem? (i := 55) (by decide +kernel), List.mem_of_getElem? (i := 313) (by decide +kernel), List.mem_of_getElem? (i := 314) (by decide +kernel)⟩
theorem lw_p12 : lw_okq (⟨"UnlikeCoins$Reader", "emit", "(I)V"⟩, 10) := ⟨⟨by decide +kernel, by decide +kernel⟩, List.mem_of_getElem? (i := 55) (by decide +kernel), List.mem_of_getElem? (i := 317) (by decide +kernel), List.mem_of_getElem? (i := 318) (by decide +kernel)⟩
theorem lw_p13 : lw_okq (⟨"UnlikeCoins", "nameAll", "(IIIII)V"⟩, 15) := ⟨⟨by decide +kernel, by decide +kernel⟩, List.mem_of_getElem? (i := 23) (by decide +kernel), List.mem_of_getElem? (i := 445) (by decide +kernel), List.mem_of_getElem? (i := 446) (by decide +kernel)⟩
theorem lw_p14 : lw_okq (⟨"UnlikeCoins", "says", "(II)I"⟩, 15) := ⟨⟨by decide +kernel, by decide +kernel⟩, List.mem_of_getElem? (i := 23) (by decide +kernel), List.mem_of_getElem? (i := 449) (by decide +kernel), List.mem_of_getElem? (i := 450) (by decide +kernel)⟩
theorem lw_p15 : lw_okq (⟨"UnlikeCoins$Text", "step", "(I[I)V"⟩, 4) := ⟨⟨by decide +kernel, by decide +kernel⟩, List.mem_of_getElem? (i := 325) (by decide +kernel), List.mem_of_getElem? (i := 459) (by decide +kernel), List.mem_of_getElem? (i := 460) (by decide +kernel)⟩
def lw_privs_1 : List (MethodName × Nat) := [(⟨"UnlikeCoins$Reader", "advance", "()V"⟩, 10), (⟨"UnlikeCoins$Reader", "readWord", "()V"⟩, 10), (⟨"UnlikeCoins$Reader", "isWord", "(I)Z"⟩, 10), (⟨"UnlikeCoins$Reader", "readNumber", "()V"⟩, 10), (⟨"UnlikeCoins$Reader", "readToken", "(I)Z"⟩, 10), (⟨"UnlikeCoins$Reader", "readEither", "()Z"⟩, 10), (⟨"UnlikeCoins$Reader", "readBoth", "()Z"⟩, 10), (⟨"UnlikeCoins$Reader", "readDenied", "()Z"⟩, 10), (⟨"UnlikeCoins$Reader", "readCompared", "()Z"⟩, 10), (⟨"UnlikeCoins$Reader", "readSum", "()Z"⟩, 10), (⟨"UnlikeCoins$Reader", "readTerm", "()Z"⟩, 10), (⟨"UnlikeCoins$Reader", "readOne", "()Z"⟩, 10), (⟨"UnlikeCoins$Reader", "emit", "(I)V"⟩, 10), (⟨"UnlikeCoins", "nameAll", "(IIIII)V"⟩, 15), (⟨"UnlikeCoins", "says", "(II)I"⟩, 15), (⟨"UnlikeCoins$Text", "step", "(I[I)V"⟩, 4)]
theorem lw_r1 : ∀ q ∈ lw_privs_1, lw_okq q := List.forall_mem_cons.mpr ⟨lw_p0, List.forall_mem_cons.mpr ⟨lw_p1, List.forall_mem_cons.mpr ⟨lw_p2, List.forall_mem_cons.mpr ⟨lw_p3, List.forall_mem_cons.mpr ⟨lw_p4, List.forall_mem_cons.mpr ⟨lw_p5, List.forall_mem_cons.mpr ⟨lw_p6, List.forall_mem_cons.mpr ⟨lw_p7, List.forall_mem_cons.mpr ⟨lw_p8, List.forall_mem_cons.mpr ⟨lw_p9, List.forall_mem_cons.mpr ⟨lw_p10, List.forall_mem_cons.mpr ⟨lw_p11, List.forall_mem_cons.mpr ⟨lw_p12, List.forall_mem_cons.mpr ⟨lw_p13, List.forall_mem_cons.mpr ⟨lw_p14, List.forall_mem_cons.mpr ⟨lw_p15, fun _ h => absurd h List.not_mem_nil⟩⟩⟩⟩⟩⟩⟩⟩⟩⟩⟩⟩⟩⟩⟩⟩
theorem lw_p16 : lw_okq (⟨"UnlikeCoins$Text", "push", "(I)V"⟩, 4) := ⟨⟨by decide +kernel, by decide +kernel⟩, List.mem_of_getElem? (i := 325) (by decide +kernel), List.mem_of_getElem? (i := 463) (by decide +kernel), List.mem_of_getElem? (i := 464) (by decide +kernel)⟩
theorem lw_p17 : lw_okq (⟨"UnlikeCoins$Text", "pop", "()I"⟩, 4) := ⟨⟨by decide +kernel, by decide +kernel⟩, List.mem_of_getElem? (i := 325) (by decide +kernel), List.mem_of_getElem? (i := 467) (by decide +kernel), List.mem_of_getElem? (i := 468) (by decide +kernel)⟩
theorem lw_p18 : lw_okq (⟨"UnlikeCoins", "sortAt", "(I)LUnlikeCoins$Sort;"⟩, 15) := ⟨⟨by decide +kernel, by decide +kernel⟩, List.mem_of_getElem? (i := 23) (by decide +kernel), List.mem_of_getElem? (i := 551) (by decide +kernel), List.mem_of_getElem? (i := 552) (by decide +kernel)⟩
theorem lw_p19 : lw_okq (⟨"UnlikeCoins", "purseAt", "(I)LUnlikeCoins$Purse;"⟩, 15) := ⟨⟨by decide +kernel, by decide +kernel⟩, List.mem_of_getElem? (i := 23) (by decide +kernel), List.mem_of_getElem? (i := 590) (by decide +kernel), List.mem_of_getElem? (i := 591) (by decide +kernel)⟩
theorem lw_p20 : lw_okq (⟨"UnlikeCoins", "timesAt", "(LUnlikeCoins$Purse;I)I"⟩, 15) := ⟨⟨by decide +kernel, by decide +kernel⟩, List.mem_of_getElem? (i := 23) (by decide +kernel), List.mem_of_getElem? (i := 646) (by decide +kernel), List.mem_of_getElem? (i := 647) (by decide +kernel)⟩
theorem lw_p21 : lw_okq (⟨"UnlikeCoins$Purse", "mostPlentiful", "()I"⟩, 3) := ⟨⟨by decide +kernel, by decide +kernel⟩, List.mem_of_getElem? (i := 34) (by decide +kernel), List.mem_of_getElem? (i := 678) (by decide +kernel), List.mem_of_getElem? (i := 679) (by decide +kernel)⟩
theorem lw_p22 : lw_okq (⟨"UnlikeCoins", "worthAt", "(II)I"⟩, 15) := ⟨⟨by decide +kernel, by decide +kernel⟩, List.mem_of_getElem? (i := 23) (by decide +kernel), List.mem_of_getElem? (i := 682) (by decide +kernel), List.mem_of_getElem? (i := 683) (by decide +kernel)⟩
theorem lw_p23 : lw_okq (⟨"UnlikeCoins", "timesOfAll", "(II)I"⟩, 15) := ⟨⟨by decide +kernel, by decide +kernel⟩, List.mem_of_getElem? (i := 23) (by decide +kernel), List.mem_of_getElem? (i := 698) (by decide +kernel), List.mem_of_getElem? (i := 699) (by decide +kernel)⟩
theorem lw_p24 : lw_okq (⟨"UnlikeCoins", "feeFor", "(II)I"⟩, 15) := ⟨⟨by decide +kernel, by decide +kernel⟩, List.mem_of_getElem? (i := 23) (by decide +kernel), List.mem_of_getElem? (i := 726) (by decide +kernel), List.mem_of_getElem? (i := 727) (by decide +kernel)⟩
theorem lw_p25 : lw_okq (⟨"UnlikeCoins", "timesWith", "(LUnlikeCoins$Purse;III)I"⟩, 15) := ⟨⟨by decide +kernel, by decide +kernel⟩, List.mem_of_getElem? (i := 23) (by decide +kernel), List.mem_of_getElem? (i := 734) (by decide +kernel), List.mem_of_getElem? (i := 735) (by decide +kernel)⟩
theorem lw_p26 : lw_okq (⟨"UnlikeCoins", "tryWage", "(LUnlikeCoins$Purse;II)I"⟩, 15) := ⟨⟨by decide +kernel, by decide +kernel⟩, List.mem_of_getElem? (i := 23) (by decide +kernel), List.mem_of_getElem? (i := 754) (by decide +kernel), List.mem_of_getElem? (i := 755) (by decide +kernel)⟩
theorem lw_p27 : lw_okq (⟨"UnlikeCoins", "passFor", "(LUnlikeCoins$Purse;)V"⟩, 15) := ⟨⟨by decide +kernel, by decide +kernel⟩, List.mem_of_getElem? (i := 23) (by decide +kernel), List.mem_of_getElem? (i := 768) (by decide +kernel), List.mem_of_getElem? (i := 769) (by decide +kernel)⟩
theorem lw_p28 : lw_okq (⟨"UnlikeCoins", "sheetAt", "(I)LUnlikeCoins$Sheet;"⟩, 15) := ⟨⟨by decide +kernel, by decide +kernel⟩, List.mem_of_getElem? (i := 23) (by decide +kernel), List.mem_of_getElem? (i := 795) (by decide +kernel), List.mem_of_getElem? (i := 796) (by decide +kernel)⟩
theorem lw_p29 : lw_okq (⟨"UnlikeCoins", "firstOther", "(LUnlikeCoins$Sheet;LUnlikeCoins$Purse;)I"⟩, 15) := ⟨⟨by decide +kernel, by decide +kernel⟩, List.mem_of_getElem? (i := 23) (by decide +kernel), List.mem_of_getElem? (i := 808) (by decide +kernel), List.mem_of_getElem? (i := 809) (by decide +kernel)⟩
theorem lw_p30 : lw_okq (⟨"UnlikeCoins", "tryPurse", "(I)I"⟩, 15) := ⟨⟨by decide +kernel, by decide +kernel⟩, List.mem_of_getElem? (i := 23) (by decide +kernel), List.mem_of_getElem? (i := 828) (by decide +kernel), List.mem_of_getElem? (i := 829) (by decide +kernel)⟩
theorem lw_p31 : lw_okq (⟨"UnlikeCoins", "drawnBy", "(II)I"⟩, 15) := ⟨⟨by decide +kernel, by decide +kernel⟩, List.mem_of_getElem? (i := 23) (by decide +kernel), List.mem_of_getElem? (i := 854) (by decide +kernel), List.mem_of_getElem? (i := 855) (by decide +kernel)⟩
def lw_privs_2 : List (MethodName × Nat) := [(⟨"UnlikeCoins$Text", "push", "(I)V"⟩, 4), (⟨"UnlikeCoins$Text", "pop", "()I"⟩, 4), (⟨"UnlikeCoins", "sortAt", "(I)LUnlikeCoins$Sort;"⟩, 15), (⟨"UnlikeCoins", "purseAt", "(I)LUnlikeCoins$Purse;"⟩, 15), (⟨"UnlikeCoins", "timesAt", "(LUnlikeCoins$Purse;I)I"⟩, 15), (⟨"UnlikeCoins$Purse", "mostPlentiful", "()I"⟩, 3), (⟨"UnlikeCoins", "worthAt", "(II)I"⟩, 15), (⟨"UnlikeCoins", "timesOfAll", "(II)I"⟩, 15), (⟨"UnlikeCoins", "feeFor", "(II)I"⟩, 15), (⟨"UnlikeCoins", "timesWith", "(LUnlikeCoins$Purse;III)I"⟩, 15), (⟨"UnlikeCoins", "tryWage", "(LUnlikeCoins$Purse;II)I"⟩, 15), (⟨"UnlikeCoins", "passFor", "(LUnlikeCoins$Purse;)V"⟩, 15), (⟨"UnlikeCoins", "sheetAt", "(I)LUnlikeCoins$Sheet;"⟩, 15), (⟨"UnlikeCoins", "firstOther", "(LUnlikeCoins$Sheet;LUnlikeCoins$Purse;)I"⟩, 15), (⟨"UnlikeCoins", "tryPurse", "(I)I"⟩, 15), (⟨"UnlikeCoins", "drawnBy", "(II)I"⟩, 15)]
theorem lw_r2 : ∀ q ∈ lw_privs_2, lw_okq q := List.forall_mem_cons.mpr ⟨lw_p16, List.forall_mem_cons.mpr ⟨lw_p17, List.forall_mem_cons.mpr ⟨lw_p18, List.forall_mem_cons.mpr ⟨lw_p19, List.forall_mem_cons.mpr ⟨lw_p20, List.forall_mem_cons.mpr ⟨lw_p21, List.forall_mem_cons.mpr ⟨lw_p22, List.forall_mem_cons.mpr ⟨lw_p23, List.forall_mem_cons.mpr ⟨lw_p24, List.forall_mem_cons.mpr ⟨lw_p25, List.forall_mem_cons.mpr ⟨lw_p26, List.forall_mem_cons.mpr ⟨lw_p27, List.forall_mem_cons.mpr ⟨lw_p28, List.forall_mem_cons.mpr ⟨lw_p29, List.forall_mem_cons.mpr ⟨lw_p30, List.forall_mem_cons.mpr ⟨lw_p31, fun _ h => absurd h List.not_mem_nil⟩⟩⟩⟩⟩⟩⟩⟩⟩⟩⟩⟩⟩⟩⟩⟩
theorem lw_p32 : lw_okq (⟨"UnlikeCoinsModel", "next", "()V"⟩, 40) := ⟨⟨by decide +kernel, by decide +kernel⟩, List.mem_of_getElem? (i := 906) (by decide +kernel), List.mem_of_getElem? (i := 916) (by decide +kernel), List.mem_of_getElem? (i := 917) (by decide +kernel)⟩
theorem lw_p33 : lw_okq (⟨"UnlikeCoinsModel", "wordFrom", "(II)I"⟩, 40) := ⟨⟨by decide +kernel, by decide +kernel⟩, List.mem_of_getElem? (i := 906) (by decide +kernel), List.mem_of_getElem? (i := 923) (by decide +kernel), List.mem_of_getElem? (i := 924) (by decide +kernel)⟩
theorem lw_p34 : lw_okq (⟨"UnlikeCoinsModel", "eRead", "()Z"⟩, 40) := ⟨⟨by decide +kernel, by decide +kernel⟩, List.mem_of_getElem? (i := 906) (by decide +kernel), List.mem_of_getElem? (i := 927) (by decide +kernel), List.mem_of_getElem? (i := 928) (by decide +kernel)⟩
theorem lw_p35 : lw_okq (⟨"UnlikeCoinsModel", "puts", "(I)V"⟩, 40) := ⟨⟨by decide +kernel, by decide +kernel⟩, List.mem_of_getElem? (i := 906) (by decide +kernel), List.mem_of_getElem? (i := 932) (by decide +kernel), List.mem_of_getElem? (i := 933) (by decide +kernel)⟩
theorem lw_p36 : lw_okq (⟨"UnlikeCoinsModel", "unwinds", "(I)V"⟩, 40) := ⟨⟨by decide +kernel, by decide +kernel⟩, List.mem_of_getElem? (i := 906) (by decide +kernel), List.mem_of_getElem? (i := 936) (by decide +kernel), List.mem_of_getElem? (i := 937) (by decide +kernel)⟩
theorem lw_p37 : lw_okq (⟨"UnlikeCoinsModel", "opensOne", "(I)Z"⟩, 40) := ⟨⟨by decide +kernel, by decide +kernel⟩, List.mem_of_getElem? (i := 906) (by decide +kernel), List.mem_of_getElem? (i := 943) (by decide +kernel), List.mem_of_getElem? (i := 944) (by decide +kernel)⟩
theorem lw_p38 : lw_okq (⟨"UnlikeCoinsModel", "holds", "(I)V"⟩, 40) := ⟨⟨by decide +kernel, by decide +kernel⟩, List.mem_of_getElem? (i := 906) (by decide +kernel), List.mem_of_getElem? (i := 947) (by decide +kernel), List.mem_of_getElem? (i := 948) (by decide +kernel)⟩
theorem lw_p39 : lw_okq (⟨"UnlikeCoinsModel", "signOf", "()I"⟩, 40) := ⟨⟨by decide +kernel, by decide +kernel⟩, List.mem_of_getElem? (i := 906) (by decide +kernel), List.mem_of_getElem? (i := 951) (by decide +kernel), List.mem_of_getElem? (i := 952) (by decide +kernel)⟩
theorem lw_p40 : lw_okq (⟨"UnlikeCoinsModel", "between", "(I)Z"⟩, 40) := ⟨⟨by decide +kernel, by decide +kernel⟩, List.mem_of_getElem? (i := 906) (by decide +kernel), List.mem_of_getElem? (i := 955) (by decide +kernel), List.mem_of_getElem? (i := 956) (by decide +kernel)⟩
theorem lw_p41 : lw_okq (⟨"UnlikeCoinsModel", "asksOf", "(IIIIII)I"⟩, 40) := ⟨⟨by decide +kernel, by decide +kernel⟩, List.mem_of_getElem? (i := 906) (by decide +kernel), List.mem_of_getElem? (i := 1100) (by decide +kernel), List.mem_of_getElem? (i := 1101) (by decide +kernel)⟩
theorem lw_p42 : lw_okq (⟨"UnlikeCoinsModel", "says", "(I)I"⟩, 40) := ⟨⟨by decide +kernel, by decide +kernel⟩, List.mem_of_getElem? (i := 906) (by decide +kernel), List.mem_of_getElem? (i := 1104) (by decide +kernel), List.mem_of_getElem? (i := 1105) (by decide +kernel)⟩
theorem lw_p43 : lw_okq (⟨"UnlikeCoinsModel", "isSort", "(I)Z"⟩, 40) := ⟨⟨by decide +kernel, by decide +kernel⟩, List.mem_of_getElem? (i := 906) (by decide +kernel), List.mem_of_getElem? (i := 1122) (by decide +kernel), List.mem_of_getElem? (i := 1123) (by decide +kernel)⟩
theorem lw_p44 : lw_okq (⟨"UnlikeCoinsModel", "isPurse", "(I)Z"⟩, 40) := ⟨⟨by decide +kernel, by decide +kernel⟩, List.mem_of_getElem? (i := 906) (by decide +kernel), List.mem_of_getElem? (i := 1134) (by decide +kernel), List.mem_of_getElem? (i := 1135) (by decide +kernel)⟩
theorem lw_p45 : lw_okq (⟨"UnlikeCoinsModel", "coinWorth", "(II)I"⟩, 40) := ⟨⟨by decide +kernel, by decide +kernel⟩, List.mem_of_getElem? (i := 906) (by decide +kernel), List.mem_of_getElem? (i := 1146) (by decide +kernel), List.mem_of_getElem? (i := 1147) (by decide +kernel)⟩
theorem lw_p46 : lw_okq (⟨"UnlikeCoinsModel", "oftenOf", "(II)I"⟩, 40) := ⟨⟨by decide +kernel, by decide +kernel⟩, List.mem_of_getElem? (i := 906) (by decide +kernel), List.mem_of_getElem? (i := 1157) (by decide +kernel), List.mem_of_getElem? (i := 1158) (by decide +kernel)⟩
theorem lw_p47 : lw_okq (⟨"UnlikeCoinsModel", "thinksOf", "(I)V"⟩, 40) := ⟨⟨by decide +kernel, by decide +kernel⟩, List.mem_of_getElem? (i := 906) (by decide +kernel), List.mem_of_getElem? (i := 1161) (by decide +kernel), List.mem_of_getElem? (i := 1162) (by decide +kernel)⟩
def lw_privs_3 : List (MethodName × Nat) := [(⟨"UnlikeCoinsModel", "next", "()V"⟩, 40), (⟨"UnlikeCoinsModel", "wordFrom", "(II)I"⟩, 40), (⟨"UnlikeCoinsModel", "eRead", "()Z"⟩, 40), (⟨"UnlikeCoinsModel", "puts", "(I)V"⟩, 40), (⟨"UnlikeCoinsModel", "unwinds", "(I)V"⟩, 40), (⟨"UnlikeCoinsModel", "opensOne", "(I)Z"⟩, 40), (⟨"UnlikeCoinsModel", "holds", "(I)V"⟩, 40), (⟨"UnlikeCoinsModel", "signOf", "()I"⟩, 40), (⟨"UnlikeCoinsModel", "between", "(I)Z"⟩, 40), (⟨"UnlikeCoinsModel", "asksOf", "(IIIIII)I"⟩, 40), (⟨"UnlikeCoinsModel", "says", "(I)I"⟩, 40), (⟨"UnlikeCoinsModel", "isSort", "(I)Z"⟩, 40), (⟨"UnlikeCoinsModel", "isPurse", "(I)Z"⟩, 40), (⟨"UnlikeCoinsModel", "coinWorth", "(II)I"⟩, 40), (⟨"UnlikeCoinsModel", "oftenOf", "(II)I"⟩, 40), (⟨"UnlikeCoinsModel", "thinksOf", "(I)V"⟩, 40)]
theorem lw_r3 : ∀ q ∈ lw_privs_3, lw_okq q := List.forall_mem_cons.mpr ⟨lw_p32, List.forall_mem_cons.mpr ⟨lw_p33, List.forall_mem_cons.mpr ⟨lw_p34, List.forall_mem_cons.mpr ⟨lw_p35, List.forall_mem_cons.mpr ⟨lw_p36, List.forall_mem_cons.mpr ⟨lw_p37, List.forall_mem_cons.mpr ⟨lw_p38, List.forall_mem_cons.mpr ⟨lw_p39, List.forall_mem_cons.mpr ⟨lw_p40, List.forall_mem_cons.mpr ⟨lw_p41, List.forall_mem_cons.mpr ⟨lw_p42, List.forall_mem_cons.mpr ⟨lw_p43, List.forall_mem_cons.mpr ⟨lw_p44, List.forall_mem_cons.mpr ⟨lw_p45, List.forall_mem_cons.mpr ⟨lw_p46, List.forall_mem_cons.mpr ⟨lw_p47, fun _ h => absurd h List.not_mem_nil⟩⟩⟩⟩⟩⟩⟩⟩⟩⟩⟩⟩⟩⟩⟩⟩
theorem lw_p48 : lw_okq (⟨"UnlikeCoinsModel", "oftenNow", "(I)I"⟩, 40) := ⟨⟨by decide +kernel, by decide +kernel⟩, List.mem_of_getElem? (i := 906) (by decide +kernel), List.mem_of_getElem? (i := 1165) (by decide +kernel), List.mem_of_getElem? (i := 1166) (by decide +kernel)⟩
theorem lw_p49 : lw_okq (⟨"UnlikeCoinsModel", "lays", "(I)Z"⟩, 40) := ⟨⟨by decide +kernel, by decide +kernel⟩, List.mem_of_getElem? (i := 906) (by decide +kernel), List.mem_of_getElem? (i := 1169) (by decide +kernel), List.mem_of_getElem? (i := 1170) (by decide +kernel)⟩
theorem lw_p50 : lw_okq (⟨"UnlikeCoinsModel", "nextLaid", "()I"⟩, 40) := ⟨⟨by decide +kernel, by decide +kernel⟩, List.mem_of_getElem? (i := 906) (by decide +kernel), List.mem_of_getElem? (i := 1173) (by decide +kernel), List.mem_of_getElem? (i := 1174) (by decide +kernel)⟩
theorem lw_p51 : lw_okq (⟨"UnlikeCoinsModel", "together", "(II)I"⟩, 40) := ⟨⟨by decide +kernel, by decide +kernel⟩, List.mem_of_getElem? (i := 906) (by decide +kernel), List.mem_of_getElem? (i := 1177) (by decide +kernel), List.mem_of_getElem? (i := 1178) (by decide +kernel)⟩
theorem lw_p52 : lw_okq (⟨"UnlikeCoinsModel", "leftNow", "(I)I"⟩, 40) := ⟨⟨by decide +kernel, by decide +kernel⟩, List.mem_of_getElem? (i := 906) (by decide +kernel), List.mem_of_getElem? (i := 1181) (by decide +kernel), List.mem_of_getElem? (i := 1182) (by decide +kernel)⟩
theorem lw_p53 : lw_okq (⟨"UnlikeCoinsModel", "worthOf", "(I)I"⟩, 40) := ⟨⟨by decide +kernel, by decide +kernel⟩, List.mem_of_getElem? (i := 906) (by decide +kernel), List.mem_of_getElem? (i := 1185) (by decide +kernel), List.mem_of_getElem? (i := 1186) (by decide +kernel)⟩
theorem lw_p54 : lw_okq (⟨"UnlikeCoinsModel", "comesTrue", "(I)I"⟩, 40) := ⟨⟨by decide +kernel, by decide +kernel⟩, List.mem_of_getElem? (i := 906) (by decide +kernel), List.mem_of_getElem? (i := 1193) (by decide +kernel), List.mem_of_getElem? (i := 1194) (by decide +kernel)⟩
theorem lw_p55 : lw_okq (⟨"UnlikeCoinsModel", "worthTwo", "(IIII)I"⟩, 40) := ⟨⟨by decide +kernel, by decide +kernel⟩, List.mem_of_getElem? (i := 906) (by decide +kernel), List.mem_of_getElem? (i := 1201) (by decide +kernel), List.mem_of_getElem? (i := 1202) (by decide +kernel)⟩
theorem lw_p56 : lw_okq (⟨"UnlikeCoinsModel", "oftenOfAll", "(I)I"⟩, 40) := ⟨⟨by decide +kernel, by decide +kernel⟩, List.mem_of_getElem? (i := 906) (by decide +kernel), List.mem_of_getElem? (i := 1209) (by decide +kernel), List.mem_of_getElem? (i := 1210) (by decide +kernel)⟩
theorem lw_p57 : lw_okq (⟨"UnlikeCoinsModel", "areTwo", "(II)Z"⟩, 40) := ⟨⟨by decide +kernel, by decide +kernel⟩, List.mem_of_getElem? (i := 906) (by decide +kernel), List.mem_of_getElem? (i := 1225) (by decide +kernel), List.mem_of_getElem? (i := 1226) (by decide +kernel)⟩
theorem lw_p58 : lw_okq (⟨"UnlikeCoinsModel", "canSwap", "(IIII)Z"⟩, 40) := ⟨⟨by decide +kernel, by decide +kernel⟩, List.mem_of_getElem? (i := 906) (by decide +kernel), List.mem_of_getElem? (i := 1229) (by decide +kernel), List.mem_of_getElem? (i := 1230) (by decide +kernel)⟩
theorem lw_p59 : lw_okq (⟨"UnlikeCoinsModel", "swaps", "(IIII)V"⟩, 40) := ⟨⟨by decide +kernel, by decide +kernel⟩, List.mem_of_getElem? (i := 906) (by decide +kernel), List.mem_of_getElem? (i := 1233) (by decide +kernel), List.mem_of_getElem? (i := 1234) (by decide +kernel)⟩
theorem lw_p60 : lw_okq (⟨"UnlikeCoinsModel", "feeOf", "(II)I"⟩, 40) := ⟨⟨by decide +kernel, by decide +kernel⟩, List.mem_of_getElem? (i := 906) (by decide +kernel), List.mem_of_getElem? (i := 1237) (by decide +kernel), List.mem_of_getElem? (i := 1238) (by decide +kernel)⟩
theorem lw_p61 : lw_okq (⟨"UnlikeCoinsModel", "oftenWithMore", "(II)I"⟩, 40) := ⟨⟨by decide +kernel, by decide +kernel⟩, List.mem_of_getElem? (i := 906) (by decide +kernel), List.mem_of_getElem? (i := 1249) (by decide +kernel), List.mem_of_getElem? (i := 1250) (by decide +kernel)⟩
theorem lw_p62 : lw_okq (⟨"UnlikeCoinsModel", "oftenWithRow", "(III)I"⟩, 40) := ⟨⟨by decide +kernel, by decide +kernel⟩, List.mem_of_getElem? (i := 906) (by decide +kernel), List.mem_of_getElem? (i := 1265) (by decide +kernel), List.mem_of_getElem? (i := 1266) (by decide +kernel)⟩
theorem lw_p63 : lw_okq (⟨"UnlikeCoinsModel", "rowDigits", "(I)I"⟩, 40) := ⟨⟨by decide +kernel, by decide +kernel⟩, List.mem_of_getElem? (i := 906) (by decide +kernel), List.mem_of_getElem? (i := 1269) (by decide +kernel), List.mem_of_getElem? (i := 1270) (by decide +kernel)⟩
def lw_privs_4 : List (MethodName × Nat) := [(⟨"UnlikeCoinsModel", "oftenNow", "(I)I"⟩, 40), (⟨"UnlikeCoinsModel", "lays", "(I)Z"⟩, 40), (⟨"UnlikeCoinsModel", "nextLaid", "()I"⟩, 40), (⟨"UnlikeCoinsModel", "together", "(II)I"⟩, 40), (⟨"UnlikeCoinsModel", "leftNow", "(I)I"⟩, 40), (⟨"UnlikeCoinsModel", "worthOf", "(I)I"⟩, 40), (⟨"UnlikeCoinsModel", "comesTrue", "(I)I"⟩, 40), (⟨"UnlikeCoinsModel", "worthTwo", "(IIII)I"⟩, 40), (⟨"UnlikeCoinsModel", "oftenOfAll", "(I)I"⟩, 40), (⟨"UnlikeCoinsModel", "areTwo", "(II)Z"⟩, 40), (⟨"UnlikeCoinsModel", "canSwap", "(IIII)Z"⟩, 40), (⟨"UnlikeCoinsModel", "swaps", "(IIII)V"⟩, 40), (⟨"UnlikeCoinsModel", "feeOf", "(II)I"⟩, 40), (⟨"UnlikeCoinsModel", "oftenWithMore", "(II)I"⟩, 40), (⟨"UnlikeCoinsModel", "oftenWithRow", "(III)I"⟩, 40), (⟨"UnlikeCoinsModel", "rowDigits", "(I)I"⟩, 40)]
theorem lw_r4 : ∀ q ∈ lw_privs_4, lw_okq q := List.forall_mem_cons.mpr ⟨lw_p48, List.forall_mem_cons.mpr ⟨lw_p49, List.forall_mem_cons.mpr ⟨lw_p50, List.forall_mem_cons.mpr ⟨lw_p51, List.forall_mem_cons.mpr ⟨lw_p52, List.forall_mem_cons.mpr ⟨lw_p53, List.forall_mem_cons.mpr ⟨lw_p54, List.forall_mem_cons.mpr ⟨lw_p55, List.forall_mem_cons.mpr ⟨lw_p56, List.forall_mem_cons.mpr ⟨lw_p57, List.forall_mem_cons.mpr ⟨lw_p58, List.forall_mem_cons.mpr ⟨lw_p59, List.forall_mem_cons.mpr ⟨lw_p60, List.forall_mem_cons.mpr ⟨lw_p61, List.forall_mem_cons.mpr ⟨lw_p62, List.forall_mem_cons.mpr ⟨lw_p63, fun _ h => absurd h List.not_mem_nil⟩⟩⟩⟩⟩⟩⟩⟩⟩⟩⟩⟩⟩⟩⟩⟩
theorem lw_p64 : lw_okq (⟨"UnlikeCoinsModel", "nextRow", "(I)Z"⟩, 40) := ⟨⟨by decide +kernel, by decide +kernel⟩, List.mem_of_getElem? (i := 906) (by decide +kernel), List.mem_of_getElem? (i := 1273) (by decide +kernel), List.mem_of_getElem? (i := 1274) (by decide +kernel)⟩
theorem lw_p65 : lw_okq (⟨"UnlikeCoinsModel", "remains", "(II)I"⟩, 40) := ⟨⟨by decide +kernel, by decide +kernel⟩, List.mem_of_getElem? (i := 906) (by decide +kernel), List.mem_of_getElem? (i := 1285) (by decide +kernel), List.mem_of_getElem? (i := 1286) (by decide +kernel)⟩
theorem lw_p66 : lw_okq (⟨"UnlikeCoinsModel", "sheetWrong", "(I)I"⟩, 40) := ⟨⟨by decide +kernel, by decide +kernel⟩, List.mem_of_getElem? (i := 906) (by decide +kernel), List.mem_of_getElem? (i := 1293) (by decide +kernel), List.mem_of_getElem? (i := 1294) (by decide +kernel)⟩
theorem lw_p67 : lw_okq (⟨"UnlikeCoinsModel", "unlike", "(II)I"⟩, 40) := ⟨⟨by decide +kernel, by decide +kernel⟩, List.mem_of_getElem? (i := 906) (by decide +kernel), List.mem_of_getElem? (i := 1297) (by decide +kernel), List.mem_of_getElem? (i := 1298) (by decide +kernel)⟩
theorem lw_p68 : lw_okq (⟨"UnlikeCoinsModel", "unlikeThought", "(I)I"⟩, 40) := ⟨⟨by decide +kernel, by decide +kernel⟩, List.mem_of_getElem? (i := 906) (by decide +kernel), List.mem_of_getElem? (i := 1301) (by decide +kernel), List.mem_of_getElem? (i := 1302) (by decide +kernel)⟩
theorem lw_p69 : lw_okq (⟨"UnlikeCoinsModel", "couldBy", "(II)I"⟩, 40) := ⟨⟨by decide +kernel, by decide +kernel⟩, List.mem_of_getElem? (i := 906) (by decide +kernel), List.mem_of_getElem? (i := 1329) (by decide +kernel), List.mem_of_getElem? (i := 1330) (by decide +kernel)⟩
theorem lw_p70 : lw_okq (⟨"UnlikeCoinsModel", "coinsOf", "(I)I"⟩, 40) := ⟨⟨by decide +kernel, by decide +kernel⟩, List.mem_of_getElem? (i := 906) (by decide +kernel), List.mem_of_getElem? (i := 1374) (by decide +kernel), List.mem_of_getElem? (i := 1375) (by decide +kernel)⟩
def lw_privs_5 : List (MethodName × Nat) := [(⟨"UnlikeCoinsModel", "nextRow", "(I)Z"⟩, 40), (⟨"UnlikeCoinsModel", "remains", "(II)I"⟩, 40), (⟨"UnlikeCoinsModel", "sheetWrong", "(I)I"⟩, 40), (⟨"UnlikeCoinsModel", "unlike", "(II)I"⟩, 40), (⟨"UnlikeCoinsModel", "unlikeThought", "(I)I"⟩, 40), (⟨"UnlikeCoinsModel", "couldBy", "(II)I"⟩, 40), (⟨"UnlikeCoinsModel", "coinsOf", "(I)I"⟩, 40)]
theorem lw_r5 : ∀ q ∈ lw_privs_5, lw_okq q := List.forall_mem_cons.mpr ⟨lw_p64, List.forall_mem_cons.mpr ⟨lw_p65, List.forall_mem_cons.mpr ⟨lw_p66, List.forall_mem_cons.mpr ⟨lw_p67, List.forall_mem_cons.mpr ⟨lw_p68, List.forall_mem_cons.mpr ⟨lw_p69, List.forall_mem_cons.mpr ⟨lw_p70, fun _ h => absurd h List.not_mem_nil⟩⟩⟩⟩⟩⟩⟩
def lw_privs : List (MethodName × Nat) := lw_privs_1 ++ (lw_privs_2 ++ (lw_privs_3 ++ (lw_privs_4 ++ (lw_privs_5))))
def lw_tbl : List Cond := k2_sels lw_privs ++ tables_1
theorem lw_privs_ok : ∀ q ∈ lw_privs, lw_okq q := by
  show ∀ q ∈ lw_privs_1 ++ (lw_privs_2 ++ (lw_privs_3 ++ (lw_privs_4 ++ (lw_privs_5)))), lw_okq q
  exact List.forall_mem_append.mpr ⟨lw_r1, List.forall_mem_append.mpr ⟨lw_r2, List.forall_mem_append.mpr ⟨lw_r3, List.forall_mem_append.mpr ⟨lw_r4, lw_r5⟩⟩⟩⟩
def RX0 : String := "UnlikeCoins$Common"
def TX0 : u_T := fun k => match k with
  | 0 => ("UnlikeCoins$Sort", "told", "I", true)
  | _ => ("UnlikeCoins$Sort", "more", "I", true)
def tyX0 : Nat → FieldType := fun k => match k with
  | 0 => .int
  | _ => .int
abbrev wsX00 : List Cond := u_ws RX0 TX0 2
theorem nmX0 : ∀ a, a < 2 → ∀ b, b < 2 → a ≠ b → (TX0 a).2.1 ≠ (TX0 b).2.1 := by decide +kernel
theorem tyX0_ok : ∀ k, k < 2 → parseFieldDescriptor (TX0 k).2.2.1 = some (tyX0 k) := by decide +kernel
abbrev cX0_init : ByteArray := prog_2_method_1_code
def yX0_init : MethodName := ⟨RX0, "<init>", "(II)V"⟩
abbrev cX0_kind : ByteArray := prog_2_method_2_code
def yX0_kind : MethodName := ⟨RX0, "kind", "()I"⟩
abbrev cX0_together : ByteArray := prog_2_method_3_code
def yX0_together : MethodName := ⟨RX0, "together", "(I)I"⟩
def RX1 : String := "UnlikeCoins$Gilt"
def TX1 : u_T := fun k => match k with
  | 0 => ("UnlikeCoins$Sort", "told", "I", true)
  | _ => ("UnlikeCoins$Sort", "more", "I", true)
def tyX1 : Nat → FieldType := fun k => match k with
  | 0 => .int
  | _ => .int
abbrev wsX10 : List Cond := u_ws RX1 TX1 2
theorem nmX1 : ∀ a, a < 2 → ∀ b, b < 2 → a ≠ b → (TX1 a).2.1 ≠ (TX1 b).2.1 := by decide +kernel
theorem tyX1_ok : ∀ k, k < 2 → parseFieldDescriptor (TX1 k).2.2.1 = some (tyX1 k) := by decide +kernel
abbrev cX1_init : ByteArray := prog_3_method_1_code
def yX1_init : MethodName := ⟨RX1, "<init>", "(II)V"⟩
abbrev cX1_kind : ByteArray := prog_3_method_2_code
def yX1_kind : MethodName := ⟨RX1, "kind", "()I"⟩
abbrev cX1_leftOf : ByteArray := prog_3_method_3_code
def yX1_leftOf : MethodName := ⟨RX1, "leftOf", "(I)I"⟩
abbrev cX1_worthOf : ByteArray := prog_3_method_4_code
def yX1_worthOf : MethodName := ⟨RX1, "worthOf", "(I)I"⟩
def RX2 : String := "UnlikeCoins$Image"
def TX2 : u_T := fun k => match k with
  | 0 => ("UnlikeCoins$Image", "purses", "[LUnlikeCoins$Purse;", true)
  | 1 => ("UnlikeCoins$Image", "sortCount", "I", false)
  | 2 => ("UnlikeCoins$Image", "purseCount", "I", false)
  | 3 => ("UnlikeCoins$Image", "year", "I", false)
  | 4 => ("UnlikeCoins$Image", "law", "I", false)
  | _ => ("UnlikeCoins$Image", "isThere", "Z", false)
def tyX2 : Nat → FieldType := fun k => match k with
  | 0 => .array (.object "UnlikeCoins$Purse")
  | 1 => .int
  | 2 => .int
  | 3 => .int
  | 4 => .int
  | _ => .boolean
abbrev wsX20 : List Cond := u_ws RX2 TX2 6
theorem nmX2 : ∀ a, a < 6 → ∀ b, b < 6 → a ≠ b → (TX2 a).2.1 ≠ (TX2 b).2.1 := by decide +kernel
theorem tyX2_ok : ∀ k, k < 6 → parseFieldDescriptor (TX2 k).2.2.1 = some (tyX2 k) := by decide +kernel
abbrev cX2_init : ByteArray := prog_4_method_1_code
def yX2_init : MethodName := ⟨RX2, "<init>", "()V"⟩
def RX3 : String := "UnlikeCoins$Melting"
def TX3 : u_T := fun k => match k with
  | 0 => ("UnlikeCoins$Sort", "told", "I", true)
  | _ => ("UnlikeCoins$Sort", "more", "I", true)
def tyX3 : Nat → FieldType := fun k => match k with
  | 0 => .int
  | _ => .int
abbrev wsX30 : List Cond := u_ws RX3 TX3 2
theorem nmX3 : ∀ a, a < 2 → ∀ b, b < 2 → a ≠ b → (TX3 a).2.1 ≠ (TX3 b).2.1 := by decide +kernel
theorem tyX3_ok : ∀ k, k < 2 → parseFieldDescriptor (TX3 k).2.2.1 = some (tyX3 k) := by decide +kernel
abbrev cX3_init : ByteArray := prog_5_method_1_code
def yX3_init : MethodName := ⟨RX3, "<init>", "(II)V"⟩
abbrev cX3_kind : ByteArray := prog_5_method_2_code
def yX3_kind : MethodName := ⟨RX3, "kind", "()I"⟩
abbrev cX3_together : ByteArray := prog_5_method_3_code
def yX3_together : MethodName := ⟨RX3, "together", "(I)I"⟩
abbrev cX3_leftOf : ByteArray := prog_5_method_4_code
def yX3_leftOf : MethodName := ⟨RX3, "leftOf", "(I)I"⟩
def RX4 : String := "UnlikeCoins$Purse"
def TX4 : u_T := fun k => match k with
  | 0 => ("UnlikeCoins$Purse", "has", "[I", true)
  | 1 => ("UnlikeCoins$Purse", "left", "[I", true)
  | _ => ("UnlikeCoins$Purse", "room", "[I", true)
def tyX4 : Nat → FieldType := fun k => match k with
  | 0 => .array .int
  | 1 => .array .int
  | _ => .array .int
abbrev wsX40 : List Cond := u_ws RX4 TX4 3
theorem nmX4 : ∀ a, a < 3 → ∀ b, b < 3 → a ≠ b → (TX4 a).2.1 ≠ (TX4 b).2.1 := by decide +kernel
theorem tyX4_ok : ∀ k, k < 3 → parseFieldDescriptor (TX4 k).2.2.1 = some (tyX4 k) := by decide +kernel
abbrev cX4_init : ByteArray := prog_6_method_1_code
def yX4_init : MethodName := ⟨RX4, "<init>", "()V"⟩
abbrev cX4_many : ByteArray := prog_6_method_2_code
def yX4_many : MethodName := ⟨RX4, "many", "(I)I"⟩
abbrev cX4_put : ByteArray := prog_6_method_3_code
def yX4_put : MethodName := ⟨RX4, "put", "(II)V"⟩
abbrev cX4_grow : ByteArray := prog_6_method_4_code
def yX4_grow : MethodName := ⟨RX4, "grow", "(II)I"⟩
abbrev cX4_lose : ByteArray := prog_6_method_5_code
def yX4_lose : MethodName := ⟨RX4, "lose", "(I)V"⟩
abbrev cX4_become : ByteArray := prog_6_method_6_code
def yX4_become : MethodName := ⟨RX4, "become", "(LUnlikeCoins$Purse;)V"⟩
abbrev cX4_clear : ByteArray := prog_6_method_7_code
def yX4_clear : MethodName := ⟨RX4, "clear", "()V"⟩
abbrev cX4_coins : ByteArray := prog_6_method_8_code
def yX4_coins : MethodName := ⟨RX4, "coins", "()I"⟩
abbrev cX4_sortBits : ByteArray := prog_6_method_9_code
def yX4_sortBits : MethodName := ⟨RX4, "sortBits", "()I"⟩
abbrev cX4_worth : ByteArray := prog_6_method_10_code
def yX4_worth : MethodName := ⟨RX4, "worth", "([LUnlikeCoins$Sort;)I"⟩
abbrev cX4_lay : ByteArray := prog_6_method_11_code
def yX4_lay : MethodName := ⟨RX4, "lay", "([LUnlikeCoins$Sort;I)I"⟩
abbrev cX4_mostPlentiful : ByteArray := prog_6_method_12_code
def yX4_mostPlentiful : MethodName := ⟨RX4, "mostPlentiful", "()I"⟩
def RX5 : String := "UnlikeCoins$Reader"
def TX5 : u_T := fun k => match k with
  | 0 => ("UnlikeCoins$Reader", "tape", "[I", true)
  | 1 => ("UnlikeCoins$Reader", "code", "[I", true)
  | 2 => ("UnlikeCoins$Reader", "ends", "[I", true)
  | 3 => ("UnlikeCoins$Reader", "size", "I", false)
  | 4 => ("UnlikeCoins$Reader", "start", "I", false)
  | 5 => ("UnlikeCoins$Reader", "end", "I", false)
  | 6 => ("UnlikeCoins$Reader", "token", "I", false)
  | 7 => ("UnlikeCoins$Reader", "number", "I", false)
  | 8 => ("UnlikeCoins$Reader", "open", "I", false)
  | _ => ("UnlikeCoins$Reader", "length", "I", false)
def tyX5 : Nat → FieldType := fun k => match k with
  | 0 => .array .int
  | 1 => .array .int
  | 2 => .array .int
  | 3 => .int
  | 4 => .int
  | 5 => .int
  | 6 => .int
  | 7 => .int
  | 8 => .int
  | _ => .int
abbrev wsX50 : List Cond := u_ws RX5 TX5 10
theorem nmX5 : ∀ a, a < 10 → ∀ b, b < 10 → a ≠ b → (TX5 a).2.1 ≠ (TX5 b).2.1 := by decide +kernel
theorem tyX5_ok : ∀ k, k < 10 → parseFieldDescriptor (TX5 k).2.2.1 = some (tyX5 k) := by decide +kernel
abbrev cX5_init : ByteArray := prog_7_method_1_code
def yX5_init : MethodName := ⟨RX5, "<init>", "()V"⟩
abbrev cX5_size : ByteArray := prog_7_method_2_code
def yX5_size : MethodName := ⟨RX5, "size", "()I"⟩
abbrev cX5_hasRoom : ByteArray := prog_7_method_3_code
def yX5_hasRoom : MethodName := ⟨RX5, "hasRoom", "(I)Z"⟩
abbrev cX5_put : ByteArray := prog_7_method_4_code
def yX5_put : MethodName := ⟨RX5, "put", "(I)V"⟩
abbrev cX5_clear : ByteArray := prog_7_method_5_code
def yX5_clear : MethodName := ⟨RX5, "clear", "()V"⟩
abbrev cX5_place : ByteArray := prog_7_method_6_code
def yX5_place : MethodName := ⟨RX5, "place", "()I"⟩
abbrev cX5_textRead : ByteArray := prog_7_method_7_code
def yX5_textRead : MethodName := ⟨RX5, "textRead", "()LUnlikeCoins$Text;"⟩
abbrev cX5_readText : ByteArray := prog_7_method_8_code
def yX5_readText : MethodName := ⟨RX5, "readText", "()Z"⟩
abbrev cX5_readToken : ByteArray := prog_7_method_9_code
def yX5_readToken : MethodName := ⟨RX5, "readToken", "(I)Z"⟩
abbrev cX5_readEither : ByteArray := prog_7_method_10_code
def yX5_readEither : MethodName := ⟨RX5, "readEither", "()Z"⟩
abbrev cX5_readBoth : ByteArray := prog_7_method_11_code
def yX5_readBoth : MethodName := ⟨RX5, "readBoth", "()Z"⟩
abbrev cX5_readDenied : ByteArray := prog_7_method_12_code
def yX5_readDenied : MethodName := ⟨RX5, "readDenied", "()Z"⟩
abbrev cX5_readCompared : ByteArray := prog_7_method_13_code
def yX5_readCompared : MethodName := ⟨RX5, "readCompared", "()Z"⟩
abbrev cX5_readSum : ByteArray := prog_7_method_14_code
def yX5_readSum : MethodName := ⟨RX5, "readSum", "()Z"⟩
abbrev cX5_readTerm : ByteArray := prog_7_method_15_code
def yX5_readTerm : MethodName := ⟨RX5, "readTerm", "()Z"⟩
abbrev cX5_readOne : ByteArray := prog_7_method_16_code
def yX5_readOne : MethodName := ⟨RX5, "readOne", "()Z"⟩
abbrev cX5_emit : ByteArray := prog_7_method_17_code
def yX5_emit : MethodName := ⟨RX5, "emit", "(I)V"⟩
abbrev cX5_advance : ByteArray := prog_7_method_18_code
def yX5_advance : MethodName := ⟨RX5, "advance", "()V"⟩
abbrev cX5_readWord : ByteArray := prog_7_method_19_code
def yX5_readWord : MethodName := ⟨RX5, "readWord", "()V"⟩
abbrev cX5_isWord : ByteArray := prog_7_method_20_code
def yX5_isWord : MethodName := ⟨RX5, "isWord", "(I)Z"⟩
abbrev cX5_readNumber : ByteArray := prog_7_method_21_code
def yX5_readNumber : MethodName := ⟨RX5, "readNumber", "()V"⟩
abbrev cX5_isBlank : ByteArray := prog_7_method_22_code
def yX5_isBlank : MethodName := ⟨RX5, "isBlank", "(I)Z"⟩
abbrev cX5_isLetter : ByteArray := prog_7_method_23_code
def yX5_isLetter : MethodName := ⟨RX5, "isLetter", "(I)Z"⟩
abbrev cX5_isDigit : ByteArray := prog_7_method_24_code
def yX5_isDigit : MethodName := ⟨RX5, "isDigit", "(I)Z"⟩
def RX6 : String := "UnlikeCoins$Scarce"
def TX6 : u_T := fun k => match k with
  | 0 => ("UnlikeCoins$Sort", "told", "I", true)
  | _ => ("UnlikeCoins$Sort", "more", "I", true)
def tyX6 : Nat → FieldType := fun k => match k with
  | 0 => .int
  | _ => .int
abbrev wsX60 : List Cond := u_ws RX6 TX6 2
theorem nmX6 : ∀ a, a < 2 → ∀ b, b < 2 → a ≠ b → (TX6 a).2.1 ≠ (TX6 b).2.1 := by decide +kernel
theorem tyX6_ok : ∀ k, k < 2 → parseFieldDescriptor (TX6 k).2.2.1 = some (tyX6 k) := by decide +kernel
abbrev cX6_init : ByteArray := prog_8_method_1_code
def yX6_init : MethodName := ⟨RX6, "<init>", "(II)V"⟩
abbrev cX6_kind : ByteArray := prog_8_method_2_code
def yX6_kind : MethodName := ⟨RX6, "kind", "()I"⟩
abbrev cX6_worthOf : ByteArray := prog_8_method_3_code
def yX6_worthOf : MethodName := ⟨RX6, "worthOf", "(I)I"⟩
def RX7 : String := "UnlikeCoins$Sheet"
def TX7 : u_T := fun k => match k with
  | 0 => ("UnlikeCoins$Sheet", "row", "[I", true)
  | 1 => ("UnlikeCoins$Sheet", "form", "I", false)
  | _ => ("UnlikeCoins$Sheet", "size", "I", false)
def tyX7 : Nat → FieldType := fun k => match k with
  | 0 => .array .int
  | 1 => .int
  | _ => .int
abbrev wsX70 : List Cond := u_ws RX7 TX7 3
theorem nmX7 : ∀ a, a < 3 → ∀ b, b < 3 → a ≠ b → (TX7 a).2.1 ≠ (TX7 b).2.1 := by decide +kernel
theorem tyX7_ok : ∀ k, k < 3 → parseFieldDescriptor (TX7 k).2.2.1 = some (tyX7 k) := by decide +kernel
abbrev cX7_init : ByteArray := prog_9_method_1_code
def yX7_init : MethodName := ⟨RX7, "<init>", "()V"⟩
abbrev cX7_isMissing : ByteArray := prog_9_method_2_code
def yX7_isMissing : MethodName := ⟨RX7, "isMissing", "()Z"⟩
abbrev cX7_cannotTell : ByteArray := prog_9_method_3_code
def yX7_cannotTell : MethodName := ⟨RX7, "cannotTell", "()Z"⟩
abbrev cX7_holds : ByteArray := prog_9_method_4_code
def yX7_holds : MethodName := ⟨RX7, "holds", "(II)Z"⟩
abbrev cX7_become : ByteArray := prog_9_method_5_code
def yX7_become : MethodName := ⟨RX7, "become", "(II)V"⟩
abbrev cX7_get : ByteArray := prog_9_method_6_code
def yX7_get : MethodName := ⟨RX7, "get", "(I)I"⟩
abbrev cX7_put : ByteArray := prog_9_method_7_code
def yX7_put : MethodName := ⟨RX7, "put", "(II)V"⟩
def RX8 : String := "UnlikeCoins$Sort"
def TX8 : u_T := fun k => match k with
  | 0 => ("UnlikeCoins$Sort", "told", "I", true)
  | _ => ("UnlikeCoins$Sort", "more", "I", true)
def tyX8 : Nat → FieldType := fun k => match k with
  | 0 => .int
  | _ => .int
abbrev wsX80 : List Cond := u_ws RX8 TX8 2
theorem nmX8 : ∀ a, a < 2 → ∀ b, b < 2 → a ≠ b → (TX8 a).2.1 ≠ (TX8 b).2.1 := by decide +kernel
theorem tyX8_ok : ∀ k, k < 2 → parseFieldDescriptor (TX8 k).2.2.1 = some (tyX8 k) := by decide +kernel
abbrev cX8_init : ByteArray := prog_10_method_1_code
def yX8_init : MethodName := ⟨RX8, "<init>", "(II)V"⟩
abbrev cX8_kind : ByteArray := prog_10_method_2_code
def yX8_kind : MethodName := ⟨RX8, "kind", "()I"⟩
abbrev cX8_together : ByteArray := prog_10_method_3_code
def yX8_together : MethodName := ⟨RX8, "together", "(I)I"⟩
abbrev cX8_leftOf : ByteArray := prog_10_method_4_code
def yX8_leftOf : MethodName := ⟨RX8, "leftOf", "(I)I"⟩
abbrev cX8_worthOf : ByteArray := prog_10_method_5_code
def yX8_worthOf : MethodName := ⟨RX8, "worthOf", "(I)I"⟩
def RX9 : String := "UnlikeCoins$Stamped"
def TX9 : u_T := fun k => match k with
  | 0 => ("UnlikeCoins$Sort", "told", "I", true)
  | _ => ("UnlikeCoins$Sort", "more", "I", true)
def tyX9 : Nat → FieldType := fun k => match k with
  | 0 => .int
  | _ => .int
abbrev wsX90 : List Cond := u_ws RX9 TX9 2
theorem nmX9 : ∀ a, a < 2 → ∀ b, b < 2 → a ≠ b → (TX9 a).2.1 ≠ (TX9 b).2.1 := by decide +kernel
theorem tyX9_ok : ∀ k, k < 2 → parseFieldDescriptor (TX9 k).2.2.1 = some (tyX9 k) := by decide +kernel
abbrev cX9_init : ByteArray := prog_11_method_1_code
def yX9_init : MethodName := ⟨RX9, "<init>", "(II)V"⟩
abbrev cX9_kind : ByteArray := prog_11_method_2_code
def yX9_kind : MethodName := ⟨RX9, "kind", "()I"⟩
abbrev cX9_together : ByteArray := prog_11_method_3_code
def yX9_together : MethodName := ⟨RX9, "together", "(I)I"⟩
def RX10 : String := "UnlikeCoins$Text"
def TX10 : u_T := fun k => match k with
  | 0 => ("UnlikeCoins$Text", "code", "[I", true)
  | 1 => ("UnlikeCoins$Text", "ends", "[I", true)
  | 2 => ("UnlikeCoins$Text", "stack", "[I", true)
  | _ => ("UnlikeCoins$Text", "height", "I", false)
def tyX10 : Nat → FieldType := fun k => match k with
  | 0 => .array .int
  | 1 => .array .int
  | 2 => .array .int
  | _ => .int
abbrev wsX100 : List Cond := u_ws RX10 TX10 4
theorem nmX10 : ∀ a, a < 4 → ∀ b, b < 4 → a ≠ b → (TX10 a).2.1 ≠ (TX10 b).2.1 := by decide +kernel
theorem tyX10_ok : ∀ k, k < 4 → parseFieldDescriptor (TX10 k).2.2.1 = some (tyX10 k) := by decide +kernel
abbrev cX10_init : ByteArray := prog_12_method_1_code
def yX10_init : MethodName := ⟨RX10, "<init>", "([I[I)V"⟩
abbrev cX10_value : ByteArray := prog_12_method_2_code
def yX10_value : MethodName := ⟨RX10, "value", "(I[I)I"⟩
abbrev cX10_step : ByteArray := prog_12_method_3_code
def yX10_step : MethodName := ⟨RX10, "step", "(I[I)V"⟩
abbrev cX10_reckon : ByteArray := prog_12_method_4_code
def yX10_reckon : MethodName := ⟨RX10, "reckon", "(III)I"⟩
abbrev cX10_push : ByteArray := prog_12_method_5_code
def yX10_push : MethodName := ⟨RX10, "push", "(I)V"⟩
abbrev cX10_pop : ByteArray := prog_12_method_6_code
def yX10_pop : MethodName := ⟨RX10, "pop", "()I"⟩
def RX11 : String := "UnlikeCoins"
def TX11 : u_T := fun k => match k with
  | 0 => ("UnlikeCoins", "sorts", "[LUnlikeCoins$Sort;", true)
  | 1 => ("UnlikeCoins", "purses", "[LUnlikeCoins$Purse;", true)
  | 2 => ("UnlikeCoins", "thoughts", "[LUnlikeCoins$Purse;", true)
  | 3 => ("UnlikeCoins", "thought", "LUnlikeCoins$Purse;", true)
  | 4 => ("UnlikeCoins", "trial", "LUnlikeCoins$Purse;", true)
  | 5 => ("UnlikeCoins", "texts", "[LUnlikeCoins$Text;", true)
  | 6 => ("UnlikeCoins", "sheets", "[LUnlikeCoins$Sheet;", true)
  | 7 => ("UnlikeCoins", "reader", "LUnlikeCoins$Reader;", true)
  | 8 => ("UnlikeCoins", "kept", "LUnlikeCoins$Image;", true)
  | 9 => ("UnlikeCoins", "names", "[I", true)
  | 10 => ("UnlikeCoins", "sortCount", "I", false)
  | 11 => ("UnlikeCoins", "purseCount", "I", false)
  | 12 => ("UnlikeCoins", "textCount", "I", false)
  | 13 => ("UnlikeCoins", "year", "I", false)
  | _ => ("UnlikeCoins", "law", "I", false)
def tyX11 : Nat → FieldType := fun k => match k with
  | 0 => .array (.object "UnlikeCoins$Sort")
  | 1 => .array (.object "UnlikeCoins$Purse")
  | 2 => .array (.object "UnlikeCoins$Purse")
  | 3 => .object "UnlikeCoins$Purse"
  | 4 => .object "UnlikeCoins$Purse"
  | 5 => .array (.object "UnlikeCoins$Text")
  | 6 => .array (.object "UnlikeCoins$Sheet")
  | 7 => .object "UnlikeCoins$Reader"
  | 8 => .object "UnlikeCoins$Image"
  | 9 => .array .int
  | 10 => .int
  | 11 => .int
  | 12 => .int
  | 13 => .int
  | _ => .int
abbrev wsX110 : List Cond := u_ws RX11 TX11 15
theorem nmX11 : ∀ a, a < 15 → ∀ b, b < 15 → a ≠ b → (TX11 a).2.1 ≠ (TX11 b).2.1 := by decide +kernel
theorem tyX11_ok : ∀ k, k < 15 → parseFieldDescriptor (TX11 k).2.2.1 = some (tyX11 k) := by decide +kernel
abbrev cX11_init : ByteArray := prog_1_method_1_code
def yX11_init : MethodName := ⟨RX11, "<init>", "()V"⟩
abbrev cX11_count : ByteArray := prog_1_method_2_code
def yX11_count : MethodName := ⟨RX11, "count", "(I)I"⟩
abbrev cX11_feed : ByteArray := prog_1_method_3_code
def yX11_feed : MethodName := ⟨RX11, "feed", "(IIIIII)I"⟩
abbrev cX11_text : ByteArray := prog_1_method_4_code
def yX11_text : MethodName := ⟨RX11, "text", "()I"⟩
abbrev cX11_force : ByteArray := prog_1_method_5_code
def yX11_force : MethodName := ⟨RX11, "force", "(I)I"⟩
abbrev cX11_asks : ByteArray := prog_1_method_6_code
def yX11_asks : MethodName := ⟨RX11, "asks", "(IIII)I"⟩
abbrev cX11_sort : ByteArray := prog_1_method_7_code
def yX11_sort : MethodName := ⟨RX11, "sort", "(III)I"⟩
abbrev cX11_told : ByteArray := prog_1_method_8_code
def yX11_told : MethodName := ⟨RX11, "told", "(II)I"⟩
abbrev cX11_purse : ByteArray := prog_1_method_9_code
def yX11_purse : MethodName := ⟨RX11, "purse", "()I"⟩
abbrev cX11_set : ByteArray := prog_1_method_10_code
def yX11_set : MethodName := ⟨RX11, "set", "(III)I"⟩
abbrev cX11_of : ByteArray := prog_1_method_11_code
def yX11_of : MethodName := ⟨RX11, "of", "(II)I"⟩
abbrev cX11_all : ByteArray := prog_1_method_12_code
def yX11_all : MethodName := ⟨RX11, "all", "(II)I"⟩
abbrev cX11_often : ByteArray := prog_1_method_13_code
def yX11_often : MethodName := ⟨RX11, "often", "(III)I"⟩
abbrev cX11_buy : ByteArray := prog_1_method_14_code
def yX11_buy : MethodName := ⟨RX11, "buy", "(II)I"⟩
abbrev cX11_two : ByteArray := prog_1_method_15_code
def yX11_two : MethodName := ⟨RX11, "two", "(IIII)I"⟩
abbrev cX11_price : ByteArray := prog_1_method_16_code
def yX11_price : MethodName := ⟨RX11, "price", "(I)I"⟩
abbrev cX11_idle : ByteArray := prog_1_method_17_code
def yX11_idle : MethodName := ⟨RX11, "idle", "(II)I"⟩
abbrev cX11_dearest : ByteArray := prog_1_method_18_code
def yX11_dearest : MethodName := ⟨RX11, "dearest", "(II)I"⟩
abbrev cX11_swap : ByteArray := prog_1_method_19_code
def yX11_swap : MethodName := ⟨RX11, "swap", "(III)I"⟩
abbrev cX11_best : ByteArray := prog_1_method_20_code
def yX11_best : MethodName := ⟨RX11, "best", "(IIII)I"⟩
abbrev cX11_lacks : ByteArray := prog_1_method_21_code
def yX11_lacks : MethodName := ⟨RX11, "lacks", "(II)I"⟩
abbrev cX11_thief : ByteArray := prog_1_method_22_code
def yX11_thief : MethodName := ⟨RX11, "thief", "(III)I"⟩
abbrev cX11_rob : ByteArray := prog_1_method_23_code
def yX11_rob : MethodName := ⟨RX11, "rob", "(I)I"⟩
abbrev cX11_wage : ByteArray := prog_1_method_24_code
def yX11_wage : MethodName := ⟨RX11, "wage", "(IIII)I"⟩
abbrev cX11_strike : ByteArray := prog_1_method_25_code
def yX11_strike : MethodName := ⟨RX11, "strike", "(II)I"⟩
abbrev cX11_pass : ByteArray := prog_1_method_26_code
def yX11_pass : MethodName := ⟨RX11, "pass", "()I"⟩
abbrev cX11_judge : ByteArray := prog_1_method_27_code
def yX11_judge : MethodName := ⟨RX11, "judge", "(II)I"⟩
abbrev cX11_whose : ByteArray := prog_1_method_28_code
def yX11_whose : MethodName := ⟨RX11, "whose", "(I)I"⟩
abbrev cX11_was : ByteArray := prog_1_method_29_code
def yX11_was : MethodName := ⟨RX11, "was", "(II)I"⟩
abbrev cX11_film : ByteArray := prog_1_method_30_code
def yX11_film : MethodName := ⟨RX11, "film", "(III)I"⟩
abbrev cX11_laws : ByteArray := prog_1_method_31_code
def yX11_laws : MethodName := ⟨RX11, "laws", "(III)I"⟩
abbrev cX11_drawn : ByteArray := prog_1_method_32_code
def yX11_drawn : MethodName := ⟨RX11, "drawn", "(II)I"⟩
abbrev cX11_mean : ByteArray := prog_1_method_33_code
def yX11_mean : MethodName := ⟨RX11, "mean", "(IIII)J"⟩
abbrev cX11_image : ByteArray := prog_1_method_34_code
def yX11_image : MethodName := ⟨RX11, "image", "()I"⟩
abbrev cX11_back : ByteArray := prog_1_method_35_code
def yX11_back : MethodName := ⟨RX11, "back", "()I"⟩
abbrev cX11_sheet : ByteArray := prog_1_method_36_code
def yX11_sheet : MethodName := ⟨RX11, "sheet", "(III)I"⟩
abbrev cX11_cell : ByteArray := prog_1_method_37_code
def yX11_cell : MethodName := ⟨RX11, "cell", "(III)I"⟩
abbrev cX11_copy : ByteArray := prog_1_method_38_code
def yX11_copy : MethodName := ⟨RX11, "copy", "(IIIII)I"⟩
abbrev cX11_coinsBy : ByteArray := prog_1_method_39_code
def yX11_coinsBy : MethodName := ⟨RX11, "coinsBy", "(IIII)I"⟩
abbrev cX11_taken : ByteArray := prog_1_method_40_code
def yX11_taken : MethodName := ⟨RX11, "taken", "(II)I"⟩
abbrev cX11_within : ByteArray := prog_1_method_41_code
def yX11_within : MethodName := ⟨RX11, "within", "(III)Z"⟩
abbrev cX11_isByte : ByteArray := prog_1_method_42_code
def yX11_isByte : MethodName := ⟨RX11, "isByte", "(I)Z"⟩
abbrev cX11_isPrice : ByteArray := prog_1_method_43_code
def yX11_isPrice : MethodName := ⟨RX11, "isPrice", "(I)Z"⟩
abbrev cX11_sortAt : ByteArray := prog_1_method_44_code
def yX11_sortAt : MethodName := ⟨RX11, "sortAt", "(I)LUnlikeCoins$Sort;"⟩
abbrev cX11_purseAt : ByteArray := prog_1_method_45_code
def yX11_purseAt : MethodName := ⟨RX11, "purseAt", "(I)LUnlikeCoins$Purse;"⟩
abbrev cX11_sheetAt : ByteArray := prog_1_method_46_code
def yX11_sheetAt : MethodName := ⟨RX11, "sheetAt", "(I)LUnlikeCoins$Sheet;"⟩
abbrev cX11_newSort : ByteArray := prog_1_method_47_code
def yX11_newSort : MethodName := ⟨RX11, "newSort", "(III)LUnlikeCoins$Sort;"⟩
abbrev cX11_isOfKind : ByteArray := prog_1_method_48_code
def yX11_isOfKind : MethodName := ⟨RX11, "isOfKind", "(LUnlikeCoins$Sort;I)Z"⟩
abbrev cX11_nameAll : ByteArray := prog_1_method_49_code
def yX11_nameAll : MethodName := ⟨RX11, "nameAll", "(IIIII)V"⟩
abbrev cX11_says : ByteArray := prog_1_method_50_code
def yX11_says : MethodName := ⟨RX11, "says", "(II)I"⟩
abbrev cX11_worthAt : ByteArray := prog_1_method_51_code
def yX11_worthAt : MethodName := ⟨RX11, "worthAt", "(II)I"⟩
abbrev cX11_feeFor : ByteArray := prog_1_method_52_code
def yX11_feeFor : MethodName := ⟨RX11, "feeFor", "(II)I"⟩
abbrev cX11_timesAt : ByteArray := prog_1_method_53_code
def yX11_timesAt : MethodName := ⟨RX11, "timesAt", "(LUnlikeCoins$Purse;I)I"⟩
abbrev cX11_timesWith : ByteArray := prog_1_method_54_code
def yX11_timesWith : MethodName := ⟨RX11, "timesWith", "(LUnlikeCoins$Purse;III)I"⟩
abbrev cX11_timesOfAll : ByteArray := prog_1_method_55_code
def yX11_timesOfAll : MethodName := ⟨RX11, "timesOfAll", "(II)I"⟩
abbrev cX11_canSwap : ByteArray := prog_1_method_56_code
def yX11_canSwap : MethodName := ⟨RX11, "canSwap", "(LUnlikeCoins$Purse;LUnlikeCoins$Purse;II)Z"⟩
abbrev cX11_tryWage : ByteArray := prog_1_method_57_code
def yX11_tryWage : MethodName := ⟨RX11, "tryWage", "(LUnlikeCoins$Purse;II)I"⟩
abbrev cX11_tryPurse : ByteArray := prog_1_method_58_code
def yX11_tryPurse : MethodName := ⟨RX11, "tryPurse", "(I)I"⟩
abbrev cX11_passFor : ByteArray := prog_1_method_59_code
def yX11_passFor : MethodName := ⟨RX11, "passFor", "(LUnlikeCoins$Purse;)V"⟩
abbrev cX11_firstOther : ByteArray := prog_1_method_60_code
def yX11_firstOther : MethodName := ⟨RX11, "firstOther", "(LUnlikeCoins$Sheet;LUnlikeCoins$Purse;)I"⟩
abbrev cX11_lotBehind : ByteArray := prog_1_method_61_code
def yX11_lotBehind : MethodName := ⟨RX11, "lotBehind", "(J)J"⟩
abbrev cX11_drawnBy : ByteArray := prog_1_method_62_code
def yX11_drawnBy : MethodName := ⟨RX11, "drawnBy", "(II)I"⟩
abbrev cX11_commonDivisor : ByteArray := prog_1_method_63_code
def yX11_commonDivisor : MethodName := ⟨RX11, "commonDivisor", "(II)I"⟩
def RX12 : String := "UnlikeCoinsModel"
def TX12 : u_T := fun k => match k with
  | 0 => ("UnlikeCoinsModel", "sorts", "I", false)
  | 1 => ("UnlikeCoinsModel", "kind", "[I", true)
  | 2 => ("UnlikeCoinsModel", "toldOf", "[I", true)
  | 3 => ("UnlikeCoinsModel", "moreOf", "[I", true)
  | 4 => ("UnlikeCoinsModel", "purses", "I", false)
  | 5 => ("UnlikeCoinsModel", "has", "[I", true)
  | 6 => ("UnlikeCoinsModel", "year", "I", false)
  | 7 => ("UnlikeCoinsModel", "tape", "[I", true)
  | 8 => ("UnlikeCoinsModel", "taped", "I", false)
  | 9 => ("UnlikeCoinsModel", "codes", "[I", true)
  | 10 => ("UnlikeCoinsModel", "starts", "[I", true)
  | 11 => ("UnlikeCoinsModel", "texts", "I", false)
  | 12 => ("UnlikeCoinsModel", "rule", "I", false)
  | 13 => ("UnlikeCoinsModel", "hasImage", "Z", false)
  | 14 => ("UnlikeCoinsModel", "imageSorts", "I", false)
  | 15 => ("UnlikeCoinsModel", "imagePurses", "I", false)
  | 16 => ("UnlikeCoinsModel", "imageYear", "I", false)
  | 17 => ("UnlikeCoinsModel", "imageRule", "I", false)
  | 18 => ("UnlikeCoinsModel", "imageHas", "[I", true)
  | 19 => ("UnlikeCoinsModel", "sheetSort", "[I", true)
  | 20 => ("UnlikeCoinsModel", "sheetSize", "[I", true)
  | 21 => ("UnlikeCoinsModel", "cells", "[I", true)
  | 22 => ("UnlikeCoinsModel", "law", "[I", true)
  | 23 => ("UnlikeCoinsModel", "at", "I", false)
  | 24 => ("UnlikeCoinsModel", "begun", "I", false)
  | 25 => ("UnlikeCoinsModel", "token", "I", false)
  | 26 => ("UnlikeCoinsModel", "value", "I", false)
  | 27 => ("UnlikeCoinsModel", "words", "[I", true)
  | 28 => ("UnlikeCoinsModel", "held", "[I", true)
  | 29 => ("UnlikeCoinsModel", "heldMany", "I", false)
  | 30 => ("UnlikeCoinsModel", "opens", "I", false)
  | 31 => ("UnlikeCoinsModel", "out", "I", false)
  | 32 => ("UnlikeCoinsModel", "stack", "[I", true)
  | 33 => ("UnlikeCoinsModel", "named", "[I", true)
  | 34 => ("UnlikeCoinsModel", "left", "[I", true)
  | 35 => ("UnlikeCoinsModel", "began", "[I", true)
  | 36 => ("UnlikeCoinsModel", "lies", "[I", true)
  | 37 => ("UnlikeCoinsModel", "row", "[I", true)
  | 38 => ("UnlikeCoinsModel", "thought", "[I", true)
  | _ => ("UnlikeCoinsModel", "keptHas", "[I", true)
def tyX12 : Nat → FieldType := fun k => match k with
  | 0 => .int
  | 1 => .array .int
  | 2 => .array .int
  | 3 => .array .int
  | 4 => .int
  | 5 => .array .int
  | 6 => .int
  | 7 => .array .int
  | 8 => .int
  | 9 => .array .int
  | 10 => .array .int
  | 11 => .int
  | 12 => .int
  | 13 => .boolean
  | 14 => .int
  | 15 => .int
  | 16 => .int
  | 17 => .int
  | 18 => .array .int
  | 19 => .array .int
  | 20 => .array .int
  | 21 => .array .int
  | 22 => .array .int
  | 23 => .int
  | 24 => .int
  | 25 => .int
  | 26 => .int
  | 27 => .array .int
  | 28 => .array .int
  | 29 => .int
  | 30 => .int
  | 31 => .int
  | 32 => .array .int
  | 33 => .array .int
  | 34 => .array .int
  | 35 => .array .int
  | 36 => .array .int
  | 37 => .array .int
  | 38 => .array .int
  | _ => .array .int
abbrev wsX120 : List Cond := u_ws RX12 TX12 40
theorem nmX12 : ∀ a, a < 40 → ∀ b, b < 40 → a ≠ b → (TX12 a).2.1 ≠ (TX12 b).2.1 := by decide +kernel
theorem tyX12_ok : ∀ k, k < 40 → parseFieldDescriptor (TX12 k).2.2.1 = some (tyX12 k) := by decide +kernel
abbrev cX12_init : ByteArray := prog_14_method_1_code
def yX12_init : MethodName := ⟨RX12, "<init>", "()V"⟩
abbrev cX12_in : ByteArray := prog_14_method_3_code
def yX12_in : MethodName := ⟨RX12, "in", "(III)Z"⟩
abbrev cX12_within : ByteArray := prog_14_method_4_code
def yX12_within : MethodName := ⟨RX12, "within", "(III)I"⟩
abbrev cX12_isSort : ByteArray := prog_14_method_5_code
def yX12_isSort : MethodName := ⟨RX12, "isSort", "(I)Z"⟩
abbrev cX12_isPurse : ByteArray := prog_14_method_6_code
def yX12_isPurse : MethodName := ⟨RX12, "isPurse", "(I)Z"⟩
abbrev cX12_isPrice : ByteArray := prog_14_method_7_code
def yX12_isPrice : MethodName := ⟨RX12, "isPrice", "(I)Z"⟩
abbrev cX12_count : ByteArray := prog_14_method_8_code
def yX12_count : MethodName := ⟨RX12, "count", "(I)I"⟩
abbrev cX12_isByte : ByteArray := prog_14_method_9_code
def yX12_isByte : MethodName := ⟨RX12, "isByte", "(I)Z"⟩
abbrev cX12_feed : ByteArray := prog_14_method_10_code
def yX12_feed : MethodName := ⟨RX12, "feed", "(IIIIII)I"⟩
abbrev cX12_wordFrom : ByteArray := prog_14_method_11_code
def yX12_wordFrom : MethodName := ⟨RX12, "wordFrom", "(II)I"⟩
abbrev cX12_next : ByteArray := prog_14_method_12_code
def yX12_next : MethodName := ⟨RX12, "next", "()V"⟩
abbrev cX12_rank : ByteArray := prog_14_method_13_code
def yX12_rank : MethodName := ⟨RX12, "rank", "(I)I"⟩
abbrev cX12_puts : ByteArray := prog_14_method_14_code
def yX12_puts : MethodName := ⟨RX12, "puts", "(I)V"⟩
abbrev cX12_unwinds : ByteArray := prog_14_method_15_code
def yX12_unwinds : MethodName := ⟨RX12, "unwinds", "(I)V"⟩
abbrev cX12_holds : ByteArray := prog_14_method_16_code
def yX12_holds : MethodName := ⟨RX12, "holds", "(I)V"⟩
abbrev cX12_opensOne : ByteArray := prog_14_method_17_code
def yX12_opensOne : MethodName := ⟨RX12, "opensOne", "(I)Z"⟩
abbrev cX12_between : ByteArray := prog_14_method_18_code
def yX12_between : MethodName := ⟨RX12, "between", "(I)Z"⟩
abbrev cX12_signOf : ByteArray := prog_14_method_19_code
def yX12_signOf : MethodName := ⟨RX12, "signOf", "()I"⟩
abbrev cX12_eRead : ByteArray := prog_14_method_20_code
def yX12_eRead : MethodName := ⟨RX12, "eRead", "()Z"⟩
abbrev cX12_text : ByteArray := prog_14_method_21_code
def yX12_text : MethodName := ⟨RX12, "text", "()I"⟩
abbrev cX12_two : ByteArray := prog_14_method_22_code
def yX12_two : MethodName := ⟨RX12, "two", "(III)I"⟩
abbrev cX12_says : ByteArray := prog_14_method_23_code
def yX12_says : MethodName := ⟨RX12, "says", "(I)I"⟩
abbrev cX12_force : ByteArray := prog_14_method_24_code
def yX12_force : MethodName := ⟨RX12, "force", "(I)I"⟩
abbrev cX12_asksOf : ByteArray := prog_14_method_25_code
def yX12_asksOf : MethodName := ⟨RX12, "asksOf", "(IIIIII)I"⟩
abbrev cX12_asks : ByteArray := prog_14_method_26_code
def yX12_asks : MethodName := ⟨RX12, "asks", "(IIII)I"⟩
abbrev cX12_worthOf : ByteArray := prog_14_method_27_code
def yX12_worthOf : MethodName := ⟨RX12, "worthOf", "(I)I"⟩
abbrev cX12_feeOf : ByteArray := prog_14_method_28_code
def yX12_feeOf : MethodName := ⟨RX12, "feeOf", "(II)I"⟩
abbrev cX12_sort : ByteArray := prog_14_method_29_code
def yX12_sort : MethodName := ⟨RX12, "sort", "(III)I"⟩
abbrev cX12_told : ByteArray := prog_14_method_30_code
def yX12_told : MethodName := ⟨RX12, "told", "(II)I"⟩
abbrev cX12_purse : ByteArray := prog_14_method_31_code
def yX12_purse : MethodName := ⟨RX12, "purse", "()I"⟩
abbrev cX12_set : ByteArray := prog_14_method_32_code
def yX12_set : MethodName := ⟨RX12, "set", "(III)I"⟩
abbrev cX12_of : ByteArray := prog_14_method_33_code
def yX12_of : MethodName := ⟨RX12, "of", "(II)I"⟩
abbrev cX12_together : ByteArray := prog_14_method_34_code
def yX12_together : MethodName := ⟨RX12, "together", "(II)I"⟩
abbrev cX12_remains : ByteArray := prog_14_method_35_code
def yX12_remains : MethodName := ⟨RX12, "remains", "(II)I"⟩
abbrev cX12_coinWorth : ByteArray := prog_14_method_36_code
def yX12_coinWorth : MethodName := ⟨RX12, "coinWorth", "(II)I"⟩
abbrev cX12_coinsOf : ByteArray := prog_14_method_37_code
def yX12_coinsOf : MethodName := ⟨RX12, "coinsOf", "(I)I"⟩
abbrev cX12_all : ByteArray := prog_14_method_38_code
def yX12_all : MethodName := ⟨RX12, "all", "(II)I"⟩
abbrev cX12_thinksOf : ByteArray := prog_14_method_39_code
def yX12_thinksOf : MethodName := ⟨RX12, "thinksOf", "(I)V"⟩
abbrev cX12_nextLaid : ByteArray := prog_14_method_40_code
def yX12_nextLaid : MethodName := ⟨RX12, "nextLaid", "()I"⟩
abbrev cX12_lays : ByteArray := prog_14_method_41_code
def yX12_lays : MethodName := ⟨RX12, "lays", "(I)Z"⟩
abbrev cX12_oftenNow : ByteArray := prog_14_method_42_code
def yX12_oftenNow : MethodName := ⟨RX12, "oftenNow", "(I)I"⟩
abbrev cX12_oftenOf : ByteArray := prog_14_method_43_code
def yX12_oftenOf : MethodName := ⟨RX12, "oftenOf", "(II)I"⟩
abbrev cX12_leftNow : ByteArray := prog_14_method_44_code
def yX12_leftNow : MethodName := ⟨RX12, "leftNow", "(I)I"⟩
abbrev cX12_often : ByteArray := prog_14_method_45_code
def yX12_often : MethodName := ⟨RX12, "often", "(III)I"⟩
abbrev cX12_comesTrue : ByteArray := prog_14_method_46_code
def yX12_comesTrue : MethodName := ⟨RX12, "comesTrue", "(I)I"⟩
abbrev cX12_buy : ByteArray := prog_14_method_47_code
def yX12_buy : MethodName := ⟨RX12, "buy", "(II)I"⟩
abbrev cX12_worthTwo : ByteArray := prog_14_method_48_code
def yX12_worthTwo : MethodName := ⟨RX12, "worthTwo", "(IIII)I"⟩
abbrev cX12_two_ : ByteArray := prog_14_method_49_code
def yX12_two_ : MethodName := ⟨RX12, "two", "(IIII)I"⟩
abbrev cX12_oftenOfAll : ByteArray := prog_14_method_50_code
def yX12_oftenOfAll : MethodName := ⟨RX12, "oftenOfAll", "(I)I"⟩
abbrev cX12_price : ByteArray := prog_14_method_51_code
def yX12_price : MethodName := ⟨RX12, "price", "(I)I"⟩
abbrev cX12_idle : ByteArray := prog_14_method_52_code
def yX12_idle : MethodName := ⟨RX12, "idle", "(II)I"⟩
abbrev cX12_dearest : ByteArray := prog_14_method_53_code
def yX12_dearest : MethodName := ⟨RX12, "dearest", "(II)I"⟩
abbrev cX12_areTwo : ByteArray := prog_14_method_54_code
def yX12_areTwo : MethodName := ⟨RX12, "areTwo", "(II)Z"⟩
abbrev cX12_canSwap : ByteArray := prog_14_method_55_code
def yX12_canSwap : MethodName := ⟨RX12, "canSwap", "(IIII)Z"⟩
abbrev cX12_swaps : ByteArray := prog_14_method_56_code
def yX12_swaps : MethodName := ⟨RX12, "swaps", "(IIII)V"⟩
abbrev cX12_swap : ByteArray := prog_14_method_57_code
def yX12_swap : MethodName := ⟨RX12, "swap", "(III)I"⟩
abbrev cX12_best : ByteArray := prog_14_method_58_code
def yX12_best : MethodName := ⟨RX12, "best", "(IIII)I"⟩
abbrev cX12_oftenWithMore : ByteArray := prog_14_method_59_code
def yX12_oftenWithMore : MethodName := ⟨RX12, "oftenWithMore", "(II)I"⟩
abbrev cX12_lacks : ByteArray := prog_14_method_60_code
def yX12_lacks : MethodName := ⟨RX12, "lacks", "(II)I"⟩
abbrev cX12_thief : ByteArray := prog_14_method_61_code
def yX12_thief : MethodName := ⟨RX12, "thief", "(III)I"⟩
abbrev cX12_rob : ByteArray := prog_14_method_62_code
def yX12_rob : MethodName := ⟨RX12, "rob", "(I)I"⟩
abbrev cX12_nextRow : ByteArray := prog_14_method_63_code
def yX12_nextRow : MethodName := ⟨RX12, "nextRow", "(I)Z"⟩
abbrev cX12_oftenWithRow : ByteArray := prog_14_method_64_code
def yX12_oftenWithRow : MethodName := ⟨RX12, "oftenWithRow", "(III)I"⟩
abbrev cX12_rowDigits : ByteArray := prog_14_method_65_code
def yX12_rowDigits : MethodName := ⟨RX12, "rowDigits", "(I)I"⟩
abbrev cX12_wage : ByteArray := prog_14_method_66_code
def yX12_wage : MethodName := ⟨RX12, "wage", "(IIII)I"⟩
abbrev cX12_strike : ByteArray := prog_14_method_67_code
def yX12_strike : MethodName := ⟨RX12, "strike", "(II)I"⟩
abbrev cX12_pass : ByteArray := prog_14_method_68_code
def yX12_pass : MethodName := ⟨RX12, "pass", "()I"⟩
abbrev cX12_sheetWrong : ByteArray := prog_14_method_69_code
def yX12_sheetWrong : MethodName := ⟨RX12, "sheetWrong", "(I)I"⟩
abbrev cX12_unlikeThought : ByteArray := prog_14_method_70_code
def yX12_unlikeThought : MethodName := ⟨RX12, "unlikeThought", "(I)I"⟩
abbrev cX12_unlike : ByteArray := prog_14_method_71_code
def yX12_unlike : MethodName := ⟨RX12, "unlike", "(II)I"⟩
abbrev cX12_judge : ByteArray := prog_14_method_72_code
def yX12_judge : MethodName := ⟨RX12, "judge", "(II)I"⟩
abbrev cX12_whose : ByteArray := prog_14_method_73_code
def yX12_whose : MethodName := ⟨RX12, "whose", "(I)I"⟩
abbrev cX12_was : ByteArray := prog_14_method_74_code
def yX12_was : MethodName := ⟨RX12, "was", "(II)I"⟩
abbrev cX12_film : ByteArray := prog_14_method_75_code
def yX12_film : MethodName := ⟨RX12, "film", "(III)I"⟩
abbrev cX12_laws : ByteArray := prog_14_method_76_code
def yX12_laws : MethodName := ⟨RX12, "laws", "(III)I"⟩
abbrev cX12_couldBy : ByteArray := prog_14_method_77_code
def yX12_couldBy : MethodName := ⟨RX12, "couldBy", "(II)I"⟩
abbrev cX12_isDrawn : ByteArray := prog_14_method_78_code
def yX12_isDrawn : MethodName := ⟨RX12, "isDrawn", "(II)Z"⟩
abbrev cX12_drawn : ByteArray := prog_14_method_79_code
def yX12_drawn : MethodName := ⟨RX12, "drawn", "(II)I"⟩
abbrev cX12_lowest : ByteArray := prog_14_method_80_code
def yX12_lowest : MethodName := ⟨RX12, "lowest", "(JJI)J"⟩
abbrev cX12_mean : ByteArray := prog_14_method_81_code
def yX12_mean : MethodName := ⟨RX12, "mean", "(IIII)J"⟩
abbrev cX12_image : ByteArray := prog_14_method_82_code
def yX12_image : MethodName := ⟨RX12, "image", "()I"⟩
abbrev cX12_back : ByteArray := prog_14_method_83_code
def yX12_back : MethodName := ⟨RX12, "back", "()I"⟩
abbrev cX12_sheet : ByteArray := prog_14_method_84_code
def yX12_sheet : MethodName := ⟨RX12, "sheet", "(III)I"⟩
abbrev cX12_cell : ByteArray := prog_14_method_85_code
def yX12_cell : MethodName := ⟨RX12, "cell", "(III)I"⟩
abbrev cX12_copy : ByteArray := prog_14_method_86_code
def yX12_copy : MethodName := ⟨RX12, "copy", "(IIIII)I"⟩
abbrev cX12_coinsBy : ByteArray := prog_14_method_87_code
def yX12_coinsBy : MethodName := ⟨RX12, "coinsBy", "(IIII)I"⟩
abbrev cX12_isUnder : ByteArray := prog_14_method_88_code
def yX12_isUnder : MethodName := ⟨RX12, "isUnder", "(II)Z"⟩
abbrev cX12_taken : ByteArray := prog_14_method_89_code
def yX12_taken : MethodName := ⟨RX12, "taken", "(II)I"⟩
def RJx145de : String := "java/io/Serializable"
def TJx145de : u_T := fun k => match k with
  | _ => ("", "", "", false)
def tyJx145de : Nat → FieldType := fun k => match k with
  | _ => .int
abbrev wsJx145de0 : List Cond := u_ws RJx145de TJx145de 0
theorem nmJx145de : ∀ a, a < 0 → ∀ b, b < 0 → a ≠ b → (TJx145de a).2.1 ≠ (TJx145de b).2.1 := by decide +kernel
theorem tyJx145de_ok : ∀ k, k < 0 → parseFieldDescriptor (TJx145de k).2.2.1 = some (tyJx145de k) := by decide +kernel
def RJx9f9b0 : String := "java/lang/CharSequence"
def TJx9f9b0 : u_T := fun k => match k with
  | _ => ("", "", "", false)
def tyJx9f9b0 : Nat → FieldType := fun k => match k with
  | _ => .int
abbrev wsJx9f9b00 : List Cond := u_ws RJx9f9b0 TJx9f9b0 0
theorem nmJx9f9b0 : ∀ a, a < 0 → ∀ b, b < 0 → a ≠ b → (TJx9f9b0 a).2.1 ≠ (TJx9f9b0 b).2.1 := by decide +kernel
theorem tyJx9f9b0_ok : ∀ k, k < 0 → parseFieldDescriptor (TJx9f9b0 k).2.2.1 = some (tyJx9f9b0 k) := by decide +kernel
def RJ11 : String := "java/lang/Character"
def TJ11 : u_T := fun k => match k with
  | _ => ("", "", "", false)
def tyJ11 : Nat → FieldType := fun k => match k with
  | _ => .int
abbrev wsJ110 : List Cond := u_ws RJ11 TJ11 0
theorem nmJ11 : ∀ a, a < 0 → ∀ b, b < 0 → a ≠ b → (TJ11 a).2.1 ≠ (TJ11 b).2.1 := by decide +kernel
theorem tyJ11_ok : ∀ k, k < 0 → parseFieldDescriptor (TJ11 k).2.2.1 = some (tyJ11 k) := by decide +kernel
abbrev cJ11_isValidCodePoint_9a6ad : ByteArray := prog_15_method_11_code
def yJ11_isValidCodePoint_9a6ad : MethodName := ⟨RJ11, "isValidCodePoint", "(I)Z"⟩
abbrev cJ11_highSurrogate_5068e : ByteArray := prog_15_method_28_code
def yJ11_highSurrogate_5068e : MethodName := ⟨RJ11, "highSurrogate", "(I)C"⟩
abbrev cJ11_lowSurrogate_5068e : ByteArray := prog_15_method_29_code
def yJ11_lowSurrogate_5068e : MethodName := ⟨RJ11, "lowSurrogate", "(I)C"⟩
def RJx8e188 : String := "java/lang/Cloneable"
def TJx8e188 : u_T := fun k => match k with
  | _ => ("", "", "", false)
def tyJx8e188 : Nat → FieldType := fun k => match k with
  | _ => .int
abbrev wsJx8e1880 : List Cond := u_ws RJx8e188 TJx8e188 0
theorem nmJx8e188 : ∀ a, a < 0 → ∀ b, b < 0 → a ≠ b → (TJx8e188 a).2.1 ≠ (TJx8e188 b).2.1 := by decide +kernel
theorem tyJx8e188_ok : ∀ k, k < 0 → parseFieldDescriptor (TJx8e188 k).2.2.1 = some (tyJx8e188 k) := by decide +kernel
def RJxb160c : String := "java/lang/Comparable"
def TJxb160c : u_T := fun k => match k with
  | _ => ("", "", "", false)
def tyJxb160c : Nat → FieldType := fun k => match k with
  | _ => .int
abbrev wsJxb160c0 : List Cond := u_ws RJxb160c TJxb160c 0
theorem nmJxb160c : ∀ a, a < 0 → ∀ b, b < 0 → a ≠ b → (TJxb160c a).2.1 ≠ (TJxb160c b).2.1 := by decide +kernel
theorem tyJxb160c_ok : ∀ k, k < 0 → parseFieldDescriptor (TJxb160c k).2.2.1 = some (tyJxb160c k) := by decide +kernel
def RJ9 : String := "java/lang/Math"
def TJ9 : u_T := fun k => match k with
  | _ => ("", "", "", false)
def tyJ9 : Nat → FieldType := fun k => match k with
  | _ => .int
abbrev wsJ90 : List Cond := u_ws RJ9 TJ9 0
theorem nmJ9 : ∀ a, a < 0 → ∀ b, b < 0 → a ≠ b → (TJ9 a).2.1 ≠ (TJ9 b).2.1 := by decide +kernel
theorem tyJ9_ok : ∀ k, k < 0 → parseFieldDescriptor (TJ9 k).2.2.1 = some (tyJ9 k) := by decide +kernel
abbrev cJ9_max_7cf53 : ByteArray := prog_17_method_65_code
def yJ9_max_7cf53 : MethodName := ⟨RJ9, "max", "(II)I"⟩
abbrev cJ9_min_7cf53 : ByteArray := prog_17_method_69_code
def yJ9_min_7cf53 : MethodName := ⟨RJ9, "min", "(II)I"⟩
def RJ0 : String := "java/lang/String"
def TJ0 : u_T := fun k => match k with
  | _ => ("", "", "", false)
def tyJ0 : Nat → FieldType := fun k => match k with
  | _ => .int
abbrev wsJ00 : List Cond := u_ws RJ0 TJ0 0
theorem nmJ0 : ∀ a, a < 0 → ∀ b, b < 0 → a ≠ b → (TJ0 a).2.1 ≠ (TJ0 b).2.1 := by decide +kernel
theorem tyJ0_ok : ∀ k, k < 0 → parseFieldDescriptor (TJ0 k).2.2.1 = some (tyJ0 k) := by decide +kernel
abbrev cJ0_length_8abf5 : ByteArray := prog_18_method_54_code
def yJ0_length_8abf5 : MethodName := ⟨RJ0, "length", "()I"⟩
abbrev cJ0_charAt_5068e : ByteArray := prog_18_method_56_code
def yJ0_charAt_5068e : MethodName := ⟨RJ0, "charAt", "(I)C"⟩
abbrev cJ0_indexOf_0f7a4 : ByteArray := prog_18_method_79_code
def yJ0_indexOf_0f7a4 : MethodName := ⟨RJ0, "indexOf", "(I)I"⟩
abbrev cJ0_indexOf_7cf53 : ByteArray := prog_18_method_80_code
def yJ0_indexOf_7cf53 : MethodName := ⟨RJ0, "indexOf", "(II)I"⟩
abbrev cJ0_coder_7d493 : ByteArray := prog_18_method_152_code
def yJ0_coder_7d493 : MethodName := ⟨RJ0, "coder", "()B"⟩
abbrev cJ0_isLatin1_aae02 : ByteArray := prog_18_method_154_code
def yJ0_isLatin1_aae02 : MethodName := ⟨RJ0, "isLatin1", "()Z"⟩
abbrev cJ0_checkIndex_df160 : ByteArray := prog_18_method_155_code
def yJ0_checkIndex_df160 : MethodName := ⟨RJ0, "checkIndex", "(II)V"⟩
abbrev cJ0_checkBoundsBeginEnd_23922 : ByteArray := prog_18_method_158_code
def yJ0_checkBoundsBeginEnd_23922 : MethodName := ⟨RJ0, "checkBoundsBeginEnd", "(III)V"⟩
def RJ1 : String := "java/lang/StringLatin1"
def TJ1 : u_T := fun k => match k with
  | _ => ("", "", "", false)
def tyJ1 : Nat → FieldType := fun k => match k with
  | _ => .int
abbrev wsJ10 : List Cond := u_ws RJ1 TJ1 0
theorem nmJ1 : ∀ a, a < 0 → ∀ b, b < 0 → a ≠ b → (TJ1 a).2.1 ≠ (TJ1 b).2.1 := by decide +kernel
theorem tyJ1_ok : ∀ k, k < 0 → parseFieldDescriptor (TJ1 k).2.2.1 = some (tyJ1 k) := by decide +kernel
abbrev cJ1_charAt_3b067 : ByteArray := prog_19_method_2_code
def yJ1_charAt_3b067 : MethodName := ⟨RJ1, "charAt", "([BI)C"⟩
abbrev cJ1_canEncode_9a6ad : ByteArray := prog_19_method_4_code
def yJ1_canEncode_9a6ad : MethodName := ⟨RJ1, "canEncode", "(I)Z"⟩
abbrev cJ1_indexOf_4cfef : ByteArray := prog_19_method_22_code
def yJ1_indexOf_4cfef : MethodName := ⟨RJ1, "indexOf", "([BIII)I"⟩
abbrev cJ1_indexOfChar_4cfef : ByteArray := prog_19_method_23_code
def yJ1_indexOfChar_4cfef : MethodName := ⟨RJ1, "indexOfChar", "([BIII)I"⟩
def RJ2 : String := "java/lang/StringUTF16"
def TJ2 : u_T := fun k => match k with
  | _ => ("", "", "", false)
def tyJ2 : Nat → FieldType := fun k => match k with
  | _ => .int
abbrev wsJ20 : List Cond := u_ws RJ2 TJ2 0
theorem nmJ2 : ∀ a, a < 0 → ∀ b, b < 0 → a ≠ b → (TJ2 a).2.1 ≠ (TJ2 b).2.1 := by decide +kernel
theorem tyJ2_ok : ∀ k, k < 0 → parseFieldDescriptor (TJ2 k).2.2.1 = some (tyJ2 k) := by decide +kernel
abbrev cJ2_getChar_3b067 : ByteArray := prog_20_method_5_code
def yJ2_getChar_3b067 : MethodName := ⟨RJ2, "getChar", "([BI)C"⟩
abbrev cJ2_length_9d52b : ByteArray := prog_20_method_6_code
def yJ2_length_9d52b : MethodName := ⟨RJ2, "length", "([B)I"⟩
abbrev cJ2_indexOf_4cfef : ByteArray := prog_20_method_40_code
def yJ2_indexOf_4cfef : MethodName := ⟨RJ2, "indexOf", "([BIII)I"⟩
abbrev cJ2_indexOfChar_4cfef : ByteArray := prog_20_method_47_code
def yJ2_indexOfChar_4cfef : MethodName := ⟨RJ2, "indexOfChar", "([BIII)I"⟩
abbrev cJ2_indexOfCharUnsafe_4cfef : ByteArray := prog_20_method_48_code
def yJ2_indexOfCharUnsafe_4cfef : MethodName := ⟨RJ2, "indexOfCharUnsafe", "([BIII)I"⟩
abbrev cJ2_indexOfSupplementary_4cfef : ByteArray := prog_20_method_49_code
def yJ2_indexOfSupplementary_4cfef : MethodName := ⟨RJ2, "indexOfSupplementary", "([BIII)I"⟩
abbrev cJ2_charAt_3b067 : ByteArray := prog_20_method_83_code
def yJ2_charAt_3b067 : MethodName := ⟨RJ2, "charAt", "([BI)C"⟩
abbrev cJ2_checkIndex_2214a : ByteArray := prog_20_method_91_code
def yJ2_checkIndex_2214a : MethodName := ⟨RJ2, "checkIndex", "(I[B)V"⟩
abbrev cJ2_checkBoundsBeginEnd_d044e : ByteArray := prog_20_method_93_code
def yJ2_checkBoundsBeginEnd_d044e : MethodName := ⟨RJ2, "checkBoundsBeginEnd", "(II[B)V"⟩
def RJ10 : String := "java/lang/System"
def TJ10 : u_T := fun k => match k with
  | _ => ("", "", "", false)
def tyJ10 : Nat → FieldType := fun k => match k with
  | _ => .int
abbrev wsJ100 : List Cond := u_ws RJ10 TJ10 0
theorem nmJ10 : ∀ a, a < 0 → ∀ b, b < 0 → a ≠ b → (TJ10 a).2.1 ≠ (TJ10 b).2.1 := by decide +kernel
theorem tyJ10_ok : ∀ k, k < 0 → parseFieldDescriptor (TJ10 k).2.2.1 = some (tyJ10 k) := by decide +kernel
def RJxfd54e : String := "java/lang/constant/Constable"
def TJxfd54e : u_T := fun k => match k with
  | _ => ("", "", "", false)
def tyJxfd54e : Nat → FieldType := fun k => match k with
  | _ => .int
abbrev wsJxfd54e0 : List Cond := u_ws RJxfd54e TJxfd54e 0
theorem nmJxfd54e : ∀ a, a < 0 → ∀ b, b < 0 → a ≠ b → (TJxfd54e a).2.1 ≠ (TJxfd54e b).2.1 := by decide +kernel
theorem tyJxfd54e_ok : ∀ k, k < 0 → parseFieldDescriptor (TJxfd54e k).2.2.1 = some (tyJxfd54e k) := by decide +kernel
def RJx3cf43 : String := "java/lang/constant/ConstantDesc"
def TJx3cf43 : u_T := fun k => match k with
  | _ => ("", "", "", false)
def tyJx3cf43 : Nat → FieldType := fun k => match k with
  | _ => .int
abbrev wsJx3cf430 : List Cond := u_ws RJx3cf43 TJx3cf43 0
theorem nmJx3cf43 : ∀ a, a < 0 → ∀ b, b < 0 → a ≠ b → (TJx3cf43 a).2.1 ≠ (TJx3cf43 b).2.1 := by decide +kernel
theorem tyJx3cf43_ok : ∀ k, k < 0 → parseFieldDescriptor (TJx3cf43 k).2.2.1 = some (tyJx3cf43 k) := by decide +kernel
def RJ7 : String := "java/util/Arrays"
def TJ7 : u_T := fun k => match k with
  | _ => ("", "", "", false)
def tyJ7 : Nat → FieldType := fun k => match k with
  | _ => .int
abbrev wsJ70 : List Cond := u_ws RJ7 TJ7 0
theorem nmJ7 : ∀ a, a < 0 → ∀ b, b < 0 → a ≠ b → (TJ7 a).2.1 ≠ (TJ7 b).2.1 := by decide +kernel
theorem tyJ7_ok : ∀ k, k < 0 → parseFieldDescriptor (TJ7 k).2.2.1 = some (tyJ7 k) := by decide +kernel
abbrev cJ7_fill_53178 : ByteArray := prog_22_method_103_code
def yJ7_fill_53178 : MethodName := ⟨RJ7, "fill", "([II)V"⟩
abbrev cJ7_copyOf_59c91 : ByteArray := prog_22_method_123_code
def yJ7_copyOf_59c91 : MethodName := ⟨RJ7, "copyOf", "([II)[I"⟩
def RJ3 : String := "jdk/internal/util/Preconditions"
def TJ3 : u_T := fun k => match k with
  | _ => ("", "", "", false)
def tyJ3 : Nat → FieldType := fun k => match k with
  | _ => .int
abbrev wsJ30 : List Cond := u_ws RJ3 TJ3 0
theorem nmJ3 : ∀ a, a < 0 → ∀ b, b < 0 → a ≠ b → (TJ3 a).2.1 ≠ (TJ3 b).2.1 := by decide +kernel
theorem tyJ3_ok : ∀ k, k < 0 → parseFieldDescriptor (TJ3 k).2.2.1 = some (tyJ3 k) := by decide +kernel
abbrev cJ3_checkIndex_8e157 : ByteArray := prog_23_method_11_code
def yJ3_checkIndex_8e157 : MethodName := ⟨RJ3, "checkIndex", "(IILjava/util/function/BiFunction;)I"⟩
abbrev cJ3_checkFromToIndex_8c36e : ByteArray := prog_23_method_12_code
def yJ3_checkFromToIndex_8c36e : MethodName := ⟨RJ3, "checkFromToIndex", "(IIILjava/util/function/BiFunction;)I"⟩
def RL : String := "UnlikeCoinsLaw"
abbrev cL_law : ByteArray := code
def yL_law : MethodName := ⟨RL, "law", "([I)Z"⟩
abbrev vwCl : List vw_C := [(RX0, TX0, 2), (RX1, TX1, 2), (RX2, TX2, 6), (RX3, TX3, 2), (RX4, TX4, 3), (RX5, TX5, 10), (RX6, TX6, 2), (RX7, TX7, 3), (RX8, TX8, 2), (RX9, TX9, 2), (RX10, TX10, 4), (RX11, TX11, 15), (RX12, TX12, 40)]
