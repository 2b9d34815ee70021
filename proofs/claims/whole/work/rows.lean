section
-- ===== PART A: goes FIRST, ahead of the names: the tables' words, and 'selects' of the private methods out of them =====
/-- a private method of a class that the tables say can be made, by its rows of tables_1 -/
def lw_okq (q : MethodName × Nat) : Prop := (q.1.cls ≠ "java/lang/invoke/MethodHandle" ∧ q.1.cls ≠ "java/lang/invoke/VarHandle") ∧ Cond.instantiable q.1.cls q.2 ∈ tables_1 ∧ Cond.privateMethod q.1 ∈ tables_1 ∧ Cond.instanceMethod q.1 ∈ tables_1
theorem lw_p0 : lw_okq (⟨"UnlikeCoins$Reader", "advance", "()V"⟩, 10) := ⟨⟨by decide +kernel, by decide +kernel⟩, List.mem_of_getElem? (i := 55) (by decide +kernel), List.mem_of_getElem? (i := 195) (by decide +kernel), List.mem_of_getElem? (i := 196) (by decide +kernel)⟩
theorem lw_p1 : lw_okq (⟨"UnlikeCoins$Reader", "readWord", "()V"⟩, 10) := ⟨⟨by decide +kernel, by decide +kernel⟩, List.mem_of_getElem? (i := 55) (by decide +kernel), List.mem_of_getElem? (i := 208) (by decide +kernel), List.mem_of_getElem? (i := 209) (by decide +kernel)⟩
theorem lw_p2 : lw_okq (⟨"UnlikeCoins$Reader", "isWord", "(I)Z"⟩, 10) := ⟨⟨by decide +kernel, by decide +kernel⟩, List.mem_of_getElem? (i := 55) (by decide +kernel), List.mem_of_getElem? (i := 212) (by decide +kernel), List.mem_of_getElem? (i := 213) (by decide +kernel)⟩
theorem lw_p3 : lw_okq (⟨"UnlikeCoins$Reader", "readNumber", "()V"⟩, 10) := ⟨⟨by decide +kernel, by decide +kernel⟩, List.mem_of_getElem? (i := 55) (by decide +kernel), List.mem_of_getElem? (i := 221) (by decide +kernel), List.mem_of_getElem? (i := 222) (by decide +kernel)⟩
theorem lw_p4 : lw_okq (⟨"UnlikeCoins$Reader", "readToken", "(I)Z"⟩, 10) := ⟨⟨by decide +kernel, by decide +kernel⟩, List.mem_of_getElem? (i := 55) (by decide +kernel), List.mem_of_getElem? (i := 285) (by decide +kernel), List.mem_of_getElem? (i := 286) (by decide +kernel)⟩
theorem lw_p5 : lw_okq (⟨"UnlikeCoins$Reader", "readEither", "()Z"⟩, 10) := ⟨⟨by decide +kernel, by decide +kernel⟩, List.mem_of_getElem? (i := 55) (by decide +kernel), List.mem_of_getElem? (i := 289) (by decide +kernel), List.mem_of_getElem? (i := 290) (by decide +kernel)⟩
theorem lw_p6 : lw_okq (⟨"UnlikeCoins$Reader", "readBoth", "()Z"⟩, 10) := ⟨⟨by decide +kernel, by decide +kernel⟩, List.mem_of_getElem? (i := 55) (by decide +kernel), List.mem_of_getElem? (i := 293) (by decide +kernel), List.mem_of_getElem? (i := 294) (by decide +kernel)⟩
theorem lw_p7 : lw_okq (⟨"UnlikeCoins$Reader", "readDenied", "()Z"⟩, 10) := ⟨⟨by decide +kernel, by decide +kernel⟩, List.mem_of_getElem? (i := 55) (by decide +kernel), List.mem_of_getElem? (i := 297) (by decide +kernel), List.mem_of_getElem? (i := 298) (by decide +kernel)⟩
theorem lw_p8 : lw_okq (⟨"UnlikeCoins$Reader", "readCompared", "()Z"⟩, 10) := ⟨⟨by decide +kernel, by decide +kernel⟩, List.mem_of_getElem? (i := 55) (by decide +kernel), List.mem_of_getElem? (i := 301) (by decide +kernel), List.mem_of_getElem? (i := 302) (by decide +kernel)⟩
theorem lw_p9 : lw_okq (⟨"UnlikeCoins$Reader", "readSum", "()Z"⟩, 10) := ⟨⟨by decide +kernel, by decide +kernel⟩, List.mem_of_getElem? (i := 55) (by decide +kernel), List.mem_of_getElem? (i := 305) (by decide +kernel), List.mem_of_getElem? (i := 306) (by decide +kernel)⟩
theorem lw_p10 : lw_okq (⟨"UnlikeCoins$Reader", "readTerm", "()Z"⟩, 10) := ⟨⟨by decide +kernel, by decide +kernel⟩, List.mem_of_getElem? (i := 55) (by decide +kernel), List.mem_of_getElem? (i := 309) (by decide +kernel), List.mem_of_getElem? (i := 310) (by decide +kernel)⟩
theorem lw_p11 : lw_okq (⟨"UnlikeCoins$Reader", "readOne", "()Z"⟩, 10) := ⟨⟨by decide +kernel, by decide +kernel⟩, List.mem_of_getElem? (i := 55) (by decide +kernel), List.mem_of_getElem? (i := 313) (by decide +kernel), List.mem_of_getElem? (i := 314) (by decide +kernel)⟩
theorem lw_p12 : lw_okq (⟨"UnlikeCoins$Reader", "emit", "(I)V"⟩, 10) := ⟨⟨by decide +kernel, by decide +kernel⟩, List.mem_of_getElem? (i := 55) (by decide +kernel), List.mem_of_getElem? (i := 317) (by decide +kernel), List.mem_of_getElem? (i := 318) (by decide +kernel)⟩
theorem lw_p13 : lw_okq (⟨"UnlikeCoins", "nameAll", "(IIIII)V"⟩, 15) := ⟨⟨by decide +kernel, by decide +kernel⟩, List.mem_of_getElem? (i := 23) (by decide +kernel), List.mem_of_getElem? (i := 445) (by decide +kernel), List.mem_of_getElem? (i := 446) (by decide +kernel)⟩
theorem lw_p14 : lw_okq (⟨"UnlikeCoins", "says", "(II)I"⟩, 15) := ⟨⟨by decide +kernel, by decide +kernel⟩, List.mem_of_getElem? (i := 23) (by decide +kernel), List.mem_of_getElem? (i := 449) (by decide +kernel), List.mem_of_getElem? (i := 450) (by decide +kernel)⟩
theorem lw_p15 : lw_okq (⟨"UnlikeCoins$Text", "step", "(I[I)V"⟩, 4) := ⟨⟨by decide +kernel, by decide +kernel⟩, List.mem_of_getElem? (i := 325) (by decide +kernel), List.mem_of_getElem? (i := 459) (by decide +kernel), List.mem_of_getElem? (i := 460) (by decide +kernel)⟩
def lw_privs_1 : List (MethodName × Nat) := [(⟨"UnlikeCoins$Reader", "advance", "()V"⟩, 10), (⟨"UnlikeCoins$Reader", "readWord", "()V"⟩, 10), (⟨"UnlikeCoins$Reader", "isWord", "(I)Z"⟩, 10), (⟨"UnlikeCoins$Reader", "readNumber", "()V"⟩, 10), (⟨"UnlikeCoins$Reader", "readToken", "(I)Z"⟩, 10), (⟨"UnlikeCoins$Reader", "readEither", "()Z"⟩, 10), (⟨"UnlikeCoins$Reader", "readBoth", "()Z"⟩, 10), (⟨"UnlikeCoins$Reader", "readDenied", "()Z"⟩, 10), (⟨"UnlikeCoins$Reader", "readCompared", "()Z"⟩, 10), (⟨"UnlikeCoins$Reader", "readSum", "()Z"⟩, 10), (⟨"UnlikeCoins$Reader", "readTerm", "()Z"⟩, 10), (⟨"UnlikeCoins$Reader", "readOne", "()Z"⟩, 10), (⟨"UnlikeCoins$Reader", "emit", "(I)V"⟩, 10), (⟨"UnlikeCoins", "nameAll", "(IIIII)V"⟩, 15), (⟨"UnlikeCoins", "says", "(II)I"⟩, 15), (⟨"UnlikeCoins$Text", "step", "(I[I)V"⟩, 4)]
theorem lw_r1 : ∀ q ∈ lw_privs_1, lw_okq q := List.forall_mem_cons.mpr ⟨lw_p0, List.forall_mem_cons.mpr ⟨lw_p1, List.forall_mem_cons.mpr ⟨lw_p2, List.forall_mem_cons.mpr ⟨lw_p3, List.forall_mem_cons.mpr ⟨lw_p4, List.forall_mem_cons.mpr ⟨lw_p5, List.forall_mem_cons.mpr ⟨lw_p6, List.forall_mem_cons.mpr ⟨lw_p7, List.forall_mem_cons.mpr ⟨lw_p8, List.forall_mem_cons.mpr ⟨lw_p9, List.forall_mem_cons.mpr ⟨lw_p10, List.forall_mem_cons.mpr ⟨lw_p11, List.forall_mem_cons.mpr ⟨lw_p12, List.forall_mem_cons.mpr ⟨lw_p13, List.forall_mem_cons.mpr ⟨lw_p14, List.forall_mem_cons.mpr ⟨lw_p15, fun _ h => absurd h List.not_mem_nil⟩⟩⟩⟩⟩⟩⟩⟩⟩⟩⟩⟩⟩⟩⟩⟩
theorem lw_p16 : lw_okq (⟨"UnlikeCoins$Text", "push", "(I)V"⟩, 4) := ⟨⟨by decide +kernel, by decide +kernel⟩, List.mem_of_getElem? (i := 325) (by decide +kernel), List.mem_of_getElem? (i := 463) (by decide +kernel), List.mem_of_getElem? (i := 464) (by decide +kernel)⟩
theorem lw_p17 : lw_okq (⟨"UnlikeCoins$Text", "pop", "()I"⟩, 4) := ⟨⟨by decide +kernel, by decide +kernel⟩, List.mem_of_getElem? (i := 325) (by decide +kernel), List.mem_of_getElem? (i := 467) (by decide +kernel), List.mem_of_getElem? (i := 468) (by decide +kernel)⟩
theorem lw_p18 : lw_okq (⟨"UnlikeCoins", "sortAt", "(I)LUnlikeCoins$Sort;"⟩, 15) := ⟨⟨by decide +kernel, by decide +kernel⟩, List.mem_of_getElem? (i := 23) (by decide +kernel), List.mem_of_getElem? (i := 551) (by decide +kernel), List.mem_of_getElem? (i := 552) (by decide +kernel)⟩
theorem lw_p19 : lw_okq (⟨"UnlikeCoins", "purseAt", "(I)LUnlikeCoins$Purse;"⟩, 15) := ⟨⟨by decide +kernel, by decide +kernel⟩, List.mem_of_getElem? (i := 23) (by decide +kernel), List.mem_of_getElem? (i := 590) (by decide +kernel), List.mem_of_getElem? (i := 591) (by decide +kernel)⟩
theorem lw_p20 : lw_okq (⟨"UnlikeCoins", "timesAt", "(LUnlikeCoins$Purse;I)I"⟩, 15) := ⟨⟨by decide +kernel, by decide +kernel⟩, List.mem_of_getElem? (i := 23) (by decide +kernel), List.mem_of_getElem? (i := 646) (by decide +kernel), List.mem_of_getElem? (i := 647) (by decide +kernel)⟩
theorem lw_p21 : lw_okq (⟨"UnlikeCoins$Purse", "mostPlentiful", "()I"⟩, 3) := ⟨⟨by decide +kernel, by decide +kernel⟩, List.mem_of_getElem? (i := 34) (by decide +kernel), List.mem_of_getElem? (i := 678) (by decide +kernel), List.mem_of_getElem? (i := 679) (by decide +kernel)⟩
theorem lw_p22 : lw_okq (⟨"UnlikeCoins", "worthAt", "(II)I"⟩, 15) := ⟨⟨by decide +kernel, by decide +kernel⟩, List.mem_of_getElem? (i := 23) (by decide +kernel), List.mem_of_getElem? (i := 682) (by decide +kernel), List.mem_of_getElem? (i := 683) (by decide +kernel)⟩
theorem lw_p23 : lw_okq (⟨"UnlikeCoins", "timesOfAll", "(II)I"⟩, 15) := ⟨⟨by decide +kernel, by decide +kernel⟩, List.mem_of_getElem? (i := 23) (by decide +kernel), List.mem_of_getElem? (i := 698) (by decide +kernel), List.mem_of_getElem? (i := 699) (by decide +kernel)⟩
theorem lw_p24 : lw_okq (⟨"UnlikeCoins", "feeFor", "(II)I"⟩, 15) := ⟨⟨by decide +kernel, by decide +kernel⟩, List.mem_of_getElem? (i := 23) (by decide +kernel), List.mem_of_getElem? (i := 726) (by decide +kernel), List.mem_of_getElem? (i := 727) (by decide +kernel)⟩
theorem lw_p25 : lw_okq (⟨"UnlikeCoins", "timesWith", "(LUnlikeCoins$Purse;III)I"⟩, 15) := ⟨⟨by decide +kernel, by decide +kernel⟩, List.mem_of_getElem? (i := 23) (by decide +kernel), List.mem_of_getElem? (i := 734) (by decide +kernel), List.mem_of_getElem? (i := 735) (by decide +kernel)⟩
theorem lw_p26 : lw_okq (⟨"UnlikeCoins", "tryWage", "(LUnlikeCoins$Purse;II)I"⟩, 15) := ⟨⟨by decide +kernel, by decide +kernel⟩, List.mem_of_getElem? (i := 23) (by decide +kernel), List.mem_of_getElem? (i := 754) (by decide +kernel), List.mem_of_getElem? (i := 755) (by decide +kernel)⟩
theorem lw_p27 : lw_okq (⟨"UnlikeCoins", "passFor", "(LUnlikeCoins$Purse;)V"⟩, 15) := ⟨⟨by decide +kernel, by decide +kernel⟩, List.mem_of_getElem? (i := 23) (by decide +kernel), List.mem_of_getElem? (i := 768) (by decide +kernel), List.mem_of_getElem? (i := 769) (by decide +kernel)⟩
theorem lw_p28 : lw_okq (⟨"UnlikeCoins", "sheetAt", "(I)LUnlikeCoins$Sheet;"⟩, 15) := ⟨⟨by decide +kernel, by decide +kernel⟩, List.mem_of_getElem? (i := 23) (by decide +kernel), List.mem_of_getElem? (i := 795) (by decide +kernel), List.mem_of_getElem? (i := 796) (by decide +kernel)⟩
theorem lw_p29 : lw_okq (⟨"UnlikeCoins", "firstOther", "(LUnlikeCoins$Sheet;LUnlikeCoins$Purse;)I"⟩, 15) := ⟨⟨by decide +kernel, by decide +kernel⟩, List.mem_of_getElem? (i := 23) (by decide +kernel), List.mem_of_getElem? (i := 808) (by decide +kernel), List.mem_of_getElem? (i := 809) (by decide +kernel)⟩
theorem lw_p30 : lw_okq (⟨"UnlikeCoins", "tryPurse", "(I)I"⟩, 15) := ⟨⟨by decide +kernel, by decide +kernel⟩, List.mem_of_getElem? (i := 23) (by decide +kernel), List.mem_of_getElem? (i := 828) (by decide +kernel), List.mem_of_getElem? (i := 829) (by decide +kernel)⟩
theorem lw_p31 : lw_okq (⟨"UnlikeCoins", "drawnBy", "(II)I"⟩, 15) := ⟨⟨by decide +kernel, by decide +kernel⟩, List.mem_of_getElem? (i := 23) (by decide +kernel), List.mem_of_getElem? (i := 854) (by decide +kernel), List.mem_of_getElem? (i := 855) (by decide +kernel)⟩
def lw_privs_2 : List (MethodName × Nat) := [(⟨"UnlikeCoins$Text", "push", "(I)V"⟩, 4), (⟨"UnlikeCoins$Text", "pop", "()I"⟩, 4), (⟨"UnlikeCoins", "sortAt", "(I)LUnlikeCoins$Sort;"⟩, 15), (⟨"UnlikeCoins", "purseAt", "(I)LUnlikeCoins$Purse;"⟩, 15), (⟨"UnlikeCoins", "timesAt", "(LUnlikeCoins$Purse;I)I"⟩, 15), (⟨"UnlikeCoins$Purse", "mostPlentiful", "()I"⟩, 3), (⟨"UnlikeCoins", "worthAt", "(II)I"⟩, 15), (⟨"UnlikeCoins", "timesOfAll", "(II)I"⟩, 15), (⟨"UnlikeCoins", "feeFor", "(II)I"⟩, 15), (⟨"UnlikeCoins", "timesWith", "(LUnlikeCoins$Purse;III)I"⟩, 15), (⟨"UnlikeCoins", "tryWage", "(LUnlikeCoins$Purse;II)I"⟩, 15), (⟨"UnlikeCoins", "passFor", "(LUnlikeCoins$Purse;)V"⟩, 15), (⟨"UnlikeCoins", "sheetAt", "(I)LUnlikeCoins$Sheet;"⟩, 15), (⟨"UnlikeCoins", "firstOther", "(LUnlikeCoins$Sheet;LUnlikeCoins$Purse;)I"⟩, 15), (⟨"UnlikeCoins", "tryPurse", "(I)I"⟩, 15), (⟨"UnlikeCoins", "drawnBy", "(II)I"⟩, 15)]
theorem lw_r2 : ∀ q ∈ lw_privs_2, lw_okq q := List.forall_mem_cons.mpr ⟨lw_p16, List.forall_mem_cons.mpr ⟨lw_p17, List.forall_mem_cons.mpr ⟨lw_p18, List.forall_mem_cons.mpr ⟨lw_p19, List.forall_mem_cons.mpr ⟨lw_p20, List.forall_mem_cons.mpr ⟨lw_p21, List.forall_mem_cons.mpr ⟨lw_p22, List.forall_mem_cons.mpr ⟨lw_p23, List.forall_mem_cons.mpr ⟨lw_p24, List.forall_mem_cons.mpr ⟨lw_p25, List.forall_mem_cons.mpr ⟨lw_p26, List.forall_mem_cons.mpr ⟨lw_p27, List.forall_mem_cons.mpr ⟨lw_p28, List.forall_mem_cons.mpr ⟨lw_p29, List.forall_mem_cons.mpr ⟨lw_p30, List.forall_mem_cons.mpr ⟨lw_p31, fun _ h => absurd h List.not_mem_nil⟩⟩⟩⟩⟩⟩⟩⟩⟩⟩⟩⟩⟩⟩⟩⟩
theorem lw_p32 : lw_okq (⟨"UnlikeCoinsModel", "next", "()V"⟩, 40) := ⟨⟨by decide +kernel, by decide +kernel⟩, List.mem_of_getElem? (i := 906) (by decide +kernel), List.mem_of_getElem? (i := 916) (by decide +kernel), List.mem_of_getElem? (i := 917) (by decide +kernel)⟩
theorem lw_p33 : lw_okq (⟨"UnlikeCoinsModel", "wordFrom", "(II)I"⟩, 40) := ⟨⟨by decide +kernel, by decide +kernel⟩, List.mem_of_getElem? (i := 906) (by decide +kernel), List.mem_of_getElem? (i := 923) (by decide +kernel), List.mem_of_getElem? (i := 924) (by decide +kernel)⟩
theorem lw_p34 : lw_okq (⟨"UnlikeCoinsModel", "eRead", "()Z"⟩, 40) := ⟨⟨by decide +kernel, by decide +kernel⟩, List.mem_of_getElem? (i := 906) (by decide +kernel), List.mem_of_getElem? (i := 927) (by decide +kernel), List.mem_of_getElem? (i := 928) (by decide +kernel)⟩
theorem lw_p35 : lw_okq (⟨"UnlikeCoinsModel", "puts", "(I)V"⟩, 40) := ⟨⟨by decide +kernel, by decide +kernel⟩, List.mem_of_getElem? (i := 906) (by decide +kernel), List.mem_of_getElem? (i := 932) (by decide +kernel), List.mem_of_getElem? (i := 933) (by decide +kernel)⟩
theorem lw_p36 : lw_okq (⟨"UnlikeCoinsModel", "unwinds", "(I)V"⟩, 40) := ⟨⟨by decide +kernel, by decide +kernel⟩, List.mem_of_getElem? (i := 906) (by decide +kernel), List.mem_of_getElem? (i := 936) (by decide +kernel), List.mem_of_getElem? (i := 937) (by decide +kernel)⟩
theorem lw_p37 : lw_okq (⟨"UnlikeCoinsModel", "opensOne", "(I)Z"⟩, 40) := ⟨⟨by decide +kernel, by decide +kernel⟩, List.mem_of_getElem? (i := 906) (by decide +kernel), List.mem_of_getElem? (i := 943) (by decide +kernel), List.mem_of_getElem? (i := 944) (by decide +kernel)⟩
theorem lw_p38 : lw_okq (⟨"UnlikeCoinsModel", "holds", "(I)V"⟩, 40) := ⟨⟨by decide +kernel, by decide +kernel⟩, List.mem_of_getElem? (i := 906) (by decide +kernel), List.mem_of_getElem? (i := 947) (by decide +kernel), List.mem_of_getElem? (i := 948) (by decide +kernel)⟩
theorem lw_p39 : lw_okq (⟨"UnlikeCoinsModel", "signOf", "()I"⟩, 40) := ⟨⟨by decide +kernel, by decide +kernel⟩, List.mem_of_getElem? (i := 906) (by decide +kernel), List.mem_of_getElem? (i := 951) (by decide +kernel), List.mem_of_getElem? (i := 952) (by decide +kernel)⟩
theorem lw_p40 : lw_okq (⟨"UnlikeCoinsModel", "between", "(I)Z"⟩, 40) := ⟨⟨by decide +kernel, by decide +kernel⟩, List.mem_of_getElem? (i := 906) (by decide +kernel), List.mem_of_getElem? (i := 955) (by decide +kernel), List.mem_of_getElem? (i := 956) (by decide +kernel)⟩
theorem lw_p41 : lw_okq (⟨"UnlikeCoinsModel", "asksOf", "(IIIIII)I"⟩, 40) := ⟨⟨by decide +kernel, by decide +kernel⟩, List.mem_of_getElem? (i := 906) (by decide +kernel), List.mem_of_getElem? (i := 1100) (by decide +kernel), List.mem_of_getElem? (i := 1101) (by decide +kernel)⟩
theorem lw_p42 : lw_okq (⟨"UnlikeCoinsModel", "says", "(I)I"⟩, 40) := ⟨⟨by decide +kernel, by decide +kernel⟩, List.mem_of_getElem? (i := 906) (by decide +kernel), List.mem_of_getElem? (i := 1104) (by decide +kernel), List.mem_of_getElem? (i := 1105) (by decide +kernel)⟩
theorem lw_p43 : lw_okq (⟨"UnlikeCoinsModel", "isSort", "(I)Z"⟩, 40) := ⟨⟨by decide +kernel, by decide +kernel⟩, List.mem_of_getElem? (i := 906) (by decide +kernel), List.mem_of_getElem? (i := 1122) (by decide +kernel), List.mem_of_getElem? (i := 1123) (by decide +kernel)⟩
theorem lw_p44 : lw_okq (⟨"UnlikeCoinsModel", "isPurse", "(I)Z"⟩, 40) := ⟨⟨by decide +kernel, by decide +kernel⟩, List.mem_of_getElem? (i := 906) (by decide +kernel), List.mem_of_getElem? (i := 1134) (by decide +kernel), List.mem_of_getElem? (i := 1135) (by decide +kernel)⟩
theorem lw_p45 : lw_okq (⟨"UnlikeCoinsModel", "coinWorth", "(II)I"⟩, 40) := ⟨⟨by decide +kernel, by decide +kernel⟩, List.mem_of_getElem? (i := 906) (by decide +kernel), List.mem_of_getElem? (i := 1146) (by decide +kernel), List.mem_of_getElem? (i := 1147) (by decide +kernel)⟩
theorem lw_p46 : lw_okq (⟨"UnlikeCoinsModel", "oftenOf", "(II)I"⟩, 40) := ⟨⟨by decide +kernel, by decide +kernel⟩, List.mem_of_getElem? (i := 906) (by decide +kernel), List.mem_of_getElem? (i := 1157) (by decide +kernel), List.mem_of_getElem? (i := 1158) (by decide +kernel)⟩
theorem lw_p47 : lw_okq (⟨"UnlikeCoinsModel", "thinksOf", "(I)V"⟩, 40) := ⟨⟨by decide +kernel, by decide +kernel⟩, List.mem_of_getElem? (i := 906) (by decide +kernel), List.mem_of_getElem? (i := 1161) (by decide +kernel), List.mem_of_getElem? (i := 1162) (by decide +kernel)⟩
def lw_privs_3 : List (MethodName × Nat) := [(⟨"UnlikeCoinsModel", "next", "()V"⟩, 40), (⟨"UnlikeCoinsModel", "wordFrom", "(II)I"⟩, 40), (⟨"UnlikeCoinsModel", "eRead", "()Z"⟩, 40), (⟨"UnlikeCoinsModel", "puts", "(I)V"⟩, 40), (⟨"UnlikeCoinsModel", "unwinds", "(I)V"⟩, 40), (⟨"UnlikeCoinsModel", "opensOne", "(I)Z"⟩, 40), (⟨"UnlikeCoinsModel", "holds", "(I)V"⟩, 40), (⟨"UnlikeCoinsModel", "signOf", "()I"⟩, 40), (⟨"UnlikeCoinsModel", "between", "(I)Z"⟩, 40), (⟨"UnlikeCoinsModel", "asksOf", "(IIIIII)I"⟩, 40), (⟨"UnlikeCoinsModel", "says", "(I)I"⟩, 40), (⟨"UnlikeCoinsModel", "isSort", "(I)Z"⟩, 40), (⟨"UnlikeCoinsModel", "isPurse", "(I)Z"⟩, 40), (⟨"UnlikeCoinsModel", "coinWorth", "(II)I"⟩, 40), (⟨"UnlikeCoinsModel", "oftenOf", "(II)I"⟩, 40), (⟨"UnlikeCoinsModel", "thinksOf", "(I)V"⟩, 40)]
theorem lw_r3 : ∀ q ∈ lw_privs_3, lw_okq q := List.forall_mem_cons.mpr ⟨lw_p32, List.forall_mem_cons.mpr ⟨lw_p33, List.forall_mem_cons.mpr ⟨lw_p34, List.forall_mem_cons.mpr ⟨lw_p35, List.forall_mem_cons.mpr ⟨lw_p36, List.forall_mem_cons.mpr ⟨lw_p37, List.forall_mem_cons.mpr ⟨lw_p38, List.forall_mem_cons.mpr ⟨lw_p39, List.forall_mem_cons.mpr ⟨lw_p40, List.forall_mem_cons.mpr ⟨lw_p41, List.forall_mem_cons.mpr ⟨lw_p42, List.forall_mem_cons.mpr ⟨lw_p43, List.forall_mem_cons.mpr ⟨lw_p44, List.forall_mem_cons.mpr ⟨lw_p45, List.forall_mem_cons.mpr ⟨lw_p46, List.forall_mem_cons.mpr ⟨lw_p47, fun _ h => absurd h List.not_mem_nil⟩⟩⟩⟩⟩⟩⟩⟩⟩⟩⟩⟩⟩⟩⟩⟩
theorem lw_p48 : lw_okq (⟨"UnlikeCoinsModel", "oftenNow", "(I)I"⟩, 40) := ⟨⟨by decide +kernel, by decide +kernel⟩, List.mem_of_getElem? (i := 906) (by decide +kernel), List.mem_of_getElem? (i := 1165) (by decide +kernel), List.mem_of_getElem? (i := 1166) (by decide +kernel)⟩
theorem lw_p49 : lw_okq (⟨"UnlikeCoinsModel", "lays", "(I)Z"⟩, 40) := ⟨⟨by decide +kernel, by decide +kernel⟩, List.mem_of_getElem? (i := 906) (by decide +kernel), List.mem_of_getElem? (i := 1169) (by decide +kernel), List.mem_of_getElem? (i := 1170) (by decide +kernel)⟩
theorem lw_p50 : lw_okq (⟨"UnlikeCoinsModel", "nextLaid", "()I"⟩, 40) := ⟨⟨by decide +kernel, by decide +kernel⟩, List.mem_of_getElem? (i := 906) (by decide +kernel), List.mem_of_getElem? (i := 1173) (by decide +kernel), List.mem_of_getElem? (i := 1174) (by decide +kernel)⟩
theorem lw_p51 : lw_okq (⟨"UnlikeCoinsModel", "together", "(II)I"⟩, 40) := ⟨⟨by decide +kernel, by decide +kernel⟩, List.mem_of_getElem? (i := 906) (by decide +kernel), List.mem_of_getElem? (i := 1177) (by decide +kernel), List.mem_of_getElem? (i := 1178) (by decide +kernel)⟩
theorem lw_p52 : lw_okq (⟨"UnlikeCoinsModel", "leftNow", "(I)I"⟩, 40) := ⟨⟨by decide +kernel, by decide +kernel⟩, List.mem_of_getElem? (i := 906) (by decide +kernel), List.mem_of_getElem? (i := 1181) (by decide +kernel), List.mem_of_getElem? (i := 1182) (by decide +kernel)⟩
theorem lw_p53 : lw_okq (⟨"UnlikeCoinsModel", "worthOf", "(I)I"⟩, 40) := ⟨⟨by decide +kernel, by decide +kernel⟩, List.mem_of_getElem? (i := 906) (by decide +kernel), List.mem_of_getElem? (i := 1185) (by decide +kernel), List.mem_of_getElem? (i := 1186) (by decide +kernel)⟩
theorem lw_p54 : lw_okq (⟨"UnlikeCoinsModel", "comesTrue", "(I)I"⟩, 40) := ⟨⟨by decide +kernel, by decide +kernel⟩, List.mem_of_getElem? (i := 906) (by decide +kernel), List.mem_of_getElem? (i := 1193) (by decide +kernel), List.mem_of_getElem? (i := 1194) (by decide +kernel)⟩
theorem lw_p55 : lw_okq (⟨"UnlikeCoinsModel", "worthTwo", "(IIII)I"⟩, 40) := ⟨⟨by decide +kernel, by decide +kernel⟩, List.mem_of_getElem? (i := 906) (by decide +kernel), List.mem_of_getElem? (i := 1201) (by decide +kernel), List.mem_of_getElem? (i := 1202) (by decide +kernel)⟩
theorem lw_p56 : lw_okq (⟨"UnlikeCoinsModel", "oftenOfAll", "(I)I"⟩, 40) := ⟨⟨by decide +kernel, by decide +kernel⟩, List.mem_of_getElem? (i := 906) (by decide +kernel), List.mem_of_getElem? (i := 1209) (by decide +kernel), List.mem_of_getElem? (i := 1210) (by decide +kernel)⟩
theorem lw_p57 : lw_okq (⟨"UnlikeCoinsModel", "areTwo", "(II)Z"⟩, 40) := ⟨⟨by decide +kernel, by decide +kernel⟩, List.mem_of_getElem? (i := 906) (by decide +kernel), List.mem_of_getElem? (i := 1225) (by decide +kernel), List.mem_of_getElem? (i := 1226) (by decide +kernel)⟩
theorem lw_p58 : lw_okq (⟨"UnlikeCoinsModel", "canSwap", "(IIII)Z"⟩, 40) := ⟨⟨by decide +kernel, by decide +kernel⟩, List.mem_of_getElem? (i := 906) (by decide +kernel), List.mem_of_getElem? (i := 1229) (by decide +kernel), List.mem_of_getElem? (i := 1230) (by decide +kernel)⟩
theorem lw_p59 : lw_okq (⟨"UnlikeCoinsModel", "swaps", "(IIII)V"⟩, 40) := ⟨⟨by decide +kernel, by decide +kernel⟩, List.mem_of_getElem? (i := 906) (by decide +kernel), List.mem_of_getElem? (i := 1233) (by decide +kernel), List.mem_of_getElem? (i := 1234) (by decide +kernel)⟩
theorem lw_p60 : lw_okq (⟨"UnlikeCoinsModel", "feeOf", "(II)I"⟩, 40) := ⟨⟨by decide +kernel, by decide +kernel⟩, List.mem_of_getElem? (i := 906) (by decide +kernel), List.mem_of_getElem? (i := 1237) (by decide +kernel), List.mem_of_getElem? (i := 1238) (by decide +kernel)⟩
theorem lw_p61 : lw_okq (⟨"UnlikeCoinsModel", "oftenWithMore", "(II)I"⟩, 40) := ⟨⟨by decide +kernel, by decide +kernel⟩, List.mem_of_getElem? (i := 906) (by decide +kernel), List.mem_of_getElem? (i := 1249) (by decide +kernel), List.mem_of_getElem? (i := 1250) (by decide +kernel)⟩
theorem lw_p62 : lw_okq (⟨"UnlikeCoinsModel", "oftenWithRow", "(III)I"⟩, 40) := ⟨⟨by decide +kernel, by decide +kernel⟩, List.mem_of_getElem? (i := 906) (by decide +kernel), List.mem_of_getElem? (i := 1265) (by decide +kernel), List.mem_of_getElem? (i := 1266) (by decide +kernel)⟩
theorem lw_p63 : lw_okq (⟨"UnlikeCoinsModel", "rowDigits", "(I)I"⟩, 40) := ⟨⟨by decide +kernel, by decide +kernel⟩, List.mem_of_getElem? (i := 906) (by decide +kernel), List.mem_of_getElem? (i := 1269) (by decide +kernel), List.mem_of_getElem? (i := 1270) (by decide +kernel)⟩
def lw_privs_4 : List (MethodName × Nat) := [(⟨"UnlikeCoinsModel", "oftenNow", "(I)I"⟩, 40), (⟨"UnlikeCoinsModel", "lays", "(I)Z"⟩, 40), (⟨"UnlikeCoinsModel", "nextLaid", "()I"⟩, 40), (⟨"UnlikeCoinsModel", "together", "(II)I"⟩, 40), (⟨"UnlikeCoinsModel", "leftNow", "(I)I"⟩, 40), (⟨"UnlikeCoinsModel", "worthOf", "(I)I"⟩, 40), (⟨"UnlikeCoinsModel", "comesTrue", "(I)I"⟩, 40), (⟨"UnlikeCoinsModel", "worthTwo", "(IIII)I"⟩, 40), (⟨"UnlikeCoinsModel", "oftenOfAll", "(I)I"⟩, 40), (⟨"UnlikeCoinsModel", "areTwo", "(II)Z"⟩, 40), (⟨"UnlikeCoinsModel", "canSwap", "(IIII)Z"⟩, 40), (⟨"UnlikeCoinsModel", "swaps", "(IIII)V"⟩, 40), (⟨"UnlikeCoinsModel", "feeOf", "(II)I"⟩, 40), (⟨"UnlikeCoinsModel", "oftenWithMore", "(II)I"⟩, 40), (⟨"UnlikeCoinsModel", "oftenWithRow", "(III)I"⟩, 40), (⟨"UnlikeCoinsModel", "rowDigits", "(I)I"⟩, 40)]
theorem lw_r4 : ∀ q ∈ lw_privs_4, lw_okq q := List.forall_mem_cons.mpr ⟨lw_p48, List.forall_mem_cons.mpr ⟨lw_p49, List.forall_mem_cons.mpr ⟨lw_p50, List.forall_mem_cons.mpr ⟨lw_p51, List.forall_mem_cons.mpr ⟨lw_p52, List.forall_mem_cons.mpr ⟨lw_p53, List.forall_mem_cons.mpr ⟨lw_p54, List.forall_mem_cons.mpr ⟨lw_p55, List.forall_mem_cons.mpr ⟨lw_p56, List.forall_mem_cons.mpr ⟨lw_p57, List.forall_mem_cons.mpr ⟨lw_p58, List.forall_mem_cons.mpr ⟨lw_p59, List.forall_mem_cons.mpr ⟨lw_p60, List.forall_mem_cons.mpr ⟨lw_p61, List.forall_mem_cons.mpr ⟨lw_p62, List.forall_mem_cons.mpr ⟨lw_p63, fun _ h => absurd h List.not_mem_nil⟩⟩⟩⟩⟩⟩⟩⟩⟩⟩⟩⟩⟩⟩⟩⟩
theorem lw_p64 : lw_okq (⟨"UnlikeCoinsModel", "nextRow", "(I)Z"⟩, 40) := ⟨⟨by decide +kernel, by decide +kernel⟩, List.mem_of_getElem? (i := 906) (by decide +kernel), List.mem_of_getElem? (i := 1273) (by decide +kernel), List.mem_of_getElem? (i := 1274) (by decide +kernel)⟩
theorem lw_p65 : lw_okq (⟨"UnlikeCoinsModel", "remains", "(II)I"⟩, 40) := ⟨⟨by decide +kernel, by decide +kernel⟩, List.mem_of_getElem? (i := 906) (by decide +kernel), List.mem_of_getElem? (i := 1285) (by decide +kernel), List.mem_of_getElem? (i := 1286) (by decide +kernel)⟩
theorem lw_p66 : lw_okq (⟨"UnlikeCoinsModel", "sheetWrong", "(I)I"⟩, 40) := ⟨⟨by decide +kernel, by decide +kernel⟩, List.mem_of_getElem? (i := 906) (by decide +kernel), List.mem_of_getElem? (i := 1293) (by decide +kernel), List.mem_of_getElem? (i := 1294) (by decide +kernel)⟩
theorem lw_p67 : lw_okq (⟨"UnlikeCoinsModel", "unlike", "(II)I"⟩, 40) := ⟨⟨by decide +kernel, by decide +kernel⟩, List.mem_of_getElem? (i := 906) (by decide +kernel), List.mem_of_getElem? (i := 1297) (by decide +kernel), List.mem_of_getElem? (i := 1298) (by decide +kernel)⟩
theorem lw_p68 : lw_okq (⟨"UnlikeCoinsModel", "unlikeThought", "(I)I"⟩, 40) := ⟨⟨by decide +kernel, by decide +kernel⟩, List.mem_of_getElem? (i := 906) (by decide +kernel), List.mem_of_getElem? (i := 1301) (by decide +kernel), List.mem_of_getElem? (i := 1302) (by decide +kernel)⟩
theorem lw_p69 : lw_okq (⟨"UnlikeCoinsModel", "couldBy", "(II)I"⟩, 40) := ⟨⟨by decide +kernel, by decide +kernel⟩, List.mem_of_getElem? (i := 906) (by decide +kernel), List.mem_of_getElem? (i := 1329) (by decide +kernel), List.mem_of_getElem? (i := 1330) (by decide +kernel)⟩
theorem lw_p70 : lw_okq (⟨"UnlikeCoinsModel", "coinsOf", "(I)I"⟩, 40) := ⟨⟨by decide +kernel, by decide +kernel⟩, List.mem_of_getElem? (i := 906) (by decide +kernel), List.mem_of_getElem? (i := 1374) (by decide +kernel), List.mem_of_getElem? (i := 1375) (by decide +kernel)⟩
def lw_privs_5 : List (MethodName × Nat) := [(⟨"UnlikeCoinsModel", "nextRow", "(I)Z"⟩, 40), (⟨"UnlikeCoinsModel", "remains", "(II)I"⟩, 40), (⟨"UnlikeCoinsModel", "sheetWrong", "(I)I"⟩, 40), (⟨"UnlikeCoinsModel", "unlike", "(II)I"⟩, 40), (⟨"UnlikeCoinsModel", "unlikeThought", "(I)I"⟩, 40), (⟨"UnlikeCoinsModel", "couldBy", "(II)I"⟩, 40), (⟨"UnlikeCoinsModel", "coinsOf", "(I)I"⟩, 40)]
theorem lw_r5 : ∀ q ∈ lw_privs_5, lw_okq q := List.forall_mem_cons.mpr ⟨lw_p64, List.forall_mem_cons.mpr ⟨lw_p65, List.forall_mem_cons.mpr ⟨lw_p66, List.forall_mem_cons.mpr ⟨lw_p67, List.forall_mem_cons.mpr ⟨lw_p68, List.forall_mem_cons.mpr ⟨lw_p69, List.forall_mem_cons.mpr ⟨lw_p70, fun _ h => absurd h List.not_mem_nil⟩⟩⟩⟩⟩⟩⟩
def lw_privs : List (MethodName × Nat) := lw_privs_1 ++ (lw_privs_2 ++ (lw_privs_3 ++ (lw_privs_4 ++ (lw_privs_5))))
def lw_tbl : List Cond := k2_sels lw_privs ++ tables_1
theorem lw_privs_ok : ∀ q ∈ lw_privs, lw_okq q := by
  show ∀ q ∈ lw_privs_1 ++ (lw_privs_2 ++ (lw_privs_3 ++ (lw_privs_4 ++ (lw_privs_5)))), lw_okq q
  exact List.forall_mem_append.mpr ⟨lw_r1, List.forall_mem_append.mpr ⟨lw_r2, List.forall_mem_append.mpr ⟨lw_r3, List.forall_mem_append.mpr ⟨lw_r4, lw_r5⟩⟩⟩⟩
def RX0 : String := "UnlikeCoins$Common"
def TX0 : u_T := fun k => match k with
  | 0 => ("UnlikeCoins$Sort", "told", "I", true)
  | _ => ("UnlikeCoins$Sort", "more", "I", true)
def tyX0 : Nat → FieldType := fun k => match k with
  | 0 => .int
  | _ => .int
abbrev wsX00 : List Cond := u_ws RX0 TX0 2
theorem nmX0 : ∀ a, a < 2 → ∀ b, b < 2 → a ≠ b → (TX0 a).2.1 ≠ (TX0 b).2.1 := by decide +kernel
theorem tyX0_ok : ∀ k, k < 2 → parseFieldDescriptor (TX0 k).2.2.1 = some (tyX0 k) := by decide +kernel
abbrev cX0_init : ByteArray := prog_2_method_1_code
def yX0_init : MethodName := ⟨RX0, "<init>", "(II)V"⟩
abbrev cX0_kind : ByteArray := prog_2_method_2_code
def yX0_kind : MethodName := ⟨RX0, "kind", "()I"⟩
abbrev cX0_together : ByteArray := prog_2_method_3_code
def yX0_together : MethodName := ⟨RX0, "together", "(I)I"⟩
def RX1 : String := "UnlikeCoins$Gilt"
def TX1 : u_T := fun k => match k with
  | 0 => ("UnlikeCoins$Sort", "told", "I", true)
  | _ => ("UnlikeCoins$Sort", "more", "I", true)
def tyX1 : Nat → FieldType := fun k => match k with
  | 0 => .int
  | _ => .int
abbrev wsX10 : List Cond := u_ws RX1 TX1 2
theorem nmX1 : ∀ a, a < 2 → ∀ b, b < 2 → a ≠ b → (TX1 a).2.1 ≠ (TX1 b).2.1 := by decide +kernel
theorem tyX1_ok : ∀ k, k < 2 → parseFieldDescriptor (TX1 k).2.2.1 = some (tyX1 k) := by decide +kernel
abbrev cX1_init : ByteArray := prog_3_method_1_code
def yX1_init : MethodName := ⟨RX1, "<init>", "(II)V"⟩
abbrev cX1_kind : ByteArray := prog_3_method_2_code
def yX1_kind : MethodName := ⟨RX1, "kind", "()I"⟩
abbrev cX1_leftOf : ByteArray := prog_3_method_3_code
def yX1_leftOf : MethodName := ⟨RX1, "leftOf", "(I)I"⟩
abbrev cX1_worthOf : ByteArray := prog_3_method_4_code
def yX1_worthOf : MethodName := ⟨RX1, "worthOf", "(I)I"⟩
def RX2 : String := "UnlikeCoins$Image"
def TX2 : u_T := fun k => match k with
  | 0 => ("UnlikeCoins$Image", "purses", "[LUnlikeCoins$Purse;", true)
  | 1 => ("UnlikeCoins$Image", "sortCount", "I", false)
  | 2 => ("UnlikeCoins$Image", "purseCount", "I", false)
  | 3 => ("UnlikeCoins$Image", "year", "I", false)
  | 4 => ("UnlikeCoins$Image", "law", "I", false)
  | _ => ("UnlikeCoins$Image", "isThere", "Z", false)
def tyX2 : Nat → FieldType := fun k => match k with
  | 0 => .array (.object "UnlikeCoins$Purse")
  | 1 => .int
  | 2 => .int
  | 3 => .int
  | 4 => .int
  | _ => .boolean
abbrev wsX20 : List Cond := u_ws RX2 TX2 6
theorem nmX2 : ∀ a, a < 6 → ∀ b, b < 6 → a ≠ b → (TX2 a).2.1 ≠ (TX2 b).2.1 := by decide +kernel
theorem tyX2_ok : ∀ k, k < 6 → parseFieldDescriptor (TX2 k).2.2.1 = some (tyX2 k) := by decide +kernel
abbrev cX2_init : ByteArray := prog_4_method_1_code
def yX2_init : MethodName := ⟨RX2, "<init>", "()V"⟩
def RX3 : String := "UnlikeCoins$Melting"
def TX3 : u_T := fun k => match k with
  | 0 => ("UnlikeCoins$Sort", "told", "I", true)
  | _ => ("UnlikeCoins$Sort", "more", "I", true)
def tyX3 : Nat → FieldType := fun k => match k with
  | 0 => .int
  | _ => .int
abbrev wsX30 : List Cond := u_ws RX3 TX3 2
theorem nmX3 : ∀ a, a < 2 → ∀ b, b < 2 → a ≠ b → (TX3 a).2.1 ≠ (TX3 b).2.1 := by decide +kernel
theorem tyX3_ok : ∀ k, k < 2 → parseFieldDescriptor (TX3 k).2.2.1 = some (tyX3 k) := by decide +kernel
abbrev cX3_init : ByteArray := prog_5_method_1_code
def yX3_init : MethodName := ⟨RX3, "<init>", "(II)V"⟩
abbrev cX3_kind : ByteArray := prog_5_method_2_code
def yX3_kind : MethodName := ⟨RX3, "kind", "()I"⟩
abbrev cX3_together : ByteArray := prog_5_method_3_code
def yX3_together : MethodName := ⟨RX3, "together", "(I)I"⟩
abbrev cX3_leftOf : ByteArray := prog_5_method_4_code
def yX3_leftOf : MethodName := ⟨RX3, "leftOf", "(I)I"⟩
def RX4 : String := "UnlikeCoins$Purse"
def TX4 : u_T := fun k => match k with
  | 0 => ("UnlikeCoins$Purse", "has", "[I", true)
  | 1 => ("UnlikeCoins$Purse", "left", "[I", true)
  | _ => ("UnlikeCoins$Purse", "room", "[I", true)
def tyX4 : Nat → FieldType := fun k => match k with
  | 0 => .array .int
  | 1 => .array .int
  | _ => .array .int
abbrev wsX40 : List Cond := u_ws RX4 TX4 3
theorem nmX4 : ∀ a, a < 3 → ∀ b, b < 3 → a ≠ b → (TX4 a).2.1 ≠ (TX4 b).2.1 := by decide +kernel
theorem tyX4_ok : ∀ k, k < 3 → parseFieldDescriptor (TX4 k).2.2.1 = some (tyX4 k) := by decide +kernel
abbrev cX4_init : ByteArray := prog_6_method_1_code
def yX4_init : MethodName := ⟨RX4, "<init>", "()V"⟩
abbrev cX4_many : ByteArray := prog_6_method_2_code
def yX4_many : MethodName := ⟨RX4, "many", "(I)I"⟩
abbrev cX4_put : ByteArray := prog_6_method_3_code
def yX4_put : MethodName := ⟨RX4, "put", "(II)V"⟩
abbrev cX4_grow : ByteArray := prog_6_method_4_code
def yX4_grow : MethodName := ⟨RX4, "grow", "(II)I"⟩
abbrev cX4_lose : ByteArray := prog_6_method_5_code
def yX4_lose : MethodName := ⟨RX4, "lose", "(I)V"⟩
abbrev cX4_become : ByteArray := prog_6_method_6_code
def yX4_become : MethodName := ⟨RX4, "become", "(LUnlikeCoins$Purse;)V"⟩
abbrev cX4_clear : ByteArray := prog_6_method_7_code
def yX4_clear : MethodName := ⟨RX4, "clear", "()V"⟩
abbrev cX4_coins : ByteArray := prog_6_method_8_code
def yX4_coins : MethodName := ⟨RX4, "coins", "()I"⟩
abbrev cX4_sortBits : ByteArray := prog_6_method_9_code
def yX4_sortBits : MethodName := ⟨RX4, "sortBits", "()I"⟩
abbrev cX4_worth : ByteArray := prog_6_method_10_code
def yX4_worth : MethodName := ⟨RX4, "worth", "([LUnlikeCoins$Sort;)I"⟩
abbrev cX4_lay : ByteArray := prog_6_method_11_code
def yX4_lay : MethodName := ⟨RX4, "lay", "([LUnlikeCoins$Sort;I)I"⟩
abbrev cX4_mostPlentiful : ByteArray := prog_6_method_12_code
def yX4_mostPlentiful : MethodName := ⟨RX4, "mostPlentiful", "()I"⟩
def RX5 : String := "UnlikeCoins$Reader"
def TX5 : u_T := fun k => match k with
  | 0 => ("UnlikeCoins$Reader", "tape", "[I", true)
  | 1 => ("UnlikeCoins$Reader", "code", "[I", true)
  | 2 => ("UnlikeCoins$Reader", "ends", "[I", true)
  | 3 => ("UnlikeCoins$Reader", "size", "I", false)
  | 4 => ("UnlikeCoins$Reader", "start", "I", false)
  | 5 => ("UnlikeCoins$Reader", "end", "I", false)
  | 6 => ("UnlikeCoins$Reader", "token", "I", false)
  | 7 => ("UnlikeCoins$Reader", "number", "I", false)
  | 8 => ("UnlikeCoins$Reader", "open", "I", false)
  | _ => ("UnlikeCoins$Reader", "length", "I", false)
def tyX5 : Nat → FieldType := fun k => match k with
  | 0 => .array .int
  | 1 => .array .int
  | 2 => .array .int
  | 3 => .int
  | 4 => .int
  | 5 => .int
  | 6 => .int
  | 7 => .int
  | 8 => .int
  | _ => .int
abbrev wsX50 : List Cond := u_ws RX5 TX5 10
theorem nmX5 : ∀ a, a < 10 → ∀ b, b < 10 → a ≠ b → (TX5 a).2.1 ≠ (TX5 b).2.1 := by decide +kernel
theorem tyX5_ok : ∀ k, k < 10 → parseFieldDescriptor (TX5 k).2.2.1 = some (tyX5 k) := by decide +kernel
abbrev cX5_init : ByteArray := prog_7_method_1_code
def yX5_init : MethodName := ⟨RX5, "<init>", "()V"⟩
abbrev cX5_size : ByteArray := prog_7_method_2_code
def yX5_size : MethodName := ⟨RX5, "size", "()I"⟩
abbrev cX5_hasRoom : ByteArray := prog_7_method_3_code
def yX5_hasRoom : MethodName := ⟨RX5, "hasRoom", "(I)Z"⟩
abbrev cX5_put : ByteArray := prog_7_method_4_code
def yX5_put : MethodName := ⟨RX5, "put", "(I)V"⟩
abbrev cX5_clear : ByteArray := prog_7_method_5_code
def yX5_clear : MethodName := ⟨RX5, "clear", "()V"⟩
abbrev cX5_place : ByteArray := prog_7_method_6_code
def yX5_place : MethodName := ⟨RX5, "place", "()I"⟩
abbrev cX5_textRead : ByteArray := prog_7_method_7_code
def yX5_textRead : MethodName := ⟨RX5, "textRead", "()LUnlikeCoins$Text;"⟩
abbrev cX5_readText : ByteArray := prog_7_method_8_code
def yX5_readText : MethodName := ⟨RX5, "readText", "()Z"⟩
abbrev cX5_readToken : ByteArray := prog_7_method_9_code
def yX5_readToken : MethodName := ⟨RX5, "readToken", "(I)Z"⟩
abbrev cX5_readEither : ByteArray := prog_7_method_10_code
def yX5_readEither : MethodName := ⟨RX5, "readEither", "()Z"⟩
abbrev cX5_readBoth : ByteArray := prog_7_method_11_code
def yX5_readBoth : MethodName := ⟨RX5, "readBoth", "()Z"⟩
abbrev cX5_readDenied : ByteArray := prog_7_method_12_code
def yX5_readDenied : MethodName := ⟨RX5, "readDenied", "()Z"⟩
abbrev cX5_readCompared : ByteArray := prog_7_method_13_code
def yX5_readCompared : MethodName := ⟨RX5, "readCompared", "()Z"⟩
abbrev cX5_readSum : ByteArray := prog_7_method_14_code
def yX5_readSum : MethodName := ⟨RX5, "readSum", "()Z"⟩
abbrev cX5_readTerm : ByteArray := prog_7_method_15_code
def yX5_readTerm : MethodName := ⟨RX5, "readTerm", "()Z"⟩
abbrev cX5_readOne : ByteArray := prog_7_method_16_code
def yX5_readOne : MethodName := ⟨RX5, "readOne", "()Z"⟩
abbrev cX5_emit : ByteArray := prog_7_method_17_code
def yX5_emit : MethodName := ⟨RX5, "emit", "(I)V"⟩
abbrev cX5_advance : ByteArray := prog_7_method_18_code
def yX5_advance : MethodName := ⟨RX5, "advance", "()V"⟩
abbrev cX5_readWord : ByteArray := prog_7_method_19_code
def yX5_readWord : MethodName := ⟨RX5, "readWord", "()V"⟩
abbrev cX5_isWord : ByteArray := prog_7_method_20_code
def yX5_isWord : MethodName := ⟨RX5, "isWord", "(I)Z"⟩
abbrev cX5_readNumber : ByteArray := prog_7_method_21_code
def yX5_readNumber : MethodName := ⟨RX5, "readNumber", "()V"⟩
abbrev cX5_isBlank : ByteArray := prog_7_method_22_code
def yX5_isBlank : MethodName := ⟨RX5, "isBlank", "(I)Z"⟩
abbrev cX5_isLetter : ByteArray := prog_7_method_23_code
def yX5_isLetter : MethodName := ⟨RX5, "isLetter", "(I)Z"⟩
abbrev cX5_isDigit : ByteArray := prog_7_method_24_code
def yX5_isDigit : MethodName := ⟨RX5, "isDigit", "(I)Z"⟩
def RX6 : String := "UnlikeCoins$Scarce"
def TX6 : u_T := fun k => match k with
  | 0 => ("UnlikeCoins$Sort", "told", "I", true)
  | _ => ("UnlikeCoins$Sort", "more", "I", true)
def tyX6 : Nat → FieldType := fun k => match k with
  | 0 => .int
  | _ => .int
abbrev wsX60 : List Cond := u_ws RX6 TX6 2
theorem nmX6 : ∀ a, a < 2 → ∀ b, b < 2 → a ≠ b → (TX6 a).2.1 ≠ (TX6 b).2.1 := by decide +kernel
theorem tyX6_ok : ∀ k, k < 2 → parseFieldDescriptor (TX6 k).2.2.1 = some (tyX6 k) := by decide +kernel
abbrev cX6_init : ByteArray := prog_8_method_1_code
def yX6_init : MethodName := ⟨RX6, "<init>", "(II)V"⟩
abbrev cX6_kind : ByteArray := prog_8_method_2_code
def yX6_kind : MethodName := ⟨RX6, "kind", "()I"⟩
abbrev cX6_worthOf : ByteArray := prog_8_method_3_code
def yX6_worthOf : MethodName := ⟨RX6, "worthOf", "(I)I"⟩
def RX7 : String := "UnlikeCoins$Sheet"
def TX7 : u_T := fun k => match k with
  | 0 => ("UnlikeCoins$Sheet", "row", "[I", true)
  | 1 => ("UnlikeCoins$Sheet", "form", "I", false)
  | _ => ("UnlikeCoins$Sheet", "size", "I", false)
def tyX7 : Nat → FieldType := fun k => match k with
  | 0 => .array .int
  | 1 => .int
  | _ => .int
abbrev wsX70 : List Cond := u_ws RX7 TX7 3
theorem nmX7 : ∀ a, a < 3 → ∀ b, b < 3 → a ≠ b → (TX7 a).2.1 ≠ (TX7 b).2.1 := by decide +kernel
theorem tyX7_ok : ∀ k, k < 3 → parseFieldDescriptor (TX7 k).2.2.1 = some (tyX7 k) := by decide +kernel
abbrev cX7_init : ByteArray := prog_9_method_1_code
def yX7_init : MethodName := ⟨RX7, "<init>", "()V"⟩
abbrev cX7_isMissing : ByteArray := prog_9_method_2_code
def yX7_isMissing : MethodName := ⟨RX7, "isMissing", "()Z"⟩
abbrev cX7_cannotTell : ByteArray := prog_9_method_3_code
def yX7_cannotTell : MethodName := ⟨RX7, "cannotTell", "()Z"⟩
abbrev cX7_holds : ByteArray := prog_9_method_4_code
def yX7_holds : MethodName := ⟨RX7, "holds", "(II)Z"⟩
abbrev cX7_become : ByteArray := prog_9_method_5_code
def yX7_become : MethodName := ⟨RX7, "become", "(II)V"⟩
abbrev cX7_get : ByteArray := prog_9_method_6_code
def yX7_get : MethodName := ⟨RX7, "get", "(I)I"⟩
abbrev cX7_put : ByteArray := prog_9_method_7_code
def yX7_put : MethodName := ⟨RX7, "put", "(II)V"⟩
def RX8 : String := "UnlikeCoins$Sort"
def TX8 : u_T := fun k => match k with
  | 0 => ("UnlikeCoins$Sort", "told", "I", true)
  | _ => ("UnlikeCoins$Sort", "more", "I", true)
def tyX8 : Nat → FieldType := fun k => match k with
  | 0 => .int
  | _ => .int
abbrev wsX80 : List Cond := u_ws RX8 TX8 2
theorem nmX8 : ∀ a, a < 2 → ∀ b, b < 2 → a ≠ b → (TX8 a).2.1 ≠ (TX8 b).2.1 := by decide +kernel
theorem tyX8_ok : ∀ k, k < 2 → parseFieldDescriptor (TX8 k).2.2.1 = some (tyX8 k) := by decide +kernel
abbrev cX8_init : ByteArray := prog_10_method_1_code
def yX8_init : MethodName := ⟨RX8, "<init>", "(II)V"⟩
abbrev cX8_kind : ByteArray := prog_10_method_2_code
def yX8_kind : MethodName := ⟨RX8, "kind", "()I"⟩
abbrev cX8_together : ByteArray := prog_10_method_3_code
def yX8_together : MethodName := ⟨RX8, "together", "(I)I"⟩
abbrev cX8_leftOf : ByteArray := prog_10_method_4_code
def yX8_leftOf : MethodName := ⟨RX8, "leftOf", "(I)I"⟩
abbrev cX8_worthOf : ByteArray := prog_10_method_5_code
def yX8_worthOf : MethodName := ⟨RX8, "worthOf", "(I)I"⟩
def RX9 : String := "UnlikeCoins$Stamped"
def TX9 : u_T := fun k => match k with
  | 0 => ("UnlikeCoins$Sort", "told", "I", true)
  | _ => ("UnlikeCoins$Sort", "more", "I", true)
def tyX9 : Nat → FieldType := fun k => match k with
  | 0 => .int
  | _ => .int
abbrev wsX90 : List Cond := u_ws RX9 TX9 2
theorem nmX9 : ∀ a, a < 2 → ∀ b, b < 2 → a ≠ b → (TX9 a).2.1 ≠ (TX9 b).2.1 := by decide +kernel
theorem tyX9_ok : ∀ k, k < 2 → parseFieldDescriptor (TX9 k).2.2.1 = some (tyX9 k) := by decide +kernel
abbrev cX9_init : ByteArray := prog_11_method_1_code
def yX9_init : MethodName := ⟨RX9, "<init>", "(II)V"⟩
abbrev cX9_kind : ByteArray := prog_11_method_2_code
def yX9_kind : MethodName := ⟨RX9, "kind", "()I"⟩
abbrev cX9_together : ByteArray := prog_11_method_3_code
def yX9_together : MethodName := ⟨RX9, "together", "(I)I"⟩
def RX10 : String := "UnlikeCoins$Text"
def TX10 : u_T := fun k => match k with
  | 0 => ("UnlikeCoins$Text", "code", "[I", true)
  | 1 => ("UnlikeCoins$Text", "ends", "[I", true)
  | 2 => ("UnlikeCoins$Text", "stack", "[I", true)
  | _ => ("UnlikeCoins$Text", "height", "I", false)
def tyX10 : Nat → FieldType := fun k => match k with
  | 0 => .array .int
  | 1 => .array .int
  | 2 => .array .int
  | _ => .int
abbrev wsX100 : List Cond := u_ws RX10 TX10 4
theorem nmX10 : ∀ a, a < 4 → ∀ b, b < 4 → a ≠ b → (TX10 a).2.1 ≠ (TX10 b).2.1 := by decide +kernel
theorem tyX10_ok : ∀ k, k < 4 → parseFieldDescriptor (TX10 k).2.2.1 = some (tyX10 k) := by decide +kernel
abbrev cX10_init : ByteArray := prog_12_method_1_code
def yX10_init : MethodName := ⟨RX10, "<init>", "([I[I)V"⟩
abbrev cX10_value : ByteArray := prog_12_method_2_code
def yX10_value : MethodName := ⟨RX10, "value", "(I[I)I"⟩
abbrev cX10_step : ByteArray := prog_12_method_3_code
def yX10_step : MethodName := ⟨RX10, "step", "(I[I)V"⟩
abbrev cX10_reckon : ByteArray := prog_12_method_4_code
def yX10_reckon : MethodName := ⟨RX10, "reckon", "(III)I"⟩
abbrev cX10_push : ByteArray := prog_12_method_5_code
def yX10_push : MethodName := ⟨RX10, "push", "(I)V"⟩
abbrev cX10_pop : ByteArray := prog_12_method_6_code
def yX10_pop : MethodName := ⟨RX10, "pop", "()I"⟩
def RX11 : String := "UnlikeCoins"
def TX11 : u_T := fun k => match k with
  | 0 => ("UnlikeCoins", "sorts", "[LUnlikeCoins$Sort;", true)
  | 1 => ("UnlikeCoins", "purses", "[LUnlikeCoins$Purse;", true)
  | 2 => ("UnlikeCoins", "thoughts", "[LUnlikeCoins$Purse;", true)
  | 3 => ("UnlikeCoins", "thought", "LUnlikeCoins$Purse;", true)
  | 4 => ("UnlikeCoins", "trial", "LUnlikeCoins$Purse;", true)
  | 5 => ("UnlikeCoins", "texts", "[LUnlikeCoins$Text;", true)
  | 6 => ("UnlikeCoins", "sheets", "[LUnlikeCoins$Sheet;", true)
  | 7 => ("UnlikeCoins", "reader", "LUnlikeCoins$Reader;", true)
  | 8 => ("UnlikeCoins", "kept", "LUnlikeCoins$Image;", true)
  | 9 => ("UnlikeCoins", "names", "[I", true)
  | 10 => ("UnlikeCoins", "sortCount", "I", false)
  | 11 => ("UnlikeCoins", "purseCount", "I", false)
  | 12 => ("UnlikeCoins", "textCount", "I", false)
  | 13 => ("UnlikeCoins", "year", "I", false)
  | _ => ("UnlikeCoins", "law", "I", false)
def tyX11 : Nat → FieldType := fun k => match k with
  | 0 => .array (.object "UnlikeCoins$Sort")
  | 1 => .array (.object "UnlikeCoins$Purse")
  | 2 => .array (.object "UnlikeCoins$Purse")
  | 3 => .object "UnlikeCoins$Purse"
  | 4 => .object "UnlikeCoins$Purse"
  | 5 => .array (.object "UnlikeCoins$Text")
  | 6 => .array (.object "UnlikeCoins$Sheet")
  | 7 => .object "UnlikeCoins$Reader"
  | 8 => .object "UnlikeCoins$Image"
  | 9 => .array .int
  | 10 => .int
  | 11 => .int
  | 12 => .int
  | 13 => .int
  | _ => .int
abbrev wsX110 : List Cond := u_ws RX11 TX11 15
theorem nmX11 : ∀ a, a < 15 → ∀ b, b < 15 → a ≠ b → (TX11 a).2.1 ≠ (TX11 b).2.1 := by decide +kernel
theorem tyX11_ok : ∀ k, k < 15 → parseFieldDescriptor (TX11 k).2.2.1 = some (tyX11 k) := by decide +kernel
abbrev cX11_init : ByteArray := prog_1_method_1_code
def yX11_init : MethodName := ⟨RX11, "<init>", "()V"⟩
abbrev cX11_count : ByteArray := prog_1_method_2_code
def yX11_count : MethodName := ⟨RX11, "count", "(I)I"⟩
abbrev cX11_feed : ByteArray := prog_1_method_3_code
def yX11_feed : MethodName := ⟨RX11, "feed", "(IIIIII)I"⟩
abbrev cX11_text : ByteArray := prog_1_method_4_code
def yX11_text : MethodName := ⟨RX11, "text", "()I"⟩
abbrev cX11_force : ByteArray := prog_1_method_5_code
def yX11_force : MethodName := ⟨RX11, "force", "(I)I"⟩
abbrev cX11_asks : ByteArray := prog_1_method_6_code
def yX11_asks : MethodName := ⟨RX11, "asks", "(IIII)I"⟩
abbrev cX11_sort : ByteArray := prog_1_method_7_code
def yX11_sort : MethodName := ⟨RX11, "sort", "(III)I"⟩
abbrev cX11_told : ByteArray := prog_1_method_8_code
def yX11_told : MethodName := ⟨RX11, "told", "(II)I"⟩
abbrev cX11_purse : ByteArray := prog_1_method_9_code
def yX11_purse : MethodName := ⟨RX11, "purse", "()I"⟩
abbrev cX11_set : ByteArray := prog_1_method_10_code
def yX11_set : MethodName := ⟨RX11, "set", "(III)I"⟩
abbrev cX11_of : ByteArray := prog_1_method_11_code
def yX11_of : MethodName := ⟨RX11, "of", "(II)I"⟩
abbrev cX11_all : ByteArray := prog_1_method_12_code
def yX11_all : MethodName := ⟨RX11, "all", "(II)I"⟩
abbrev cX11_often : ByteArray := prog_1_method_13_code
def yX11_often : MethodName := ⟨RX11, "often", "(III)I"⟩
abbrev cX11_buy : ByteArray := prog_1_method_14_code
def yX11_buy : MethodName := ⟨RX11, "buy", "(II)I"⟩
abbrev cX11_two : ByteArray := prog_1_method_15_code
def yX11_two : MethodName := ⟨RX11, "two", "(IIII)I"⟩
abbrev cX11_price : ByteArray := prog_1_method_16_code
def yX11_price : MethodName := ⟨RX11, "price", "(I)I"⟩
abbrev cX11_idle : ByteArray := prog_1_method_17_code
def yX11_idle : MethodName := ⟨RX11, "idle", "(II)I"⟩
abbrev cX11_dearest : ByteArray := prog_1_method_18_code
def yX11_dearest : MethodName := ⟨RX11, "dearest", "(II)I"⟩
abbrev cX11_swap : ByteArray := prog_1_method_19_code
def yX11_swap : MethodName := ⟨RX11, "swap", "(III)I"⟩
abbrev cX11_best : ByteArray := prog_1_method_20_code
def yX11_best : MethodName := ⟨RX11, "best", "(IIII)I"⟩
abbrev cX11_lacks : ByteArray := prog_1_method_21_code
def yX11_lacks : MethodName := ⟨RX11, "lacks", "(II)I"⟩
abbrev cX11_thief : ByteArray := prog_1_method_22_code
def yX11_thief : MethodName := ⟨RX11, "thief", "(III)I"⟩
abbrev cX11_rob : ByteArray := prog_1_method_23_code
def yX11_rob : MethodName := ⟨RX11, "rob", "(I)I"⟩
abbrev cX11_wage : ByteArray := prog_1_method_24_code
def yX11_wage : MethodName := ⟨RX11, "wage", "(IIII)I"⟩
abbrev cX11_strike : ByteArray := prog_1_method_25_code
def yX11_strike : MethodName := ⟨RX11, "strike", "(II)I"⟩
abbrev cX11_pass : ByteArray := prog_1_method_26_code
def yX11_pass : MethodName := ⟨RX11, "pass", "()I"⟩
abbrev cX11_judge : ByteArray := prog_1_method_27_code
def yX11_judge : MethodName := ⟨RX11, "judge", "(II)I"⟩
abbrev cX11_whose : ByteArray := prog_1_method_28_code
def yX11_whose : MethodName := ⟨RX11, "whose", "(I)I"⟩
abbrev cX11_was : ByteArray := prog_1_method_29_code
def yX11_was : MethodName := ⟨RX11, "was", "(II)I"⟩
abbrev cX11_film : ByteArray := prog_1_method_30_code
def yX11_film : MethodName := ⟨RX11, "film", "(III)I"⟩
abbrev cX11_laws : ByteArray := prog_1_method_31_code
def yX11_laws : MethodName := ⟨RX11, "laws", "(III)I"⟩
abbrev cX11_drawn : ByteArray := prog_1_method_32_code
def yX11_drawn : MethodName := ⟨RX11, "drawn", "(II)I"⟩
abbrev cX11_mean : ByteArray := prog_1_method_33_code
def yX11_mean : MethodName := ⟨RX11, "mean", "(IIII)J"⟩
abbrev cX11_image : ByteArray := prog_1_method_34_code
def yX11_image : MethodName := ⟨RX11, "image", "()I"⟩
abbrev cX11_back : ByteArray := prog_1_method_35_code
def yX11_back : MethodName := ⟨RX11, "back", "()I"⟩
abbrev cX11_sheet : ByteArray := prog_1_method_36_code
def yX11_sheet : MethodName := ⟨RX11, "sheet", "(III)I"⟩
abbrev cX11_cell : ByteArray := prog_1_method_37_code
def yX11_cell : MethodName := ⟨RX11, "cell", "(III)I"⟩
abbrev cX11_copy : ByteArray := prog_1_method_38_code
def yX11_copy : MethodName := ⟨RX11, "copy", "(IIIII)I"⟩
abbrev cX11_coinsBy : ByteArray := prog_1_method_39_code
def yX11_coinsBy : MethodName := ⟨RX11, "coinsBy", "(IIII)I"⟩
abbrev cX11_taken : ByteArray := prog_1_method_40_code
def yX11_taken : MethodName := ⟨RX11, "taken", "(II)I"⟩
abbrev cX11_within : ByteArray := prog_1_method_41_code
def yX11_within : MethodName := ⟨RX11, "within", "(III)Z"⟩
abbrev cX11_isByte : ByteArray := prog_1_method_42_code
def yX11_isByte : MethodName := ⟨RX11, "isByte", "(I)Z"⟩
abbrev cX11_isPrice : ByteArray := prog_1_method_43_code
def yX11_isPrice : MethodName := ⟨RX11, "isPrice", "(I)Z"⟩
abbrev cX11_sortAt : ByteArray := prog_1_method_44_code
def yX11_sortAt : MethodName := ⟨RX11, "sortAt", "(I)LUnlikeCoins$Sort;"⟩
abbrev cX11_purseAt : ByteArray := prog_1_method_45_code
def yX11_purseAt : MethodName := ⟨RX11, "purseAt", "(I)LUnlikeCoins$Purse;"⟩
abbrev cX11_sheetAt : ByteArray := prog_1_method_46_code
def yX11_sheetAt : MethodName := ⟨RX11, "sheetAt", "(I)LUnlikeCoins$Sheet;"⟩
abbrev cX11_newSort : ByteArray := prog_1_method_47_code
def yX11_newSort : MethodName := ⟨RX11, "newSort", "(III)LUnlikeCoins$Sort;"⟩
abbrev cX11_isOfKind : ByteArray := prog_1_method_48_code
def yX11_isOfKind : MethodName := ⟨RX11, "isOfKind", "(LUnlikeCoins$Sort;I)Z"⟩
abbrev cX11_nameAll : ByteArray := prog_1_method_49_code
def yX11_nameAll : MethodName := ⟨RX11, "nameAll", "(IIIII)V"⟩
abbrev cX11_says : ByteArray := prog_1_method_50_code
def yX11_says : MethodName := ⟨RX11, "says", "(II)I"⟩
abbrev cX11_worthAt : ByteArray := prog_1_method_51_code
def yX11_worthAt : MethodName := ⟨RX11, "worthAt", "(II)I"⟩
abbrev cX11_feeFor : ByteArray := prog_1_method_52_code
def yX11_feeFor : MethodName := ⟨RX11, "feeFor", "(II)I"⟩
abbrev cX11_timesAt : ByteArray := prog_1_method_53_code
def yX11_timesAt : MethodName := ⟨RX11, "timesAt", "(LUnlikeCoins$Purse;I)I"⟩
abbrev cX11_timesWith : ByteArray := prog_1_method_54_code
def yX11_timesWith : MethodName := ⟨RX11, "timesWith", "(LUnlikeCoins$Purse;III)I"⟩
abbrev cX11_timesOfAll : ByteArray := prog_1_method_55_code
def yX11_timesOfAll : MethodName := ⟨RX11, "timesOfAll", "(II)I"⟩
abbrev cX11_canSwap : ByteArray := prog_1_method_56_code
def yX11_canSwap : MethodName := ⟨RX11, "canSwap", "(LUnlikeCoins$Purse;LUnlikeCoins$Purse;II)Z"⟩
abbrev cX11_tryWage : ByteArray := prog_1_method_57_code
def yX11_tryWage : MethodName := ⟨RX11, "tryWage", "(LUnlikeCoins$Purse;II)I"⟩
abbrev cX11_tryPurse : ByteArray := prog_1_method_58_code
def yX11_tryPurse : MethodName := ⟨RX11, "tryPurse", "(I)I"⟩
abbrev cX11_passFor : ByteArray := prog_1_method_59_code
def yX11_passFor : MethodName := ⟨RX11, "passFor", "(LUnlikeCoins$Purse;)V"⟩
abbrev cX11_firstOther : ByteArray := prog_1_method_60_code
def yX11_firstOther : MethodName := ⟨RX11, "firstOther", "(LUnlikeCoins$Sheet;LUnlikeCoins$Purse;)I"⟩
abbrev cX11_lotBehind : ByteArray := prog_1_method_61_code
def yX11_lotBehind : MethodName := ⟨RX11, "lotBehind", "(J)J"⟩
abbrev cX11_drawnBy : ByteArray := prog_1_method_62_code
def yX11_drawnBy : MethodName := ⟨RX11, "drawnBy", "(II)I"⟩
abbrev cX11_commonDivisor : ByteArray := prog_1_method_63_code
def yX11_commonDivisor : MethodName := ⟨RX11, "commonDivisor", "(II)I"⟩
def RX12 : String := "UnlikeCoinsModel"
def TX12 : u_T := fun k => match k with
  | 0 => ("UnlikeCoinsModel", "sorts", "I", false)
  | 1 => ("UnlikeCoinsModel", "kind", "[I", true)
  | 2 => ("UnlikeCoinsModel", "toldOf", "[I", true)
  | 3 => ("UnlikeCoinsModel", "moreOf", "[I", true)
  | 4 => ("UnlikeCoinsModel", "purses", "I", false)
  | 5 => ("UnlikeCoinsModel", "has", "[I", true)
  | 6 => ("UnlikeCoinsModel", "year", "I", false)
  | 7 => ("UnlikeCoinsModel", "tape", "[I", true)
  | 8 => ("UnlikeCoinsModel", "taped", "I", false)
  | 9 => ("UnlikeCoinsModel", "codes", "[I", true)
  | 10 => ("UnlikeCoinsModel", "starts", "[I", true)
  | 11 => ("UnlikeCoinsModel", "texts", "I", false)
  | 12 => ("UnlikeCoinsModel", "rule", "I", false)
  | 13 => ("UnlikeCoinsModel", "hasImage", "Z", false)
  | 14 => ("UnlikeCoinsModel", "imageSorts", "I", false)
  | 15 => ("UnlikeCoinsModel", "imagePurses", "I", false)
  | 16 => ("UnlikeCoinsModel", "imageYear", "I", false)
  | 17 => ("UnlikeCoinsModel", "imageRule", "I", false)
  | 18 => ("UnlikeCoinsModel", "imageHas", "[I", true)
  | 19 => ("UnlikeCoinsModel", "sheetSort", "[I", true)
  | 20 => ("UnlikeCoinsModel", "sheetSize", "[I", true)
  | 21 => ("UnlikeCoinsModel", "cells", "[I", true)
  | 22 => ("UnlikeCoinsModel", "law", "[I", true)
  | 23 => ("UnlikeCoinsModel", "at", "I", false)
  | 24 => ("UnlikeCoinsModel", "begun", "I", false)
  | 25 => ("UnlikeCoinsModel", "token", "I", false)
  | 26 => ("UnlikeCoinsModel", "value", "I", false)
  | 27 => ("UnlikeCoinsModel", "words", "[I", true)
  | 28 => ("UnlikeCoinsModel", "held", "[I", true)
  | 29 => ("UnlikeCoinsModel", "heldMany", "I", false)
  | 30 => ("UnlikeCoinsModel", "opens", "I", false)
  | 31 => ("UnlikeCoinsModel", "out", "I", false)
  | 32 => ("UnlikeCoinsModel", "stack", "[I", true)
  | 33 => ("UnlikeCoinsModel", "named", "[I", true)
  | 34 => ("UnlikeCoinsModel", "left", "[I", true)
  | 35 => ("UnlikeCoinsModel", "began", "[I", true)
  | 36 => ("UnlikeCoinsModel", "lies", "[I", true)
  | 37 => ("UnlikeCoinsModel", "row", "[I", true)
  | 38 => ("UnlikeCoinsModel", "thought", "[I", true)
  | _ => ("UnlikeCoinsModel", "keptHas", "[I", true)
def tyX12 : Nat → FieldType := fun k => match k with
  | 0 => .int
  | 1 => .array .int
  | 2 => .array .int
  | 3 => .array .int
  | 4 => .int
  | 5 => .array .int
  | 6 => .int
  | 7 => .array .int
  | 8 => .int
  | 9 => .array .int
  | 10 => .array .int
  | 11 => .int
  | 12 => .int
  | 13 => .boolean
  | 14 => .int
  | 15 => .int
  | 16 => .int
  | 17 => .int
  | 18 => .array .int
  | 19 => .array .int
  | 20 => .array .int
  | 21 => .array .int
  | 22 => .array .int
  | 23 => .int
  | 24 => .int
  | 25 => .int
  | 26 => .int
  | 27 => .array .int
  | 28 => .array .int
  | 29 => .int
  | 30 => .int
  | 31 => .int
  | 32 => .array .int
  | 33 => .array .int
  | 34 => .array .int
  | 35 => .array .int
  | 36 => .array .int
  | 37 => .array .int
  | 38 => .array .int
  | _ => .array .int
abbrev wsX120 : List Cond := u_ws RX12 TX12 40
theorem nmX12 : ∀ a, a < 40 → ∀ b, b < 40 → a ≠ b → (TX12 a).2.1 ≠ (TX12 b).2.1 := by decide +kernel
theorem tyX12_ok : ∀ k, k < 40 → parseFieldDescriptor (TX12 k).2.2.1 = some (tyX12 k) := by decide +kernel
abbrev cX12_init : ByteArray := prog_14_method_1_code
def yX12_init : MethodName := ⟨RX12, "<init>", "()V"⟩
abbrev cX12_in : ByteArray := prog_14_method_3_code
def yX12_in : MethodName := ⟨RX12, "in", "(III)Z"⟩
abbrev cX12_within : ByteArray := prog_14_method_4_code
def yX12_within : MethodName := ⟨RX12, "within", "(III)I"⟩
abbrev cX12_isSort : ByteArray := prog_14_method_5_code
def yX12_isSort : MethodName := ⟨RX12, "isSort", "(I)Z"⟩
abbrev cX12_isPurse : ByteArray := prog_14_method_6_code
def yX12_isPurse : MethodName := ⟨RX12, "isPurse", "(I)Z"⟩
abbrev cX12_isPrice : ByteArray := prog_14_method_7_code
def yX12_isPrice : MethodName := ⟨RX12, "isPrice", "(I)Z"⟩
abbrev cX12_count : ByteArray := prog_14_method_8_code
def yX12_count : MethodName := ⟨RX12, "count", "(I)I"⟩
abbrev cX12_isByte : ByteArray := prog_14_method_9_code
def yX12_isByte : MethodName := ⟨RX12, "isByte", "(I)Z"⟩
abbrev cX12_feed : ByteArray := prog_14_method_10_code
def yX12_feed : MethodName := ⟨RX12, "feed", "(IIIIII)I"⟩
abbrev cX12_wordFrom : ByteArray := prog_14_method_11_code
def yX12_wordFrom : MethodName := ⟨RX12, "wordFrom", "(II)I"⟩
abbrev cX12_next : ByteArray := prog_14_method_12_code
def yX12_next : MethodName := ⟨RX12, "next", "()V"⟩
abbrev cX12_rank : ByteArray := prog_14_method_13_code
def yX12_rank : MethodName := ⟨RX12, "rank", "(I)I"⟩
abbrev cX12_puts : ByteArray := prog_14_method_14_code
def yX12_puts : MethodName := ⟨RX12, "puts", "(I)V"⟩
abbrev cX12_unwinds : ByteArray := prog_14_method_15_code
def yX12_unwinds : MethodName := ⟨RX12, "unwinds", "(I)V"⟩
abbrev cX12_holds : ByteArray := prog_14_method_16_code
def yX12_holds : MethodName := ⟨RX12, "holds", "(I)V"⟩
abbrev cX12_opensOne : ByteArray := prog_14_method_17_code
def yX12_opensOne : MethodName := ⟨RX12, "opensOne", "(I)Z"⟩
abbrev cX12_between : ByteArray := prog_14_method_18_code
def yX12_between : MethodName := ⟨RX12, "between", "(I)Z"⟩
abbrev cX12_signOf : ByteArray := prog_14_method_19_code
def yX12_signOf : MethodName := ⟨RX12, "signOf", "()I"⟩
abbrev cX12_eRead : ByteArray := prog_14_method_20_code
def yX12_eRead : MethodName := ⟨RX12, "eRead", "()Z"⟩
abbrev cX12_text : ByteArray := prog_14_method_21_code
def yX12_text : MethodName := ⟨RX12, "text", "()I"⟩
abbrev cX12_two : ByteArray := prog_14_method_22_code
def yX12_two : MethodName := ⟨RX12, "two", "(III)I"⟩
abbrev cX12_says : ByteArray := prog_14_method_23_code
def yX12_says : MethodName := ⟨RX12, "says", "(I)I"⟩
abbrev cX12_force : ByteArray := prog_14_method_24_code
def yX12_force : MethodName := ⟨RX12, "force", "(I)I"⟩
abbrev cX12_asksOf : ByteArray := prog_14_method_25_code
def yX12_asksOf : MethodName := ⟨RX12, "asksOf", "(IIIIII)I"⟩
abbrev cX12_asks : ByteArray := prog_14_method_26_code
def yX12_asks : MethodName := ⟨RX12, "asks", "(IIII)I"⟩
abbrev cX12_worthOf : ByteArray := prog_14_method_27_code
def yX12_worthOf : MethodName := ⟨RX12, "worthOf", "(I)I"⟩
abbrev cX12_feeOf : ByteArray := prog_14_method_28_code
def yX12_feeOf : MethodName := ⟨RX12, "feeOf", "(II)I"⟩
abbrev cX12_sort : ByteArray := prog_14_method_29_code
def yX12_sort : MethodName := ⟨RX12, "sort", "(III)I"⟩
abbrev cX12_told : ByteArray := prog_14_method_30_code
def yX12_told : MethodName := ⟨RX12, "told", "(II)I"⟩
abbrev cX12_purse : ByteArray := prog_14_method_31_code
def yX12_purse : MethodName := ⟨RX12, "purse", "()I"⟩
abbrev cX12_set : ByteArray := prog_14_method_32_code
def yX12_set : MethodName := ⟨RX12, "set", "(III)I"⟩
abbrev cX12_of : ByteArray := prog_14_method_33_code
def yX12_of : MethodName := ⟨RX12, "of", "(II)I"⟩
abbrev cX12_together : ByteArray := prog_14_method_34_code
def yX12_together : MethodName := ⟨RX12, "together", "(II)I"⟩
abbrev cX12_remains : ByteArray := prog_14_method_35_code
def yX12_remains : MethodName := ⟨RX12, "remains", "(II)I"⟩
abbrev cX12_coinWorth : ByteArray := prog_14_method_36_code
def yX12_coinWorth : MethodName := ⟨RX12, "coinWorth", "(II)I"⟩
abbrev cX12_coinsOf : ByteArray := prog_14_method_37_code
def yX12_coinsOf : MethodName := ⟨RX12, "coinsOf", "(I)I"⟩
abbrev cX12_all : ByteArray := prog_14_method_38_code
def yX12_all : MethodName := ⟨RX12, "all", "(II)I"⟩
abbrev cX12_thinksOf : ByteArray := prog_14_method_39_code
def yX12_thinksOf : MethodName := ⟨RX12, "thinksOf", "(I)V"⟩
abbrev cX12_nextLaid : ByteArray := prog_14_method_40_code
def yX12_nextLaid : MethodName := ⟨RX12, "nextLaid", "()I"⟩
abbrev cX12_lays : ByteArray := prog_14_method_41_code
def yX12_lays : MethodName := ⟨RX12, "lays", "(I)Z"⟩
abbrev cX12_oftenNow : ByteArray := prog_14_method_42_code
def yX12_oftenNow : MethodName := ⟨RX12, "oftenNow", "(I)I"⟩
abbrev cX12_oftenOf : ByteArray := prog_14_method_43_code
def yX12_oftenOf : MethodName := ⟨RX12, "oftenOf", "(II)I"⟩
abbrev cX12_leftNow : ByteArray := prog_14_method_44_code
def yX12_leftNow : MethodName := ⟨RX12, "leftNow", "(I)I"⟩
abbrev cX12_often : ByteArray := prog_14_method_45_code
def yX12_often : MethodName := ⟨RX12, "often", "(III)I"⟩
abbrev cX12_comesTrue : ByteArray := prog_14_method_46_code
def yX12_comesTrue : MethodName := ⟨RX12, "comesTrue", "(I)I"⟩
abbrev cX12_buy : ByteArray := prog_14_method_47_code
def yX12_buy : MethodName := ⟨RX12, "buy", "(II)I"⟩
abbrev cX12_worthTwo : ByteArray := prog_14_method_48_code
def yX12_worthTwo : MethodName := ⟨RX12, "worthTwo", "(IIII)I"⟩
abbrev cX12_two_ : ByteArray := prog_14_method_49_code
def yX12_two_ : MethodName := ⟨RX12, "two", "(IIII)I"⟩
abbrev cX12_oftenOfAll : ByteArray := prog_14_method_50_code
def yX12_oftenOfAll : MethodName := ⟨RX12, "oftenOfAll", "(I)I"⟩
abbrev cX12_price : ByteArray := prog_14_method_51_code
def yX12_price : MethodName := ⟨RX12, "price", "(I)I"⟩
abbrev cX12_idle : ByteArray := prog_14_method_52_code
def yX12_idle : MethodName := ⟨RX12, "idle", "(II)I"⟩
abbrev cX12_dearest : ByteArray := prog_14_method_53_code
def yX12_dearest : MethodName := ⟨RX12, "dearest", "(II)I"⟩
abbrev cX12_areTwo : ByteArray := prog_14_method_54_code
def yX12_areTwo : MethodName := ⟨RX12, "areTwo", "(II)Z"⟩
abbrev cX12_canSwap : ByteArray := prog_14_method_55_code
def yX12_canSwap : MethodName := ⟨RX12, "canSwap", "(IIII)Z"⟩
abbrev cX12_swaps : ByteArray := prog_14_method_56_code
def yX12_swaps : MethodName := ⟨RX12, "swaps", "(IIII)V"⟩
abbrev cX12_swap : ByteArray := prog_14_method_57_code
def yX12_swap : MethodName := ⟨RX12, "swap", "(III)I"⟩
abbrev cX12_best : ByteArray := prog_14_method_58_code
def yX12_best : MethodName := ⟨RX12, "best", "(IIII)I"⟩
abbrev cX12_oftenWithMore : ByteArray := prog_14_method_59_code
def yX12_oftenWithMore : MethodName := ⟨RX12, "oftenWithMore", "(II)I"⟩
abbrev cX12_lacks : ByteArray := prog_14_method_60_code
def yX12_lacks : MethodName := ⟨RX12, "lacks", "(II)I"⟩
abbrev cX12_thief : ByteArray := prog_14_method_61_code
def yX12_thief : MethodName := ⟨RX12, "thief", "(III)I"⟩
abbrev cX12_rob : ByteArray := prog_14_method_62_code
def yX12_rob : MethodName := ⟨RX12, "rob", "(I)I"⟩
abbrev cX12_nextRow : ByteArray := prog_14_method_63_code
def yX12_nextRow : MethodName := ⟨RX12, "nextRow", "(I)Z"⟩
abbrev cX12_oftenWithRow : ByteArray := prog_14_method_64_code
def yX12_oftenWithRow : MethodName := ⟨RX12, "oftenWithRow", "(III)I"⟩
abbrev cX12_rowDigits : ByteArray := prog_14_method_65_code
def yX12_rowDigits : MethodName := ⟨RX12, "rowDigits", "(I)I"⟩
abbrev cX12_wage : ByteArray := prog_14_method_66_code
def yX12_wage : MethodName := ⟨RX12, "wage", "(IIII)I"⟩
abbrev cX12_strike : ByteArray := prog_14_method_67_code
def yX12_strike : MethodName := ⟨RX12, "strike", "(II)I"⟩
abbrev cX12_pass : ByteArray := prog_14_method_68_code
def yX12_pass : MethodName := ⟨RX12, "pass", "()I"⟩
abbrev cX12_sheetWrong : ByteArray := prog_14_method_69_code
def yX12_sheetWrong : MethodName := ⟨RX12, "sheetWrong", "(I)I"⟩
abbrev cX12_unlikeThought : ByteArray := prog_14_method_70_code
def yX12_unlikeThought : MethodName := ⟨RX12, "unlikeThought", "(I)I"⟩
abbrev cX12_unlike : ByteArray := prog_14_method_71_code
def yX12_unlike : MethodName := ⟨RX12, "unlike", "(II)I"⟩
abbrev cX12_judge : ByteArray := prog_14_method_72_code
def yX12_judge : MethodName := ⟨RX12, "judge", "(II)I"⟩
abbrev cX12_whose : ByteArray := prog_14_method_73_code
def yX12_whose : MethodName := ⟨RX12, "whose", "(I)I"⟩
abbrev cX12_was : ByteArray := prog_14_method_74_code
def yX12_was : MethodName := ⟨RX12, "was", "(II)I"⟩
abbrev cX12_film : ByteArray := prog_14_method_75_code
def yX12_film : MethodName := ⟨RX12, "film", "(III)I"⟩
abbrev cX12_laws : ByteArray := prog_14_method_76_code
def yX12_laws : MethodName := ⟨RX12, "laws", "(III)I"⟩
abbrev cX12_couldBy : ByteArray := prog_14_method_77_code
def yX12_couldBy : MethodName := ⟨RX12, "couldBy", "(II)I"⟩
abbrev cX12_isDrawn : ByteArray := prog_14_method_78_code
def yX12_isDrawn : MethodName := ⟨RX12, "isDrawn", "(II)Z"⟩
abbrev cX12_drawn : ByteArray := prog_14_method_79_code
def yX12_drawn : MethodName := ⟨RX12, "drawn", "(II)I"⟩
abbrev cX12_lowest : ByteArray := prog_14_method_80_code
def yX12_lowest : MethodName := ⟨RX12, "lowest", "(JJI)J"⟩
abbrev cX12_mean : ByteArray := prog_14_method_81_code
def yX12_mean : MethodName := ⟨RX12, "mean", "(IIII)J"⟩
abbrev cX12_image : ByteArray := prog_14_method_82_code
def yX12_image : MethodName := ⟨RX12, "image", "()I"⟩
abbrev cX12_back : ByteArray := prog_14_method_83_code
def yX12_back : MethodName := ⟨RX12, "back", "()I"⟩
abbrev cX12_sheet : ByteArray := prog_14_method_84_code
def yX12_sheet : MethodName := ⟨RX12, "sheet", "(III)I"⟩
abbrev cX12_cell : ByteArray := prog_14_method_85_code
def yX12_cell : MethodName := ⟨RX12, "cell", "(III)I"⟩
abbrev cX12_copy : ByteArray := prog_14_method_86_code
def yX12_copy : MethodName := ⟨RX12, "copy", "(IIIII)I"⟩
abbrev cX12_coinsBy : ByteArray := prog_14_method_87_code
def yX12_coinsBy : MethodName := ⟨RX12, "coinsBy", "(IIII)I"⟩
abbrev cX12_isUnder : ByteArray := prog_14_method_88_code
def yX12_isUnder : MethodName := ⟨RX12, "isUnder", "(II)Z"⟩
abbrev cX12_taken : ByteArray := prog_14_method_89_code
def yX12_taken : MethodName := ⟨RX12, "taken", "(II)I"⟩
def RJx145de : String := "java/io/Serializable"
def TJx145de : u_T := fun k => match k with
  | _ => ("", "", "", false)
def tyJx145de : Nat → FieldType := fun k => match k with
  | _ => .int
abbrev wsJx145de0 : List Cond := u_ws RJx145de TJx145de 0
theorem nmJx145de : ∀ a, a < 0 → ∀ b, b < 0 → a ≠ b → (TJx145de a).2.1 ≠ (TJx145de b).2.1 := by decide +kernel
theorem tyJx145de_ok : ∀ k, k < 0 → parseFieldDescriptor (TJx145de k).2.2.1 = some (tyJx145de k) := by decide +kernel
def RJx9f9b0 : String := "java/lang/CharSequence"
def TJx9f9b0 : u_T := fun k => match k with
  | _ => ("", "", "", false)
def tyJx9f9b0 : Nat → FieldType := fun k => match k with
  | _ => .int
abbrev wsJx9f9b00 : List Cond := u_ws RJx9f9b0 TJx9f9b0 0
theorem nmJx9f9b0 : ∀ a, a < 0 → ∀ b, b < 0 → a ≠ b → (TJx9f9b0 a).2.1 ≠ (TJx9f9b0 b).2.1 := by decide +kernel
theorem tyJx9f9b0_ok : ∀ k, k < 0 → parseFieldDescriptor (TJx9f9b0 k).2.2.1 = some (tyJx9f9b0 k) := by decide +kernel
def RJ11 : String := "java/lang/Character"
def TJ11 : u_T := fun k => match k with
  | _ => ("", "", "", false)
def tyJ11 : Nat → FieldType := fun k => match k with
  | _ => .int
abbrev wsJ110 : List Cond := u_ws RJ11 TJ11 0
theorem nmJ11 : ∀ a, a < 0 → ∀ b, b < 0 → a ≠ b → (TJ11 a).2.1 ≠ (TJ11 b).2.1 := by decide +kernel
theorem tyJ11_ok : ∀ k, k < 0 → parseFieldDescriptor (TJ11 k).2.2.1 = some (tyJ11 k) := by decide +kernel
abbrev cJ11_isValidCodePoint_9a6ad : ByteArray := prog_15_method_11_code
def yJ11_isValidCodePoint_9a6ad : MethodName := ⟨RJ11, "isValidCodePoint", "(I)Z"⟩
abbrev cJ11_highSurrogate_5068e : ByteArray := prog_15_method_28_code
def yJ11_highSurrogate_5068e : MethodName := ⟨RJ11, "highSurrogate", "(I)C"⟩
abbrev cJ11_lowSurrogate_5068e : ByteArray := prog_15_method_29_code
def yJ11_lowSurrogate_5068e : MethodName := ⟨RJ11, "lowSurrogate", "(I)C"⟩
def RJx8e188 : String := "java/lang/Cloneable"
def TJx8e188 : u_T := fun k => match k with
  | _ => ("", "", "", false)
def tyJx8e188 : Nat → FieldType := fun k => match k with
  | _ => .int
abbrev wsJx8e1880 : List Cond := u_ws RJx8e188 TJx8e188 0
theorem nmJx8e188 : ∀ a, a < 0 → ∀ b, b < 0 → a ≠ b → (TJx8e188 a).2.1 ≠ (TJx8e188 b).2.1 := by decide +kernel
theorem tyJx8e188_ok : ∀ k, k < 0 → parseFieldDescriptor (TJx8e188 k).2.2.1 = some (tyJx8e188 k) := by decide +kernel
def RJxb160c : String := "java/lang/Comparable"
def TJxb160c : u_T := fun k => match k with
  | _ => ("", "", "", false)
def tyJxb160c : Nat → FieldType := fun k => match k with
  | _ => .int
abbrev wsJxb160c0 : List Cond := u_ws RJxb160c TJxb160c 0
theorem nmJxb160c : ∀ a, a < 0 → ∀ b, b < 0 → a ≠ b → (TJxb160c a).2.1 ≠ (TJxb160c b).2.1 := by decide +kernel
theorem tyJxb160c_ok : ∀ k, k < 0 → parseFieldDescriptor (TJxb160c k).2.2.1 = some (tyJxb160c k) := by decide +kernel
def RJ9 : String := "java/lang/Math"
def TJ9 : u_T := fun k => match k with
  | _ => ("", "", "", false)
def tyJ9 : Nat → FieldType := fun k => match k with
  | _ => .int
abbrev wsJ90 : List Cond := u_ws RJ9 TJ9 0
theorem nmJ9 : ∀ a, a < 0 → ∀ b, b < 0 → a ≠ b → (TJ9 a).2.1 ≠ (TJ9 b).2.1 := by decide +kernel
theorem tyJ9_ok : ∀ k, k < 0 → parseFieldDescriptor (TJ9 k).2.2.1 = some (tyJ9 k) := by decide +kernel
abbrev cJ9_max_7cf53 : ByteArray := prog_17_method_65_code
def yJ9_max_7cf53 : MethodName := ⟨RJ9, "max", "(II)I"⟩
abbrev cJ9_min_7cf53 : ByteArray := prog_17_method_69_code
def yJ9_min_7cf53 : MethodName := ⟨RJ9, "min", "(II)I"⟩
def RJ0 : String := "java/lang/String"
def TJ0 : u_T := fun k => match k with
  | _ => ("", "", "", false)
def tyJ0 : Nat → FieldType := fun k => match k with
  | _ => .int
abbrev wsJ00 : List Cond := u_ws RJ0 TJ0 0
theorem nmJ0 : ∀ a, a < 0 → ∀ b, b < 0 → a ≠ b → (TJ0 a).2.1 ≠ (TJ0 b).2.1 := by decide +kernel
theorem tyJ0_ok : ∀ k, k < 0 → parseFieldDescriptor (TJ0 k).2.2.1 = some (tyJ0 k) := by decide +kernel
abbrev cJ0_length_8abf5 : ByteArray := prog_18_method_54_code
def yJ0_length_8abf5 : MethodName := ⟨RJ0, "length", "()I"⟩
abbrev cJ0_charAt_5068e : ByteArray := prog_18_method_56_code
def yJ0_charAt_5068e : MethodName := ⟨RJ0, "charAt", "(I)C"⟩
abbrev cJ0_indexOf_0f7a4 : ByteArray := prog_18_method_79_code
def yJ0_indexOf_0f7a4 : MethodName := ⟨RJ0, "indexOf", "(I)I"⟩
abbrev cJ0_indexOf_7cf53 : ByteArray := prog_18_method_80_code
def yJ0_indexOf_7cf53 : MethodName := ⟨RJ0, "indexOf", "(II)I"⟩
abbrev cJ0_coder_7d493 : ByteArray := prog_18_method_152_code
def yJ0_coder_7d493 : MethodName := ⟨RJ0, "coder", "()B"⟩
abbrev cJ0_isLatin1_aae02 : ByteArray := prog_18_method_154_code
def yJ0_isLatin1_aae02 : MethodName := ⟨RJ0, "isLatin1", "()Z"⟩
abbrev cJ0_checkIndex_df160 : ByteArray := prog_18_method_155_code
def yJ0_checkIndex_df160 : MethodName := ⟨RJ0, "checkIndex", "(II)V"⟩
abbrev cJ0_checkBoundsBeginEnd_23922 : ByteArray := prog_18_method_158_code
def yJ0_checkBoundsBeginEnd_23922 : MethodName := ⟨RJ0, "checkBoundsBeginEnd", "(III)V"⟩
def RJ1 : String := "java/lang/StringLatin1"
def TJ1 : u_T := fun k => match k with
  | _ => ("", "", "", false)
def tyJ1 : Nat → FieldType := fun k => match k with
  | _ => .int
abbrev wsJ10 : List Cond := u_ws RJ1 TJ1 0
theorem nmJ1 : ∀ a, a < 0 → ∀ b, b < 0 → a ≠ b → (TJ1 a).2.1 ≠ (TJ1 b).2.1 := by decide +kernel
theorem tyJ1_ok : ∀ k, k < 0 → parseFieldDescriptor (TJ1 k).2.2.1 = some (tyJ1 k) := by decide +kernel
abbrev cJ1_charAt_3b067 : ByteArray := prog_19_method_2_code
def yJ1_charAt_3b067 : MethodName := ⟨RJ1, "charAt", "([BI)C"⟩
abbrev cJ1_canEncode_9a6ad : ByteArray := prog_19_method_4_code
def yJ1_canEncode_9a6ad : MethodName := ⟨RJ1, "canEncode", "(I)Z"⟩
abbrev cJ1_indexOf_4cfef : ByteArray := prog_19_method_22_code
def yJ1_indexOf_4cfef : MethodName := ⟨RJ1, "indexOf", "([BIII)I"⟩
abbrev cJ1_indexOfChar_4cfef : ByteArray := prog_19_method_23_code
def yJ1_indexOfChar_4cfef : MethodName := ⟨RJ1, "indexOfChar", "([BIII)I"⟩
def RJ2 : String := "java/lang/StringUTF16"
def TJ2 : u_T := fun k => match k with
  | _ => ("", "", "", false)
def tyJ2 : Nat → FieldType := fun k => match k with
  | _ => .int
abbrev wsJ20 : List Cond := u_ws RJ2 TJ2 0
theorem nmJ2 : ∀ a, a < 0 → ∀ b, b < 0 → a ≠ b → (TJ2 a).2.1 ≠ (TJ2 b).2.1 := by decide +kernel
theorem tyJ2_ok : ∀ k, k < 0 → parseFieldDescriptor (TJ2 k).2.2.1 = some (tyJ2 k) := by decide +kernel
abbrev cJ2_getChar_3b067 : ByteArray := prog_20_method_5_code
def yJ2_getChar_3b067 : MethodName := ⟨RJ2, "getChar", "([BI)C"⟩
abbrev cJ2_length_9d52b : ByteArray := prog_20_method_6_code
def yJ2_length_9d52b : MethodName := ⟨RJ2, "length", "([B)I"⟩
abbrev cJ2_indexOf_4cfef : ByteArray := prog_20_method_40_code
def yJ2_indexOf_4cfef : MethodName := ⟨RJ2, "indexOf", "([BIII)I"⟩
abbrev cJ2_indexOfChar_4cfef : ByteArray := prog_20_method_47_code
def yJ2_indexOfChar_4cfef : MethodName := ⟨RJ2, "indexOfChar", "([BIII)I"⟩
abbrev cJ2_indexOfCharUnsafe_4cfef : ByteArray := prog_20_method_48_code
def yJ2_indexOfCharUnsafe_4cfef : MethodName := ⟨RJ2, "indexOfCharUnsafe", "([BIII)I"⟩
abbrev cJ2_indexOfSupplementary_4cfef : ByteArray := prog_20_method_49_code
def yJ2_indexOfSupplementary_4cfef : MethodName := ⟨RJ2, "indexOfSupplementary", "([BIII)I"⟩
abbrev cJ2_charAt_3b067 : ByteArray := prog_20_method_83_code
def yJ2_charAt_3b067 : MethodName := ⟨RJ2, "charAt", "([BI)C"⟩
abbrev cJ2_checkIndex_2214a : ByteArray := prog_20_method_91_code
def yJ2_checkIndex_2214a : MethodName := ⟨RJ2, "checkIndex", "(I[B)V"⟩
abbrev cJ2_checkBoundsBeginEnd_d044e : ByteArray := prog_20_method_93_code
def yJ2_checkBoundsBeginEnd_d044e : MethodName := ⟨RJ2, "checkBoundsBeginEnd", "(II[B)V"⟩
def RJ10 : String := "java/lang/System"
def TJ10 : u_T := fun k => match k with
  | _ => ("", "", "", false)
def tyJ10 : Nat → FieldType := fun k => match k with
  | _ => .int
abbrev wsJ100 : List Cond := u_ws RJ10 TJ10 0
theorem nmJ10 : ∀ a, a < 0 → ∀ b, b < 0 → a ≠ b → (TJ10 a).2.1 ≠ (TJ10 b).2.1 := by decide +kernel
theorem tyJ10_ok : ∀ k, k < 0 → parseFieldDescriptor (TJ10 k).2.2.1 = some (tyJ10 k) := by decide +kernel
def RJxfd54e : String := "java/lang/constant/Constable"
def TJxfd54e : u_T := fun k => match k with
  | _ => ("", "", "", false)
def tyJxfd54e : Nat → FieldType := fun k => match k with
  | _ => .int
abbrev wsJxfd54e0 : List Cond := u_ws RJxfd54e TJxfd54e 0
theorem nmJxfd54e : ∀ a, a < 0 → ∀ b, b < 0 → a ≠ b → (TJxfd54e a).2.1 ≠ (TJxfd54e b).2.1 := by decide +kernel
theorem tyJxfd54e_ok : ∀ k, k < 0 → parseFieldDescriptor (TJxfd54e k).2.2.1 = some (tyJxfd54e k) := by decide +kernel
def RJx3cf43 : String := "java/lang/constant/ConstantDesc"
def TJx3cf43 : u_T := fun k => match k with
  | _ => ("", "", "", false)
def tyJx3cf43 : Nat → FieldType := fun k => match k with
  | _ => .int
abbrev wsJx3cf430 : List Cond := u_ws RJx3cf43 TJx3cf43 0
theorem nmJx3cf43 : ∀ a, a < 0 → ∀ b, b < 0 → a ≠ b → (TJx3cf43 a).2.1 ≠ (TJx3cf43 b).2.1 := by decide +kernel
theorem tyJx3cf43_ok : ∀ k, k < 0 → parseFieldDescriptor (TJx3cf43 k).2.2.1 = some (tyJx3cf43 k) := by decide +kernel
def RJ7 : String := "java/util/Arrays"
def TJ7 : u_T := fun k => match k with
  | _ => ("", "", "", false)
def tyJ7 : Nat → FieldType := fun k => match k with
  | _ => .int
abbrev wsJ70 : List Cond := u_ws RJ7 TJ7 0
theorem nmJ7 : ∀ a, a < 0 → ∀ b, b < 0 → a ≠ b → (TJ7 a).2.1 ≠ (TJ7 b).2.1 := by decide +kernel
theorem tyJ7_ok : ∀ k, k < 0 → parseFieldDescriptor (TJ7 k).2.2.1 = some (tyJ7 k) := by decide +kernel
abbrev cJ7_fill_53178 : ByteArray := prog_22_method_103_code
def yJ7_fill_53178 : MethodName := ⟨RJ7, "fill", "([II)V"⟩
abbrev cJ7_copyOf_59c91 : ByteArray := prog_22_method_123_code
def yJ7_copyOf_59c91 : MethodName := ⟨RJ7, "copyOf", "([II)[I"⟩
def RJ3 : String := "jdk/internal/util/Preconditions"
def TJ3 : u_T := fun k => match k with
  | _ => ("", "", "", false)
def tyJ3 : Nat → FieldType := fun k => match k with
  | _ => .int
abbrev wsJ30 : List Cond := u_ws RJ3 TJ3 0
theorem nmJ3 : ∀ a, a < 0 → ∀ b, b < 0 → a ≠ b → (TJ3 a).2.1 ≠ (TJ3 b).2.1 := by decide +kernel
theorem tyJ3_ok : ∀ k, k < 0 → parseFieldDescriptor (TJ3 k).2.2.1 = some (tyJ3 k) := by decide +kernel
abbrev cJ3_checkIndex_8e157 : ByteArray := prog_23_method_11_code
def yJ3_checkIndex_8e157 : MethodName := ⟨RJ3, "checkIndex", "(IILjava/util/function/BiFunction;)I"⟩
abbrev cJ3_checkFromToIndex_8c36e : ByteArray := prog_23_method_12_code
def yJ3_checkFromToIndex_8c36e : MethodName := ⟨RJ3, "checkFromToIndex", "(IIILjava/util/function/BiFunction;)I"⟩
def RL : String := "UnlikeCoinsLaw"
abbrev cL_law : ByteArray := code
def yL_law : MethodName := ⟨RL, "law", "([I)Z"⟩
abbrev vwCl : List vw_C := [(RX0, TX0, 2), (RX1, TX1, 2), (RX2, TX2, 6), (RX3, TX3, 2), (RX4, TX4, 3), (RX5, TX5, 10), (RX6, TX6, 2), (RX7, TX7, 3), (RX8, TX8, 2), (RX9, TX9, 2), (RX10, TX10, 4), (RX11, TX11, 15), (RX12, TX12, 40)]
end
section
def gw_tbl : List Cond := lw_tbl.filter goodWord
theorem gw_mem {w : Cond} {i : Nat} (h : tables_1[i]? = some w) (hg : goodWord w = true) : w ∈ gw_tbl := List.mem_filter.mpr ⟨List.mem_append_right _ (List.mem_of_getElem? h), hg⟩
theorem gw_sel {q : MethodName × Nat} {i : Nat} (h : lw_privs[i]? = some q) (hg : goodWord (Cond.selects q.1.cls q.1 q.1) = true) : Cond.selects q.1.cls q.1 q.1 ∈ gw_tbl := List.mem_filter.mpr ⟨List.mem_append_left _ (List.mem_map.mpr ⟨q, List.mem_of_getElem? h, rfl⟩), hg⟩
theorem gw_good : ∀ w ∈ gw_tbl, goodWord w = true := fun _ h => (List.mem_filter.mp h).2
/-! THE WORLD AS NUMBERS: every cell that the law makes has a number from 8 on (in the order of making); 0 is the script, 1 .. 3 are string constants. Zs: how many cells, what each is (a class' place in vwCl; 100 int[], 101 Sort[], 102 Purse[], 103 Text[], 104 Sheet[]; 105 and above: nothing here), lengths, references; Is: all ints (fields by their slot, arrays by their index). -/
abbrev Mth : Type := MethodName × ByteArray × Nat × Option FieldType
abbrev Is : Type := Nat → Nat → Int32
abbrev Zs : Type := Nat × (Nat → Nat) × (Nat → Nat) × (Nat → Nat → Option Nat)
def zN (z : Zs) : Nat := z.1
def zT (z : Zs) : Nat → Nat := z.2.1
def zL (z : Zs) : Nat → Nat := z.2.2.1
def zP (z : Zs) : Nat → Nat → Option Nat := z.2.2.2
def up1 {α : Type} (f : Nat → α) (a : Nat) (v : α) : Nat → α := fun b => if b = a then v else f b
def up2 {α : Type} (f : Nat → Nat → α) (a i : Nat) (v : α) : Nat → Nat → α := fun b j => if b = a then (if j = i then v else f b j) else f b j
/-- the globals: first cell of ours, cells of the specials, class tables, array classes, lengths and values of the specials (the script; 1 .. 3 the String constants, 4 .. 6 their bytes), what holds outside -/
abbrev Gt : Type := Nat × (Nat → Nat) × va_G × (Nat → ClassId) × (Nat → Nat) × (Nat → Nat → Int32) × (State → Heap → Prop)
def g0 (g : Gt) : Nat := g.1
def gD (g : Gt) : va_G := g.2.2.1
def gA (g : Gt) : Nat → ClassId := g.2.2.2.1
def gL (g : Gt) : Nat → Nat := g.2.2.2.2.1
def gxs (g : Gt) : Nat → Nat → Int32 := g.2.2.2.2.2.1
def gX (g : Gt) : State → Heap → Prop := g.2.2.2.2.2.2
def ad (g : Gt) (k : Nat) : Nat := if k < 8 then g.2.1 k else g0 g + (k - 8)
def lf (g : Gt) : Value → Value
  | .ref k => .ref (ad g k)
  | v => v
def lfs (g : Gt) (lv : List (Nat × Value)) : List (Nat × Value) := lv.map (fun q => (q.1, lf g q.2))
def tyC (ci : Nat) : Nat → FieldType := ([tyX0, tyX1, tyX2, tyX3, tyX4, tyX5, tyX6, tyX7, tyX8, tyX9, tyX10, tyX11, tyX12] : List (Nat → FieldType)).getD ci tyX0
def clN (ci : Nat) : Nat := ([2, 2, 6, 2, 3, 10, 2, 3, 2, 2, 4, 15, 40] : List Nat).getD ci 0
def isR (ci j : Nat) : Bool := match tyC ci j with
  | .array _ => true
  | .object _ => true
  | _ => false
def fv (g : Gt) (z : Zs) (I : Is) (k ci j : Nat) : Value := bif isR ci j then va_rf ((zP z k j).map (ad g)) else .int (I k j)
def elm (g : Gt) (z : Zs) (I : Is) (k : Nat) : va_E :=
  if zT z k < 100 then .inr (zT z k, (List.range (clN (zT z k))).map (fv g z I k (zT z k)))
  else if zT z k = 100 then .inl (gA g 0, zL z k, .inl (I k))
  else .inl (gA g (zT z k - 100), zL z k, .inr (.inr (.inr (.inr (fun i => (zP z k i).map (ad g))))))
def wsO (g : Gt) (z : Zs) (I : Is) : va_W := (List.range (zN z - 8)).map (fun j => (g0 g + j, elm g z I (j + 8)))
def tysG (g : Gt) : List (ClassId × FieldType) := [(gA g 0, .int), (gA g 1, .object RX8), (gA g 2, .object RX4), (gA g 3, .object RX10), (gA g 4, .object RX7)]
def GX (g : Gt) : Prop := (∀ (u U : State) (H : Heap), u.WarmedH U.vm → gX g u H → gX g U H) ∧ (∀ (U : State) (H H1 : Heap), g0 g ≤ H.size → (∀ q, q < g0 g → H1[q]? = H[q]?) → gX g U H → gX g U H1)
def sT (k : Nat) : Nat := ([105, 107, 107, 107, 106, 106, 106, 108] : List Nat).getD k 108
def Wh (g : Gt) (z : Zs) (I : Is) (H : Heap) : Prop :=
  8 ≤ zN z ∧ (∀ k, (k < 8 ∨ zN z ≤ k) → 105 ≤ zT z k) ∧ (∀ k, zT z k < 100 → zT z k < 13) ∧ va_P (gD g) vwCl (wsO g z I) H ∧ H.size = g0 g + (zN z - 8) ∧ ∀ k, k < 8 → zT z k = sT k ∧ zL z k = gL g k ∧ I k = gxs g k
def Cx (g : Gt) (p : Program) (y : Mth) (s : State) (m : MethodId) (args : Array Value) (meth : Method) (c : Code) : Prop :=
  p.tables.exec = Jvm.exec ∧ c.code = y.2.1 ∧ c.maxLocals = y.2.2.1 ∧ meth.sig.returnType = y.2.2.2 ∧ s.vm.findClass y.1.cls = some m.cls ∧ (∀ w ∈ gw_tbl, w.before args s = true) ∧ meth.locks = false ∧ meth.name = y.1.name ∧ va_K (gD g) vwCl (tysG g) s ∧ GX g
def Fa (g : Gt) : Nat → Prop := fun q => g0 g ≤ q
def Qm (g : Gt) (Q : Option Value → Zs → Is → Prop) : Array Value → State → Outcome → State → Prop := fun _ st oc t =>
  (∃ (v : Option Value) (z : Zs) (I : Is), oc = .returned (v.map (lf g)) ∧ Q v z I ∧ Wh g z I t.heap) ∧ st.heap.size ≤ t.heap.size ∧ ∀ q : Nat, q < g0 g → t.heap[q]? = st.heap[q]?
/-- a method stands at pc with these locals, this stack, this world, and with room for d calls, rc cells of rs slots: it comes to its end, and there Q -/
def WPc (g : Gt) (y : Mth) (d rc rs pc : Nat) (lv : List (Nat × Value)) (st : List Value) (z : Zs) (I : Is) (Q : Option Value → Zs → Is → Prop) : Prop :=
  ∀ (p : Program) (l : Launch) (e : Env) (R : Room) (s : State) (m : MethodId) (args : Array Value) (below : List Frame) (meth : Method) (c : Code) (H : Heap) (locs : List Loc) (cells slots : Nat) (ls : Array Slot),
    Cx g p y s m args meth c → d ≤ R.frames → 41 * d ≤ R.locals → cells + rc ≤ R.cells → slots + rs ≤ R.slots → gX g s H → Wh g z I H → va_S (Fa g) s.heap H locs → g0 g ≤ s.heap.size → lv_has ls y.2.2.1 (lfs g lv) →
    W p l e R s m args below meth c H locs cells slots (MQ below (Qm g Q) args s R.cells R.slots (Fa g)) (F0 m pc ls (st.map (lf g)))
def WS (y : Mth) : List Cond := .code y.1 y.2.1 y.2.2.1 y.2.2.2 :: gw_tbl
def rmO (d rc rs : Nat) : Room := { frames := d, cells := rc, slots := rs, locals := 41 * d }
def Pm (g : Gt) (args : List Value) (z : Zs) (I : Is) : Array Value → State → Prop := va_Pc (args.map (lf g)) (fun U => va_K (gD g) vwCl (tysG g) U ∧ GX g ∧ gX g U U.heap ∧ Wh g z I U.heap)
/-- the contract of a method for these arguments in this world -/
def WPm (g : Gt) (y : Mth) (d rc rs : Nat) (args : List Value) (z : Zs) (I : Is) (Q : Option Value → Zs → Is → Prop) : Prop :=
  ∀ l : Launch, Met l y.1 (WS y) (rmO d rc rs) (Pm g args z I) (Qm g Q) rc rs (Fa g)
def WPv (g : Gt) (y : Mth) (d rc rs : Nat) (args : List Value) (z : Zs) (I : Is) (K : Zs → Is → Prop) : Prop := WPm g y d rc rs args z I (fun v z I => v = none ∧ K z I)
def WPi (g : Gt) (y : Mth) (d rc rs : Nat) (args : List Value) (z : Zs) (I : Is) (K : Int32 → Zs → Is → Prop) : Prop := WPm g y d rc rs args z I (fun v z I => ∃ x, v = some (.int x) ∧ K x z I)
def WPl (g : Gt) (y : Mth) (d rc rs : Nat) (args : List Value) (z : Zs) (I : Is) (K : Int64 → Zs → Is → Prop) : Prop := WPm g y d rc rs args z I (fun v z I => ∃ x, v = some (.long x) ∧ K x z I)
def WPr (g : Gt) (y : Mth) (d rc rs : Nat) (args : List Value) (z : Zs) (I : Is) (K : Option Nat → Zs → Is → Prop) : Prop := WPm g y d rc rs args z I (fun v z I => ∃ x, v = some (va_rf x) ∧ K x z I)
-- small facts of the world
theorem lf_cat (g : Gt) (v : Value) : (lf g v).category = v.category := by cases v <;> rfl
theorem lfs_args (g : Gt) : ∀ (vs : List Value) (i : Nat), lv_args i (vs.map (lf g)) = lfs g (lv_args i vs)
  | [], _ => rfl
  | v :: vs, i => by
    show (i, lf g v) :: lv_args _ (vs.map (lf g)) = (i, lf g v) :: lfs g (lv_args _ vs)
    rw [lf_cat, lfs_args g vs]
theorem lg_sl_lf (g : Gt) (vs : List Value) : (lg_sl (vs.map (lf g))).length = (lg_sl vs).length := by
  induction vs with
  | nil => rfl
  | cons v vs ih =>
    simp only [lg_sl, List.map_cons, List.flatMap_cons, List.length_append, lf_cat] at ih ⊢
    rw [ih]
    congr 1
    by_cases h : v.category = 2 <;> simp [h]
theorem wsO_get {g : Gt} {z : Zs} {I : Is} {k : Nat} (h : 8 ≤ k) (h2 : k < zN z) : (wsO g z I)[k - 8]? = some (ad g k, elm g z I k) := by
  unfold wsO
  rw [List.getElem?_map, List.getElem?_range (by omega)]
  simp only [Option.map_some]
  rw [show k - 8 + 8 = k by omega]
  unfold ad
  rw [if_neg (by omega)]
theorem wsO_D (g : Gt) (z : Zs) (I : Is) : va_D (Fa g) (wsO g z I) := by
  have h : ∀ (i : Nat) (p : Nat × va_E), (wsO g z I)[i]? = some p → p.1 = g0 g + i := by
    intro i p hp
    unfold wsO at hp
    rw [List.getElem?_map] at hp
    cases h2 : (List.range (zN z - 8))[i]? with
    | none => rw [h2] at hp; cases hp
    | some j =>
      rw [h2] at hp
      have hj := (List.getElem?_eq_some_iff.mp h2)
      obtain ⟨h3, h4⟩ := hj
      rw [List.getElem_range] at h4
      subst h4
      cases hp
      rfl
  refine ⟨fun i j p q hi hj he => ?_, fun k q hq => ?_⟩
  · have := h i p hi
    have := h j q hj
    omega
  · show g0 g ≤ q.1
    have := h k q hq
    omega
theorem Wh.inN {g : Gt} {z : Zs} {I : Is} {H : Heap} (h : Wh g z I H) {k : Nat} (hk : zT z k < 105) : 8 ≤ k ∧ k < zN z := by
  rcases Nat.lt_or_ge k 8 with q | q
  · have := h.2.1 k (Or.inl q); omega
  · rcases Nat.lt_or_ge k (zN z) with r | r
    · exact ⟨q, r⟩
    · have := h.2.1 k (Or.inr r); omega
theorem elm_obj {g : Gt} {z : Zs} {I : Is} {k ci : Nat} (h : zT z k = ci) (hc : ci < 100) : elm g z I k = .inr (ci, (List.range (clN ci)).map (fv g z I k ci)) := by
  unfold elm
  rw [h, if_pos hc]
theorem elm_int {g : Gt} {z : Zs} {I : Is} {k : Nat} (h : zT z k = 100) : elm g z I k = .inl (gA g 0, zL z k, .inl (I k)) := by
  unfold elm
  rw [h, if_neg (by decide), if_pos rfl]
theorem elm_ref {g : Gt} {z : Zs} {I : Is} {k : Nat} (h : 101 ≤ zT z k) : elm g z I k = .inl (gA g (zT z k - 100), zL z k, .inr (.inr (.inr (.inr (fun i => (zP z k i).map (ad g)))))) := by
  unfold elm
  rw [if_neg (by omega), if_neg (by omega)]
theorem fs_get {g : Gt} {z : Zs} {I : Is} {k ci j : Nat} (h : j < clN ci) : ((List.range (clN ci)).map (fv g z I k ci))[j]? = some (fv g z I k ci j) := by
  rw [List.getElem?_map, List.getElem?_range h]
  rfl
/-- another world with the same cells but one -/
theorem wsO_set {g : Gt} {z z' : Zs} {I I' : Is} {k : Nat} (h : 8 ≤ k) (hN : zN z' = zN z) (ho : ∀ j, j ≠ k → elm g z' I' j = elm g z I j) : (wsO g z I).set (k - 8) (ad g k, elm g z' I' k) = wsO g z' I' := by
  apply List.ext_getElem?
  intro i
  rw [List.getElem?_set]
  by_cases hi : k - 8 = i
  · rw [if_pos hi]
    by_cases hl : i < (wsO g z I).length
    · rw [if_pos (by rw [hi]; exact hl)]
      have hl2 : i < zN z - 8 := by simpa [wsO] using hl
      rw [show i = k - 8 by omega, wsO_get h (by omega)]
    · rw [if_neg (by rw [hi]; exact hl)]
      have hl2 : ¬ i < zN z - 8 := by simpa [wsO] using hl
      symm
      rw [List.getElem?_eq_none_iff]
      simp only [wsO, List.length_map, List.length_range, hN]
      omega
  · rw [if_neg hi]
    unfold wsO
    rw [List.getElem?_map, List.getElem?_map, hN]
    by_cases hl : i < zN z - 8
    · rw [List.getElem?_range hl]
      simp only [Option.map_some]
      rw [ho (i + 8) (by omega)]
    · rw [List.getElem?_eq_none_iff.mpr (by simpa using hl)]
      rfl
theorem lf_rf (g : Gt) (o : Option Nat) : lf g (va_rf o) = va_rf (o.map (ad g)) := by cases o <;> rfl
theorem lfs_look {g : Gt} {ls : Array Slot} {nL : Nat} {lv : List (Nat × Value)} (h : lv_has ls nL (lfs g lv)) {i : Nat} {v : Value} (hm : (i, v) ∈ lv) : ls[i]? = some (.val (lf g v)) :=
  h.2.2 (i, lf g v) (List.mem_map.mpr ⟨(i, v), hm, rfl⟩)
/-- the locals of a list, looked up -/
def lk (lv : List (Nat × Value)) (i : Nat) : Option Value := match lv with
  | [] => none
  | (j, v) :: r => bif Nat.beq j i then some v else lk r i
theorem lk_mem : ∀ {lv : List (Nat × Value)} {i : Nat} {v : Value}, lk lv i = some v → (i, v) ∈ lv
  | [], _, _, h => by cases h
  | (j, w) :: r, i, v, h => by
    unfold lk at h
    cases hb : Nat.beq j i with
    | true =>
      rw [hb] at h
      have e : j = i := Nat.eq_of_beq_eq_true hb
      subst e
      cases h
      exact List.mem_cons_self
    | false =>
      rw [hb] at h
      exact List.mem_cons_of_mem _ (lk_mem h)
/-- a store into the locals -/
def lst (lv : List (Nat × Value)) (i : Nat) (v : Value) : List (Nat × Value) := (i, v) :: lv.filter (fun q => !(q.1 == i) && !(q.1 + 1 == i && q.2.category == 2))
def lst2 (lv : List (Nat × Value)) (i : Nat) (v : Value) : List (Nat × Value) := (i, v) :: lv.filter (fun q => !(q.1 == i) && (!(q.1 == i + 1) && !(q.1 + 1 == i && q.2.category == 2)))
theorem lfs_lst (g : Gt) (lv : List (Nat × Value)) (i : Nat) (v : Value) : (i, lf g v) :: (lfs g lv).filter (fun q => !(q.1 == i) && !(q.1 + 1 == i && q.2.category == 2)) = lfs g (lst lv i v) := by
  show _ = (i, lf g v) :: (List.filter _ lv).map _
  unfold lfs
  rw [List.filter_map]
  congr 2
  apply List.filter_congr
  intro q _
  simp [lf_cat]
theorem lfs_lst2 (g : Gt) (lv : List (Nat × Value)) (i : Nat) (v : Value) : (i, lf g v) :: (lfs g lv).filter (fun q => !(q.1 == i) && (!(q.1 == i + 1) && !(q.1 + 1 == i && q.2.category == 2))) = lfs g (lst2 lv i v) := by
  show _ = (i, lf g v) :: (List.filter _ lv).map _
  unfold lfs
  rw [List.filter_map]
  congr 2
  apply List.filter_congr
  intro q _
  simp [lf_cat]
/-- fewer locals -/
theorem lfs_sub {g : Gt} {ls : Array Slot} {nL : Nat} {lv lv' : List (Nat × Value)} (h : lv_has ls nL (lfs g lv)) (hs : ∀ q ∈ lv', q ∈ lv) : lv_has ls nL (lfs g lv') := by
  refine ⟨h.1, h.2.1, fun q hq => ?_⟩
  obtain ⟨q', h1, h2⟩ := List.mem_map.mp hq
  exact h.2.2 q (List.mem_map.mpr ⟨q', hs q' h1, h2⟩)
end
section
/-! words of the tables, each by its place -/
theorem wd_1 : (Jvm.Cond.initialized "UnlikeCoins") ∈ gw_tbl := gw_mem (i := 1) (by decide +kernel) (by decide +kernel)
theorem wd_2 : (Jvm.Cond.initialized "UnlikeCoins$Purse") ∈ gw_tbl := gw_mem (i := 2) (by decide +kernel) (by decide +kernel)
theorem wd_3 : (Jvm.Cond.initialized "UnlikeCoins$Reader") ∈ gw_tbl := gw_mem (i := 3) (by decide +kernel) (by decide +kernel)
theorem wd_4 : (Jvm.Cond.initialized "UnlikeCoins$Image") ∈ gw_tbl := gw_mem (i := 4) (by decide +kernel) (by decide +kernel)
theorem wd_5 : (Jvm.Cond.initialized "UnlikeCoins$Sheet") ∈ gw_tbl := gw_mem (i := 5) (by decide +kernel) (by decide +kernel)
theorem wd_6 : (Jvm.Cond.initialized "java/lang/String") ∈ gw_tbl := gw_mem (i := 6) (by decide +kernel) (by decide +kernel)
theorem wd_7 : (Jvm.Cond.initialized "java/lang/StringLatin1") ∈ gw_tbl := gw_mem (i := 7) (by decide +kernel) (by decide +kernel)
theorem wd_8 : (Jvm.Cond.initialized "jdk/internal/util/Preconditions") ∈ gw_tbl := gw_mem (i := 8) (by decide +kernel) (by decide +kernel)
theorem wd_10 : (Jvm.Cond.initialized "java/lang/Math") ∈ gw_tbl := gw_mem (i := 10) (by decide +kernel) (by decide +kernel)
theorem wd_12 : (Jvm.Cond.initialized "UnlikeCoins$Text") ∈ gw_tbl := gw_mem (i := 12) (by decide +kernel) (by decide +kernel)
theorem wd_13 : (Jvm.Cond.initialized "java/util/Arrays") ∈ gw_tbl := gw_mem (i := 13) (by decide +kernel) (by decide +kernel)
theorem wd_14 : (Jvm.Cond.initialized "java/lang/System") ∈ gw_tbl := gw_mem (i := 14) (by decide +kernel) (by decide +kernel)
theorem wd_15 : (Jvm.Cond.initialized "UnlikeCoinsModel") ∈ gw_tbl := gw_mem (i := 15) (by decide +kernel) (by decide +kernel)
theorem wd_16 : (Jvm.Cond.initialized "UnlikeCoins$Sort") ∈ gw_tbl := gw_mem (i := 16) (by decide +kernel) (by decide +kernel)
theorem wd_17 : (Jvm.Cond.initialized "UnlikeCoins$Common") ∈ gw_tbl := gw_mem (i := 17) (by decide +kernel) (by decide +kernel)
theorem wd_18 : (Jvm.Cond.initialized "UnlikeCoins$Scarce") ∈ gw_tbl := gw_mem (i := 18) (by decide +kernel) (by decide +kernel)
theorem wd_19 : (Jvm.Cond.initialized "UnlikeCoins$Stamped") ∈ gw_tbl := gw_mem (i := 19) (by decide +kernel) (by decide +kernel)
theorem wd_20 : (Jvm.Cond.initialized "UnlikeCoins$Gilt") ∈ gw_tbl := gw_mem (i := 20) (by decide +kernel) (by decide +kernel)
theorem wd_21 : (Jvm.Cond.initialized "UnlikeCoins$Melting") ∈ gw_tbl := gw_mem (i := 21) (by decide +kernel) (by decide +kernel)
theorem wd_22 : (Jvm.Cond.classLink "UnlikeCoinsLaw" (7 : Nat) "UnlikeCoins") ∈ gw_tbl := gw_mem (i := 22) (by decide +kernel) (by decide +kernel)
theorem wd_24 : (Jvm.Cond.methodLink "UnlikeCoinsLaw" (9 : Nat) ({ cls := "UnlikeCoins", name := "<init>", desc := "()V" } : Jvm.MethodName)) ∈ gw_tbl := gw_mem (i := 24) (by decide +kernel) (by decide +kernel)
theorem wd_25 : (Jvm.Cond.instanceMethod ({ cls := "UnlikeCoins", name := "<init>", desc := "()V" } : Jvm.MethodName)) ∈ gw_tbl := gw_mem (i := 25) (by decide +kernel) (by decide +kernel)
set_option maxRecDepth 100000 in
theorem wd_26 : (Jvm.Cond.code ({ cls := "UnlikeCoins", name := "<init>", desc := "()V" } : Jvm.MethodName) prog_1_method_1_code (2 : Nat) (Option.none : Option Jvm.ClassFile.FieldType)) ∈ gw_tbl := gw_mem (i := 26) rfl (by decide +kernel)
theorem wd_27 : (Jvm.Cond.methodLink "UnlikeCoins" (1 : Nat) ({ cls := "java/lang/Object", name := "<init>", desc := "()V" } : Jvm.MethodName)) ∈ gw_tbl := gw_mem (i := 27) (by decide +kernel) (by decide +kernel)
theorem wd_28 : (Jvm.Cond.instanceMethod ({ cls := "java/lang/Object", name := "<init>", desc := "()V" } : Jvm.MethodName)) ∈ gw_tbl := gw_mem (i := 28) (by decide +kernel) (by decide +kernel)
set_option maxRecDepth 100000 in
theorem wd_29 : (Jvm.Cond.code ({ cls := "java/lang/Object", name := "<init>", desc := "()V" } : Jvm.MethodName) object_method_1_code (1 : Nat) (Option.none : Option Jvm.ClassFile.FieldType)) ∈ gw_tbl := gw_mem (i := 29) rfl (by decide +kernel)
theorem wd_30 : (Jvm.Cond.classLink "UnlikeCoins" (9 : Nat) "UnlikeCoins$Sort") ∈ gw_tbl := gw_mem (i := 30) (by decide +kernel) (by decide +kernel)
theorem wd_32 : (Jvm.Cond.classLink "UnlikeCoins" (15 : Nat) "UnlikeCoins$Purse") ∈ gw_tbl := gw_mem (i := 32) (by decide +kernel) (by decide +kernel)
theorem wd_36 : (Jvm.Cond.instanceMethod ({ cls := "UnlikeCoins$Purse", name := "<init>", desc := "()V" } : Jvm.MethodName)) ∈ gw_tbl := gw_mem (i := 36) (by decide +kernel) (by decide +kernel)
set_option maxRecDepth 100000 in
theorem wd_37 : (Jvm.Cond.code ({ cls := "UnlikeCoins$Purse", name := "<init>", desc := "()V" } : Jvm.MethodName) prog_6_method_1_code (1 : Nat) (Option.none : Option Jvm.ClassFile.FieldType)) ∈ gw_tbl := gw_mem (i := 37) rfl (by decide +kernel)
theorem wd_38 : (Jvm.Cond.methodLink "UnlikeCoins$Purse" (3 : Nat) ({ cls := "java/lang/Object", name := "<init>", desc := "()V" } : Jvm.MethodName)) ∈ gw_tbl := gw_mem (i := 38) (by decide +kernel) (by decide +kernel)
theorem wd_39 : (Jvm.Cond.fieldLink "UnlikeCoins$Purse" (9 : Nat) "UnlikeCoins$Purse" "has" "[I") ∈ gw_tbl := gw_mem (i := 39) (by decide +kernel) (by decide +kernel)
theorem wd_40 : (Jvm.Cond.fieldLink "UnlikeCoins$Purse" (15 : Nat) "UnlikeCoins$Purse" "left" "[I") ∈ gw_tbl := gw_mem (i := 40) (by decide +kernel) (by decide +kernel)
theorem wd_41 : (Jvm.Cond.fieldLink "UnlikeCoins$Purse" (18 : Nat) "UnlikeCoins$Purse" "room" "[I") ∈ gw_tbl := gw_mem (i := 41) (by decide +kernel) (by decide +kernel)
theorem wd_50 : (Jvm.Cond.classLink "UnlikeCoins" (32 : Nat) "UnlikeCoins$Text") ∈ gw_tbl := gw_mem (i := 50) (by decide +kernel) (by decide +kernel)
theorem wd_52 : (Jvm.Cond.classLink "UnlikeCoins" (38 : Nat) "UnlikeCoins$Sheet") ∈ gw_tbl := gw_mem (i := 52) (by decide +kernel) (by decide +kernel)
theorem wd_54 : (Jvm.Cond.classLink "UnlikeCoins" (44 : Nat) "UnlikeCoins$Reader") ∈ gw_tbl := gw_mem (i := 54) (by decide +kernel) (by decide +kernel)
theorem wd_57 : (Jvm.Cond.instanceMethod ({ cls := "UnlikeCoins$Reader", name := "<init>", desc := "()V" } : Jvm.MethodName)) ∈ gw_tbl := gw_mem (i := 57) (by decide +kernel) (by decide +kernel)
set_option maxRecDepth 100000 in
theorem wd_58 : (Jvm.Cond.code ({ cls := "UnlikeCoins$Reader", name := "<init>", desc := "()V" } : Jvm.MethodName) prog_7_method_1_code (1 : Nat) (Option.none : Option Jvm.ClassFile.FieldType)) ∈ gw_tbl := gw_mem (i := 58) rfl (by decide +kernel)
theorem wd_59 : (Jvm.Cond.methodLink "UnlikeCoins$Reader" (3 : Nat) ({ cls := "java/lang/Object", name := "<init>", desc := "()V" } : Jvm.MethodName)) ∈ gw_tbl := gw_mem (i := 59) (by decide +kernel) (by decide +kernel)
theorem wd_60 : (Jvm.Cond.fieldLink "UnlikeCoins$Reader" (9 : Nat) "UnlikeCoins$Reader" "tape" "[I") ∈ gw_tbl := gw_mem (i := 60) (by decide +kernel) (by decide +kernel)
theorem wd_61 : (Jvm.Cond.fieldLink "UnlikeCoins$Reader" (15 : Nat) "UnlikeCoins$Reader" "code" "[I") ∈ gw_tbl := gw_mem (i := 61) (by decide +kernel) (by decide +kernel)
theorem wd_62 : (Jvm.Cond.fieldLink "UnlikeCoins$Reader" (18 : Nat) "UnlikeCoins$Reader" "ends" "[I") ∈ gw_tbl := gw_mem (i := 62) (by decide +kernel) (by decide +kernel)
theorem wd_63 : (Jvm.Cond.fieldLink "UnlikeCoins$Reader" (21 : Nat) "UnlikeCoins$Reader" "size" "I") ∈ gw_tbl := gw_mem (i := 63) (by decide +kernel) (by decide +kernel)
theorem wd_64 : (Jvm.Cond.fieldLink "UnlikeCoins$Reader" (25 : Nat) "UnlikeCoins$Reader" "start" "I") ∈ gw_tbl := gw_mem (i := 64) (by decide +kernel) (by decide +kernel)
theorem wd_65 : (Jvm.Cond.fieldLink "UnlikeCoins$Reader" (42 : Nat) "UnlikeCoins$Reader" "end" "I") ∈ gw_tbl := gw_mem (i := 65) (by decide +kernel) (by decide +kernel)
theorem wd_66 : (Jvm.Cond.fieldLink "UnlikeCoins$Reader" (59 : Nat) "UnlikeCoins$Reader" "token" "I") ∈ gw_tbl := gw_mem (i := 66) (by decide +kernel) (by decide +kernel)
theorem wd_67 : (Jvm.Cond.fieldLink "UnlikeCoins$Reader" (88 : Nat) "UnlikeCoins$Reader" "number" "I") ∈ gw_tbl := gw_mem (i := 67) (by decide +kernel) (by decide +kernel)
theorem wd_68 : (Jvm.Cond.fieldLink "UnlikeCoins$Reader" (45 : Nat) "UnlikeCoins$Reader" "open" "I") ∈ gw_tbl := gw_mem (i := 68) (by decide +kernel) (by decide +kernel)
theorem wd_69 : (Jvm.Cond.fieldLink "UnlikeCoins$Reader" (30 : Nat) "UnlikeCoins$Reader" "length" "I") ∈ gw_tbl := gw_mem (i := 69) (by decide +kernel) (by decide +kernel)
theorem wd_91 : (Jvm.Cond.classLink "UnlikeCoins" (51 : Nat) "UnlikeCoins$Image") ∈ gw_tbl := gw_mem (i := 91) (by decide +kernel) (by decide +kernel)
theorem wd_93 : (Jvm.Cond.methodLink "UnlikeCoins" (53 : Nat) ({ cls := "UnlikeCoins$Image", name := "<init>", desc := "()V" } : Jvm.MethodName)) ∈ gw_tbl := gw_mem (i := 93) (by decide +kernel) (by decide +kernel)
theorem wd_94 : (Jvm.Cond.instanceMethod ({ cls := "UnlikeCoins$Image", name := "<init>", desc := "()V" } : Jvm.MethodName)) ∈ gw_tbl := gw_mem (i := 94) (by decide +kernel) (by decide +kernel)
set_option maxRecDepth 100000 in
theorem wd_95 : (Jvm.Cond.code ({ cls := "UnlikeCoins$Image", name := "<init>", desc := "()V" } : Jvm.MethodName) prog_4_method_1_code (2 : Nat) (Option.none : Option Jvm.ClassFile.FieldType)) ∈ gw_tbl := gw_mem (i := 95) rfl (by decide +kernel)
theorem wd_96 : (Jvm.Cond.methodLink "UnlikeCoins$Image" (3 : Nat) ({ cls := "java/lang/Object", name := "<init>", desc := "()V" } : Jvm.MethodName)) ∈ gw_tbl := gw_mem (i := 96) (by decide +kernel) (by decide +kernel)
theorem wd_97 : (Jvm.Cond.classLink "UnlikeCoins$Image" (9 : Nat) "UnlikeCoins$Purse") ∈ gw_tbl := gw_mem (i := 97) (by decide +kernel) (by decide +kernel)
theorem wd_99 : (Jvm.Cond.fieldLink "UnlikeCoins$Image" (11 : Nat) "UnlikeCoins$Image" "purses" "[LUnlikeCoins$Purse;") ∈ gw_tbl := gw_mem (i := 99) (by decide +kernel) (by decide +kernel)
theorem wd_100 : (Jvm.Cond.fieldLink "UnlikeCoins" (249 : Nat) "UnlikeCoins$Image" "purses" "[LUnlikeCoins$Purse;") ∈ gw_tbl := gw_mem (i := 100) (by decide +kernel) (by decide +kernel)
theorem wd_101 : (Jvm.Cond.fieldLink "UnlikeCoins" (250 : Nat) "UnlikeCoins$Image" "sortCount" "I") ∈ gw_tbl := gw_mem (i := 101) (by decide +kernel) (by decide +kernel)
theorem wd_102 : (Jvm.Cond.fieldLink "UnlikeCoins" (251 : Nat) "UnlikeCoins$Image" "purseCount" "I") ∈ gw_tbl := gw_mem (i := 102) (by decide +kernel) (by decide +kernel)
theorem wd_103 : (Jvm.Cond.fieldLink "UnlikeCoins" (252 : Nat) "UnlikeCoins$Image" "year" "I") ∈ gw_tbl := gw_mem (i := 103) (by decide +kernel) (by decide +kernel)
theorem wd_104 : (Jvm.Cond.fieldLink "UnlikeCoins" (253 : Nat) "UnlikeCoins$Image" "law" "I") ∈ gw_tbl := gw_mem (i := 104) (by decide +kernel) (by decide +kernel)
theorem wd_105 : (Jvm.Cond.fieldLink "UnlikeCoins" (254 : Nat) "UnlikeCoins$Image" "isThere" "Z") ∈ gw_tbl := gw_mem (i := 105) (by decide +kernel) (by decide +kernel)
theorem wd_121 : (Jvm.Cond.instanceMethod ({ cls := "UnlikeCoins$Sheet", name := "<init>", desc := "()V" } : Jvm.MethodName)) ∈ gw_tbl := gw_mem (i := 121) (by decide +kernel) (by decide +kernel)
set_option maxRecDepth 100000 in
theorem wd_122 : (Jvm.Cond.code ({ cls := "UnlikeCoins$Sheet", name := "<init>", desc := "()V" } : Jvm.MethodName) prog_9_method_1_code (1 : Nat) (Option.none : Option Jvm.ClassFile.FieldType)) ∈ gw_tbl := gw_mem (i := 122) rfl (by decide +kernel)
theorem wd_123 : (Jvm.Cond.methodLink "UnlikeCoins$Sheet" (3 : Nat) ({ cls := "java/lang/Object", name := "<init>", desc := "()V" } : Jvm.MethodName)) ∈ gw_tbl := gw_mem (i := 123) (by decide +kernel) (by decide +kernel)
theorem wd_124 : (Jvm.Cond.fieldLink "UnlikeCoins$Sheet" (9 : Nat) "UnlikeCoins$Sheet" "row" "[I") ∈ gw_tbl := gw_mem (i := 124) (by decide +kernel) (by decide +kernel)
theorem wd_125 : (Jvm.Cond.fieldLink "UnlikeCoins" (265 : Nat) "UnlikeCoins$Sheet" "row" "[I") ∈ gw_tbl := gw_mem (i := 125) (by decide +kernel) (by decide +kernel)
theorem wd_126 : (Jvm.Cond.fieldLink "UnlikeCoins$Sheet" (15 : Nat) "UnlikeCoins$Sheet" "form" "I") ∈ gw_tbl := gw_mem (i := 126) (by decide +kernel) (by decide +kernel)
theorem wd_127 : (Jvm.Cond.fieldLink "UnlikeCoins" (262 : Nat) "UnlikeCoins$Sheet" "form" "I") ∈ gw_tbl := gw_mem (i := 127) (by decide +kernel) (by decide +kernel)
theorem wd_128 : (Jvm.Cond.fieldLink "UnlikeCoins$Sheet" (23 : Nat) "UnlikeCoins$Sheet" "size" "I") ∈ gw_tbl := gw_mem (i := 128) (by decide +kernel) (by decide +kernel)
theorem wd_129 : (Jvm.Cond.fieldLink "UnlikeCoins" (312 : Nat) "UnlikeCoins$Sheet" "size" "I") ∈ gw_tbl := gw_mem (i := 129) (by decide +kernel) (by decide +kernel)
theorem wd_138 : (Jvm.Cond.methodLink "UnlikeCoins" (65 : Nat) ({ cls := "java/lang/String", name := "length", desc := "()I" } : Jvm.MethodName)) ∈ gw_tbl := gw_mem (i := 138) (by decide +kernel) (by decide +kernel)
theorem wd_139 : (Jvm.Cond.instanceMethod ({ cls := "java/lang/String", name := "length", desc := "()I" } : Jvm.MethodName)) ∈ gw_tbl := gw_mem (i := 139) (by decide +kernel) (by decide +kernel)
theorem wd_140 : (Jvm.Cond.selects "java/lang/String" ({ cls := "java/lang/String", name := "length", desc := "()I" } : Jvm.MethodName) ({ cls := "java/lang/String", name := "length", desc := "()I" } : Jvm.MethodName)) ∈ gw_tbl := gw_mem (i := 140) (by decide +kernel) (by decide +kernel)
set_option maxRecDepth 100000 in
theorem wd_141 : (Jvm.Cond.code ({ cls := "java/lang/String", name := "length", desc := "()I" } : Jvm.MethodName) prog_18_method_54_code (1 : Nat) (Option.some Jvm.ClassFile.FieldType.int)) ∈ gw_tbl := gw_mem (i := 141) rfl (by decide +kernel)
theorem wd_142 : (Jvm.Cond.methodLink "java/lang/String" (335 : Nat) ({ cls := "java/lang/String", name := "coder", desc := "()B" } : Jvm.MethodName)) ∈ gw_tbl := gw_mem (i := 142) (by decide +kernel) (by decide +kernel)
theorem wd_143 : (Jvm.Cond.instanceMethod ({ cls := "java/lang/String", name := "coder", desc := "()B" } : Jvm.MethodName)) ∈ gw_tbl := gw_mem (i := 143) (by decide +kernel) (by decide +kernel)
theorem wd_144 : (Jvm.Cond.selects "java/lang/String" ({ cls := "java/lang/String", name := "coder", desc := "()B" } : Jvm.MethodName) ({ cls := "java/lang/String", name := "coder", desc := "()B" } : Jvm.MethodName)) ∈ gw_tbl := gw_mem (i := 144) (by decide +kernel) (by decide +kernel)
set_option maxRecDepth 100000 in
theorem wd_145 : (Jvm.Cond.code ({ cls := "java/lang/String", name := "coder", desc := "()B" } : Jvm.MethodName) prog_18_method_152_code (1 : Nat) (Option.some Jvm.ClassFile.FieldType.byte)) ∈ gw_tbl := gw_mem (i := 145) rfl (by decide +kernel)
theorem wd_146 : (Jvm.Cond.fieldLink "java/lang/String" (38 : Nat) "java/lang/String" "COMPACT_STRINGS" "Z") ∈ gw_tbl := gw_mem (i := 146) (by decide +kernel) (by decide +kernel)
theorem wd_148 : (Jvm.Cond.methodLink "UnlikeCoins" (71 : Nat) ({ cls := "java/lang/String", name := "charAt", desc := "(I)C" } : Jvm.MethodName)) ∈ gw_tbl := gw_mem (i := 148) (by decide +kernel) (by decide +kernel)
theorem wd_149 : (Jvm.Cond.instanceMethod ({ cls := "java/lang/String", name := "charAt", desc := "(I)C" } : Jvm.MethodName)) ∈ gw_tbl := gw_mem (i := 149) (by decide +kernel) (by decide +kernel)
theorem wd_150 : (Jvm.Cond.selects "java/lang/String" ({ cls := "java/lang/String", name := "charAt", desc := "(I)C" } : Jvm.MethodName) ({ cls := "java/lang/String", name := "charAt", desc := "(I)C" } : Jvm.MethodName)) ∈ gw_tbl := gw_mem (i := 150) (by decide +kernel) (by decide +kernel)
set_option maxRecDepth 100000 in
theorem wd_151 : (Jvm.Cond.code ({ cls := "java/lang/String", name := "charAt", desc := "(I)C" } : Jvm.MethodName) prog_18_method_56_code (2 : Nat) (Option.some Jvm.ClassFile.FieldType.char)) ∈ gw_tbl := gw_mem (i := 151) rfl (by decide +kernel)
theorem wd_152 : (Jvm.Cond.methodLink "java/lang/String" (492 : Nat) ({ cls := "java/lang/String", name := "isLatin1", desc := "()Z" } : Jvm.MethodName)) ∈ gw_tbl := gw_mem (i := 152) (by decide +kernel) (by decide +kernel)
theorem wd_153 : (Jvm.Cond.instanceMethod ({ cls := "java/lang/String", name := "isLatin1", desc := "()Z" } : Jvm.MethodName)) ∈ gw_tbl := gw_mem (i := 153) (by decide +kernel) (by decide +kernel)
theorem wd_154 : (Jvm.Cond.selects "java/lang/String" ({ cls := "java/lang/String", name := "isLatin1", desc := "()Z" } : Jvm.MethodName) ({ cls := "java/lang/String", name := "isLatin1", desc := "()Z" } : Jvm.MethodName)) ∈ gw_tbl := gw_mem (i := 154) (by decide +kernel) (by decide +kernel)
set_option maxRecDepth 100000 in
theorem wd_155 : (Jvm.Cond.code ({ cls := "java/lang/String", name := "isLatin1", desc := "()Z" } : Jvm.MethodName) prog_18_method_154_code (1 : Nat) (Option.some Jvm.ClassFile.FieldType.boolean)) ∈ gw_tbl := gw_mem (i := 155) rfl (by decide +kernel)
theorem wd_156 : (Jvm.Cond.methodLink "java/lang/String" (495 : Nat) ({ cls := "java/lang/StringLatin1", name := "charAt", desc := "([BI)C" } : Jvm.MethodName)) ∈ gw_tbl := gw_mem (i := 156) (by decide +kernel) (by decide +kernel)
theorem wd_157 : (Jvm.Cond.static ({ cls := "java/lang/StringLatin1", name := "charAt", desc := "([BI)C" } : Jvm.MethodName)) ∈ gw_tbl := gw_mem (i := 157) (by decide +kernel) (by decide +kernel)
set_option maxRecDepth 100000 in
theorem wd_158 : (Jvm.Cond.code ({ cls := "java/lang/StringLatin1", name := "charAt", desc := "([BI)C" } : Jvm.MethodName) prog_19_method_2_code (2 : Nat) (Option.some Jvm.ClassFile.FieldType.char)) ∈ gw_tbl := gw_mem (i := 158) rfl (by decide +kernel)
theorem wd_159 : (Jvm.Cond.methodLink "java/lang/StringLatin1" (9 : Nat) ({ cls := "java/lang/String", name := "checkIndex", desc := "(II)V" } : Jvm.MethodName)) ∈ gw_tbl := gw_mem (i := 159) (by decide +kernel) (by decide +kernel)
theorem wd_160 : (Jvm.Cond.static ({ cls := "java/lang/String", name := "checkIndex", desc := "(II)V" } : Jvm.MethodName)) ∈ gw_tbl := gw_mem (i := 160) (by decide +kernel) (by decide +kernel)
set_option maxRecDepth 100000 in
theorem wd_161 : (Jvm.Cond.code ({ cls := "java/lang/String", name := "checkIndex", desc := "(II)V" } : Jvm.MethodName) prog_18_method_155_code (2 : Nat) (Option.none : Option Jvm.ClassFile.FieldType)) ∈ gw_tbl := gw_mem (i := 161) rfl (by decide +kernel)
theorem wd_162 : (Jvm.Cond.fieldLink "java/lang/String" (1053 : Nat) "jdk/internal/util/Preconditions" "SIOOBE_FORMATTER" "Ljava/util/function/BiFunction;") ∈ gw_tbl := gw_mem (i := 162) (by decide +kernel) (by decide +kernel)
theorem wd_164 : (Jvm.Cond.methodLink "java/lang/String" (1059 : Nat) ({ cls := "jdk/internal/util/Preconditions", name := "checkIndex", desc := "(IILjava/util/function/BiFunction;)I" } : Jvm.MethodName)) ∈ gw_tbl := gw_mem (i := 164) (by decide +kernel) (by decide +kernel)
theorem wd_165 : (Jvm.Cond.static ({ cls := "jdk/internal/util/Preconditions", name := "checkIndex", desc := "(IILjava/util/function/BiFunction;)I" } : Jvm.MethodName)) ∈ gw_tbl := gw_mem (i := 165) (by decide +kernel) (by decide +kernel)
set_option maxRecDepth 100000 in
theorem wd_166 : (Jvm.Cond.code ({ cls := "jdk/internal/util/Preconditions", name := "checkIndex", desc := "(IILjava/util/function/BiFunction;)I" } : Jvm.MethodName) prog_23_method_11_code (3 : Nat) (Option.some Jvm.ClassFile.FieldType.int)) ∈ gw_tbl := gw_mem (i := 166) rfl (by decide +kernel)
theorem wd_186 : (Jvm.Cond.methodLink "UnlikeCoins" (75 : Nat) ({ cls := "UnlikeCoins$Reader", name := "put", desc := "(I)V" } : Jvm.MethodName)) ∈ gw_tbl := gw_mem (i := 186) (by decide +kernel) (by decide +kernel)
theorem wd_187 : (Jvm.Cond.instanceMethod ({ cls := "UnlikeCoins$Reader", name := "put", desc := "(I)V" } : Jvm.MethodName)) ∈ gw_tbl := gw_mem (i := 187) (by decide +kernel) (by decide +kernel)
theorem wd_188 : (Jvm.Cond.selects "UnlikeCoins$Reader" ({ cls := "UnlikeCoins$Reader", name := "put", desc := "(I)V" } : Jvm.MethodName) ({ cls := "UnlikeCoins$Reader", name := "put", desc := "(I)V" } : Jvm.MethodName)) ∈ gw_tbl := gw_mem (i := 188) (by decide +kernel) (by decide +kernel)
set_option maxRecDepth 100000 in
theorem wd_189 : (Jvm.Cond.code ({ cls := "UnlikeCoins$Reader", name := "put", desc := "(I)V" } : Jvm.MethodName) prog_7_method_4_code (2 : Nat) (Option.none : Option Jvm.ClassFile.FieldType)) ∈ gw_tbl := gw_mem (i := 189) rfl (by decide +kernel)
theorem wd_190 : (Jvm.Cond.methodLink "UnlikeCoins" (79 : Nat) ({ cls := "UnlikeCoins$Reader", name := "readText", desc := "()Z" } : Jvm.MethodName)) ∈ gw_tbl := gw_mem (i := 190) (by decide +kernel) (by decide +kernel)
theorem wd_191 : (Jvm.Cond.instanceMethod ({ cls := "UnlikeCoins$Reader", name := "readText", desc := "()Z" } : Jvm.MethodName)) ∈ gw_tbl := gw_mem (i := 191) (by decide +kernel) (by decide +kernel)
theorem wd_192 : (Jvm.Cond.selects "UnlikeCoins$Reader" ({ cls := "UnlikeCoins$Reader", name := "readText", desc := "()Z" } : Jvm.MethodName) ({ cls := "UnlikeCoins$Reader", name := "readText", desc := "()Z" } : Jvm.MethodName)) ∈ gw_tbl := gw_mem (i := 192) (by decide +kernel) (by decide +kernel)
set_option maxRecDepth 100000 in
theorem wd_193 : (Jvm.Cond.code ({ cls := "UnlikeCoins$Reader", name := "readText", desc := "()Z" } : Jvm.MethodName) prog_7_method_8_code (2 : Nat) (Option.some Jvm.ClassFile.FieldType.boolean)) ∈ gw_tbl := gw_mem (i := 193) rfl (by decide +kernel)
theorem wd_194 : (Jvm.Cond.methodLink "UnlikeCoins$Reader" (48 : Nat) ({ cls := "UnlikeCoins$Reader", name := "advance", desc := "()V" } : Jvm.MethodName)) ∈ gw_tbl := gw_mem (i := 194) (by decide +kernel) (by decide +kernel)
theorem wd_196 : (Jvm.Cond.instanceMethod ({ cls := "UnlikeCoins$Reader", name := "advance", desc := "()V" } : Jvm.MethodName)) ∈ gw_tbl := gw_mem (i := 196) (by decide +kernel) (by decide +kernel)
set_option maxRecDepth 100000 in
theorem wd_197 : (Jvm.Cond.code ({ cls := "UnlikeCoins$Reader", name := "advance", desc := "()V" } : Jvm.MethodName) prog_7_method_18_code (2 : Nat) (Option.none : Option Jvm.ClassFile.FieldType)) ∈ gw_tbl := gw_mem (i := 197) rfl (by decide +kernel)
theorem wd_198 : (Jvm.Cond.methodLink "UnlikeCoins$Reader" (91 : Nat) ({ cls := "UnlikeCoins$Reader", name := "isBlank", desc := "(I)Z" } : Jvm.MethodName)) ∈ gw_tbl := gw_mem (i := 198) (by decide +kernel) (by decide +kernel)
theorem wd_199 : (Jvm.Cond.static ({ cls := "UnlikeCoins$Reader", name := "isBlank", desc := "(I)Z" } : Jvm.MethodName)) ∈ gw_tbl := gw_mem (i := 199) (by decide +kernel) (by decide +kernel)
set_option maxRecDepth 100000 in
theorem wd_200 : (Jvm.Cond.code ({ cls := "UnlikeCoins$Reader", name := "isBlank", desc := "(I)Z" } : Jvm.MethodName) prog_7_method_22_code (1 : Nat) (Option.some Jvm.ClassFile.FieldType.boolean)) ∈ gw_tbl := gw_mem (i := 200) rfl (by decide +kernel)
theorem wd_201 : (Jvm.Cond.methodLink "UnlikeCoins$Reader" (94 : Nat) ({ cls := "UnlikeCoins$Reader", name := "isLetter", desc := "(I)Z" } : Jvm.MethodName)) ∈ gw_tbl := gw_mem (i := 201) (by decide +kernel) (by decide +kernel)
theorem wd_202 : (Jvm.Cond.static ({ cls := "UnlikeCoins$Reader", name := "isLetter", desc := "(I)Z" } : Jvm.MethodName)) ∈ gw_tbl := gw_mem (i := 202) (by decide +kernel) (by decide +kernel)
set_option maxRecDepth 100000 in
theorem wd_203 : (Jvm.Cond.code ({ cls := "UnlikeCoins$Reader", name := "isLetter", desc := "(I)Z" } : Jvm.MethodName) prog_7_method_23_code (1 : Nat) (Option.some Jvm.ClassFile.FieldType.boolean)) ∈ gw_tbl := gw_mem (i := 203) rfl (by decide +kernel)
theorem wd_205 : (Jvm.Cond.static ({ cls := "UnlikeCoins", name := "within", desc := "(III)Z" } : Jvm.MethodName)) ∈ gw_tbl := gw_mem (i := 205) (by decide +kernel) (by decide +kernel)
set_option maxRecDepth 100000 in
theorem wd_206 : (Jvm.Cond.code ({ cls := "UnlikeCoins", name := "within", desc := "(III)Z" } : Jvm.MethodName) prog_1_method_41_code (3 : Nat) (Option.some Jvm.ClassFile.FieldType.boolean)) ∈ gw_tbl := gw_mem (i := 206) rfl (by decide +kernel)
theorem wd_207 : (Jvm.Cond.methodLink "UnlikeCoins$Reader" (97 : Nat) ({ cls := "UnlikeCoins$Reader", name := "readWord", desc := "()V" } : Jvm.MethodName)) ∈ gw_tbl := gw_mem (i := 207) (by decide +kernel) (by decide +kernel)
theorem wd_209 : (Jvm.Cond.instanceMethod ({ cls := "UnlikeCoins$Reader", name := "readWord", desc := "()V" } : Jvm.MethodName)) ∈ gw_tbl := gw_mem (i := 209) (by decide +kernel) (by decide +kernel)
set_option maxRecDepth 100000 in
theorem wd_210 : (Jvm.Cond.code ({ cls := "UnlikeCoins$Reader", name := "readWord", desc := "()V" } : Jvm.MethodName) prog_7_method_19_code (2 : Nat) (Option.none : Option Jvm.ClassFile.FieldType)) ∈ gw_tbl := gw_mem (i := 210) rfl (by decide +kernel)
theorem wd_211 : (Jvm.Cond.methodLink "UnlikeCoins$Reader" (114 : Nat) ({ cls := "UnlikeCoins$Reader", name := "isWord", desc := "(I)Z" } : Jvm.MethodName)) ∈ gw_tbl := gw_mem (i := 211) (by decide +kernel) (by decide +kernel)
theorem wd_213 : (Jvm.Cond.instanceMethod ({ cls := "UnlikeCoins$Reader", name := "isWord", desc := "(I)Z" } : Jvm.MethodName)) ∈ gw_tbl := gw_mem (i := 213) (by decide +kernel) (by decide +kernel)
set_option maxRecDepth 100000 in
theorem wd_214 : (Jvm.Cond.code ({ cls := "UnlikeCoins$Reader", name := "isWord", desc := "(I)Z" } : Jvm.MethodName) prog_7_method_20_code (4 : Nat) (Option.some Jvm.ClassFile.FieldType.boolean)) ∈ gw_tbl := gw_mem (i := 214) rfl (by decide +kernel)
theorem wd_216 : (Jvm.Cond.methodLink "UnlikeCoins$Reader" (119 : Nat) ({ cls := "java/lang/String", name := "charAt", desc := "(I)C" } : Jvm.MethodName)) ∈ gw_tbl := gw_mem (i := 216) (by decide +kernel) (by decide +kernel)
theorem wd_217 : (Jvm.Cond.methodLink "UnlikeCoins$Reader" (100 : Nat) ({ cls := "UnlikeCoins$Reader", name := "isDigit", desc := "(I)Z" } : Jvm.MethodName)) ∈ gw_tbl := gw_mem (i := 217) (by decide +kernel) (by decide +kernel)
theorem wd_218 : (Jvm.Cond.static ({ cls := "UnlikeCoins$Reader", name := "isDigit", desc := "(I)Z" } : Jvm.MethodName)) ∈ gw_tbl := gw_mem (i := 218) (by decide +kernel) (by decide +kernel)
set_option maxRecDepth 100000 in
theorem wd_219 : (Jvm.Cond.code ({ cls := "UnlikeCoins$Reader", name := "isDigit", desc := "(I)Z" } : Jvm.MethodName) prog_7_method_24_code (1 : Nat) (Option.some Jvm.ClassFile.FieldType.boolean)) ∈ gw_tbl := gw_mem (i := 219) rfl (by decide +kernel)
theorem wd_220 : (Jvm.Cond.methodLink "UnlikeCoins$Reader" (103 : Nat) ({ cls := "UnlikeCoins$Reader", name := "readNumber", desc := "()V" } : Jvm.MethodName)) ∈ gw_tbl := gw_mem (i := 220) (by decide +kernel) (by decide +kernel)
theorem wd_222 : (Jvm.Cond.instanceMethod ({ cls := "UnlikeCoins$Reader", name := "readNumber", desc := "()V" } : Jvm.MethodName)) ∈ gw_tbl := gw_mem (i := 222) (by decide +kernel) (by decide +kernel)
set_option maxRecDepth 100000 in
theorem wd_223 : (Jvm.Cond.code ({ cls := "UnlikeCoins$Reader", name := "readNumber", desc := "()V" } : Jvm.MethodName) prog_7_method_21_code (1 : Nat) (Option.none : Option Jvm.ClassFile.FieldType)) ∈ gw_tbl := gw_mem (i := 223) rfl (by decide +kernel)
theorem wd_225 : (Jvm.Cond.methodLink "UnlikeCoins$Reader" (108 : Nat) ({ cls := "java/lang/String", name := "indexOf", desc := "(I)I" } : Jvm.MethodName)) ∈ gw_tbl := gw_mem (i := 225) (by decide +kernel) (by decide +kernel)
theorem wd_226 : (Jvm.Cond.instanceMethod ({ cls := "java/lang/String", name := "indexOf", desc := "(I)I" } : Jvm.MethodName)) ∈ gw_tbl := gw_mem (i := 226) (by decide +kernel) (by decide +kernel)
theorem wd_227 : (Jvm.Cond.selects "java/lang/String" ({ cls := "java/lang/String", name := "indexOf", desc := "(I)I" } : Jvm.MethodName) ({ cls := "java/lang/String", name := "indexOf", desc := "(I)I" } : Jvm.MethodName)) ∈ gw_tbl := gw_mem (i := 227) (by decide +kernel) (by decide +kernel)
set_option maxRecDepth 100000 in
theorem wd_228 : (Jvm.Cond.code ({ cls := "java/lang/String", name := "indexOf", desc := "(I)I" } : Jvm.MethodName) prog_18_method_79_code (2 : Nat) (Option.some Jvm.ClassFile.FieldType.int)) ∈ gw_tbl := gw_mem (i := 228) rfl (by decide +kernel)
theorem wd_229 : (Jvm.Cond.methodLink "java/lang/String" (633 : Nat) ({ cls := "java/lang/String", name := "indexOf", desc := "(II)I" } : Jvm.MethodName)) ∈ gw_tbl := gw_mem (i := 229) (by decide +kernel) (by decide +kernel)
theorem wd_230 : (Jvm.Cond.instanceMethod ({ cls := "java/lang/String", name := "indexOf", desc := "(II)I" } : Jvm.MethodName)) ∈ gw_tbl := gw_mem (i := 230) (by decide +kernel) (by decide +kernel)
theorem wd_231 : (Jvm.Cond.selects "java/lang/String" ({ cls := "java/lang/String", name := "indexOf", desc := "(II)I" } : Jvm.MethodName) ({ cls := "java/lang/String", name := "indexOf", desc := "(II)I" } : Jvm.MethodName)) ∈ gw_tbl := gw_mem (i := 231) (by decide +kernel) (by decide +kernel)
set_option maxRecDepth 100000 in
theorem wd_232 : (Jvm.Cond.code ({ cls := "java/lang/String", name := "indexOf", desc := "(II)I" } : Jvm.MethodName) prog_18_method_80_code (3 : Nat) (Option.some Jvm.ClassFile.FieldType.int)) ∈ gw_tbl := gw_mem (i := 232) rfl (by decide +kernel)
theorem wd_233 : (Jvm.Cond.methodLink "java/lang/String" (505 : Nat) ({ cls := "java/lang/String", name := "length", desc := "()I" } : Jvm.MethodName)) ∈ gw_tbl := gw_mem (i := 233) (by decide +kernel) (by decide +kernel)
theorem wd_234 : (Jvm.Cond.methodLink "java/lang/String" (637 : Nat) ({ cls := "java/lang/StringLatin1", name := "indexOf", desc := "([BIII)I" } : Jvm.MethodName)) ∈ gw_tbl := gw_mem (i := 234) (by decide +kernel) (by decide +kernel)
theorem wd_235 : (Jvm.Cond.static ({ cls := "java/lang/StringLatin1", name := "indexOf", desc := "([BIII)I" } : Jvm.MethodName)) ∈ gw_tbl := gw_mem (i := 235) (by decide +kernel) (by decide +kernel)
set_option maxRecDepth 100000 in
theorem wd_236 : (Jvm.Cond.code ({ cls := "java/lang/StringLatin1", name := "indexOf", desc := "([BIII)I" } : Jvm.MethodName) prog_19_method_22_code (4 : Nat) (Option.some Jvm.ClassFile.FieldType.int)) ∈ gw_tbl := gw_mem (i := 236) rfl (by decide +kernel)
theorem wd_237 : (Jvm.Cond.methodLink "java/lang/StringLatin1" (88 : Nat) ({ cls := "java/lang/StringLatin1", name := "canEncode", desc := "(I)Z" } : Jvm.MethodName)) ∈ gw_tbl := gw_mem (i := 237) (by decide +kernel) (by decide +kernel)
theorem wd_238 : (Jvm.Cond.static ({ cls := "java/lang/StringLatin1", name := "canEncode", desc := "(I)Z" } : Jvm.MethodName)) ∈ gw_tbl := gw_mem (i := 238) (by decide +kernel) (by decide +kernel)
set_option maxRecDepth 100000 in
theorem wd_239 : (Jvm.Cond.code ({ cls := "java/lang/StringLatin1", name := "canEncode", desc := "(I)Z" } : Jvm.MethodName) prog_19_method_4_code (1 : Nat) (Option.some Jvm.ClassFile.FieldType.boolean)) ∈ gw_tbl := gw_mem (i := 239) rfl (by decide +kernel)
theorem wd_240 : (Jvm.Cond.methodLink "java/lang/StringLatin1" (92 : Nat) ({ cls := "java/lang/Math", name := "max", desc := "(II)I" } : Jvm.MethodName)) ∈ gw_tbl := gw_mem (i := 240) (by decide +kernel) (by decide +kernel)
theorem wd_241 : (Jvm.Cond.static ({ cls := "java/lang/Math", name := "max", desc := "(II)I" } : Jvm.MethodName)) ∈ gw_tbl := gw_mem (i := 241) (by decide +kernel) (by decide +kernel)
set_option maxRecDepth 100000 in
theorem wd_242 : (Jvm.Cond.code ({ cls := "java/lang/Math", name := "max", desc := "(II)I" } : Jvm.MethodName) prog_17_method_65_code (2 : Nat) (Option.some Jvm.ClassFile.FieldType.int)) ∈ gw_tbl := gw_mem (i := 242) rfl (by decide +kernel)
theorem wd_243 : (Jvm.Cond.methodLink "java/lang/StringLatin1" (38 : Nat) ({ cls := "java/lang/Math", name := "min", desc := "(II)I" } : Jvm.MethodName)) ∈ gw_tbl := gw_mem (i := 243) (by decide +kernel) (by decide +kernel)
theorem wd_244 : (Jvm.Cond.static ({ cls := "java/lang/Math", name := "min", desc := "(II)I" } : Jvm.MethodName)) ∈ gw_tbl := gw_mem (i := 244) (by decide +kernel) (by decide +kernel)
set_option maxRecDepth 100000 in
theorem wd_245 : (Jvm.Cond.code ({ cls := "java/lang/Math", name := "min", desc := "(II)I" } : Jvm.MethodName) prog_17_method_69_code (2 : Nat) (Option.some Jvm.ClassFile.FieldType.int)) ∈ gw_tbl := gw_mem (i := 245) rfl (by decide +kernel)
theorem wd_246 : (Jvm.Cond.methodLink "java/lang/StringLatin1" (95 : Nat) ({ cls := "java/lang/StringLatin1", name := "indexOfChar", desc := "([BIII)I" } : Jvm.MethodName)) ∈ gw_tbl := gw_mem (i := 246) (by decide +kernel) (by decide +kernel)
theorem wd_247 : (Jvm.Cond.static ({ cls := "java/lang/StringLatin1", name := "indexOfChar", desc := "([BIII)I" } : Jvm.MethodName)) ∈ gw_tbl := gw_mem (i := 247) (by decide +kernel) (by decide +kernel)
set_option maxRecDepth 100000 in
theorem wd_248 : (Jvm.Cond.code ({ cls := "java/lang/StringLatin1", name := "indexOfChar", desc := "([BIII)I" } : Jvm.MethodName) prog_19_method_23_code (6 : Nat) (Option.some Jvm.ClassFile.FieldType.int)) ∈ gw_tbl := gw_mem (i := 248) rfl (by decide +kernel)
set_option maxRecDepth 100000 in
theorem wd_263 : (Jvm.Cond.code ({ cls := "java/lang/String", name := "checkBoundsBeginEnd", desc := "(III)V" } : Jvm.MethodName) prog_18_method_158_code (3 : Nat) (Option.none : Option Jvm.ClassFile.FieldType)) ∈ gw_tbl := gw_mem (i := 263) rfl (by decide +kernel)
theorem wd_264 : (Jvm.Cond.methodLink "java/lang/String" (1062 : Nat) ({ cls := "jdk/internal/util/Preconditions", name := "checkFromToIndex", desc := "(IIILjava/util/function/BiFunction;)I" } : Jvm.MethodName)) ∈ gw_tbl := gw_mem (i := 264) (by decide +kernel) (by decide +kernel)
theorem wd_265 : (Jvm.Cond.static ({ cls := "jdk/internal/util/Preconditions", name := "checkFromToIndex", desc := "(IIILjava/util/function/BiFunction;)I" } : Jvm.MethodName)) ∈ gw_tbl := gw_mem (i := 265) (by decide +kernel) (by decide +kernel)
set_option maxRecDepth 100000 in
theorem wd_266 : (Jvm.Cond.code ({ cls := "jdk/internal/util/Preconditions", name := "checkFromToIndex", desc := "(IIILjava/util/function/BiFunction;)I" } : Jvm.MethodName) prog_23_method_12_code (4 : Nat) (Option.some Jvm.ClassFile.FieldType.int)) ∈ gw_tbl := gw_mem (i := 266) rfl (by decide +kernel)
theorem wd_284 : (Jvm.Cond.methodLink "UnlikeCoins$Reader" (51 : Nat) ({ cls := "UnlikeCoins$Reader", name := "readToken", desc := "(I)Z" } : Jvm.MethodName)) ∈ gw_tbl := gw_mem (i := 284) (by decide +kernel) (by decide +kernel)
theorem wd_286 : (Jvm.Cond.instanceMethod ({ cls := "UnlikeCoins$Reader", name := "readToken", desc := "(I)Z" } : Jvm.MethodName)) ∈ gw_tbl := gw_mem (i := 286) (by decide +kernel) (by decide +kernel)
set_option maxRecDepth 100000 in
theorem wd_287 : (Jvm.Cond.code ({ cls := "UnlikeCoins$Reader", name := "readToken", desc := "(I)Z" } : Jvm.MethodName) prog_7_method_9_code (2 : Nat) (Option.some Jvm.ClassFile.FieldType.boolean)) ∈ gw_tbl := gw_mem (i := 287) rfl (by decide +kernel)
theorem wd_288 : (Jvm.Cond.methodLink "UnlikeCoins$Reader" (55 : Nat) ({ cls := "UnlikeCoins$Reader", name := "readEither", desc := "()Z" } : Jvm.MethodName)) ∈ gw_tbl := gw_mem (i := 288) (by decide +kernel) (by decide +kernel)
theorem wd_290 : (Jvm.Cond.instanceMethod ({ cls := "UnlikeCoins$Reader", name := "readEither", desc := "()Z" } : Jvm.MethodName)) ∈ gw_tbl := gw_mem (i := 290) (by decide +kernel) (by decide +kernel)
set_option maxRecDepth 100000 in
theorem wd_291 : (Jvm.Cond.code ({ cls := "UnlikeCoins$Reader", name := "readEither", desc := "()Z" } : Jvm.MethodName) prog_7_method_10_code (2 : Nat) (Option.some Jvm.ClassFile.FieldType.boolean)) ∈ gw_tbl := gw_mem (i := 291) rfl (by decide +kernel)
theorem wd_292 : (Jvm.Cond.methodLink "UnlikeCoins$Reader" (62 : Nat) ({ cls := "UnlikeCoins$Reader", name := "readBoth", desc := "()Z" } : Jvm.MethodName)) ∈ gw_tbl := gw_mem (i := 292) (by decide +kernel) (by decide +kernel)
theorem wd_294 : (Jvm.Cond.instanceMethod ({ cls := "UnlikeCoins$Reader", name := "readBoth", desc := "()Z" } : Jvm.MethodName)) ∈ gw_tbl := gw_mem (i := 294) (by decide +kernel) (by decide +kernel)
set_option maxRecDepth 100000 in
theorem wd_295 : (Jvm.Cond.code ({ cls := "UnlikeCoins$Reader", name := "readBoth", desc := "()Z" } : Jvm.MethodName) prog_7_method_11_code (2 : Nat) (Option.some Jvm.ClassFile.FieldType.boolean)) ∈ gw_tbl := gw_mem (i := 295) rfl (by decide +kernel)
theorem wd_296 : (Jvm.Cond.methodLink "UnlikeCoins$Reader" (69 : Nat) ({ cls := "UnlikeCoins$Reader", name := "readDenied", desc := "()Z" } : Jvm.MethodName)) ∈ gw_tbl := gw_mem (i := 296) (by decide +kernel) (by decide +kernel)
theorem wd_298 : (Jvm.Cond.instanceMethod ({ cls := "UnlikeCoins$Reader", name := "readDenied", desc := "()Z" } : Jvm.MethodName)) ∈ gw_tbl := gw_mem (i := 298) (by decide +kernel) (by decide +kernel)
set_option maxRecDepth 100000 in
theorem wd_299 : (Jvm.Cond.code ({ cls := "UnlikeCoins$Reader", name := "readDenied", desc := "()Z" } : Jvm.MethodName) prog_7_method_12_code (2 : Nat) (Option.some Jvm.ClassFile.FieldType.boolean)) ∈ gw_tbl := gw_mem (i := 299) rfl (by decide +kernel)
theorem wd_300 : (Jvm.Cond.methodLink "UnlikeCoins$Reader" (72 : Nat) ({ cls := "UnlikeCoins$Reader", name := "readCompared", desc := "()Z" } : Jvm.MethodName)) ∈ gw_tbl := gw_mem (i := 300) (by decide +kernel) (by decide +kernel)
theorem wd_302 : (Jvm.Cond.instanceMethod ({ cls := "UnlikeCoins$Reader", name := "readCompared", desc := "()Z" } : Jvm.MethodName)) ∈ gw_tbl := gw_mem (i := 302) (by decide +kernel) (by decide +kernel)
set_option maxRecDepth 100000 in
theorem wd_303 : (Jvm.Cond.code ({ cls := "UnlikeCoins$Reader", name := "readCompared", desc := "()Z" } : Jvm.MethodName) prog_7_method_13_code (3 : Nat) (Option.some Jvm.ClassFile.FieldType.boolean)) ∈ gw_tbl := gw_mem (i := 303) rfl (by decide +kernel)
theorem wd_304 : (Jvm.Cond.methodLink "UnlikeCoins$Reader" (75 : Nat) ({ cls := "UnlikeCoins$Reader", name := "readSum", desc := "()Z" } : Jvm.MethodName)) ∈ gw_tbl := gw_mem (i := 304) (by decide +kernel) (by decide +kernel)
theorem wd_306 : (Jvm.Cond.instanceMethod ({ cls := "UnlikeCoins$Reader", name := "readSum", desc := "()Z" } : Jvm.MethodName)) ∈ gw_tbl := gw_mem (i := 306) (by decide +kernel) (by decide +kernel)
set_option maxRecDepth 100000 in
theorem wd_307 : (Jvm.Cond.code ({ cls := "UnlikeCoins$Reader", name := "readSum", desc := "()Z" } : Jvm.MethodName) prog_7_method_14_code (3 : Nat) (Option.some Jvm.ClassFile.FieldType.boolean)) ∈ gw_tbl := gw_mem (i := 307) rfl (by decide +kernel)
theorem wd_308 : (Jvm.Cond.methodLink "UnlikeCoins$Reader" (78 : Nat) ({ cls := "UnlikeCoins$Reader", name := "readTerm", desc := "()Z" } : Jvm.MethodName)) ∈ gw_tbl := gw_mem (i := 308) (by decide +kernel) (by decide +kernel)
theorem wd_310 : (Jvm.Cond.instanceMethod ({ cls := "UnlikeCoins$Reader", name := "readTerm", desc := "()Z" } : Jvm.MethodName)) ∈ gw_tbl := gw_mem (i := 310) (by decide +kernel) (by decide +kernel)
set_option maxRecDepth 100000 in
theorem wd_311 : (Jvm.Cond.code ({ cls := "UnlikeCoins$Reader", name := "readTerm", desc := "()Z" } : Jvm.MethodName) prog_7_method_15_code (2 : Nat) (Option.some Jvm.ClassFile.FieldType.boolean)) ∈ gw_tbl := gw_mem (i := 311) rfl (by decide +kernel)
theorem wd_312 : (Jvm.Cond.methodLink "UnlikeCoins$Reader" (81 : Nat) ({ cls := "UnlikeCoins$Reader", name := "readOne", desc := "()Z" } : Jvm.MethodName)) ∈ gw_tbl := gw_mem (i := 312) (by decide +kernel) (by decide +kernel)
theorem wd_314 : (Jvm.Cond.instanceMethod ({ cls := "UnlikeCoins$Reader", name := "readOne", desc := "()Z" } : Jvm.MethodName)) ∈ gw_tbl := gw_mem (i := 314) (by decide +kernel) (by decide +kernel)
set_option maxRecDepth 100000 in
theorem wd_315 : (Jvm.Cond.code ({ cls := "UnlikeCoins$Reader", name := "readOne", desc := "()Z" } : Jvm.MethodName) prog_7_method_16_code (3 : Nat) (Option.some Jvm.ClassFile.FieldType.boolean)) ∈ gw_tbl := gw_mem (i := 315) rfl (by decide +kernel)
theorem wd_316 : (Jvm.Cond.methodLink "UnlikeCoins$Reader" (65 : Nat) ({ cls := "UnlikeCoins$Reader", name := "emit", desc := "(I)V" } : Jvm.MethodName)) ∈ gw_tbl := gw_mem (i := 316) (by decide +kernel) (by decide +kernel)
theorem wd_318 : (Jvm.Cond.instanceMethod ({ cls := "UnlikeCoins$Reader", name := "emit", desc := "(I)V" } : Jvm.MethodName)) ∈ gw_tbl := gw_mem (i := 318) (by decide +kernel) (by decide +kernel)
set_option maxRecDepth 100000 in
theorem wd_319 : (Jvm.Cond.code ({ cls := "UnlikeCoins$Reader", name := "emit", desc := "(I)V" } : Jvm.MethodName) prog_7_method_17_code (2 : Nat) (Option.none : Option Jvm.ClassFile.FieldType)) ∈ gw_tbl := gw_mem (i := 319) rfl (by decide +kernel)
theorem wd_320 : (Jvm.Cond.methodLink "UnlikeCoins" (83 : Nat) ({ cls := "UnlikeCoins$Reader", name := "textRead", desc := "()LUnlikeCoins$Text;" } : Jvm.MethodName)) ∈ gw_tbl := gw_mem (i := 320) (by decide +kernel) (by decide +kernel)
theorem wd_321 : (Jvm.Cond.instanceMethod ({ cls := "UnlikeCoins$Reader", name := "textRead", desc := "()LUnlikeCoins$Text;" } : Jvm.MethodName)) ∈ gw_tbl := gw_mem (i := 321) (by decide +kernel) (by decide +kernel)
theorem wd_322 : (Jvm.Cond.selects "UnlikeCoins$Reader" ({ cls := "UnlikeCoins$Reader", name := "textRead", desc := "()LUnlikeCoins$Text;" } : Jvm.MethodName) ({ cls := "UnlikeCoins$Reader", name := "textRead", desc := "()LUnlikeCoins$Text;" } : Jvm.MethodName)) ∈ gw_tbl := gw_mem (i := 322) (by decide +kernel) (by decide +kernel)
set_option maxRecDepth 100000 in
theorem wd_323 : (Jvm.Cond.code ({ cls := "UnlikeCoins$Reader", name := "textRead", desc := "()LUnlikeCoins$Text;" } : Jvm.MethodName) prog_7_method_7_code (1 : Nat) (Option.some (Jvm.ClassFile.FieldType.object "UnlikeCoins$Text"))) ∈ gw_tbl := gw_mem (i := 323) rfl (by decide +kernel)
theorem wd_324 : (Jvm.Cond.classLink "UnlikeCoins$Reader" (28 : Nat) "UnlikeCoins$Text") ∈ gw_tbl := gw_mem (i := 324) (by decide +kernel) (by decide +kernel)
theorem wd_326 : (Jvm.Cond.methodLink "UnlikeCoins$Reader" (33 : Nat) ({ cls := "java/util/Arrays", name := "copyOf", desc := "([II)[I" } : Jvm.MethodName)) ∈ gw_tbl := gw_mem (i := 326) (by decide +kernel) (by decide +kernel)
theorem wd_327 : (Jvm.Cond.static ({ cls := "java/util/Arrays", name := "copyOf", desc := "([II)[I" } : Jvm.MethodName)) ∈ gw_tbl := gw_mem (i := 327) (by decide +kernel) (by decide +kernel)
set_option maxRecDepth 100000 in
theorem wd_328 : (Jvm.Cond.code ({ cls := "java/util/Arrays", name := "copyOf", desc := "([II)[I" } : Jvm.MethodName) prog_22_method_123_code (3 : Nat) (Option.some (Jvm.ClassFile.FieldType.array Jvm.ClassFile.FieldType.int))) ∈ gw_tbl := gw_mem (i := 328) rfl (by decide +kernel)
theorem wd_329 : (Jvm.Cond.methodLink "java/util/Arrays" (316 : Nat) ({ cls := "[I", name := "clone", desc := "()Ljava/lang/Object;" } : Jvm.MethodName)) ∈ gw_tbl := gw_mem (i := 329) (by decide +kernel) (by decide +kernel)
theorem wd_330 : (Jvm.Cond.sameMethod "[I" "java/lang/Object" "clone" "()Ljava/lang/Object;") ∈ gw_tbl := gw_mem (i := 330) (by decide +kernel) (by decide +kernel)
theorem wd_331 : (Jvm.Cond.native ({ cls := "java/lang/Object", name := "clone", desc := "()Ljava/lang/Object;" } : Jvm.MethodName)) ∈ gw_tbl := gw_mem (i := 331) (by decide +kernel) (by decide +kernel)
theorem wd_332 : (Jvm.Cond.instanceMethod ({ cls := "java/lang/Object", name := "clone", desc := "()Ljava/lang/Object;" } : Jvm.MethodName)) ∈ gw_tbl := gw_mem (i := 332) (by decide +kernel) (by decide +kernel)
theorem wd_333 : (Jvm.Cond.selects "[I" ({ cls := "[I", name := "clone", desc := "()Ljava/lang/Object;" } : Jvm.MethodName) ({ cls := "java/lang/Object", name := "clone", desc := "()Ljava/lang/Object;" } : Jvm.MethodName)) ∈ gw_tbl := gw_mem (i := 333) (by decide +kernel) (by decide +kernel)
theorem wd_335 : (Jvm.Cond.classLink "java/util/Arrays" (317 : Nat) "[I") ∈ gw_tbl := gw_mem (i := 335) (by decide +kernel) (by decide +kernel)
theorem wd_336 : (Jvm.Cond.methodLink "java/util/Arrays" (304 : Nat) ({ cls := "java/lang/Math", name := "min", desc := "(II)I" } : Jvm.MethodName)) ∈ gw_tbl := gw_mem (i := 336) (by decide +kernel) (by decide +kernel)
theorem wd_337 : (Jvm.Cond.methodLink "java/util/Arrays" (150 : Nat) ({ cls := "java/lang/System", name := "arraycopy", desc := "(Ljava/lang/Object;ILjava/lang/Object;II)V" } : Jvm.MethodName)) ∈ gw_tbl := gw_mem (i := 337) (by decide +kernel) (by decide +kernel)
theorem wd_338 : (Jvm.Cond.static ({ cls := "java/lang/System", name := "arraycopy", desc := "(Ljava/lang/Object;ILjava/lang/Object;II)V" } : Jvm.MethodName)) ∈ gw_tbl := gw_mem (i := 338) (by decide +kernel) (by decide +kernel)
theorem wd_339 : (Jvm.Cond.native ({ cls := "java/lang/System", name := "arraycopy", desc := "(Ljava/lang/Object;ILjava/lang/Object;II)V" } : Jvm.MethodName)) ∈ gw_tbl := gw_mem (i := 339) (by decide +kernel) (by decide +kernel)
theorem wd_340 : (Jvm.Cond.methodLink "UnlikeCoins$Reader" (39 : Nat) ({ cls := "UnlikeCoins$Text", name := "<init>", desc := "([I[I)V" } : Jvm.MethodName)) ∈ gw_tbl := gw_mem (i := 340) (by decide +kernel) (by decide +kernel)
theorem wd_341 : (Jvm.Cond.instanceMethod ({ cls := "UnlikeCoins$Text", name := "<init>", desc := "([I[I)V" } : Jvm.MethodName)) ∈ gw_tbl := gw_mem (i := 341) (by decide +kernel) (by decide +kernel)
set_option maxRecDepth 100000 in
theorem wd_342 : (Jvm.Cond.code ({ cls := "UnlikeCoins$Text", name := "<init>", desc := "([I[I)V" } : Jvm.MethodName) prog_12_method_1_code (3 : Nat) (Option.none : Option Jvm.ClassFile.FieldType)) ∈ gw_tbl := gw_mem (i := 342) rfl (by decide +kernel)
theorem wd_343 : (Jvm.Cond.methodLink "UnlikeCoins$Text" (3 : Nat) ({ cls := "java/lang/Object", name := "<init>", desc := "()V" } : Jvm.MethodName)) ∈ gw_tbl := gw_mem (i := 343) (by decide +kernel) (by decide +kernel)
theorem wd_344 : (Jvm.Cond.fieldLink "UnlikeCoins$Text" (15 : Nat) "UnlikeCoins$Text" "code" "[I") ∈ gw_tbl := gw_mem (i := 344) (by decide +kernel) (by decide +kernel)
theorem wd_345 : (Jvm.Cond.fieldLink "UnlikeCoins$Text" (18 : Nat) "UnlikeCoins$Text" "ends" "[I") ∈ gw_tbl := gw_mem (i := 345) (by decide +kernel) (by decide +kernel)
theorem wd_346 : (Jvm.Cond.fieldLink "UnlikeCoins$Text" (11 : Nat) "UnlikeCoins$Text" "stack" "[I") ∈ gw_tbl := gw_mem (i := 346) (by decide +kernel) (by decide +kernel)
theorem wd_347 : (Jvm.Cond.fieldLink "UnlikeCoins$Text" (25 : Nat) "UnlikeCoins$Text" "height" "I") ∈ gw_tbl := gw_mem (i := 347) (by decide +kernel) (by decide +kernel)
theorem wd_358 : (Jvm.Cond.methodLink "UnlikeCoins" (91 : Nat) ({ cls := "UnlikeCoins$Reader", name := "clear", desc := "()V" } : Jvm.MethodName)) ∈ gw_tbl := gw_mem (i := 358) (by decide +kernel) (by decide +kernel)
theorem wd_359 : (Jvm.Cond.instanceMethod ({ cls := "UnlikeCoins$Reader", name := "clear", desc := "()V" } : Jvm.MethodName)) ∈ gw_tbl := gw_mem (i := 359) (by decide +kernel) (by decide +kernel)
theorem wd_360 : (Jvm.Cond.selects "UnlikeCoins$Reader" ({ cls := "UnlikeCoins$Reader", name := "clear", desc := "()V" } : Jvm.MethodName) ({ cls := "UnlikeCoins$Reader", name := "clear", desc := "()V" } : Jvm.MethodName)) ∈ gw_tbl := gw_mem (i := 360) (by decide +kernel) (by decide +kernel)
set_option maxRecDepth 100000 in
theorem wd_361 : (Jvm.Cond.code ({ cls := "UnlikeCoins$Reader", name := "clear", desc := "()V" } : Jvm.MethodName) prog_7_method_5_code (1 : Nat) (Option.none : Option Jvm.ClassFile.FieldType)) ∈ gw_tbl := gw_mem (i := 361) rfl (by decide +kernel)
theorem wd_362 : (Jvm.Cond.fieldLink "UnlikeCoins" (11 : Nat) "UnlikeCoins" "sorts" "[LUnlikeCoins$Sort;") ∈ gw_tbl := gw_mem (i := 362) (by decide +kernel) (by decide +kernel)
theorem wd_363 : (Jvm.Cond.fieldLink "UnlikeCoins" (17 : Nat) "UnlikeCoins" "purses" "[LUnlikeCoins$Purse;") ∈ gw_tbl := gw_mem (i := 363) (by decide +kernel) (by decide +kernel)
theorem wd_364 : (Jvm.Cond.fieldLink "UnlikeCoins" (21 : Nat) "UnlikeCoins" "thoughts" "[LUnlikeCoins$Purse;") ∈ gw_tbl := gw_mem (i := 364) (by decide +kernel) (by decide +kernel)
theorem wd_365 : (Jvm.Cond.fieldLink "UnlikeCoins" (25 : Nat) "UnlikeCoins" "thought" "LUnlikeCoins$Purse;") ∈ gw_tbl := gw_mem (i := 365) (by decide +kernel) (by decide +kernel)
theorem wd_366 : (Jvm.Cond.fieldLink "UnlikeCoins" (29 : Nat) "UnlikeCoins" "trial" "LUnlikeCoins$Purse;") ∈ gw_tbl := gw_mem (i := 366) (by decide +kernel) (by decide +kernel)
theorem wd_367 : (Jvm.Cond.fieldLink "UnlikeCoins" (34 : Nat) "UnlikeCoins" "texts" "[LUnlikeCoins$Text;") ∈ gw_tbl := gw_mem (i := 367) (by decide +kernel) (by decide +kernel)
theorem wd_368 : (Jvm.Cond.fieldLink "UnlikeCoins" (40 : Nat) "UnlikeCoins" "sheets" "[LUnlikeCoins$Sheet;") ∈ gw_tbl := gw_mem (i := 368) (by decide +kernel) (by decide +kernel)
theorem wd_369 : (Jvm.Cond.fieldLink "UnlikeCoins" (47 : Nat) "UnlikeCoins" "reader" "LUnlikeCoins$Reader;") ∈ gw_tbl := gw_mem (i := 369) (by decide +kernel) (by decide +kernel)
theorem wd_370 : (Jvm.Cond.fieldLink "UnlikeCoins" (54 : Nat) "UnlikeCoins" "kept" "LUnlikeCoins$Image;") ∈ gw_tbl := gw_mem (i := 370) (by decide +kernel) (by decide +kernel)
theorem wd_371 : (Jvm.Cond.fieldLink "UnlikeCoins" (58 : Nat) "UnlikeCoins" "names" "[I") ∈ gw_tbl := gw_mem (i := 371) (by decide +kernel) (by decide +kernel)
theorem wd_372 : (Jvm.Cond.fieldLink "UnlikeCoins" (94 : Nat) "UnlikeCoins" "sortCount" "I") ∈ gw_tbl := gw_mem (i := 372) (by decide +kernel) (by decide +kernel)
theorem wd_373 : (Jvm.Cond.fieldLink "UnlikeCoins" (97 : Nat) "UnlikeCoins" "purseCount" "I") ∈ gw_tbl := gw_mem (i := 373) (by decide +kernel) (by decide +kernel)
theorem wd_374 : (Jvm.Cond.fieldLink "UnlikeCoins" (87 : Nat) "UnlikeCoins" "textCount" "I") ∈ gw_tbl := gw_mem (i := 374) (by decide +kernel) (by decide +kernel)
theorem wd_375 : (Jvm.Cond.fieldLink "UnlikeCoins" (100 : Nat) "UnlikeCoins" "year" "I") ∈ gw_tbl := gw_mem (i := 375) (by decide +kernel) (by decide +kernel)
theorem wd_376 : (Jvm.Cond.fieldLink "UnlikeCoins" (103 : Nat) "UnlikeCoins" "law" "I") ∈ gw_tbl := gw_mem (i := 376) (by decide +kernel) (by decide +kernel)
theorem wd_408 : (Jvm.Cond.methodLink "UnlikeCoinsLaw" (13 : Nat) ({ cls := "UnlikeCoins", name := "count", desc := "(I)I" } : Jvm.MethodName)) ∈ gw_tbl := gw_mem (i := 408) (by decide +kernel) (by decide +kernel)
theorem wd_409 : (Jvm.Cond.instanceMethod ({ cls := "UnlikeCoins", name := "count", desc := "(I)I" } : Jvm.MethodName)) ∈ gw_tbl := gw_mem (i := 409) (by decide +kernel) (by decide +kernel)
theorem wd_410 : (Jvm.Cond.selects "UnlikeCoins" ({ cls := "UnlikeCoins", name := "count", desc := "(I)I" } : Jvm.MethodName) ({ cls := "UnlikeCoins", name := "count", desc := "(I)I" } : Jvm.MethodName)) ∈ gw_tbl := gw_mem (i := 410) (by decide +kernel) (by decide +kernel)
set_option maxRecDepth 100000 in
theorem wd_411 : (Jvm.Cond.code ({ cls := "UnlikeCoins", name := "count", desc := "(I)I" } : Jvm.MethodName) prog_1_method_2_code (2 : Nat) (Option.some Jvm.ClassFile.FieldType.int)) ∈ gw_tbl := gw_mem (i := 411) rfl (by decide +kernel)
theorem wd_412 : (Jvm.Cond.methodLink "UnlikeCoins" (106 : Nat) ({ cls := "UnlikeCoins$Reader", name := "size", desc := "()I" } : Jvm.MethodName)) ∈ gw_tbl := gw_mem (i := 412) (by decide +kernel) (by decide +kernel)
theorem wd_413 : (Jvm.Cond.instanceMethod ({ cls := "UnlikeCoins$Reader", name := "size", desc := "()I" } : Jvm.MethodName)) ∈ gw_tbl := gw_mem (i := 413) (by decide +kernel) (by decide +kernel)
theorem wd_414 : (Jvm.Cond.selects "UnlikeCoins$Reader" ({ cls := "UnlikeCoins$Reader", name := "size", desc := "()I" } : Jvm.MethodName) ({ cls := "UnlikeCoins$Reader", name := "size", desc := "()I" } : Jvm.MethodName)) ∈ gw_tbl := gw_mem (i := 414) (by decide +kernel) (by decide +kernel)
set_option maxRecDepth 100000 in
theorem wd_415 : (Jvm.Cond.code ({ cls := "UnlikeCoins$Reader", name := "size", desc := "()I" } : Jvm.MethodName) prog_7_method_2_code (1 : Nat) (Option.some Jvm.ClassFile.FieldType.int)) ∈ gw_tbl := gw_mem (i := 415) rfl (by decide +kernel)
theorem wd_416 : (Jvm.Cond.methodLink "UnlikeCoinsLaw" (18 : Nat) ({ cls := "UnlikeCoins", name := "feed", desc := "(IIIIII)I" } : Jvm.MethodName)) ∈ gw_tbl := gw_mem (i := 416) (by decide +kernel) (by decide +kernel)
theorem wd_417 : (Jvm.Cond.instanceMethod ({ cls := "UnlikeCoins", name := "feed", desc := "(IIIIII)I" } : Jvm.MethodName)) ∈ gw_tbl := gw_mem (i := 417) (by decide +kernel) (by decide +kernel)
theorem wd_418 : (Jvm.Cond.selects "UnlikeCoins" ({ cls := "UnlikeCoins", name := "feed", desc := "(IIIIII)I" } : Jvm.MethodName) ({ cls := "UnlikeCoins", name := "feed", desc := "(IIIIII)I" } : Jvm.MethodName)) ∈ gw_tbl := gw_mem (i := 418) (by decide +kernel) (by decide +kernel)
set_option maxRecDepth 100000 in
theorem wd_419 : (Jvm.Cond.code ({ cls := "UnlikeCoins", name := "feed", desc := "(IIIIII)I" } : Jvm.MethodName) prog_1_method_3_code (7 : Nat) (Option.some Jvm.ClassFile.FieldType.int)) ∈ gw_tbl := gw_mem (i := 419) rfl (by decide +kernel)
theorem wd_420 : (Jvm.Cond.methodLink "UnlikeCoins" (109 : Nat) ({ cls := "UnlikeCoins", name := "within", desc := "(III)Z" } : Jvm.MethodName)) ∈ gw_tbl := gw_mem (i := 420) (by decide +kernel) (by decide +kernel)
theorem wd_421 : (Jvm.Cond.methodLink "UnlikeCoins" (113 : Nat) ({ cls := "UnlikeCoins", name := "isByte", desc := "(I)Z" } : Jvm.MethodName)) ∈ gw_tbl := gw_mem (i := 421) (by decide +kernel) (by decide +kernel)
theorem wd_422 : (Jvm.Cond.static ({ cls := "UnlikeCoins", name := "isByte", desc := "(I)Z" } : Jvm.MethodName)) ∈ gw_tbl := gw_mem (i := 422) (by decide +kernel) (by decide +kernel)
set_option maxRecDepth 100000 in
theorem wd_423 : (Jvm.Cond.code ({ cls := "UnlikeCoins", name := "isByte", desc := "(I)Z" } : Jvm.MethodName) prog_1_method_42_code (1 : Nat) (Option.some Jvm.ClassFile.FieldType.boolean)) ∈ gw_tbl := gw_mem (i := 423) rfl (by decide +kernel)
theorem wd_424 : (Jvm.Cond.methodLink "UnlikeCoins" (117 : Nat) ({ cls := "UnlikeCoins$Reader", name := "hasRoom", desc := "(I)Z" } : Jvm.MethodName)) ∈ gw_tbl := gw_mem (i := 424) (by decide +kernel) (by decide +kernel)
theorem wd_425 : (Jvm.Cond.instanceMethod ({ cls := "UnlikeCoins$Reader", name := "hasRoom", desc := "(I)Z" } : Jvm.MethodName)) ∈ gw_tbl := gw_mem (i := 425) (by decide +kernel) (by decide +kernel)
theorem wd_426 : (Jvm.Cond.selects "UnlikeCoins$Reader" ({ cls := "UnlikeCoins$Reader", name := "hasRoom", desc := "(I)Z" } : Jvm.MethodName) ({ cls := "UnlikeCoins$Reader", name := "hasRoom", desc := "(I)Z" } : Jvm.MethodName)) ∈ gw_tbl := gw_mem (i := 426) (by decide +kernel) (by decide +kernel)
set_option maxRecDepth 100000 in
theorem wd_427 : (Jvm.Cond.code ({ cls := "UnlikeCoins$Reader", name := "hasRoom", desc := "(I)Z" } : Jvm.MethodName) prog_7_method_3_code (2 : Nat) (Option.some Jvm.ClassFile.FieldType.boolean)) ∈ gw_tbl := gw_mem (i := 427) rfl (by decide +kernel)
theorem wd_428 : (Jvm.Cond.methodLink "UnlikeCoinsLaw" (23 : Nat) ({ cls := "UnlikeCoins", name := "text", desc := "()I" } : Jvm.MethodName)) ∈ gw_tbl := gw_mem (i := 428) (by decide +kernel) (by decide +kernel)
theorem wd_429 : (Jvm.Cond.instanceMethod ({ cls := "UnlikeCoins", name := "text", desc := "()I" } : Jvm.MethodName)) ∈ gw_tbl := gw_mem (i := 429) (by decide +kernel) (by decide +kernel)
theorem wd_430 : (Jvm.Cond.selects "UnlikeCoins" ({ cls := "UnlikeCoins", name := "text", desc := "()I" } : Jvm.MethodName) ({ cls := "UnlikeCoins", name := "text", desc := "()I" } : Jvm.MethodName)) ∈ gw_tbl := gw_mem (i := 430) (by decide +kernel) (by decide +kernel)
set_option maxRecDepth 100000 in
theorem wd_431 : (Jvm.Cond.code ({ cls := "UnlikeCoins", name := "text", desc := "()I" } : Jvm.MethodName) prog_1_method_4_code (2 : Nat) (Option.some Jvm.ClassFile.FieldType.int)) ∈ gw_tbl := gw_mem (i := 431) rfl (by decide +kernel)
theorem wd_432 : (Jvm.Cond.methodLink "UnlikeCoins" (120 : Nat) ({ cls := "UnlikeCoins$Reader", name := "place", desc := "()I" } : Jvm.MethodName)) ∈ gw_tbl := gw_mem (i := 432) (by decide +kernel) (by decide +kernel)
theorem wd_433 : (Jvm.Cond.instanceMethod ({ cls := "UnlikeCoins$Reader", name := "place", desc := "()I" } : Jvm.MethodName)) ∈ gw_tbl := gw_mem (i := 433) (by decide +kernel) (by decide +kernel)
theorem wd_434 : (Jvm.Cond.selects "UnlikeCoins$Reader" ({ cls := "UnlikeCoins$Reader", name := "place", desc := "()I" } : Jvm.MethodName) ({ cls := "UnlikeCoins$Reader", name := "place", desc := "()I" } : Jvm.MethodName)) ∈ gw_tbl := gw_mem (i := 434) (by decide +kernel) (by decide +kernel)
set_option maxRecDepth 100000 in
theorem wd_435 : (Jvm.Cond.code ({ cls := "UnlikeCoins$Reader", name := "place", desc := "()I" } : Jvm.MethodName) prog_7_method_6_code (1 : Nat) (Option.some Jvm.ClassFile.FieldType.int)) ∈ gw_tbl := gw_mem (i := 435) rfl (by decide +kernel)
theorem wd_436 : (Jvm.Cond.methodLink "UnlikeCoinsLaw" (28 : Nat) ({ cls := "UnlikeCoins", name := "force", desc := "(I)I" } : Jvm.MethodName)) ∈ gw_tbl := gw_mem (i := 436) (by decide +kernel) (by decide +kernel)
theorem wd_437 : (Jvm.Cond.instanceMethod ({ cls := "UnlikeCoins", name := "force", desc := "(I)I" } : Jvm.MethodName)) ∈ gw_tbl := gw_mem (i := 437) (by decide +kernel) (by decide +kernel)
theorem wd_438 : (Jvm.Cond.selects "UnlikeCoins" ({ cls := "UnlikeCoins", name := "force", desc := "(I)I" } : Jvm.MethodName) ({ cls := "UnlikeCoins", name := "force", desc := "(I)I" } : Jvm.MethodName)) ∈ gw_tbl := gw_mem (i := 438) (by decide +kernel) (by decide +kernel)
set_option maxRecDepth 100000 in
theorem wd_439 : (Jvm.Cond.code ({ cls := "UnlikeCoins", name := "force", desc := "(I)I" } : Jvm.MethodName) prog_1_method_5_code (3 : Nat) (Option.some Jvm.ClassFile.FieldType.int)) ∈ gw_tbl := gw_mem (i := 439) rfl (by decide +kernel)
theorem wd_440 : (Jvm.Cond.methodLink "UnlikeCoinsLaw" (32 : Nat) ({ cls := "UnlikeCoins", name := "asks", desc := "(IIII)I" } : Jvm.MethodName)) ∈ gw_tbl := gw_mem (i := 440) (by decide +kernel) (by decide +kernel)
theorem wd_441 : (Jvm.Cond.instanceMethod ({ cls := "UnlikeCoins", name := "asks", desc := "(IIII)I" } : Jvm.MethodName)) ∈ gw_tbl := gw_mem (i := 441) (by decide +kernel) (by decide +kernel)
theorem wd_442 : (Jvm.Cond.selects "UnlikeCoins" ({ cls := "UnlikeCoins", name := "asks", desc := "(IIII)I" } : Jvm.MethodName) ({ cls := "UnlikeCoins", name := "asks", desc := "(IIII)I" } : Jvm.MethodName)) ∈ gw_tbl := gw_mem (i := 442) (by decide +kernel) (by decide +kernel)
set_option maxRecDepth 100000 in
theorem wd_443 : (Jvm.Cond.code ({ cls := "UnlikeCoins", name := "asks", desc := "(IIII)I" } : Jvm.MethodName) prog_1_method_6_code (5 : Nat) (Option.some Jvm.ClassFile.FieldType.int)) ∈ gw_tbl := gw_mem (i := 443) rfl (by decide +kernel)
theorem wd_444 : (Jvm.Cond.methodLink "UnlikeCoins" (123 : Nat) ({ cls := "UnlikeCoins", name := "nameAll", desc := "(IIIII)V" } : Jvm.MethodName)) ∈ gw_tbl := gw_mem (i := 444) (by decide +kernel) (by decide +kernel)
theorem wd_446 : (Jvm.Cond.instanceMethod ({ cls := "UnlikeCoins", name := "nameAll", desc := "(IIIII)V" } : Jvm.MethodName)) ∈ gw_tbl := gw_mem (i := 446) (by decide +kernel) (by decide +kernel)
set_option maxRecDepth 100000 in
theorem wd_447 : (Jvm.Cond.code ({ cls := "UnlikeCoins", name := "nameAll", desc := "(IIIII)V" } : Jvm.MethodName) prog_1_method_49_code (6 : Nat) (Option.none : Option Jvm.ClassFile.FieldType)) ∈ gw_tbl := gw_mem (i := 447) rfl (by decide +kernel)
theorem wd_448 : (Jvm.Cond.methodLink "UnlikeCoins" (127 : Nat) ({ cls := "UnlikeCoins", name := "says", desc := "(II)I" } : Jvm.MethodName)) ∈ gw_tbl := gw_mem (i := 448) (by decide +kernel) (by decide +kernel)
theorem wd_450 : (Jvm.Cond.instanceMethod ({ cls := "UnlikeCoins", name := "says", desc := "(II)I" } : Jvm.MethodName)) ∈ gw_tbl := gw_mem (i := 450) (by decide +kernel) (by decide +kernel)
set_option maxRecDepth 100000 in
theorem wd_451 : (Jvm.Cond.code ({ cls := "UnlikeCoins", name := "says", desc := "(II)I" } : Jvm.MethodName) prog_1_method_50_code (4 : Nat) (Option.some Jvm.ClassFile.FieldType.int)) ∈ gw_tbl := gw_mem (i := 451) rfl (by decide +kernel)
theorem wd_452 : (Jvm.Cond.methodLink "UnlikeCoins" (302 : Nat) ({ cls := "UnlikeCoins$Text", name := "value", desc := "(I[I)I" } : Jvm.MethodName)) ∈ gw_tbl := gw_mem (i := 452) (by decide +kernel) (by decide +kernel)
theorem wd_453 : (Jvm.Cond.instanceMethod ({ cls := "UnlikeCoins$Text", name := "value", desc := "(I[I)I" } : Jvm.MethodName)) ∈ gw_tbl := gw_mem (i := 453) (by decide +kernel) (by decide +kernel)
theorem wd_454 : (Jvm.Cond.selects "UnlikeCoins$Text" ({ cls := "UnlikeCoins$Text", name := "value", desc := "(I[I)I" } : Jvm.MethodName) ({ cls := "UnlikeCoins$Text", name := "value", desc := "(I[I)I" } : Jvm.MethodName)) ∈ gw_tbl := gw_mem (i := 454) (by decide +kernel) (by decide +kernel)
set_option maxRecDepth 100000 in
theorem wd_455 : (Jvm.Cond.code ({ cls := "UnlikeCoins$Text", name := "value", desc := "(I[I)I" } : Jvm.MethodName) prog_12_method_2_code (5 : Nat) (Option.some Jvm.ClassFile.FieldType.int)) ∈ gw_tbl := gw_mem (i := 455) rfl (by decide +kernel)
theorem wd_457 : (Jvm.Cond.methodLink "UnlikeCoins$Text" (29 : Nat) ({ cls := "java/lang/Math", name := "max", desc := "(II)I" } : Jvm.MethodName)) ∈ gw_tbl := gw_mem (i := 457) (by decide +kernel) (by decide +kernel)
theorem wd_458 : (Jvm.Cond.methodLink "UnlikeCoins$Text" (35 : Nat) ({ cls := "UnlikeCoins$Text", name := "step", desc := "(I[I)V" } : Jvm.MethodName)) ∈ gw_tbl := gw_mem (i := 458) (by decide +kernel) (by decide +kernel)
theorem wd_460 : (Jvm.Cond.instanceMethod ({ cls := "UnlikeCoins$Text", name := "step", desc := "(I[I)V" } : Jvm.MethodName)) ∈ gw_tbl := gw_mem (i := 460) (by decide +kernel) (by decide +kernel)
set_option maxRecDepth 100000 in
theorem wd_461 : (Jvm.Cond.code ({ cls := "UnlikeCoins$Text", name := "step", desc := "(I[I)V" } : Jvm.MethodName) prog_12_method_3_code (6 : Nat) (Option.none : Option Jvm.ClassFile.FieldType)) ∈ gw_tbl := gw_mem (i := 461) rfl (by decide +kernel)
theorem wd_462 : (Jvm.Cond.methodLink "UnlikeCoins$Text" (46 : Nat) ({ cls := "UnlikeCoins$Text", name := "push", desc := "(I)V" } : Jvm.MethodName)) ∈ gw_tbl := gw_mem (i := 462) (by decide +kernel) (by decide +kernel)
theorem wd_464 : (Jvm.Cond.instanceMethod ({ cls := "UnlikeCoins$Text", name := "push", desc := "(I)V" } : Jvm.MethodName)) ∈ gw_tbl := gw_mem (i := 464) (by decide +kernel) (by decide +kernel)
set_option maxRecDepth 100000 in
theorem wd_465 : (Jvm.Cond.code ({ cls := "UnlikeCoins$Text", name := "push", desc := "(I)V" } : Jvm.MethodName) prog_12_method_5_code (2 : Nat) (Option.none : Option Jvm.ClassFile.FieldType)) ∈ gw_tbl := gw_mem (i := 465) rfl (by decide +kernel)
theorem wd_466 : (Jvm.Cond.methodLink "UnlikeCoins$Text" (39 : Nat) ({ cls := "UnlikeCoins$Text", name := "pop", desc := "()I" } : Jvm.MethodName)) ∈ gw_tbl := gw_mem (i := 466) (by decide +kernel) (by decide +kernel)
theorem wd_468 : (Jvm.Cond.instanceMethod ({ cls := "UnlikeCoins$Text", name := "pop", desc := "()I" } : Jvm.MethodName)) ∈ gw_tbl := gw_mem (i := 468) (by decide +kernel) (by decide +kernel)
set_option maxRecDepth 100000 in
theorem wd_469 : (Jvm.Cond.code ({ cls := "UnlikeCoins$Text", name := "pop", desc := "()I" } : Jvm.MethodName) prog_12_method_6_code (1 : Nat) (Option.some Jvm.ClassFile.FieldType.int)) ∈ gw_tbl := gw_mem (i := 469) rfl (by decide +kernel)
theorem wd_470 : (Jvm.Cond.methodLink "UnlikeCoins$Text" (50 : Nat) ({ cls := "UnlikeCoins$Text", name := "reckon", desc := "(III)I" } : Jvm.MethodName)) ∈ gw_tbl := gw_mem (i := 470) (by decide +kernel) (by decide +kernel)
theorem wd_471 : (Jvm.Cond.static ({ cls := "UnlikeCoins$Text", name := "reckon", desc := "(III)I" } : Jvm.MethodName)) ∈ gw_tbl := gw_mem (i := 471) (by decide +kernel) (by decide +kernel)
set_option maxRecDepth 100000 in
theorem wd_472 : (Jvm.Cond.code ({ cls := "UnlikeCoins$Text", name := "reckon", desc := "(III)I" } : Jvm.MethodName) prog_12_method_4_code (3 : Nat) (Option.some Jvm.ClassFile.FieldType.int)) ∈ gw_tbl := gw_mem (i := 472) rfl (by decide +kernel)
theorem wd_473 : (Jvm.Cond.methodLink "UnlikeCoins$Text" (43 : Nat) ({ cls := "java/lang/Math", name := "min", desc := "(II)I" } : Jvm.MethodName)) ∈ gw_tbl := gw_mem (i := 473) (by decide +kernel) (by decide +kernel)
theorem wd_474 : (Jvm.Cond.methodLink "UnlikeCoinsLaw" (37 : Nat) ({ cls := "UnlikeCoins", name := "sort", desc := "(III)I" } : Jvm.MethodName)) ∈ gw_tbl := gw_mem (i := 474) (by decide +kernel) (by decide +kernel)
theorem wd_475 : (Jvm.Cond.instanceMethod ({ cls := "UnlikeCoins", name := "sort", desc := "(III)I" } : Jvm.MethodName)) ∈ gw_tbl := gw_mem (i := 475) (by decide +kernel) (by decide +kernel)
theorem wd_476 : (Jvm.Cond.selects "UnlikeCoins" ({ cls := "UnlikeCoins", name := "sort", desc := "(III)I" } : Jvm.MethodName) ({ cls := "UnlikeCoins", name := "sort", desc := "(III)I" } : Jvm.MethodName)) ∈ gw_tbl := gw_mem (i := 476) (by decide +kernel) (by decide +kernel)
set_option maxRecDepth 100000 in
theorem wd_477 : (Jvm.Cond.code ({ cls := "UnlikeCoins", name := "sort", desc := "(III)I" } : Jvm.MethodName) prog_1_method_7_code (4 : Nat) (Option.some Jvm.ClassFile.FieldType.int)) ∈ gw_tbl := gw_mem (i := 477) rfl (by decide +kernel)
theorem wd_478 : (Jvm.Cond.methodLink "UnlikeCoins" (131 : Nat) ({ cls := "UnlikeCoins", name := "newSort", desc := "(III)LUnlikeCoins$Sort;" } : Jvm.MethodName)) ∈ gw_tbl := gw_mem (i := 478) (by decide +kernel) (by decide +kernel)
theorem wd_479 : (Jvm.Cond.static ({ cls := "UnlikeCoins", name := "newSort", desc := "(III)LUnlikeCoins$Sort;" } : Jvm.MethodName)) ∈ gw_tbl := gw_mem (i := 479) (by decide +kernel) (by decide +kernel)
set_option maxRecDepth 100000 in
theorem wd_480 : (Jvm.Cond.code ({ cls := "UnlikeCoins", name := "newSort", desc := "(III)LUnlikeCoins$Sort;" } : Jvm.MethodName) prog_1_method_47_code (3 : Nat) (Option.some (Jvm.ClassFile.FieldType.object "UnlikeCoins$Sort"))) ∈ gw_tbl := gw_mem (i := 480) rfl (by decide +kernel)
theorem wd_481 : (Jvm.Cond.classLink "UnlikeCoins" (285 : Nat) "UnlikeCoins$Common") ∈ gw_tbl := gw_mem (i := 481) (by decide +kernel) (by decide +kernel)
theorem wd_483 : (Jvm.Cond.methodLink "UnlikeCoins" (287 : Nat) ({ cls := "UnlikeCoins$Common", name := "<init>", desc := "(II)V" } : Jvm.MethodName)) ∈ gw_tbl := gw_mem (i := 483) (by decide +kernel) (by decide +kernel)
theorem wd_484 : (Jvm.Cond.instanceMethod ({ cls := "UnlikeCoins$Common", name := "<init>", desc := "(II)V" } : Jvm.MethodName)) ∈ gw_tbl := gw_mem (i := 484) (by decide +kernel) (by decide +kernel)
set_option maxRecDepth 100000 in
theorem wd_485 : (Jvm.Cond.code ({ cls := "UnlikeCoins$Common", name := "<init>", desc := "(II)V" } : Jvm.MethodName) prog_2_method_1_code (3 : Nat) (Option.none : Option Jvm.ClassFile.FieldType)) ∈ gw_tbl := gw_mem (i := 485) rfl (by decide +kernel)
theorem wd_486 : (Jvm.Cond.methodLink "UnlikeCoins$Common" (1 : Nat) ({ cls := "UnlikeCoins$Sort", name := "<init>", desc := "(II)V" } : Jvm.MethodName)) ∈ gw_tbl := gw_mem (i := 486) (by decide +kernel) (by decide +kernel)
theorem wd_487 : (Jvm.Cond.instanceMethod ({ cls := "UnlikeCoins$Sort", name := "<init>", desc := "(II)V" } : Jvm.MethodName)) ∈ gw_tbl := gw_mem (i := 487) (by decide +kernel) (by decide +kernel)
set_option maxRecDepth 100000 in
theorem wd_488 : (Jvm.Cond.code ({ cls := "UnlikeCoins$Sort", name := "<init>", desc := "(II)V" } : Jvm.MethodName) prog_10_method_1_code (3 : Nat) (Option.none : Option Jvm.ClassFile.FieldType)) ∈ gw_tbl := gw_mem (i := 488) rfl (by decide +kernel)
theorem wd_489 : (Jvm.Cond.methodLink "UnlikeCoins$Sort" (1 : Nat) ({ cls := "java/lang/Object", name := "<init>", desc := "()V" } : Jvm.MethodName)) ∈ gw_tbl := gw_mem (i := 489) (by decide +kernel) (by decide +kernel)
theorem wd_490 : (Jvm.Cond.fieldLink "UnlikeCoins$Sort" (7 : Nat) "UnlikeCoins$Sort" "told" "I") ∈ gw_tbl := gw_mem (i := 490) (by decide +kernel) (by decide +kernel)
theorem wd_491 : (Jvm.Cond.fieldLink "UnlikeCoins" (142 : Nat) "UnlikeCoins$Sort" "told" "I") ∈ gw_tbl := gw_mem (i := 491) (by decide +kernel) (by decide +kernel)
theorem wd_492 : (Jvm.Cond.fieldLink "UnlikeCoins$Sort" (13 : Nat) "UnlikeCoins$Sort" "more" "I") ∈ gw_tbl := gw_mem (i := 492) (by decide +kernel) (by decide +kernel)
theorem wd_493 : (Jvm.Cond.fieldLink "UnlikeCoins$Stamped" (7 : Nat) "UnlikeCoins$Stamped" "more" "I") ∈ gw_tbl := gw_mem (i := 493) (by decide +kernel) (by decide +kernel)
theorem wd_494 : (Jvm.Cond.sameField "UnlikeCoins$Stamped" "UnlikeCoins$Sort" "more" "I") ∈ gw_tbl := gw_mem (i := 494) (by decide +kernel) (by decide +kernel)
theorem wd_495 : (Jvm.Cond.fieldLink "UnlikeCoins$Gilt" (20 : Nat) "UnlikeCoins$Gilt" "more" "I") ∈ gw_tbl := gw_mem (i := 495) (by decide +kernel) (by decide +kernel)
theorem wd_496 : (Jvm.Cond.sameField "UnlikeCoins$Gilt" "UnlikeCoins$Sort" "more" "I") ∈ gw_tbl := gw_mem (i := 496) (by decide +kernel) (by decide +kernel)
theorem wd_497 : (Jvm.Cond.fieldLink "UnlikeCoins$Melting" (14 : Nat) "UnlikeCoins$Melting" "more" "I") ∈ gw_tbl := gw_mem (i := 497) (by decide +kernel) (by decide +kernel)
theorem wd_498 : (Jvm.Cond.sameField "UnlikeCoins$Melting" "UnlikeCoins$Sort" "more" "I") ∈ gw_tbl := gw_mem (i := 498) (by decide +kernel) (by decide +kernel)
theorem wd_499 : (Jvm.Cond.fieldLink "UnlikeCoins" (145 : Nat) "UnlikeCoins$Sort" "more" "I") ∈ gw_tbl := gw_mem (i := 499) (by decide +kernel) (by decide +kernel)
theorem wd_504 : (Jvm.Cond.superclass "UnlikeCoins$Common" "UnlikeCoins$Sort") ∈ gw_tbl := gw_mem (i := 504) (by decide +kernel) (by decide +kernel)
theorem wd_505 : (Jvm.Cond.classLink "UnlikeCoins" (289 : Nat) "UnlikeCoins$Scarce") ∈ gw_tbl := gw_mem (i := 505) (by decide +kernel) (by decide +kernel)
theorem wd_507 : (Jvm.Cond.methodLink "UnlikeCoins" (291 : Nat) ({ cls := "UnlikeCoins$Scarce", name := "<init>", desc := "(II)V" } : Jvm.MethodName)) ∈ gw_tbl := gw_mem (i := 507) (by decide +kernel) (by decide +kernel)
theorem wd_508 : (Jvm.Cond.instanceMethod ({ cls := "UnlikeCoins$Scarce", name := "<init>", desc := "(II)V" } : Jvm.MethodName)) ∈ gw_tbl := gw_mem (i := 508) (by decide +kernel) (by decide +kernel)
set_option maxRecDepth 100000 in
theorem wd_509 : (Jvm.Cond.code ({ cls := "UnlikeCoins$Scarce", name := "<init>", desc := "(II)V" } : Jvm.MethodName) prog_8_method_1_code (3 : Nat) (Option.none : Option Jvm.ClassFile.FieldType)) ∈ gw_tbl := gw_mem (i := 509) rfl (by decide +kernel)
theorem wd_510 : (Jvm.Cond.methodLink "UnlikeCoins$Scarce" (1 : Nat) ({ cls := "UnlikeCoins$Sort", name := "<init>", desc := "(II)V" } : Jvm.MethodName)) ∈ gw_tbl := gw_mem (i := 510) (by decide +kernel) (by decide +kernel)
theorem wd_513 : (Jvm.Cond.superclass "UnlikeCoins$Scarce" "UnlikeCoins$Sort") ∈ gw_tbl := gw_mem (i := 513) (by decide +kernel) (by decide +kernel)
theorem wd_514 : (Jvm.Cond.classLink "UnlikeCoins" (292 : Nat) "UnlikeCoins$Stamped") ∈ gw_tbl := gw_mem (i := 514) (by decide +kernel) (by decide +kernel)
theorem wd_516 : (Jvm.Cond.methodLink "UnlikeCoins" (294 : Nat) ({ cls := "UnlikeCoins$Stamped", name := "<init>", desc := "(II)V" } : Jvm.MethodName)) ∈ gw_tbl := gw_mem (i := 516) (by decide +kernel) (by decide +kernel)
theorem wd_517 : (Jvm.Cond.instanceMethod ({ cls := "UnlikeCoins$Stamped", name := "<init>", desc := "(II)V" } : Jvm.MethodName)) ∈ gw_tbl := gw_mem (i := 517) (by decide +kernel) (by decide +kernel)
set_option maxRecDepth 100000 in
theorem wd_518 : (Jvm.Cond.code ({ cls := "UnlikeCoins$Stamped", name := "<init>", desc := "(II)V" } : Jvm.MethodName) prog_11_method_1_code (3 : Nat) (Option.none : Option Jvm.ClassFile.FieldType)) ∈ gw_tbl := gw_mem (i := 518) rfl (by decide +kernel)
theorem wd_519 : (Jvm.Cond.methodLink "UnlikeCoins$Stamped" (1 : Nat) ({ cls := "UnlikeCoins$Common", name := "<init>", desc := "(II)V" } : Jvm.MethodName)) ∈ gw_tbl := gw_mem (i := 519) (by decide +kernel) (by decide +kernel)
theorem wd_522 : (Jvm.Cond.superclass "UnlikeCoins$Stamped" "UnlikeCoins$Common") ∈ gw_tbl := gw_mem (i := 522) (by decide +kernel) (by decide +kernel)
theorem wd_523 : (Jvm.Cond.classLink "UnlikeCoins" (295 : Nat) "UnlikeCoins$Gilt") ∈ gw_tbl := gw_mem (i := 523) (by decide +kernel) (by decide +kernel)
theorem wd_525 : (Jvm.Cond.methodLink "UnlikeCoins" (297 : Nat) ({ cls := "UnlikeCoins$Gilt", name := "<init>", desc := "(II)V" } : Jvm.MethodName)) ∈ gw_tbl := gw_mem (i := 525) (by decide +kernel) (by decide +kernel)
theorem wd_526 : (Jvm.Cond.instanceMethod ({ cls := "UnlikeCoins$Gilt", name := "<init>", desc := "(II)V" } : Jvm.MethodName)) ∈ gw_tbl := gw_mem (i := 526) (by decide +kernel) (by decide +kernel)
set_option maxRecDepth 100000 in
theorem wd_527 : (Jvm.Cond.code ({ cls := "UnlikeCoins$Gilt", name := "<init>", desc := "(II)V" } : Jvm.MethodName) prog_3_method_1_code (3 : Nat) (Option.none : Option Jvm.ClassFile.FieldType)) ∈ gw_tbl := gw_mem (i := 527) rfl (by decide +kernel)
theorem wd_528 : (Jvm.Cond.methodLink "UnlikeCoins$Gilt" (1 : Nat) ({ cls := "UnlikeCoins$Scarce", name := "<init>", desc := "(II)V" } : Jvm.MethodName)) ∈ gw_tbl := gw_mem (i := 528) (by decide +kernel) (by decide +kernel)
theorem wd_531 : (Jvm.Cond.superclass "UnlikeCoins$Gilt" "UnlikeCoins$Scarce") ∈ gw_tbl := gw_mem (i := 531) (by decide +kernel) (by decide +kernel)
theorem wd_532 : (Jvm.Cond.classLink "UnlikeCoins" (298 : Nat) "UnlikeCoins$Melting") ∈ gw_tbl := gw_mem (i := 532) (by decide +kernel) (by decide +kernel)
theorem wd_534 : (Jvm.Cond.methodLink "UnlikeCoins" (300 : Nat) ({ cls := "UnlikeCoins$Melting", name := "<init>", desc := "(II)V" } : Jvm.MethodName)) ∈ gw_tbl := gw_mem (i := 534) (by decide +kernel) (by decide +kernel)
theorem wd_535 : (Jvm.Cond.instanceMethod ({ cls := "UnlikeCoins$Melting", name := "<init>", desc := "(II)V" } : Jvm.MethodName)) ∈ gw_tbl := gw_mem (i := 535) (by decide +kernel) (by decide +kernel)
set_option maxRecDepth 100000 in
theorem wd_536 : (Jvm.Cond.code ({ cls := "UnlikeCoins$Melting", name := "<init>", desc := "(II)V" } : Jvm.MethodName) prog_5_method_1_code (3 : Nat) (Option.none : Option Jvm.ClassFile.FieldType)) ∈ gw_tbl := gw_mem (i := 536) rfl (by decide +kernel)
theorem wd_537 : (Jvm.Cond.methodLink "UnlikeCoins$Melting" (1 : Nat) ({ cls := "UnlikeCoins$Sort", name := "<init>", desc := "(II)V" } : Jvm.MethodName)) ∈ gw_tbl := gw_mem (i := 537) (by decide +kernel) (by decide +kernel)
theorem wd_540 : (Jvm.Cond.superclass "UnlikeCoins$Melting" "UnlikeCoins$Sort") ∈ gw_tbl := gw_mem (i := 540) (by decide +kernel) (by decide +kernel)
theorem wd_542 : (Jvm.Cond.methodLink "UnlikeCoins" (301 : Nat) ({ cls := "UnlikeCoins$Sort", name := "<init>", desc := "(II)V" } : Jvm.MethodName)) ∈ gw_tbl := gw_mem (i := 542) (by decide +kernel) (by decide +kernel)
theorem wd_546 : (Jvm.Cond.methodLink "UnlikeCoinsLaw" (42 : Nat) ({ cls := "UnlikeCoins", name := "told", desc := "(II)I" } : Jvm.MethodName)) ∈ gw_tbl := gw_mem (i := 546) (by decide +kernel) (by decide +kernel)
theorem wd_547 : (Jvm.Cond.instanceMethod ({ cls := "UnlikeCoins", name := "told", desc := "(II)I" } : Jvm.MethodName)) ∈ gw_tbl := gw_mem (i := 547) (by decide +kernel) (by decide +kernel)
theorem wd_548 : (Jvm.Cond.selects "UnlikeCoins" ({ cls := "UnlikeCoins", name := "told", desc := "(II)I" } : Jvm.MethodName) ({ cls := "UnlikeCoins", name := "told", desc := "(II)I" } : Jvm.MethodName)) ∈ gw_tbl := gw_mem (i := 548) (by decide +kernel) (by decide +kernel)
set_option maxRecDepth 100000 in
theorem wd_549 : (Jvm.Cond.code ({ cls := "UnlikeCoins", name := "told", desc := "(II)I" } : Jvm.MethodName) prog_1_method_8_code (4 : Nat) (Option.some Jvm.ClassFile.FieldType.int)) ∈ gw_tbl := gw_mem (i := 549) rfl (by decide +kernel)
theorem wd_550 : (Jvm.Cond.methodLink "UnlikeCoins" (135 : Nat) ({ cls := "UnlikeCoins", name := "sortAt", desc := "(I)LUnlikeCoins$Sort;" } : Jvm.MethodName)) ∈ gw_tbl := gw_mem (i := 550) (by decide +kernel) (by decide +kernel)
theorem wd_552 : (Jvm.Cond.instanceMethod ({ cls := "UnlikeCoins", name := "sortAt", desc := "(I)LUnlikeCoins$Sort;" } : Jvm.MethodName)) ∈ gw_tbl := gw_mem (i := 552) (by decide +kernel) (by decide +kernel)
set_option maxRecDepth 100000 in
theorem wd_553 : (Jvm.Cond.code ({ cls := "UnlikeCoins", name := "sortAt", desc := "(I)LUnlikeCoins$Sort;" } : Jvm.MethodName) prog_1_method_44_code (2 : Nat) (Option.some (Jvm.ClassFile.FieldType.object "UnlikeCoins$Sort"))) ∈ gw_tbl := gw_mem (i := 553) rfl (by decide +kernel)
theorem wd_554 : (Jvm.Cond.methodLink "UnlikeCoins" (139 : Nat) ({ cls := "UnlikeCoins$Sort", name := "kind", desc := "()I" } : Jvm.MethodName)) ∈ gw_tbl := gw_mem (i := 554) (by decide +kernel) (by decide +kernel)
theorem wd_555 : (Jvm.Cond.instanceMethod ({ cls := "UnlikeCoins$Sort", name := "kind", desc := "()I" } : Jvm.MethodName)) ∈ gw_tbl := gw_mem (i := 555) (by decide +kernel) (by decide +kernel)
theorem wd_556 : (Jvm.Cond.selects "UnlikeCoins$Sort" ({ cls := "UnlikeCoins$Sort", name := "kind", desc := "()I" } : Jvm.MethodName) ({ cls := "UnlikeCoins$Sort", name := "kind", desc := "()I" } : Jvm.MethodName)) ∈ gw_tbl := gw_mem (i := 556) (by decide +kernel) (by decide +kernel)
theorem wd_557 : (Jvm.Cond.sameMethod "UnlikeCoins$Sort" "UnlikeCoins$Sort" "kind" "()I") ∈ gw_tbl := gw_mem (i := 557) (by decide +kernel) (by decide +kernel)
theorem wd_558 : (Jvm.Cond.selects "UnlikeCoins$Common" ({ cls := "UnlikeCoins$Sort", name := "kind", desc := "()I" } : Jvm.MethodName) ({ cls := "UnlikeCoins$Common", name := "kind", desc := "()I" } : Jvm.MethodName)) ∈ gw_tbl := gw_mem (i := 558) (by decide +kernel) (by decide +kernel)
theorem wd_559 : (Jvm.Cond.instanceMethod ({ cls := "UnlikeCoins$Common", name := "kind", desc := "()I" } : Jvm.MethodName)) ∈ gw_tbl := gw_mem (i := 559) (by decide +kernel) (by decide +kernel)
set_option maxRecDepth 100000 in
theorem wd_560 : (Jvm.Cond.code ({ cls := "UnlikeCoins$Common", name := "kind", desc := "()I" } : Jvm.MethodName) prog_2_method_2_code (1 : Nat) (Option.some Jvm.ClassFile.FieldType.int)) ∈ gw_tbl := gw_mem (i := 560) rfl (by decide +kernel)
theorem wd_561 : (Jvm.Cond.selects "UnlikeCoins$Gilt" ({ cls := "UnlikeCoins$Sort", name := "kind", desc := "()I" } : Jvm.MethodName) ({ cls := "UnlikeCoins$Gilt", name := "kind", desc := "()I" } : Jvm.MethodName)) ∈ gw_tbl := gw_mem (i := 561) (by decide +kernel) (by decide +kernel)
theorem wd_562 : (Jvm.Cond.instanceMethod ({ cls := "UnlikeCoins$Gilt", name := "kind", desc := "()I" } : Jvm.MethodName)) ∈ gw_tbl := gw_mem (i := 562) (by decide +kernel) (by decide +kernel)
set_option maxRecDepth 100000 in
theorem wd_563 : (Jvm.Cond.code ({ cls := "UnlikeCoins$Gilt", name := "kind", desc := "()I" } : Jvm.MethodName) prog_3_method_2_code (1 : Nat) (Option.some Jvm.ClassFile.FieldType.int)) ∈ gw_tbl := gw_mem (i := 563) rfl (by decide +kernel)
theorem wd_564 : (Jvm.Cond.selects "UnlikeCoins$Melting" ({ cls := "UnlikeCoins$Sort", name := "kind", desc := "()I" } : Jvm.MethodName) ({ cls := "UnlikeCoins$Melting", name := "kind", desc := "()I" } : Jvm.MethodName)) ∈ gw_tbl := gw_mem (i := 564) (by decide +kernel) (by decide +kernel)
theorem wd_565 : (Jvm.Cond.instanceMethod ({ cls := "UnlikeCoins$Melting", name := "kind", desc := "()I" } : Jvm.MethodName)) ∈ gw_tbl := gw_mem (i := 565) (by decide +kernel) (by decide +kernel)
set_option maxRecDepth 100000 in
theorem wd_566 : (Jvm.Cond.code ({ cls := "UnlikeCoins$Melting", name := "kind", desc := "()I" } : Jvm.MethodName) prog_5_method_2_code (1 : Nat) (Option.some Jvm.ClassFile.FieldType.int)) ∈ gw_tbl := gw_mem (i := 566) rfl (by decide +kernel)
theorem wd_567 : (Jvm.Cond.selects "UnlikeCoins$Scarce" ({ cls := "UnlikeCoins$Sort", name := "kind", desc := "()I" } : Jvm.MethodName) ({ cls := "UnlikeCoins$Scarce", name := "kind", desc := "()I" } : Jvm.MethodName)) ∈ gw_tbl := gw_mem (i := 567) (by decide +kernel) (by decide +kernel)
theorem wd_568 : (Jvm.Cond.instanceMethod ({ cls := "UnlikeCoins$Scarce", name := "kind", desc := "()I" } : Jvm.MethodName)) ∈ gw_tbl := gw_mem (i := 568) (by decide +kernel) (by decide +kernel)
set_option maxRecDepth 100000 in
theorem wd_569 : (Jvm.Cond.code ({ cls := "UnlikeCoins$Scarce", name := "kind", desc := "()I" } : Jvm.MethodName) prog_8_method_2_code (1 : Nat) (Option.some Jvm.ClassFile.FieldType.int)) ∈ gw_tbl := gw_mem (i := 569) rfl (by decide +kernel)
theorem wd_570 : (Jvm.Cond.selects "UnlikeCoins$Stamped" ({ cls := "UnlikeCoins$Sort", name := "kind", desc := "()I" } : Jvm.MethodName) ({ cls := "UnlikeCoins$Stamped", name := "kind", desc := "()I" } : Jvm.MethodName)) ∈ gw_tbl := gw_mem (i := 570) (by decide +kernel) (by decide +kernel)
theorem wd_571 : (Jvm.Cond.instanceMethod ({ cls := "UnlikeCoins$Stamped", name := "kind", desc := "()I" } : Jvm.MethodName)) ∈ gw_tbl := gw_mem (i := 571) (by decide +kernel) (by decide +kernel)
set_option maxRecDepth 100000 in
theorem wd_572 : (Jvm.Cond.code ({ cls := "UnlikeCoins$Stamped", name := "kind", desc := "()I" } : Jvm.MethodName) prog_11_method_2_code (1 : Nat) (Option.some Jvm.ClassFile.FieldType.int)) ∈ gw_tbl := gw_mem (i := 572) rfl (by decide +kernel)
set_option maxRecDepth 100000 in
theorem wd_573 : (Jvm.Cond.code ({ cls := "UnlikeCoins$Sort", name := "kind", desc := "()I" } : Jvm.MethodName) prog_10_method_2_code (1 : Nat) (Option.some Jvm.ClassFile.FieldType.int)) ∈ gw_tbl := gw_mem (i := 573) rfl (by decide +kernel)
theorem wd_574 : (Jvm.Cond.methodLink "UnlikeCoinsLaw" (47 : Nat) ({ cls := "UnlikeCoins", name := "purse", desc := "()I" } : Jvm.MethodName)) ∈ gw_tbl := gw_mem (i := 574) (by decide +kernel) (by decide +kernel)
theorem wd_575 : (Jvm.Cond.instanceMethod ({ cls := "UnlikeCoins", name := "purse", desc := "()I" } : Jvm.MethodName)) ∈ gw_tbl := gw_mem (i := 575) (by decide +kernel) (by decide +kernel)
theorem wd_576 : (Jvm.Cond.selects "UnlikeCoins" ({ cls := "UnlikeCoins", name := "purse", desc := "()I" } : Jvm.MethodName) ({ cls := "UnlikeCoins", name := "purse", desc := "()I" } : Jvm.MethodName)) ∈ gw_tbl := gw_mem (i := 576) (by decide +kernel) (by decide +kernel)
set_option maxRecDepth 100000 in
theorem wd_577 : (Jvm.Cond.code ({ cls := "UnlikeCoins", name := "purse", desc := "()I" } : Jvm.MethodName) prog_1_method_9_code (1 : Nat) (Option.some Jvm.ClassFile.FieldType.int)) ∈ gw_tbl := gw_mem (i := 577) rfl (by decide +kernel)
theorem wd_578 : (Jvm.Cond.methodLink "UnlikeCoins" (148 : Nat) ({ cls := "UnlikeCoins$Purse", name := "clear", desc := "()V" } : Jvm.MethodName)) ∈ gw_tbl := gw_mem (i := 578) (by decide +kernel) (by decide +kernel)
theorem wd_579 : (Jvm.Cond.instanceMethod ({ cls := "UnlikeCoins$Purse", name := "clear", desc := "()V" } : Jvm.MethodName)) ∈ gw_tbl := gw_mem (i := 579) (by decide +kernel) (by decide +kernel)
theorem wd_580 : (Jvm.Cond.selects "UnlikeCoins$Purse" ({ cls := "UnlikeCoins$Purse", name := "clear", desc := "()V" } : Jvm.MethodName) ({ cls := "UnlikeCoins$Purse", name := "clear", desc := "()V" } : Jvm.MethodName)) ∈ gw_tbl := gw_mem (i := 580) (by decide +kernel) (by decide +kernel)
set_option maxRecDepth 100000 in
theorem wd_581 : (Jvm.Cond.code ({ cls := "UnlikeCoins$Purse", name := "clear", desc := "()V" } : Jvm.MethodName) prog_6_method_7_code (1 : Nat) (Option.none : Option Jvm.ClassFile.FieldType)) ∈ gw_tbl := gw_mem (i := 581) rfl (by decide +kernel)
theorem wd_582 : (Jvm.Cond.methodLink "UnlikeCoins$Purse" (37 : Nat) ({ cls := "java/util/Arrays", name := "fill", desc := "([II)V" } : Jvm.MethodName)) ∈ gw_tbl := gw_mem (i := 582) (by decide +kernel) (by decide +kernel)
theorem wd_583 : (Jvm.Cond.static ({ cls := "java/util/Arrays", name := "fill", desc := "([II)V" } : Jvm.MethodName)) ∈ gw_tbl := gw_mem (i := 583) (by decide +kernel) (by decide +kernel)
set_option maxRecDepth 100000 in
theorem wd_584 : (Jvm.Cond.code ({ cls := "java/util/Arrays", name := "fill", desc := "([II)V" } : Jvm.MethodName) prog_22_method_103_code (4 : Nat) (Option.none : Option Jvm.ClassFile.FieldType)) ∈ gw_tbl := gw_mem (i := 584) rfl (by decide +kernel)
theorem wd_585 : (Jvm.Cond.methodLink "UnlikeCoinsLaw" (51 : Nat) ({ cls := "UnlikeCoins", name := "set", desc := "(III)I" } : Jvm.MethodName)) ∈ gw_tbl := gw_mem (i := 585) (by decide +kernel) (by decide +kernel)
theorem wd_586 : (Jvm.Cond.instanceMethod ({ cls := "UnlikeCoins", name := "set", desc := "(III)I" } : Jvm.MethodName)) ∈ gw_tbl := gw_mem (i := 586) (by decide +kernel) (by decide +kernel)
theorem wd_587 : (Jvm.Cond.selects "UnlikeCoins" ({ cls := "UnlikeCoins", name := "set", desc := "(III)I" } : Jvm.MethodName) ({ cls := "UnlikeCoins", name := "set", desc := "(III)I" } : Jvm.MethodName)) ∈ gw_tbl := gw_mem (i := 587) (by decide +kernel) (by decide +kernel)
set_option maxRecDepth 100000 in
theorem wd_588 : (Jvm.Cond.code ({ cls := "UnlikeCoins", name := "set", desc := "(III)I" } : Jvm.MethodName) prog_1_method_10_code (6 : Nat) (Option.some Jvm.ClassFile.FieldType.int)) ∈ gw_tbl := gw_mem (i := 588) rfl (by decide +kernel)
theorem wd_589 : (Jvm.Cond.methodLink "UnlikeCoins" (149 : Nat) ({ cls := "UnlikeCoins", name := "purseAt", desc := "(I)LUnlikeCoins$Purse;" } : Jvm.MethodName)) ∈ gw_tbl := gw_mem (i := 589) (by decide +kernel) (by decide +kernel)
theorem wd_591 : (Jvm.Cond.instanceMethod ({ cls := "UnlikeCoins", name := "purseAt", desc := "(I)LUnlikeCoins$Purse;" } : Jvm.MethodName)) ∈ gw_tbl := gw_mem (i := 591) (by decide +kernel) (by decide +kernel)
set_option maxRecDepth 100000 in
theorem wd_592 : (Jvm.Cond.code ({ cls := "UnlikeCoins", name := "purseAt", desc := "(I)LUnlikeCoins$Purse;" } : Jvm.MethodName) prog_1_method_45_code (2 : Nat) (Option.some (Jvm.ClassFile.FieldType.object "UnlikeCoins$Purse"))) ∈ gw_tbl := gw_mem (i := 592) rfl (by decide +kernel)
theorem wd_593 : (Jvm.Cond.methodLink "UnlikeCoins" (153 : Nat) ({ cls := "UnlikeCoins$Purse", name := "many", desc := "(I)I" } : Jvm.MethodName)) ∈ gw_tbl := gw_mem (i := 593) (by decide +kernel) (by decide +kernel)
theorem wd_594 : (Jvm.Cond.instanceMethod ({ cls := "UnlikeCoins$Purse", name := "many", desc := "(I)I" } : Jvm.MethodName)) ∈ gw_tbl := gw_mem (i := 594) (by decide +kernel) (by decide +kernel)
theorem wd_595 : (Jvm.Cond.selects "UnlikeCoins$Purse" ({ cls := "UnlikeCoins$Purse", name := "many", desc := "(I)I" } : Jvm.MethodName) ({ cls := "UnlikeCoins$Purse", name := "many", desc := "(I)I" } : Jvm.MethodName)) ∈ gw_tbl := gw_mem (i := 595) (by decide +kernel) (by decide +kernel)
set_option maxRecDepth 100000 in
theorem wd_596 : (Jvm.Cond.code ({ cls := "UnlikeCoins$Purse", name := "many", desc := "(I)I" } : Jvm.MethodName) prog_6_method_2_code (2 : Nat) (Option.some Jvm.ClassFile.FieldType.int)) ∈ gw_tbl := gw_mem (i := 596) rfl (by decide +kernel)
theorem wd_598 : (Jvm.Cond.methodLink "UnlikeCoins" (157 : Nat) ({ cls := "UnlikeCoins$Purse", name := "put", desc := "(II)V" } : Jvm.MethodName)) ∈ gw_tbl := gw_mem (i := 598) (by decide +kernel) (by decide +kernel)
theorem wd_599 : (Jvm.Cond.instanceMethod ({ cls := "UnlikeCoins$Purse", name := "put", desc := "(II)V" } : Jvm.MethodName)) ∈ gw_tbl := gw_mem (i := 599) (by decide +kernel) (by decide +kernel)
theorem wd_600 : (Jvm.Cond.selects "UnlikeCoins$Purse" ({ cls := "UnlikeCoins$Purse", name := "put", desc := "(II)V" } : Jvm.MethodName) ({ cls := "UnlikeCoins$Purse", name := "put", desc := "(II)V" } : Jvm.MethodName)) ∈ gw_tbl := gw_mem (i := 600) (by decide +kernel) (by decide +kernel)
set_option maxRecDepth 100000 in
theorem wd_601 : (Jvm.Cond.code ({ cls := "UnlikeCoins$Purse", name := "put", desc := "(II)V" } : Jvm.MethodName) prog_6_method_3_code (3 : Nat) (Option.none : Option Jvm.ClassFile.FieldType)) ∈ gw_tbl := gw_mem (i := 601) rfl (by decide +kernel)
theorem wd_602 : (Jvm.Cond.methodLink "UnlikeCoinsLaw" (55 : Nat) ({ cls := "UnlikeCoins", name := "of", desc := "(II)I" } : Jvm.MethodName)) ∈ gw_tbl := gw_mem (i := 602) (by decide +kernel) (by decide +kernel)
theorem wd_603 : (Jvm.Cond.instanceMethod ({ cls := "UnlikeCoins", name := "of", desc := "(II)I" } : Jvm.MethodName)) ∈ gw_tbl := gw_mem (i := 603) (by decide +kernel) (by decide +kernel)
theorem wd_604 : (Jvm.Cond.selects "UnlikeCoins" ({ cls := "UnlikeCoins", name := "of", desc := "(II)I" } : Jvm.MethodName) ({ cls := "UnlikeCoins", name := "of", desc := "(II)I" } : Jvm.MethodName)) ∈ gw_tbl := gw_mem (i := 604) (by decide +kernel) (by decide +kernel)
set_option maxRecDepth 100000 in
theorem wd_605 : (Jvm.Cond.code ({ cls := "UnlikeCoins", name := "of", desc := "(II)I" } : Jvm.MethodName) prog_1_method_11_code (4 : Nat) (Option.some Jvm.ClassFile.FieldType.int)) ∈ gw_tbl := gw_mem (i := 605) rfl (by decide +kernel)
theorem wd_606 : (Jvm.Cond.methodLink "UnlikeCoinsLaw" (59 : Nat) ({ cls := "UnlikeCoins", name := "all", desc := "(II)I" } : Jvm.MethodName)) ∈ gw_tbl := gw_mem (i := 606) (by decide +kernel) (by decide +kernel)
theorem wd_607 : (Jvm.Cond.instanceMethod ({ cls := "UnlikeCoins", name := "all", desc := "(II)I" } : Jvm.MethodName)) ∈ gw_tbl := gw_mem (i := 607) (by decide +kernel) (by decide +kernel)
theorem wd_608 : (Jvm.Cond.selects "UnlikeCoins" ({ cls := "UnlikeCoins", name := "all", desc := "(II)I" } : Jvm.MethodName) ({ cls := "UnlikeCoins", name := "all", desc := "(II)I" } : Jvm.MethodName)) ∈ gw_tbl := gw_mem (i := 608) (by decide +kernel) (by decide +kernel)
set_option maxRecDepth 100000 in
theorem wd_609 : (Jvm.Cond.code ({ cls := "UnlikeCoins", name := "all", desc := "(II)I" } : Jvm.MethodName) prog_1_method_12_code (4 : Nat) (Option.some Jvm.ClassFile.FieldType.int)) ∈ gw_tbl := gw_mem (i := 609) rfl (by decide +kernel)
theorem wd_610 : (Jvm.Cond.methodLink "UnlikeCoins" (160 : Nat) ({ cls := "UnlikeCoins$Purse", name := "coins", desc := "()I" } : Jvm.MethodName)) ∈ gw_tbl := gw_mem (i := 610) (by decide +kernel) (by decide +kernel)
theorem wd_611 : (Jvm.Cond.instanceMethod ({ cls := "UnlikeCoins$Purse", name := "coins", desc := "()I" } : Jvm.MethodName)) ∈ gw_tbl := gw_mem (i := 611) (by decide +kernel) (by decide +kernel)
theorem wd_612 : (Jvm.Cond.selects "UnlikeCoins$Purse" ({ cls := "UnlikeCoins$Purse", name := "coins", desc := "()I" } : Jvm.MethodName) ({ cls := "UnlikeCoins$Purse", name := "coins", desc := "()I" } : Jvm.MethodName)) ∈ gw_tbl := gw_mem (i := 612) (by decide +kernel) (by decide +kernel)
set_option maxRecDepth 100000 in
theorem wd_613 : (Jvm.Cond.code ({ cls := "UnlikeCoins$Purse", name := "coins", desc := "()I" } : Jvm.MethodName) prog_6_method_8_code (3 : Nat) (Option.some Jvm.ClassFile.FieldType.int)) ∈ gw_tbl := gw_mem (i := 613) rfl (by decide +kernel)
theorem wd_614 : (Jvm.Cond.methodLink "UnlikeCoins" (163 : Nat) ({ cls := "UnlikeCoins$Purse", name := "sortBits", desc := "()I" } : Jvm.MethodName)) ∈ gw_tbl := gw_mem (i := 614) (by decide +kernel) (by decide +kernel)
theorem wd_615 : (Jvm.Cond.instanceMethod ({ cls := "UnlikeCoins$Purse", name := "sortBits", desc := "()I" } : Jvm.MethodName)) ∈ gw_tbl := gw_mem (i := 615) (by decide +kernel) (by decide +kernel)
theorem wd_616 : (Jvm.Cond.selects "UnlikeCoins$Purse" ({ cls := "UnlikeCoins$Purse", name := "sortBits", desc := "()I" } : Jvm.MethodName) ({ cls := "UnlikeCoins$Purse", name := "sortBits", desc := "()I" } : Jvm.MethodName)) ∈ gw_tbl := gw_mem (i := 616) (by decide +kernel) (by decide +kernel)
set_option maxRecDepth 100000 in
theorem wd_617 : (Jvm.Cond.code ({ cls := "UnlikeCoins$Purse", name := "sortBits", desc := "()I" } : Jvm.MethodName) prog_6_method_9_code (3 : Nat) (Option.some Jvm.ClassFile.FieldType.int)) ∈ gw_tbl := gw_mem (i := 617) rfl (by decide +kernel)
theorem wd_618 : (Jvm.Cond.methodLink "UnlikeCoins" (166 : Nat) ({ cls := "UnlikeCoins$Purse", name := "worth", desc := "([LUnlikeCoins$Sort;)I" } : Jvm.MethodName)) ∈ gw_tbl := gw_mem (i := 618) (by decide +kernel) (by decide +kernel)
theorem wd_619 : (Jvm.Cond.instanceMethod ({ cls := "UnlikeCoins$Purse", name := "worth", desc := "([LUnlikeCoins$Sort;)I" } : Jvm.MethodName)) ∈ gw_tbl := gw_mem (i := 619) (by decide +kernel) (by decide +kernel)
theorem wd_620 : (Jvm.Cond.selects "UnlikeCoins$Purse" ({ cls := "UnlikeCoins$Purse", name := "worth", desc := "([LUnlikeCoins$Sort;)I" } : Jvm.MethodName) ({ cls := "UnlikeCoins$Purse", name := "worth", desc := "([LUnlikeCoins$Sort;)I" } : Jvm.MethodName)) ∈ gw_tbl := gw_mem (i := 620) (by decide +kernel) (by decide +kernel)
set_option maxRecDepth 100000 in
theorem wd_621 : (Jvm.Cond.code ({ cls := "UnlikeCoins$Purse", name := "worth", desc := "([LUnlikeCoins$Sort;)I" } : Jvm.MethodName) prog_6_method_10_code (5 : Nat) (Option.some Jvm.ClassFile.FieldType.int)) ∈ gw_tbl := gw_mem (i := 621) rfl (by decide +kernel)
theorem wd_622 : (Jvm.Cond.methodLink "UnlikeCoins$Purse" (43 : Nat) ({ cls := "UnlikeCoins$Sort", name := "worthOf", desc := "(I)I" } : Jvm.MethodName)) ∈ gw_tbl := gw_mem (i := 622) (by decide +kernel) (by decide +kernel)
theorem wd_623 : (Jvm.Cond.instanceMethod ({ cls := "UnlikeCoins$Sort", name := "worthOf", desc := "(I)I" } : Jvm.MethodName)) ∈ gw_tbl := gw_mem (i := 623) (by decide +kernel) (by decide +kernel)
theorem wd_624 : (Jvm.Cond.selects "UnlikeCoins$Sort" ({ cls := "UnlikeCoins$Sort", name := "worthOf", desc := "(I)I" } : Jvm.MethodName) ({ cls := "UnlikeCoins$Sort", name := "worthOf", desc := "(I)I" } : Jvm.MethodName)) ∈ gw_tbl := gw_mem (i := 624) (by decide +kernel) (by decide +kernel)
theorem wd_625 : (Jvm.Cond.sameMethod "UnlikeCoins$Sort" "UnlikeCoins$Sort" "worthOf" "(I)I") ∈ gw_tbl := gw_mem (i := 625) (by decide +kernel) (by decide +kernel)
theorem wd_626 : (Jvm.Cond.selects "UnlikeCoins$Common" ({ cls := "UnlikeCoins$Sort", name := "worthOf", desc := "(I)I" } : Jvm.MethodName) ({ cls := "UnlikeCoins$Sort", name := "worthOf", desc := "(I)I" } : Jvm.MethodName)) ∈ gw_tbl := gw_mem (i := 626) (by decide +kernel) (by decide +kernel)
theorem wd_627 : (Jvm.Cond.selects "UnlikeCoins$Gilt" ({ cls := "UnlikeCoins$Sort", name := "worthOf", desc := "(I)I" } : Jvm.MethodName) ({ cls := "UnlikeCoins$Gilt", name := "worthOf", desc := "(I)I" } : Jvm.MethodName)) ∈ gw_tbl := gw_mem (i := 627) (by decide +kernel) (by decide +kernel)
theorem wd_628 : (Jvm.Cond.instanceMethod ({ cls := "UnlikeCoins$Gilt", name := "worthOf", desc := "(I)I" } : Jvm.MethodName)) ∈ gw_tbl := gw_mem (i := 628) (by decide +kernel) (by decide +kernel)
set_option maxRecDepth 100000 in
theorem wd_629 : (Jvm.Cond.code ({ cls := "UnlikeCoins$Gilt", name := "worthOf", desc := "(I)I" } : Jvm.MethodName) prog_3_method_4_code (2 : Nat) (Option.some Jvm.ClassFile.FieldType.int)) ∈ gw_tbl := gw_mem (i := 629) rfl (by decide +kernel)
theorem wd_630 : (Jvm.Cond.methodLink "UnlikeCoins$Gilt" (17 : Nat) ({ cls := "UnlikeCoins$Scarce", name := "worthOf", desc := "(I)I" } : Jvm.MethodName)) ∈ gw_tbl := gw_mem (i := 630) (by decide +kernel) (by decide +kernel)
theorem wd_631 : (Jvm.Cond.instanceMethod ({ cls := "UnlikeCoins$Scarce", name := "worthOf", desc := "(I)I" } : Jvm.MethodName)) ∈ gw_tbl := gw_mem (i := 631) (by decide +kernel) (by decide +kernel)
set_option maxRecDepth 100000 in
theorem wd_632 : (Jvm.Cond.code ({ cls := "UnlikeCoins$Scarce", name := "worthOf", desc := "(I)I" } : Jvm.MethodName) prog_8_method_3_code (2 : Nat) (Option.some Jvm.ClassFile.FieldType.int)) ∈ gw_tbl := gw_mem (i := 632) rfl (by decide +kernel)
theorem wd_633 : (Jvm.Cond.methodLink "UnlikeCoins$Scarce" (7 : Nat) ({ cls := "UnlikeCoins$Sort", name := "worthOf", desc := "(I)I" } : Jvm.MethodName)) ∈ gw_tbl := gw_mem (i := 633) (by decide +kernel) (by decide +kernel)
theorem wd_634 : (Jvm.Cond.selects "UnlikeCoins$Melting" ({ cls := "UnlikeCoins$Sort", name := "worthOf", desc := "(I)I" } : Jvm.MethodName) ({ cls := "UnlikeCoins$Sort", name := "worthOf", desc := "(I)I" } : Jvm.MethodName)) ∈ gw_tbl := gw_mem (i := 634) (by decide +kernel) (by decide +kernel)
theorem wd_635 : (Jvm.Cond.selects "UnlikeCoins$Scarce" ({ cls := "UnlikeCoins$Sort", name := "worthOf", desc := "(I)I" } : Jvm.MethodName) ({ cls := "UnlikeCoins$Scarce", name := "worthOf", desc := "(I)I" } : Jvm.MethodName)) ∈ gw_tbl := gw_mem (i := 635) (by decide +kernel) (by decide +kernel)
theorem wd_636 : (Jvm.Cond.selects "UnlikeCoins$Stamped" ({ cls := "UnlikeCoins$Sort", name := "worthOf", desc := "(I)I" } : Jvm.MethodName) ({ cls := "UnlikeCoins$Sort", name := "worthOf", desc := "(I)I" } : Jvm.MethodName)) ∈ gw_tbl := gw_mem (i := 636) (by decide +kernel) (by decide +kernel)
set_option maxRecDepth 100000 in
theorem wd_637 : (Jvm.Cond.code ({ cls := "UnlikeCoins$Sort", name := "worthOf", desc := "(I)I" } : Jvm.MethodName) prog_10_method_5_code (2 : Nat) (Option.some Jvm.ClassFile.FieldType.int)) ∈ gw_tbl := gw_mem (i := 637) rfl (by decide +kernel)
theorem wd_638 : (Jvm.Cond.methodLink "UnlikeCoinsLaw" (63 : Nat) ({ cls := "UnlikeCoins", name := "often", desc := "(III)I" } : Jvm.MethodName)) ∈ gw_tbl := gw_mem (i := 638) (by decide +kernel) (by decide +kernel)
theorem wd_639 : (Jvm.Cond.instanceMethod ({ cls := "UnlikeCoins", name := "often", desc := "(III)I" } : Jvm.MethodName)) ∈ gw_tbl := gw_mem (i := 639) (by decide +kernel) (by decide +kernel)
theorem wd_640 : (Jvm.Cond.selects "UnlikeCoins" ({ cls := "UnlikeCoins", name := "often", desc := "(III)I" } : Jvm.MethodName) ({ cls := "UnlikeCoins", name := "often", desc := "(III)I" } : Jvm.MethodName)) ∈ gw_tbl := gw_mem (i := 640) (by decide +kernel) (by decide +kernel)
set_option maxRecDepth 100000 in
theorem wd_641 : (Jvm.Cond.code ({ cls := "UnlikeCoins", name := "often", desc := "(III)I" } : Jvm.MethodName) prog_1_method_13_code (6 : Nat) (Option.some Jvm.ClassFile.FieldType.int)) ∈ gw_tbl := gw_mem (i := 641) rfl (by decide +kernel)
theorem wd_642 : (Jvm.Cond.methodLink "UnlikeCoins" (170 : Nat) ({ cls := "UnlikeCoins", name := "isPrice", desc := "(I)Z" } : Jvm.MethodName)) ∈ gw_tbl := gw_mem (i := 642) (by decide +kernel) (by decide +kernel)
theorem wd_643 : (Jvm.Cond.static ({ cls := "UnlikeCoins", name := "isPrice", desc := "(I)Z" } : Jvm.MethodName)) ∈ gw_tbl := gw_mem (i := 643) (by decide +kernel) (by decide +kernel)
set_option maxRecDepth 100000 in
theorem wd_644 : (Jvm.Cond.code ({ cls := "UnlikeCoins", name := "isPrice", desc := "(I)Z" } : Jvm.MethodName) prog_1_method_43_code (1 : Nat) (Option.some Jvm.ClassFile.FieldType.boolean)) ∈ gw_tbl := gw_mem (i := 644) rfl (by decide +kernel)
theorem wd_645 : (Jvm.Cond.methodLink "UnlikeCoins" (173 : Nat) ({ cls := "UnlikeCoins", name := "timesAt", desc := "(LUnlikeCoins$Purse;I)I" } : Jvm.MethodName)) ∈ gw_tbl := gw_mem (i := 645) (by decide +kernel) (by decide +kernel)
theorem wd_647 : (Jvm.Cond.instanceMethod ({ cls := "UnlikeCoins", name := "timesAt", desc := "(LUnlikeCoins$Purse;I)I" } : Jvm.MethodName)) ∈ gw_tbl := gw_mem (i := 647) (by decide +kernel) (by decide +kernel)
set_option maxRecDepth 100000 in
theorem wd_648 : (Jvm.Cond.code ({ cls := "UnlikeCoins", name := "timesAt", desc := "(LUnlikeCoins$Purse;I)I" } : Jvm.MethodName) prog_1_method_53_code (4 : Nat) (Option.some Jvm.ClassFile.FieldType.int)) ∈ gw_tbl := gw_mem (i := 648) rfl (by decide +kernel)
theorem wd_649 : (Jvm.Cond.methodLink "UnlikeCoins" (184 : Nat) ({ cls := "UnlikeCoins$Purse", name := "become", desc := "(LUnlikeCoins$Purse;)V" } : Jvm.MethodName)) ∈ gw_tbl := gw_mem (i := 649) (by decide +kernel) (by decide +kernel)
theorem wd_650 : (Jvm.Cond.instanceMethod ({ cls := "UnlikeCoins$Purse", name := "become", desc := "(LUnlikeCoins$Purse;)V" } : Jvm.MethodName)) ∈ gw_tbl := gw_mem (i := 650) (by decide +kernel) (by decide +kernel)
theorem wd_651 : (Jvm.Cond.selects "UnlikeCoins$Purse" ({ cls := "UnlikeCoins$Purse", name := "become", desc := "(LUnlikeCoins$Purse;)V" } : Jvm.MethodName) ({ cls := "UnlikeCoins$Purse", name := "become", desc := "(LUnlikeCoins$Purse;)V" } : Jvm.MethodName)) ∈ gw_tbl := gw_mem (i := 651) (by decide +kernel) (by decide +kernel)
set_option maxRecDepth 100000 in
theorem wd_652 : (Jvm.Cond.code ({ cls := "UnlikeCoins$Purse", name := "become", desc := "(LUnlikeCoins$Purse;)V" } : Jvm.MethodName) prog_6_method_6_code (2 : Nat) (Option.none : Option Jvm.ClassFile.FieldType)) ∈ gw_tbl := gw_mem (i := 652) rfl (by decide +kernel)
theorem wd_653 : (Jvm.Cond.methodLink "UnlikeCoins$Purse" (31 : Nat) ({ cls := "java/lang/System", name := "arraycopy", desc := "(Ljava/lang/Object;ILjava/lang/Object;II)V" } : Jvm.MethodName)) ∈ gw_tbl := gw_mem (i := 653) (by decide +kernel) (by decide +kernel)
theorem wd_654 : (Jvm.Cond.methodLink "UnlikeCoins" (180 : Nat) ({ cls := "UnlikeCoins$Purse", name := "lay", desc := "([LUnlikeCoins$Sort;I)I" } : Jvm.MethodName)) ∈ gw_tbl := gw_mem (i := 654) (by decide +kernel) (by decide +kernel)
theorem wd_655 : (Jvm.Cond.instanceMethod ({ cls := "UnlikeCoins$Purse", name := "lay", desc := "([LUnlikeCoins$Sort;I)I" } : Jvm.MethodName)) ∈ gw_tbl := gw_mem (i := 655) (by decide +kernel) (by decide +kernel)
theorem wd_656 : (Jvm.Cond.selects "UnlikeCoins$Purse" ({ cls := "UnlikeCoins$Purse", name := "lay", desc := "([LUnlikeCoins$Sort;I)I" } : Jvm.MethodName) ({ cls := "UnlikeCoins$Purse", name := "lay", desc := "([LUnlikeCoins$Sort;I)I" } : Jvm.MethodName)) ∈ gw_tbl := gw_mem (i := 656) (by decide +kernel) (by decide +kernel)
set_option maxRecDepth 100000 in
theorem wd_657 : (Jvm.Cond.code ({ cls := "UnlikeCoins$Purse", name := "lay", desc := "([LUnlikeCoins$Sort;I)I" } : Jvm.MethodName) prog_6_method_11_code (6 : Nat) (Option.some Jvm.ClassFile.FieldType.int)) ∈ gw_tbl := gw_mem (i := 657) rfl (by decide +kernel)
theorem wd_658 : (Jvm.Cond.methodLink "UnlikeCoins$Purse" (49 : Nat) ({ cls := "UnlikeCoins$Sort", name := "together", desc := "(I)I" } : Jvm.MethodName)) ∈ gw_tbl := gw_mem (i := 658) (by decide +kernel) (by decide +kernel)
theorem wd_659 : (Jvm.Cond.instanceMethod ({ cls := "UnlikeCoins$Sort", name := "together", desc := "(I)I" } : Jvm.MethodName)) ∈ gw_tbl := gw_mem (i := 659) (by decide +kernel) (by decide +kernel)
theorem wd_660 : (Jvm.Cond.selects "UnlikeCoins$Sort" ({ cls := "UnlikeCoins$Sort", name := "together", desc := "(I)I" } : Jvm.MethodName) ({ cls := "UnlikeCoins$Sort", name := "together", desc := "(I)I" } : Jvm.MethodName)) ∈ gw_tbl := gw_mem (i := 660) (by decide +kernel) (by decide +kernel)
theorem wd_661 : (Jvm.Cond.sameMethod "UnlikeCoins$Sort" "UnlikeCoins$Sort" "together" "(I)I") ∈ gw_tbl := gw_mem (i := 661) (by decide +kernel) (by decide +kernel)
theorem wd_662 : (Jvm.Cond.selects "UnlikeCoins$Common" ({ cls := "UnlikeCoins$Sort", name := "together", desc := "(I)I" } : Jvm.MethodName) ({ cls := "UnlikeCoins$Common", name := "together", desc := "(I)I" } : Jvm.MethodName)) ∈ gw_tbl := gw_mem (i := 662) (by decide +kernel) (by decide +kernel)
theorem wd_663 : (Jvm.Cond.instanceMethod ({ cls := "UnlikeCoins$Common", name := "together", desc := "(I)I" } : Jvm.MethodName)) ∈ gw_tbl := gw_mem (i := 663) (by decide +kernel) (by decide +kernel)
set_option maxRecDepth 100000 in
theorem wd_664 : (Jvm.Cond.code ({ cls := "UnlikeCoins$Common", name := "together", desc := "(I)I" } : Jvm.MethodName) prog_2_method_3_code (2 : Nat) (Option.some Jvm.ClassFile.FieldType.int)) ∈ gw_tbl := gw_mem (i := 664) rfl (by decide +kernel)
theorem wd_665 : (Jvm.Cond.methodLink "UnlikeCoins$Common" (7 : Nat) ({ cls := "UnlikeCoins$Sort", name := "together", desc := "(I)I" } : Jvm.MethodName)) ∈ gw_tbl := gw_mem (i := 665) (by decide +kernel) (by decide +kernel)
theorem wd_666 : (Jvm.Cond.selects "UnlikeCoins$Gilt" ({ cls := "UnlikeCoins$Sort", name := "together", desc := "(I)I" } : Jvm.MethodName) ({ cls := "UnlikeCoins$Sort", name := "together", desc := "(I)I" } : Jvm.MethodName)) ∈ gw_tbl := gw_mem (i := 666) (by decide +kernel) (by decide +kernel)
theorem wd_667 : (Jvm.Cond.selects "UnlikeCoins$Melting" ({ cls := "UnlikeCoins$Sort", name := "together", desc := "(I)I" } : Jvm.MethodName) ({ cls := "UnlikeCoins$Melting", name := "together", desc := "(I)I" } : Jvm.MethodName)) ∈ gw_tbl := gw_mem (i := 667) (by decide +kernel) (by decide +kernel)
theorem wd_668 : (Jvm.Cond.instanceMethod ({ cls := "UnlikeCoins$Melting", name := "together", desc := "(I)I" } : Jvm.MethodName)) ∈ gw_tbl := gw_mem (i := 668) (by decide +kernel) (by decide +kernel)
set_option maxRecDepth 100000 in
theorem wd_669 : (Jvm.Cond.code ({ cls := "UnlikeCoins$Melting", name := "together", desc := "(I)I" } : Jvm.MethodName) prog_5_method_3_code (2 : Nat) (Option.some Jvm.ClassFile.FieldType.int)) ∈ gw_tbl := gw_mem (i := 669) rfl (by decide +kernel)
theorem wd_670 : (Jvm.Cond.methodLink "UnlikeCoins$Melting" (7 : Nat) ({ cls := "UnlikeCoins$Sort", name := "together", desc := "(I)I" } : Jvm.MethodName)) ∈ gw_tbl := gw_mem (i := 670) (by decide +kernel) (by decide +kernel)
theorem wd_671 : (Jvm.Cond.selects "UnlikeCoins$Scarce" ({ cls := "UnlikeCoins$Sort", name := "together", desc := "(I)I" } : Jvm.MethodName) ({ cls := "UnlikeCoins$Sort", name := "together", desc := "(I)I" } : Jvm.MethodName)) ∈ gw_tbl := gw_mem (i := 671) (by decide +kernel) (by decide +kernel)
theorem wd_672 : (Jvm.Cond.selects "UnlikeCoins$Stamped" ({ cls := "UnlikeCoins$Sort", name := "together", desc := "(I)I" } : Jvm.MethodName) ({ cls := "UnlikeCoins$Stamped", name := "together", desc := "(I)I" } : Jvm.MethodName)) ∈ gw_tbl := gw_mem (i := 672) (by decide +kernel) (by decide +kernel)
theorem wd_673 : (Jvm.Cond.instanceMethod ({ cls := "UnlikeCoins$Stamped", name := "together", desc := "(I)I" } : Jvm.MethodName)) ∈ gw_tbl := gw_mem (i := 673) (by decide +kernel) (by decide +kernel)
set_option maxRecDepth 100000 in
theorem wd_674 : (Jvm.Cond.code ({ cls := "UnlikeCoins$Stamped", name := "together", desc := "(I)I" } : Jvm.MethodName) prog_11_method_3_code (2 : Nat) (Option.some Jvm.ClassFile.FieldType.int)) ∈ gw_tbl := gw_mem (i := 674) rfl (by decide +kernel)
theorem wd_675 : (Jvm.Cond.methodLink "UnlikeCoins$Stamped" (13 : Nat) ({ cls := "UnlikeCoins$Common", name := "together", desc := "(I)I" } : Jvm.MethodName)) ∈ gw_tbl := gw_mem (i := 675) (by decide +kernel) (by decide +kernel)
set_option maxRecDepth 100000 in
theorem wd_676 : (Jvm.Cond.code ({ cls := "UnlikeCoins$Sort", name := "together", desc := "(I)I" } : Jvm.MethodName) prog_10_method_3_code (2 : Nat) (Option.some Jvm.ClassFile.FieldType.int)) ∈ gw_tbl := gw_mem (i := 676) rfl (by decide +kernel)
theorem wd_677 : (Jvm.Cond.methodLink "UnlikeCoins$Purse" (52 : Nat) ({ cls := "UnlikeCoins$Purse", name := "mostPlentiful", desc := "()I" } : Jvm.MethodName)) ∈ gw_tbl := gw_mem (i := 677) (by decide +kernel) (by decide +kernel)
theorem wd_679 : (Jvm.Cond.instanceMethod ({ cls := "UnlikeCoins$Purse", name := "mostPlentiful", desc := "()I" } : Jvm.MethodName)) ∈ gw_tbl := gw_mem (i := 679) (by decide +kernel) (by decide +kernel)
set_option maxRecDepth 100000 in
theorem wd_680 : (Jvm.Cond.code ({ cls := "UnlikeCoins$Purse", name := "mostPlentiful", desc := "()I" } : Jvm.MethodName) prog_6_method_12_code (4 : Nat) (Option.some Jvm.ClassFile.FieldType.int)) ∈ gw_tbl := gw_mem (i := 680) rfl (by decide +kernel)
theorem wd_681 : (Jvm.Cond.methodLink "UnlikeCoins" (177 : Nat) ({ cls := "UnlikeCoins", name := "worthAt", desc := "(II)I" } : Jvm.MethodName)) ∈ gw_tbl := gw_mem (i := 681) (by decide +kernel) (by decide +kernel)
theorem wd_683 : (Jvm.Cond.instanceMethod ({ cls := "UnlikeCoins", name := "worthAt", desc := "(II)I" } : Jvm.MethodName)) ∈ gw_tbl := gw_mem (i := 683) (by decide +kernel) (by decide +kernel)
set_option maxRecDepth 100000 in
theorem wd_684 : (Jvm.Cond.code ({ cls := "UnlikeCoins", name := "worthAt", desc := "(II)I" } : Jvm.MethodName) prog_1_method_51_code (3 : Nat) (Option.some Jvm.ClassFile.FieldType.int)) ∈ gw_tbl := gw_mem (i := 684) rfl (by decide +kernel)
theorem wd_685 : (Jvm.Cond.methodLink "UnlikeCoinsLaw" (67 : Nat) ({ cls := "UnlikeCoins", name := "buy", desc := "(II)I" } : Jvm.MethodName)) ∈ gw_tbl := gw_mem (i := 685) (by decide +kernel) (by decide +kernel)
theorem wd_686 : (Jvm.Cond.instanceMethod ({ cls := "UnlikeCoins", name := "buy", desc := "(II)I" } : Jvm.MethodName)) ∈ gw_tbl := gw_mem (i := 686) (by decide +kernel) (by decide +kernel)
theorem wd_687 : (Jvm.Cond.selects "UnlikeCoins" ({ cls := "UnlikeCoins", name := "buy", desc := "(II)I" } : Jvm.MethodName) ({ cls := "UnlikeCoins", name := "buy", desc := "(II)I" } : Jvm.MethodName)) ∈ gw_tbl := gw_mem (i := 687) (by decide +kernel) (by decide +kernel)
set_option maxRecDepth 100000 in
theorem wd_688 : (Jvm.Cond.code ({ cls := "UnlikeCoins", name := "buy", desc := "(II)I" } : Jvm.MethodName) prog_1_method_14_code (5 : Nat) (Option.some Jvm.ClassFile.FieldType.int)) ∈ gw_tbl := gw_mem (i := 688) rfl (by decide +kernel)
theorem wd_689 : (Jvm.Cond.methodLink "UnlikeCoinsLaw" (71 : Nat) ({ cls := "UnlikeCoins", name := "two", desc := "(IIII)I" } : Jvm.MethodName)) ∈ gw_tbl := gw_mem (i := 689) (by decide +kernel) (by decide +kernel)
theorem wd_690 : (Jvm.Cond.instanceMethod ({ cls := "UnlikeCoins", name := "two", desc := "(IIII)I" } : Jvm.MethodName)) ∈ gw_tbl := gw_mem (i := 690) (by decide +kernel) (by decide +kernel)
theorem wd_691 : (Jvm.Cond.selects "UnlikeCoins" ({ cls := "UnlikeCoins", name := "two", desc := "(IIII)I" } : Jvm.MethodName) ({ cls := "UnlikeCoins", name := "two", desc := "(IIII)I" } : Jvm.MethodName)) ∈ gw_tbl := gw_mem (i := 691) (by decide +kernel) (by decide +kernel)
set_option maxRecDepth 100000 in
theorem wd_692 : (Jvm.Cond.code ({ cls := "UnlikeCoins", name := "two", desc := "(IIII)I" } : Jvm.MethodName) prog_1_method_15_code (13 : Nat) (Option.some Jvm.ClassFile.FieldType.int)) ∈ gw_tbl := gw_mem (i := 692) rfl (by decide +kernel)
theorem wd_693 : (Jvm.Cond.methodLink "UnlikeCoinsLaw" (75 : Nat) ({ cls := "UnlikeCoins", name := "price", desc := "(I)I" } : Jvm.MethodName)) ∈ gw_tbl := gw_mem (i := 693) (by decide +kernel) (by decide +kernel)
theorem wd_694 : (Jvm.Cond.instanceMethod ({ cls := "UnlikeCoins", name := "price", desc := "(I)I" } : Jvm.MethodName)) ∈ gw_tbl := gw_mem (i := 694) (by decide +kernel) (by decide +kernel)
theorem wd_695 : (Jvm.Cond.selects "UnlikeCoins" ({ cls := "UnlikeCoins", name := "price", desc := "(I)I" } : Jvm.MethodName) ({ cls := "UnlikeCoins", name := "price", desc := "(I)I" } : Jvm.MethodName)) ∈ gw_tbl := gw_mem (i := 695) (by decide +kernel) (by decide +kernel)
set_option maxRecDepth 100000 in
theorem wd_696 : (Jvm.Cond.code ({ cls := "UnlikeCoins", name := "price", desc := "(I)I" } : Jvm.MethodName) prog_1_method_16_code (7 : Nat) (Option.some Jvm.ClassFile.FieldType.int)) ∈ gw_tbl := gw_mem (i := 696) rfl (by decide +kernel)
theorem wd_697 : (Jvm.Cond.methodLink "UnlikeCoins" (188 : Nat) ({ cls := "UnlikeCoins", name := "timesOfAll", desc := "(II)I" } : Jvm.MethodName)) ∈ gw_tbl := gw_mem (i := 697) (by decide +kernel) (by decide +kernel)
theorem wd_699 : (Jvm.Cond.instanceMethod ({ cls := "UnlikeCoins", name := "timesOfAll", desc := "(II)I" } : Jvm.MethodName)) ∈ gw_tbl := gw_mem (i := 699) (by decide +kernel) (by decide +kernel)
set_option maxRecDepth 100000 in
theorem wd_700 : (Jvm.Cond.code ({ cls := "UnlikeCoins", name := "timesOfAll", desc := "(II)I" } : Jvm.MethodName) prog_1_method_55_code (5 : Nat) (Option.some Jvm.ClassFile.FieldType.int)) ∈ gw_tbl := gw_mem (i := 700) rfl (by decide +kernel)
theorem wd_701 : (Jvm.Cond.methodLink "UnlikeCoins" (198 : Nat) ({ cls := "UnlikeCoins$Purse", name := "grow", desc := "(II)I" } : Jvm.MethodName)) ∈ gw_tbl := gw_mem (i := 701) (by decide +kernel) (by decide +kernel)
theorem wd_702 : (Jvm.Cond.instanceMethod ({ cls := "UnlikeCoins$Purse", name := "grow", desc := "(II)I" } : Jvm.MethodName)) ∈ gw_tbl := gw_mem (i := 702) (by decide +kernel) (by decide +kernel)
theorem wd_703 : (Jvm.Cond.selects "UnlikeCoins$Purse" ({ cls := "UnlikeCoins$Purse", name := "grow", desc := "(II)I" } : Jvm.MethodName) ({ cls := "UnlikeCoins$Purse", name := "grow", desc := "(II)I" } : Jvm.MethodName)) ∈ gw_tbl := gw_mem (i := 703) (by decide +kernel) (by decide +kernel)
set_option maxRecDepth 100000 in
theorem wd_704 : (Jvm.Cond.code ({ cls := "UnlikeCoins$Purse", name := "grow", desc := "(II)I" } : Jvm.MethodName) prog_6_method_4_code (4 : Nat) (Option.some Jvm.ClassFile.FieldType.int)) ∈ gw_tbl := gw_mem (i := 704) rfl (by decide +kernel)
theorem wd_705 : (Jvm.Cond.methodLink "UnlikeCoins$Purse" (25 : Nat) ({ cls := "java/lang/Math", name := "min", desc := "(II)I" } : Jvm.MethodName)) ∈ gw_tbl := gw_mem (i := 705) (by decide +kernel) (by decide +kernel)
theorem wd_706 : (Jvm.Cond.methodLink "UnlikeCoinsLaw" (79 : Nat) ({ cls := "UnlikeCoins", name := "idle", desc := "(II)I" } : Jvm.MethodName)) ∈ gw_tbl := gw_mem (i := 706) (by decide +kernel) (by decide +kernel)
theorem wd_707 : (Jvm.Cond.instanceMethod ({ cls := "UnlikeCoins", name := "idle", desc := "(II)I" } : Jvm.MethodName)) ∈ gw_tbl := gw_mem (i := 707) (by decide +kernel) (by decide +kernel)
theorem wd_708 : (Jvm.Cond.selects "UnlikeCoins" ({ cls := "UnlikeCoins", name := "idle", desc := "(II)I" } : Jvm.MethodName) ({ cls := "UnlikeCoins", name := "idle", desc := "(II)I" } : Jvm.MethodName)) ∈ gw_tbl := gw_mem (i := 708) (by decide +kernel) (by decide +kernel)
set_option maxRecDepth 100000 in
theorem wd_709 : (Jvm.Cond.code ({ cls := "UnlikeCoins", name := "idle", desc := "(II)I" } : Jvm.MethodName) prog_1_method_17_code (4 : Nat) (Option.some Jvm.ClassFile.FieldType.int)) ∈ gw_tbl := gw_mem (i := 709) rfl (by decide +kernel)
theorem wd_710 : (Jvm.Cond.methodLink "UnlikeCoinsLaw" (83 : Nat) ({ cls := "UnlikeCoins", name := "dearest", desc := "(II)I" } : Jvm.MethodName)) ∈ gw_tbl := gw_mem (i := 710) (by decide +kernel) (by decide +kernel)
theorem wd_711 : (Jvm.Cond.instanceMethod ({ cls := "UnlikeCoins", name := "dearest", desc := "(II)I" } : Jvm.MethodName)) ∈ gw_tbl := gw_mem (i := 711) (by decide +kernel) (by decide +kernel)
theorem wd_712 : (Jvm.Cond.selects "UnlikeCoins" ({ cls := "UnlikeCoins", name := "dearest", desc := "(II)I" } : Jvm.MethodName) ({ cls := "UnlikeCoins", name := "dearest", desc := "(II)I" } : Jvm.MethodName)) ∈ gw_tbl := gw_mem (i := 712) (by decide +kernel) (by decide +kernel)
set_option maxRecDepth 100000 in
theorem wd_713 : (Jvm.Cond.code ({ cls := "UnlikeCoins", name := "dearest", desc := "(II)I" } : Jvm.MethodName) prog_1_method_18_code (5 : Nat) (Option.some Jvm.ClassFile.FieldType.int)) ∈ gw_tbl := gw_mem (i := 713) rfl (by decide +kernel)
theorem wd_714 : (Jvm.Cond.methodLink "UnlikeCoinsLaw" (87 : Nat) ({ cls := "UnlikeCoins", name := "swap", desc := "(III)I" } : Jvm.MethodName)) ∈ gw_tbl := gw_mem (i := 714) (by decide +kernel) (by decide +kernel)
theorem wd_715 : (Jvm.Cond.instanceMethod ({ cls := "UnlikeCoins", name := "swap", desc := "(III)I" } : Jvm.MethodName)) ∈ gw_tbl := gw_mem (i := 715) (by decide +kernel) (by decide +kernel)
theorem wd_716 : (Jvm.Cond.selects "UnlikeCoins" ({ cls := "UnlikeCoins", name := "swap", desc := "(III)I" } : Jvm.MethodName) ({ cls := "UnlikeCoins", name := "swap", desc := "(III)I" } : Jvm.MethodName)) ∈ gw_tbl := gw_mem (i := 716) (by decide +kernel) (by decide +kernel)
set_option maxRecDepth 100000 in
theorem wd_717 : (Jvm.Cond.code ({ cls := "UnlikeCoins", name := "swap", desc := "(III)I" } : Jvm.MethodName) prog_1_method_19_code (8 : Nat) (Option.some Jvm.ClassFile.FieldType.int)) ∈ gw_tbl := gw_mem (i := 717) rfl (by decide +kernel)
theorem wd_718 : (Jvm.Cond.methodLink "UnlikeCoins" (191 : Nat) ({ cls := "UnlikeCoins", name := "canSwap", desc := "(LUnlikeCoins$Purse;LUnlikeCoins$Purse;II)Z" } : Jvm.MethodName)) ∈ gw_tbl := gw_mem (i := 718) (by decide +kernel) (by decide +kernel)
theorem wd_719 : (Jvm.Cond.static ({ cls := "UnlikeCoins", name := "canSwap", desc := "(LUnlikeCoins$Purse;LUnlikeCoins$Purse;II)Z" } : Jvm.MethodName)) ∈ gw_tbl := gw_mem (i := 719) (by decide +kernel) (by decide +kernel)
set_option maxRecDepth 100000 in
theorem wd_720 : (Jvm.Cond.code ({ cls := "UnlikeCoins", name := "canSwap", desc := "(LUnlikeCoins$Purse;LUnlikeCoins$Purse;II)Z" } : Jvm.MethodName) prog_1_method_56_code (4 : Nat) (Option.some Jvm.ClassFile.FieldType.boolean)) ∈ gw_tbl := gw_mem (i := 720) rfl (by decide +kernel)
theorem wd_721 : (Jvm.Cond.methodLink "UnlikeCoins" (195 : Nat) ({ cls := "UnlikeCoins$Purse", name := "lose", desc := "(I)V" } : Jvm.MethodName)) ∈ gw_tbl := gw_mem (i := 721) (by decide +kernel) (by decide +kernel)
theorem wd_722 : (Jvm.Cond.instanceMethod ({ cls := "UnlikeCoins$Purse", name := "lose", desc := "(I)V" } : Jvm.MethodName)) ∈ gw_tbl := gw_mem (i := 722) (by decide +kernel) (by decide +kernel)
theorem wd_723 : (Jvm.Cond.selects "UnlikeCoins$Purse" ({ cls := "UnlikeCoins$Purse", name := "lose", desc := "(I)V" } : Jvm.MethodName) ({ cls := "UnlikeCoins$Purse", name := "lose", desc := "(I)V" } : Jvm.MethodName)) ∈ gw_tbl := gw_mem (i := 723) (by decide +kernel) (by decide +kernel)
set_option maxRecDepth 100000 in
theorem wd_724 : (Jvm.Cond.code ({ cls := "UnlikeCoins$Purse", name := "lose", desc := "(I)V" } : Jvm.MethodName) prog_6_method_5_code (2 : Nat) (Option.none : Option Jvm.ClassFile.FieldType)) ∈ gw_tbl := gw_mem (i := 724) rfl (by decide +kernel)
theorem wd_725 : (Jvm.Cond.methodLink "UnlikeCoins" (201 : Nat) ({ cls := "UnlikeCoins", name := "feeFor", desc := "(II)I" } : Jvm.MethodName)) ∈ gw_tbl := gw_mem (i := 725) (by decide +kernel) (by decide +kernel)
theorem wd_727 : (Jvm.Cond.instanceMethod ({ cls := "UnlikeCoins", name := "feeFor", desc := "(II)I" } : Jvm.MethodName)) ∈ gw_tbl := gw_mem (i := 727) (by decide +kernel) (by decide +kernel)
set_option maxRecDepth 100000 in
theorem wd_728 : (Jvm.Cond.code ({ cls := "UnlikeCoins", name := "feeFor", desc := "(II)I" } : Jvm.MethodName) prog_1_method_52_code (5 : Nat) (Option.some Jvm.ClassFile.FieldType.int)) ∈ gw_tbl := gw_mem (i := 728) rfl (by decide +kernel)
theorem wd_729 : (Jvm.Cond.methodLink "UnlikeCoinsLaw" (91 : Nat) ({ cls := "UnlikeCoins", name := "best", desc := "(IIII)I" } : Jvm.MethodName)) ∈ gw_tbl := gw_mem (i := 729) (by decide +kernel) (by decide +kernel)
theorem wd_730 : (Jvm.Cond.instanceMethod ({ cls := "UnlikeCoins", name := "best", desc := "(IIII)I" } : Jvm.MethodName)) ∈ gw_tbl := gw_mem (i := 730) (by decide +kernel) (by decide +kernel)
theorem wd_731 : (Jvm.Cond.selects "UnlikeCoins" ({ cls := "UnlikeCoins", name := "best", desc := "(IIII)I" } : Jvm.MethodName) ({ cls := "UnlikeCoins", name := "best", desc := "(IIII)I" } : Jvm.MethodName)) ∈ gw_tbl := gw_mem (i := 731) (by decide +kernel) (by decide +kernel)
set_option maxRecDepth 100000 in
theorem wd_732 : (Jvm.Cond.code ({ cls := "UnlikeCoins", name := "best", desc := "(IIII)I" } : Jvm.MethodName) prog_1_method_20_code (14 : Nat) (Option.some Jvm.ClassFile.FieldType.int)) ∈ gw_tbl := gw_mem (i := 732) rfl (by decide +kernel)
theorem wd_733 : (Jvm.Cond.methodLink "UnlikeCoins" (204 : Nat) ({ cls := "UnlikeCoins", name := "timesWith", desc := "(LUnlikeCoins$Purse;III)I" } : Jvm.MethodName)) ∈ gw_tbl := gw_mem (i := 733) (by decide +kernel) (by decide +kernel)
theorem wd_735 : (Jvm.Cond.instanceMethod ({ cls := "UnlikeCoins", name := "timesWith", desc := "(LUnlikeCoins$Purse;III)I" } : Jvm.MethodName)) ∈ gw_tbl := gw_mem (i := 735) (by decide +kernel) (by decide +kernel)
set_option maxRecDepth 100000 in
theorem wd_736 : (Jvm.Cond.code ({ cls := "UnlikeCoins", name := "timesWith", desc := "(LUnlikeCoins$Purse;III)I" } : Jvm.MethodName) prog_1_method_54_code (5 : Nat) (Option.some Jvm.ClassFile.FieldType.int)) ∈ gw_tbl := gw_mem (i := 736) rfl (by decide +kernel)
theorem wd_737 : (Jvm.Cond.methodLink "UnlikeCoinsLaw" (95 : Nat) ({ cls := "UnlikeCoins", name := "lacks", desc := "(II)I" } : Jvm.MethodName)) ∈ gw_tbl := gw_mem (i := 737) (by decide +kernel) (by decide +kernel)
theorem wd_738 : (Jvm.Cond.instanceMethod ({ cls := "UnlikeCoins", name := "lacks", desc := "(II)I" } : Jvm.MethodName)) ∈ gw_tbl := gw_mem (i := 738) (by decide +kernel) (by decide +kernel)
theorem wd_739 : (Jvm.Cond.selects "UnlikeCoins" ({ cls := "UnlikeCoins", name := "lacks", desc := "(II)I" } : Jvm.MethodName) ({ cls := "UnlikeCoins", name := "lacks", desc := "(II)I" } : Jvm.MethodName)) ∈ gw_tbl := gw_mem (i := 739) (by decide +kernel) (by decide +kernel)
set_option maxRecDepth 100000 in
theorem wd_740 : (Jvm.Cond.code ({ cls := "UnlikeCoins", name := "lacks", desc := "(II)I" } : Jvm.MethodName) prog_1_method_21_code (7 : Nat) (Option.some Jvm.ClassFile.FieldType.int)) ∈ gw_tbl := gw_mem (i := 740) rfl (by decide +kernel)
theorem wd_741 : (Jvm.Cond.methodLink "UnlikeCoinsLaw" (99 : Nat) ({ cls := "UnlikeCoins", name := "thief", desc := "(III)I" } : Jvm.MethodName)) ∈ gw_tbl := gw_mem (i := 741) (by decide +kernel) (by decide +kernel)
theorem wd_742 : (Jvm.Cond.instanceMethod ({ cls := "UnlikeCoins", name := "thief", desc := "(III)I" } : Jvm.MethodName)) ∈ gw_tbl := gw_mem (i := 742) (by decide +kernel) (by decide +kernel)
theorem wd_743 : (Jvm.Cond.selects "UnlikeCoins" ({ cls := "UnlikeCoins", name := "thief", desc := "(III)I" } : Jvm.MethodName) ({ cls := "UnlikeCoins", name := "thief", desc := "(III)I" } : Jvm.MethodName)) ∈ gw_tbl := gw_mem (i := 743) (by decide +kernel) (by decide +kernel)
set_option maxRecDepth 100000 in
theorem wd_744 : (Jvm.Cond.code ({ cls := "UnlikeCoins", name := "thief", desc := "(III)I" } : Jvm.MethodName) prog_1_method_22_code (9 : Nat) (Option.some Jvm.ClassFile.FieldType.int)) ∈ gw_tbl := gw_mem (i := 744) rfl (by decide +kernel)
theorem wd_745 : (Jvm.Cond.methodLink "UnlikeCoinsLaw" (103 : Nat) ({ cls := "UnlikeCoins", name := "rob", desc := "(I)I" } : Jvm.MethodName)) ∈ gw_tbl := gw_mem (i := 745) (by decide +kernel) (by decide +kernel)
theorem wd_746 : (Jvm.Cond.instanceMethod ({ cls := "UnlikeCoins", name := "rob", desc := "(I)I" } : Jvm.MethodName)) ∈ gw_tbl := gw_mem (i := 746) (by decide +kernel) (by decide +kernel)
theorem wd_747 : (Jvm.Cond.selects "UnlikeCoins" ({ cls := "UnlikeCoins", name := "rob", desc := "(I)I" } : Jvm.MethodName) ({ cls := "UnlikeCoins", name := "rob", desc := "(I)I" } : Jvm.MethodName)) ∈ gw_tbl := gw_mem (i := 747) (by decide +kernel) (by decide +kernel)
set_option maxRecDepth 100000 in
theorem wd_748 : (Jvm.Cond.code ({ cls := "UnlikeCoins", name := "rob", desc := "(I)I" } : Jvm.MethodName) prog_1_method_23_code (5 : Nat) (Option.some Jvm.ClassFile.FieldType.int)) ∈ gw_tbl := gw_mem (i := 748) rfl (by decide +kernel)
theorem wd_749 : (Jvm.Cond.methodLink "UnlikeCoinsLaw" (107 : Nat) ({ cls := "UnlikeCoins", name := "wage", desc := "(IIII)I" } : Jvm.MethodName)) ∈ gw_tbl := gw_mem (i := 749) (by decide +kernel) (by decide +kernel)
theorem wd_750 : (Jvm.Cond.instanceMethod ({ cls := "UnlikeCoins", name := "wage", desc := "(IIII)I" } : Jvm.MethodName)) ∈ gw_tbl := gw_mem (i := 750) (by decide +kernel) (by decide +kernel)
theorem wd_751 : (Jvm.Cond.selects "UnlikeCoins" ({ cls := "UnlikeCoins", name := "wage", desc := "(IIII)I" } : Jvm.MethodName) ({ cls := "UnlikeCoins", name := "wage", desc := "(IIII)I" } : Jvm.MethodName)) ∈ gw_tbl := gw_mem (i := 751) (by decide +kernel) (by decide +kernel)
set_option maxRecDepth 100000 in
theorem wd_752 : (Jvm.Cond.code ({ cls := "UnlikeCoins", name := "wage", desc := "(IIII)I" } : Jvm.MethodName) prog_1_method_24_code (12 : Nat) (Option.some Jvm.ClassFile.FieldType.int)) ∈ gw_tbl := gw_mem (i := 752) rfl (by decide +kernel)
theorem wd_753 : (Jvm.Cond.methodLink "UnlikeCoins" (208 : Nat) ({ cls := "UnlikeCoins", name := "tryWage", desc := "(LUnlikeCoins$Purse;II)I" } : Jvm.MethodName)) ∈ gw_tbl := gw_mem (i := 753) (by decide +kernel) (by decide +kernel)
theorem wd_755 : (Jvm.Cond.instanceMethod ({ cls := "UnlikeCoins", name := "tryWage", desc := "(LUnlikeCoins$Purse;II)I" } : Jvm.MethodName)) ∈ gw_tbl := gw_mem (i := 755) (by decide +kernel) (by decide +kernel)
set_option maxRecDepth 100000 in
theorem wd_756 : (Jvm.Cond.code ({ cls := "UnlikeCoins", name := "tryWage", desc := "(LUnlikeCoins$Purse;II)I" } : Jvm.MethodName) prog_1_method_57_code (10 : Nat) (Option.some Jvm.ClassFile.FieldType.int)) ∈ gw_tbl := gw_mem (i := 756) rfl (by decide +kernel)
theorem wd_757 : (Jvm.Cond.methodLink "UnlikeCoins" (306 : Nat) ({ cls := "java/lang/Math", name := "max", desc := "(II)I" } : Jvm.MethodName)) ∈ gw_tbl := gw_mem (i := 757) (by decide +kernel) (by decide +kernel)
theorem wd_758 : (Jvm.Cond.methodLink "UnlikeCoinsLaw" (111 : Nat) ({ cls := "UnlikeCoins", name := "strike", desc := "(II)I" } : Jvm.MethodName)) ∈ gw_tbl := gw_mem (i := 758) (by decide +kernel) (by decide +kernel)
theorem wd_759 : (Jvm.Cond.instanceMethod ({ cls := "UnlikeCoins", name := "strike", desc := "(II)I" } : Jvm.MethodName)) ∈ gw_tbl := gw_mem (i := 759) (by decide +kernel) (by decide +kernel)
theorem wd_760 : (Jvm.Cond.selects "UnlikeCoins" ({ cls := "UnlikeCoins", name := "strike", desc := "(II)I" } : Jvm.MethodName) ({ cls := "UnlikeCoins", name := "strike", desc := "(II)I" } : Jvm.MethodName)) ∈ gw_tbl := gw_mem (i := 760) (by decide +kernel) (by decide +kernel)
set_option maxRecDepth 100000 in
theorem wd_761 : (Jvm.Cond.code ({ cls := "UnlikeCoins", name := "strike", desc := "(II)I" } : Jvm.MethodName) prog_1_method_25_code (5 : Nat) (Option.some Jvm.ClassFile.FieldType.int)) ∈ gw_tbl := gw_mem (i := 761) rfl (by decide +kernel)
theorem wd_762 : (Jvm.Cond.methodLink "UnlikeCoinsLaw" (115 : Nat) ({ cls := "UnlikeCoins", name := "pass", desc := "()I" } : Jvm.MethodName)) ∈ gw_tbl := gw_mem (i := 762) (by decide +kernel) (by decide +kernel)
theorem wd_763 : (Jvm.Cond.instanceMethod ({ cls := "UnlikeCoins", name := "pass", desc := "()I" } : Jvm.MethodName)) ∈ gw_tbl := gw_mem (i := 763) (by decide +kernel) (by decide +kernel)
theorem wd_764 : (Jvm.Cond.selects "UnlikeCoins" ({ cls := "UnlikeCoins", name := "pass", desc := "()I" } : Jvm.MethodName) ({ cls := "UnlikeCoins", name := "pass", desc := "()I" } : Jvm.MethodName)) ∈ gw_tbl := gw_mem (i := 764) (by decide +kernel) (by decide +kernel)
set_option maxRecDepth 100000 in
theorem wd_765 : (Jvm.Cond.code ({ cls := "UnlikeCoins", name := "pass", desc := "()I" } : Jvm.MethodName) prog_1_method_26_code (3 : Nat) (Option.some Jvm.ClassFile.FieldType.int)) ∈ gw_tbl := gw_mem (i := 765) rfl (by decide +kernel)
theorem wd_766 : (Jvm.Cond.methodLink "UnlikeCoins" (212 : Nat) ({ cls := "java/lang/Math", name := "min", desc := "(II)I" } : Jvm.MethodName)) ∈ gw_tbl := gw_mem (i := 766) (by decide +kernel) (by decide +kernel)
theorem wd_767 : (Jvm.Cond.methodLink "UnlikeCoins" (217 : Nat) ({ cls := "UnlikeCoins", name := "passFor", desc := "(LUnlikeCoins$Purse;)V" } : Jvm.MethodName)) ∈ gw_tbl := gw_mem (i := 767) (by decide +kernel) (by decide +kernel)
theorem wd_769 : (Jvm.Cond.instanceMethod ({ cls := "UnlikeCoins", name := "passFor", desc := "(LUnlikeCoins$Purse;)V" } : Jvm.MethodName)) ∈ gw_tbl := gw_mem (i := 769) (by decide +kernel) (by decide +kernel)
set_option maxRecDepth 100000 in
theorem wd_770 : (Jvm.Cond.code ({ cls := "UnlikeCoins", name := "passFor", desc := "(LUnlikeCoins$Purse;)V" } : Jvm.MethodName) prog_1_method_59_code (5 : Nat) (Option.none : Option Jvm.ClassFile.FieldType)) ∈ gw_tbl := gw_mem (i := 770) rfl (by decide +kernel)
theorem wd_771 : (Jvm.Cond.methodLink "UnlikeCoins" (309 : Nat) ({ cls := "UnlikeCoins$Sort", name := "leftOf", desc := "(I)I" } : Jvm.MethodName)) ∈ gw_tbl := gw_mem (i := 771) (by decide +kernel) (by decide +kernel)
theorem wd_772 : (Jvm.Cond.instanceMethod ({ cls := "UnlikeCoins$Sort", name := "leftOf", desc := "(I)I" } : Jvm.MethodName)) ∈ gw_tbl := gw_mem (i := 772) (by decide +kernel) (by decide +kernel)
theorem wd_773 : (Jvm.Cond.selects "UnlikeCoins$Sort" ({ cls := "UnlikeCoins$Sort", name := "leftOf", desc := "(I)I" } : Jvm.MethodName) ({ cls := "UnlikeCoins$Sort", name := "leftOf", desc := "(I)I" } : Jvm.MethodName)) ∈ gw_tbl := gw_mem (i := 773) (by decide +kernel) (by decide +kernel)
theorem wd_774 : (Jvm.Cond.sameMethod "UnlikeCoins$Sort" "UnlikeCoins$Sort" "leftOf" "(I)I") ∈ gw_tbl := gw_mem (i := 774) (by decide +kernel) (by decide +kernel)
theorem wd_775 : (Jvm.Cond.selects "UnlikeCoins$Common" ({ cls := "UnlikeCoins$Sort", name := "leftOf", desc := "(I)I" } : Jvm.MethodName) ({ cls := "UnlikeCoins$Sort", name := "leftOf", desc := "(I)I" } : Jvm.MethodName)) ∈ gw_tbl := gw_mem (i := 775) (by decide +kernel) (by decide +kernel)
theorem wd_776 : (Jvm.Cond.selects "UnlikeCoins$Gilt" ({ cls := "UnlikeCoins$Sort", name := "leftOf", desc := "(I)I" } : Jvm.MethodName) ({ cls := "UnlikeCoins$Gilt", name := "leftOf", desc := "(I)I" } : Jvm.MethodName)) ∈ gw_tbl := gw_mem (i := 776) (by decide +kernel) (by decide +kernel)
theorem wd_777 : (Jvm.Cond.instanceMethod ({ cls := "UnlikeCoins$Gilt", name := "leftOf", desc := "(I)I" } : Jvm.MethodName)) ∈ gw_tbl := gw_mem (i := 777) (by decide +kernel) (by decide +kernel)
set_option maxRecDepth 100000 in
theorem wd_778 : (Jvm.Cond.code ({ cls := "UnlikeCoins$Gilt", name := "leftOf", desc := "(I)I" } : Jvm.MethodName) prog_3_method_3_code (2 : Nat) (Option.some Jvm.ClassFile.FieldType.int)) ∈ gw_tbl := gw_mem (i := 778) rfl (by decide +kernel)
theorem wd_779 : (Jvm.Cond.methodLink "UnlikeCoins$Gilt" (7 : Nat) ({ cls := "UnlikeCoins$Scarce", name := "leftOf", desc := "(I)I" } : Jvm.MethodName)) ∈ gw_tbl := gw_mem (i := 779) (by decide +kernel) (by decide +kernel)
theorem wd_780 : (Jvm.Cond.sameMethod "UnlikeCoins$Scarce" "UnlikeCoins$Sort" "leftOf" "(I)I") ∈ gw_tbl := gw_mem (i := 780) (by decide +kernel) (by decide +kernel)
theorem wd_782 : (Jvm.Cond.methodLink "UnlikeCoins$Gilt" (11 : Nat) ({ cls := "java/lang/Math", name := "max", desc := "(II)I" } : Jvm.MethodName)) ∈ gw_tbl := gw_mem (i := 782) (by decide +kernel) (by decide +kernel)
theorem wd_783 : (Jvm.Cond.selects "UnlikeCoins$Melting" ({ cls := "UnlikeCoins$Sort", name := "leftOf", desc := "(I)I" } : Jvm.MethodName) ({ cls := "UnlikeCoins$Melting", name := "leftOf", desc := "(I)I" } : Jvm.MethodName)) ∈ gw_tbl := gw_mem (i := 783) (by decide +kernel) (by decide +kernel)
theorem wd_784 : (Jvm.Cond.instanceMethod ({ cls := "UnlikeCoins$Melting", name := "leftOf", desc := "(I)I" } : Jvm.MethodName)) ∈ gw_tbl := gw_mem (i := 784) (by decide +kernel) (by decide +kernel)
set_option maxRecDepth 100000 in
theorem wd_785 : (Jvm.Cond.code ({ cls := "UnlikeCoins$Melting", name := "leftOf", desc := "(I)I" } : Jvm.MethodName) prog_5_method_4_code (2 : Nat) (Option.some Jvm.ClassFile.FieldType.int)) ∈ gw_tbl := gw_mem (i := 785) rfl (by decide +kernel)
theorem wd_786 : (Jvm.Cond.methodLink "UnlikeCoins$Melting" (11 : Nat) ({ cls := "UnlikeCoins$Sort", name := "leftOf", desc := "(I)I" } : Jvm.MethodName)) ∈ gw_tbl := gw_mem (i := 786) (by decide +kernel) (by decide +kernel)
theorem wd_787 : (Jvm.Cond.selects "UnlikeCoins$Scarce" ({ cls := "UnlikeCoins$Sort", name := "leftOf", desc := "(I)I" } : Jvm.MethodName) ({ cls := "UnlikeCoins$Sort", name := "leftOf", desc := "(I)I" } : Jvm.MethodName)) ∈ gw_tbl := gw_mem (i := 787) (by decide +kernel) (by decide +kernel)
theorem wd_788 : (Jvm.Cond.selects "UnlikeCoins$Stamped" ({ cls := "UnlikeCoins$Sort", name := "leftOf", desc := "(I)I" } : Jvm.MethodName) ({ cls := "UnlikeCoins$Sort", name := "leftOf", desc := "(I)I" } : Jvm.MethodName)) ∈ gw_tbl := gw_mem (i := 788) (by decide +kernel) (by decide +kernel)
set_option maxRecDepth 100000 in
theorem wd_789 : (Jvm.Cond.code ({ cls := "UnlikeCoins$Sort", name := "leftOf", desc := "(I)I" } : Jvm.MethodName) prog_10_method_4_code (2 : Nat) (Option.some Jvm.ClassFile.FieldType.int)) ∈ gw_tbl := gw_mem (i := 789) rfl (by decide +kernel)
theorem wd_790 : (Jvm.Cond.methodLink "UnlikeCoinsLaw" (119 : Nat) ({ cls := "UnlikeCoins", name := "judge", desc := "(II)I" } : Jvm.MethodName)) ∈ gw_tbl := gw_mem (i := 790) (by decide +kernel) (by decide +kernel)
theorem wd_791 : (Jvm.Cond.instanceMethod ({ cls := "UnlikeCoins", name := "judge", desc := "(II)I" } : Jvm.MethodName)) ∈ gw_tbl := gw_mem (i := 791) (by decide +kernel) (by decide +kernel)
theorem wd_792 : (Jvm.Cond.selects "UnlikeCoins" ({ cls := "UnlikeCoins", name := "judge", desc := "(II)I" } : Jvm.MethodName) ({ cls := "UnlikeCoins", name := "judge", desc := "(II)I" } : Jvm.MethodName)) ∈ gw_tbl := gw_mem (i := 792) (by decide +kernel) (by decide +kernel)
set_option maxRecDepth 100000 in
theorem wd_793 : (Jvm.Cond.code ({ cls := "UnlikeCoins", name := "judge", desc := "(II)I" } : Jvm.MethodName) prog_1_method_27_code (5 : Nat) (Option.some Jvm.ClassFile.FieldType.int)) ∈ gw_tbl := gw_mem (i := 793) rfl (by decide +kernel)
theorem wd_794 : (Jvm.Cond.methodLink "UnlikeCoins" (220 : Nat) ({ cls := "UnlikeCoins", name := "sheetAt", desc := "(I)LUnlikeCoins$Sheet;" } : Jvm.MethodName)) ∈ gw_tbl := gw_mem (i := 794) (by decide +kernel) (by decide +kernel)
theorem wd_796 : (Jvm.Cond.instanceMethod ({ cls := "UnlikeCoins", name := "sheetAt", desc := "(I)LUnlikeCoins$Sheet;" } : Jvm.MethodName)) ∈ gw_tbl := gw_mem (i := 796) (by decide +kernel) (by decide +kernel)
set_option maxRecDepth 100000 in
theorem wd_797 : (Jvm.Cond.code ({ cls := "UnlikeCoins", name := "sheetAt", desc := "(I)LUnlikeCoins$Sheet;" } : Jvm.MethodName) prog_1_method_46_code (2 : Nat) (Option.some (Jvm.ClassFile.FieldType.object "UnlikeCoins$Sheet"))) ∈ gw_tbl := gw_mem (i := 797) rfl (by decide +kernel)
theorem wd_798 : (Jvm.Cond.methodLink "UnlikeCoins" (224 : Nat) ({ cls := "UnlikeCoins$Sheet", name := "cannotTell", desc := "()Z" } : Jvm.MethodName)) ∈ gw_tbl := gw_mem (i := 798) (by decide +kernel) (by decide +kernel)
theorem wd_799 : (Jvm.Cond.instanceMethod ({ cls := "UnlikeCoins$Sheet", name := "cannotTell", desc := "()Z" } : Jvm.MethodName)) ∈ gw_tbl := gw_mem (i := 799) (by decide +kernel) (by decide +kernel)
theorem wd_800 : (Jvm.Cond.selects "UnlikeCoins$Sheet" ({ cls := "UnlikeCoins$Sheet", name := "cannotTell", desc := "()Z" } : Jvm.MethodName) ({ cls := "UnlikeCoins$Sheet", name := "cannotTell", desc := "()Z" } : Jvm.MethodName)) ∈ gw_tbl := gw_mem (i := 800) (by decide +kernel) (by decide +kernel)
set_option maxRecDepth 100000 in
theorem wd_801 : (Jvm.Cond.code ({ cls := "UnlikeCoins$Sheet", name := "cannotTell", desc := "()Z" } : Jvm.MethodName) prog_9_method_3_code (1 : Nat) (Option.some Jvm.ClassFile.FieldType.boolean)) ∈ gw_tbl := gw_mem (i := 801) rfl (by decide +kernel)
theorem wd_802 : (Jvm.Cond.methodLink "UnlikeCoins$Sheet" (19 : Nat) ({ cls := "UnlikeCoins$Sheet", name := "isMissing", desc := "()Z" } : Jvm.MethodName)) ∈ gw_tbl := gw_mem (i := 802) (by decide +kernel) (by decide +kernel)
theorem wd_803 : (Jvm.Cond.instanceMethod ({ cls := "UnlikeCoins$Sheet", name := "isMissing", desc := "()Z" } : Jvm.MethodName)) ∈ gw_tbl := gw_mem (i := 803) (by decide +kernel) (by decide +kernel)
theorem wd_804 : (Jvm.Cond.selects "UnlikeCoins$Sheet" ({ cls := "UnlikeCoins$Sheet", name := "isMissing", desc := "()Z" } : Jvm.MethodName) ({ cls := "UnlikeCoins$Sheet", name := "isMissing", desc := "()Z" } : Jvm.MethodName)) ∈ gw_tbl := gw_mem (i := 804) (by decide +kernel) (by decide +kernel)
set_option maxRecDepth 100000 in
theorem wd_805 : (Jvm.Cond.code ({ cls := "UnlikeCoins$Sheet", name := "isMissing", desc := "()Z" } : Jvm.MethodName) prog_9_method_2_code (1 : Nat) (Option.some Jvm.ClassFile.FieldType.boolean)) ∈ gw_tbl := gw_mem (i := 805) rfl (by decide +kernel)
theorem wd_806 : (Jvm.Cond.methodLink "UnlikeCoins" (227 : Nat) ({ cls := "UnlikeCoins$Sheet", name := "isMissing", desc := "()Z" } : Jvm.MethodName)) ∈ gw_tbl := gw_mem (i := 806) (by decide +kernel) (by decide +kernel)
theorem wd_807 : (Jvm.Cond.methodLink "UnlikeCoins" (230 : Nat) ({ cls := "UnlikeCoins", name := "firstOther", desc := "(LUnlikeCoins$Sheet;LUnlikeCoins$Purse;)I" } : Jvm.MethodName)) ∈ gw_tbl := gw_mem (i := 807) (by decide +kernel) (by decide +kernel)
theorem wd_809 : (Jvm.Cond.instanceMethod ({ cls := "UnlikeCoins", name := "firstOther", desc := "(LUnlikeCoins$Sheet;LUnlikeCoins$Purse;)I" } : Jvm.MethodName)) ∈ gw_tbl := gw_mem (i := 809) (by decide +kernel) (by decide +kernel)
set_option maxRecDepth 100000 in
theorem wd_810 : (Jvm.Cond.code ({ cls := "UnlikeCoins", name := "firstOther", desc := "(LUnlikeCoins$Sheet;LUnlikeCoins$Purse;)I" } : Jvm.MethodName) prog_1_method_60_code (4 : Nat) (Option.some Jvm.ClassFile.FieldType.int)) ∈ gw_tbl := gw_mem (i := 810) rfl (by decide +kernel)
theorem wd_811 : (Jvm.Cond.methodLink "UnlikeCoins" (274 : Nat) ({ cls := "UnlikeCoins$Sheet", name := "get", desc := "(I)I" } : Jvm.MethodName)) ∈ gw_tbl := gw_mem (i := 811) (by decide +kernel) (by decide +kernel)
theorem wd_812 : (Jvm.Cond.instanceMethod ({ cls := "UnlikeCoins$Sheet", name := "get", desc := "(I)I" } : Jvm.MethodName)) ∈ gw_tbl := gw_mem (i := 812) (by decide +kernel) (by decide +kernel)
theorem wd_813 : (Jvm.Cond.selects "UnlikeCoins$Sheet" ({ cls := "UnlikeCoins$Sheet", name := "get", desc := "(I)I" } : Jvm.MethodName) ({ cls := "UnlikeCoins$Sheet", name := "get", desc := "(I)I" } : Jvm.MethodName)) ∈ gw_tbl := gw_mem (i := 813) (by decide +kernel) (by decide +kernel)
set_option maxRecDepth 100000 in
theorem wd_814 : (Jvm.Cond.code ({ cls := "UnlikeCoins$Sheet", name := "get", desc := "(I)I" } : Jvm.MethodName) prog_9_method_6_code (2 : Nat) (Option.some Jvm.ClassFile.FieldType.int)) ∈ gw_tbl := gw_mem (i := 814) rfl (by decide +kernel)
theorem wd_815 : (Jvm.Cond.methodLink "UnlikeCoins$Sheet" (32 : Nat) ({ cls := "UnlikeCoins$Sheet", name := "holds", desc := "(II)Z" } : Jvm.MethodName)) ∈ gw_tbl := gw_mem (i := 815) (by decide +kernel) (by decide +kernel)
theorem wd_816 : (Jvm.Cond.instanceMethod ({ cls := "UnlikeCoins$Sheet", name := "holds", desc := "(II)Z" } : Jvm.MethodName)) ∈ gw_tbl := gw_mem (i := 816) (by decide +kernel) (by decide +kernel)
theorem wd_817 : (Jvm.Cond.selects "UnlikeCoins$Sheet" ({ cls := "UnlikeCoins$Sheet", name := "holds", desc := "(II)Z" } : Jvm.MethodName) ({ cls := "UnlikeCoins$Sheet", name := "holds", desc := "(II)Z" } : Jvm.MethodName)) ∈ gw_tbl := gw_mem (i := 817) (by decide +kernel) (by decide +kernel)
set_option maxRecDepth 100000 in
theorem wd_818 : (Jvm.Cond.code ({ cls := "UnlikeCoins$Sheet", name := "holds", desc := "(II)Z" } : Jvm.MethodName) prog_9_method_4_code (3 : Nat) (Option.some Jvm.ClassFile.FieldType.boolean)) ∈ gw_tbl := gw_mem (i := 818) rfl (by decide +kernel)
theorem wd_819 : (Jvm.Cond.methodLink "UnlikeCoinsLaw" (123 : Nat) ({ cls := "UnlikeCoins", name := "whose", desc := "(I)I" } : Jvm.MethodName)) ∈ gw_tbl := gw_mem (i := 819) (by decide +kernel) (by decide +kernel)
theorem wd_820 : (Jvm.Cond.instanceMethod ({ cls := "UnlikeCoins", name := "whose", desc := "(I)I" } : Jvm.MethodName)) ∈ gw_tbl := gw_mem (i := 820) (by decide +kernel) (by decide +kernel)
theorem wd_821 : (Jvm.Cond.selects "UnlikeCoins" ({ cls := "UnlikeCoins", name := "whose", desc := "(I)I" } : Jvm.MethodName) ({ cls := "UnlikeCoins", name := "whose", desc := "(I)I" } : Jvm.MethodName)) ∈ gw_tbl := gw_mem (i := 821) (by decide +kernel) (by decide +kernel)
set_option maxRecDepth 100000 in
theorem wd_822 : (Jvm.Cond.code ({ cls := "UnlikeCoins", name := "whose", desc := "(I)I" } : Jvm.MethodName) prog_1_method_28_code (5 : Nat) (Option.some Jvm.ClassFile.FieldType.int)) ∈ gw_tbl := gw_mem (i := 822) rfl (by decide +kernel)
theorem wd_823 : (Jvm.Cond.methodLink "UnlikeCoinsLaw" (127 : Nat) ({ cls := "UnlikeCoins", name := "was", desc := "(II)I" } : Jvm.MethodName)) ∈ gw_tbl := gw_mem (i := 823) (by decide +kernel) (by decide +kernel)
theorem wd_824 : (Jvm.Cond.instanceMethod ({ cls := "UnlikeCoins", name := "was", desc := "(II)I" } : Jvm.MethodName)) ∈ gw_tbl := gw_mem (i := 824) (by decide +kernel) (by decide +kernel)
theorem wd_825 : (Jvm.Cond.selects "UnlikeCoins" ({ cls := "UnlikeCoins", name := "was", desc := "(II)I" } : Jvm.MethodName) ({ cls := "UnlikeCoins", name := "was", desc := "(II)I" } : Jvm.MethodName)) ∈ gw_tbl := gw_mem (i := 825) (by decide +kernel) (by decide +kernel)
set_option maxRecDepth 100000 in
theorem wd_826 : (Jvm.Cond.code ({ cls := "UnlikeCoins", name := "was", desc := "(II)I" } : Jvm.MethodName) prog_1_method_29_code (9 : Nat) (Option.some Jvm.ClassFile.FieldType.int)) ∈ gw_tbl := gw_mem (i := 826) rfl (by decide +kernel)
theorem wd_827 : (Jvm.Cond.methodLink "UnlikeCoins" (234 : Nat) ({ cls := "UnlikeCoins", name := "tryPurse", desc := "(I)I" } : Jvm.MethodName)) ∈ gw_tbl := gw_mem (i := 827) (by decide +kernel) (by decide +kernel)
theorem wd_829 : (Jvm.Cond.instanceMethod ({ cls := "UnlikeCoins", name := "tryPurse", desc := "(I)I" } : Jvm.MethodName)) ∈ gw_tbl := gw_mem (i := 829) (by decide +kernel) (by decide +kernel)
set_option maxRecDepth 100000 in
theorem wd_830 : (Jvm.Cond.code ({ cls := "UnlikeCoins", name := "tryPurse", desc := "(I)I" } : Jvm.MethodName) prog_1_method_58_code (5 : Nat) (Option.some Jvm.ClassFile.FieldType.int)) ∈ gw_tbl := gw_mem (i := 830) rfl (by decide +kernel)
theorem wd_831 : (Jvm.Cond.methodLink "UnlikeCoinsLaw" (131 : Nat) ({ cls := "UnlikeCoins", name := "film", desc := "(III)I" } : Jvm.MethodName)) ∈ gw_tbl := gw_mem (i := 831) (by decide +kernel) (by decide +kernel)
theorem wd_832 : (Jvm.Cond.instanceMethod ({ cls := "UnlikeCoins", name := "film", desc := "(III)I" } : Jvm.MethodName)) ∈ gw_tbl := gw_mem (i := 832) (by decide +kernel) (by decide +kernel)
theorem wd_833 : (Jvm.Cond.selects "UnlikeCoins" ({ cls := "UnlikeCoins", name := "film", desc := "(III)I" } : Jvm.MethodName) ({ cls := "UnlikeCoins", name := "film", desc := "(III)I" } : Jvm.MethodName)) ∈ gw_tbl := gw_mem (i := 833) (by decide +kernel) (by decide +kernel)
set_option maxRecDepth 100000 in
theorem wd_834 : (Jvm.Cond.code ({ cls := "UnlikeCoins", name := "film", desc := "(III)I" } : Jvm.MethodName) prog_1_method_30_code (7 : Nat) (Option.some Jvm.ClassFile.FieldType.int)) ∈ gw_tbl := gw_mem (i := 834) rfl (by decide +kernel)
theorem wd_835 : (Jvm.Cond.methodLink "UnlikeCoins" (237 : Nat) ({ cls := "UnlikeCoins$Sheet", name := "become", desc := "(II)V" } : Jvm.MethodName)) ∈ gw_tbl := gw_mem (i := 835) (by decide +kernel) (by decide +kernel)
theorem wd_836 : (Jvm.Cond.instanceMethod ({ cls := "UnlikeCoins$Sheet", name := "become", desc := "(II)V" } : Jvm.MethodName)) ∈ gw_tbl := gw_mem (i := 836) (by decide +kernel) (by decide +kernel)
theorem wd_837 : (Jvm.Cond.selects "UnlikeCoins$Sheet" ({ cls := "UnlikeCoins$Sheet", name := "become", desc := "(II)V" } : Jvm.MethodName) ({ cls := "UnlikeCoins$Sheet", name := "become", desc := "(II)V" } : Jvm.MethodName)) ∈ gw_tbl := gw_mem (i := 837) (by decide +kernel) (by decide +kernel)
set_option maxRecDepth 100000 in
theorem wd_838 : (Jvm.Cond.code ({ cls := "UnlikeCoins$Sheet", name := "become", desc := "(II)V" } : Jvm.MethodName) prog_9_method_5_code (3 : Nat) (Option.none : Option Jvm.ClassFile.FieldType)) ∈ gw_tbl := gw_mem (i := 838) rfl (by decide +kernel)
theorem wd_839 : (Jvm.Cond.methodLink "UnlikeCoins$Sheet" (26 : Nat) ({ cls := "java/util/Arrays", name := "fill", desc := "([II)V" } : Jvm.MethodName)) ∈ gw_tbl := gw_mem (i := 839) (by decide +kernel) (by decide +kernel)
theorem wd_840 : (Jvm.Cond.methodLink "UnlikeCoins" (239 : Nat) ({ cls := "UnlikeCoins$Sheet", name := "put", desc := "(II)V" } : Jvm.MethodName)) ∈ gw_tbl := gw_mem (i := 840) (by decide +kernel) (by decide +kernel)
theorem wd_841 : (Jvm.Cond.instanceMethod ({ cls := "UnlikeCoins$Sheet", name := "put", desc := "(II)V" } : Jvm.MethodName)) ∈ gw_tbl := gw_mem (i := 841) (by decide +kernel) (by decide +kernel)
theorem wd_842 : (Jvm.Cond.selects "UnlikeCoins$Sheet" ({ cls := "UnlikeCoins$Sheet", name := "put", desc := "(II)V" } : Jvm.MethodName) ({ cls := "UnlikeCoins$Sheet", name := "put", desc := "(II)V" } : Jvm.MethodName)) ∈ gw_tbl := gw_mem (i := 842) (by decide +kernel) (by decide +kernel)
set_option maxRecDepth 100000 in
theorem wd_843 : (Jvm.Cond.code ({ cls := "UnlikeCoins$Sheet", name := "put", desc := "(II)V" } : Jvm.MethodName) prog_9_method_7_code (3 : Nat) (Option.none : Option Jvm.ClassFile.FieldType)) ∈ gw_tbl := gw_mem (i := 843) rfl (by decide +kernel)
theorem wd_844 : (Jvm.Cond.methodLink "UnlikeCoinsLaw" (135 : Nat) ({ cls := "UnlikeCoins", name := "laws", desc := "(III)I" } : Jvm.MethodName)) ∈ gw_tbl := gw_mem (i := 844) (by decide +kernel) (by decide +kernel)
theorem wd_845 : (Jvm.Cond.instanceMethod ({ cls := "UnlikeCoins", name := "laws", desc := "(III)I" } : Jvm.MethodName)) ∈ gw_tbl := gw_mem (i := 845) (by decide +kernel) (by decide +kernel)
theorem wd_846 : (Jvm.Cond.selects "UnlikeCoins" ({ cls := "UnlikeCoins", name := "laws", desc := "(III)I" } : Jvm.MethodName) ({ cls := "UnlikeCoins", name := "laws", desc := "(III)I" } : Jvm.MethodName)) ∈ gw_tbl := gw_mem (i := 846) (by decide +kernel) (by decide +kernel)
set_option maxRecDepth 100000 in
theorem wd_847 : (Jvm.Cond.code ({ cls := "UnlikeCoins", name := "laws", desc := "(III)I" } : Jvm.MethodName) prog_1_method_31_code (8 : Nat) (Option.some Jvm.ClassFile.FieldType.int)) ∈ gw_tbl := gw_mem (i := 847) rfl (by decide +kernel)
theorem wd_848 : (Jvm.Cond.constant "UnlikeCoins" (240 : Nat) (99999 : Int32)) ∈ gw_tbl := gw_mem (i := 848) (by decide +kernel) (by decide +kernel)
theorem wd_849 : (Jvm.Cond.methodLink "UnlikeCoinsLaw" (139 : Nat) ({ cls := "UnlikeCoins", name := "drawn", desc := "(II)I" } : Jvm.MethodName)) ∈ gw_tbl := gw_mem (i := 849) (by decide +kernel) (by decide +kernel)
theorem wd_850 : (Jvm.Cond.instanceMethod ({ cls := "UnlikeCoins", name := "drawn", desc := "(II)I" } : Jvm.MethodName)) ∈ gw_tbl := gw_mem (i := 850) (by decide +kernel) (by decide +kernel)
theorem wd_851 : (Jvm.Cond.selects "UnlikeCoins" ({ cls := "UnlikeCoins", name := "drawn", desc := "(II)I" } : Jvm.MethodName) ({ cls := "UnlikeCoins", name := "drawn", desc := "(II)I" } : Jvm.MethodName)) ∈ gw_tbl := gw_mem (i := 851) (by decide +kernel) (by decide +kernel)
set_option maxRecDepth 100000 in
theorem wd_852 : (Jvm.Cond.code ({ cls := "UnlikeCoins", name := "drawn", desc := "(II)I" } : Jvm.MethodName) prog_1_method_32_code (3 : Nat) (Option.some Jvm.ClassFile.FieldType.int)) ∈ gw_tbl := gw_mem (i := 852) rfl (by decide +kernel)
theorem wd_853 : (Jvm.Cond.methodLink "UnlikeCoins" (241 : Nat) ({ cls := "UnlikeCoins", name := "drawnBy", desc := "(II)I" } : Jvm.MethodName)) ∈ gw_tbl := gw_mem (i := 853) (by decide +kernel) (by decide +kernel)
theorem wd_855 : (Jvm.Cond.instanceMethod ({ cls := "UnlikeCoins", name := "drawnBy", desc := "(II)I" } : Jvm.MethodName)) ∈ gw_tbl := gw_mem (i := 855) (by decide +kernel) (by decide +kernel)
set_option maxRecDepth 100000 in
theorem wd_856 : (Jvm.Cond.code ({ cls := "UnlikeCoins", name := "drawnBy", desc := "(II)I" } : Jvm.MethodName) prog_1_method_62_code (9 : Nat) (Option.some Jvm.ClassFile.FieldType.int)) ∈ gw_tbl := gw_mem (i := 856) rfl (by decide +kernel)
theorem wd_857 : (Jvm.Cond.methodLink "UnlikeCoins" (318 : Nat) ({ cls := "UnlikeCoins", name := "lotBehind", desc := "(J)J" } : Jvm.MethodName)) ∈ gw_tbl := gw_mem (i := 857) (by decide +kernel) (by decide +kernel)
theorem wd_858 : (Jvm.Cond.static ({ cls := "UnlikeCoins", name := "lotBehind", desc := "(J)J" } : Jvm.MethodName)) ∈ gw_tbl := gw_mem (i := 858) (by decide +kernel) (by decide +kernel)
set_option maxRecDepth 100000 in
theorem wd_859 : (Jvm.Cond.code ({ cls := "UnlikeCoins", name := "lotBehind", desc := "(J)J" } : Jvm.MethodName) prog_1_method_61_code (2 : Nat) (Option.some Jvm.ClassFile.FieldType.long)) ∈ gw_tbl := gw_mem (i := 859) rfl (by decide +kernel)
theorem wd_860 : (Jvm.Cond.constantLong "UnlikeCoins" (314 : Nat) (48271 : Int64)) ∈ gw_tbl := gw_mem (i := 860) (by decide +kernel) (by decide +kernel)
theorem wd_861 : (Jvm.Cond.constantLong "UnlikeCoins" (316 : Nat) (2147483647 : Int64)) ∈ gw_tbl := gw_mem (i := 861) (by decide +kernel) (by decide +kernel)
theorem wd_862 : (Jvm.Cond.constantLong "UnlikeCoins" (322 : Nat) (6 : Int64)) ∈ gw_tbl := gw_mem (i := 862) (by decide +kernel) (by decide +kernel)
theorem wd_863 : (Jvm.Cond.methodLink "UnlikeCoinsLaw" (143 : Nat) ({ cls := "UnlikeCoins", name := "mean", desc := "(IIII)J" } : Jvm.MethodName)) ∈ gw_tbl := gw_mem (i := 863) (by decide +kernel) (by decide +kernel)
theorem wd_864 : (Jvm.Cond.instanceMethod ({ cls := "UnlikeCoins", name := "mean", desc := "(IIII)J" } : Jvm.MethodName)) ∈ gw_tbl := gw_mem (i := 864) (by decide +kernel) (by decide +kernel)
theorem wd_865 : (Jvm.Cond.selects "UnlikeCoins" ({ cls := "UnlikeCoins", name := "mean", desc := "(IIII)J" } : Jvm.MethodName) ({ cls := "UnlikeCoins", name := "mean", desc := "(IIII)J" } : Jvm.MethodName)) ∈ gw_tbl := gw_mem (i := 865) (by decide +kernel) (by decide +kernel)
set_option maxRecDepth 100000 in
theorem wd_866 : (Jvm.Cond.code ({ cls := "UnlikeCoins", name := "mean", desc := "(IIII)J" } : Jvm.MethodName) prog_1_method_33_code (7 : Nat) (Option.some Jvm.ClassFile.FieldType.long)) ∈ gw_tbl := gw_mem (i := 866) rfl (by decide +kernel)
theorem wd_867 : (Jvm.Cond.constantLong "UnlikeCoins" (244 : Nat) (-4611686018427387904 : Int64)) ∈ gw_tbl := gw_mem (i := 867) (by decide +kernel) (by decide +kernel)
theorem wd_868 : (Jvm.Cond.methodLink "UnlikeCoins" (246 : Nat) ({ cls := "UnlikeCoins", name := "commonDivisor", desc := "(II)I" } : Jvm.MethodName)) ∈ gw_tbl := gw_mem (i := 868) (by decide +kernel) (by decide +kernel)
theorem wd_869 : (Jvm.Cond.static ({ cls := "UnlikeCoins", name := "commonDivisor", desc := "(II)I" } : Jvm.MethodName)) ∈ gw_tbl := gw_mem (i := 869) (by decide +kernel) (by decide +kernel)
set_option maxRecDepth 100000 in
theorem wd_870 : (Jvm.Cond.code ({ cls := "UnlikeCoins", name := "commonDivisor", desc := "(II)I" } : Jvm.MethodName) prog_1_method_63_code (3 : Nat) (Option.some Jvm.ClassFile.FieldType.int)) ∈ gw_tbl := gw_mem (i := 870) rfl (by decide +kernel)
theorem wd_871 : (Jvm.Cond.methodLink "UnlikeCoinsLaw" (148 : Nat) ({ cls := "UnlikeCoins", name := "image", desc := "()I" } : Jvm.MethodName)) ∈ gw_tbl := gw_mem (i := 871) (by decide +kernel) (by decide +kernel)
theorem wd_872 : (Jvm.Cond.instanceMethod ({ cls := "UnlikeCoins", name := "image", desc := "()I" } : Jvm.MethodName)) ∈ gw_tbl := gw_mem (i := 872) (by decide +kernel) (by decide +kernel)
theorem wd_873 : (Jvm.Cond.selects "UnlikeCoins" ({ cls := "UnlikeCoins", name := "image", desc := "()I" } : Jvm.MethodName) ({ cls := "UnlikeCoins", name := "image", desc := "()I" } : Jvm.MethodName)) ∈ gw_tbl := gw_mem (i := 873) (by decide +kernel) (by decide +kernel)
set_option maxRecDepth 100000 in
theorem wd_874 : (Jvm.Cond.code ({ cls := "UnlikeCoins", name := "image", desc := "()I" } : Jvm.MethodName) prog_1_method_34_code (2 : Nat) (Option.some Jvm.ClassFile.FieldType.int)) ∈ gw_tbl := gw_mem (i := 874) rfl (by decide +kernel)
theorem wd_875 : (Jvm.Cond.methodLink "UnlikeCoinsLaw" (152 : Nat) ({ cls := "UnlikeCoins", name := "back", desc := "()I" } : Jvm.MethodName)) ∈ gw_tbl := gw_mem (i := 875) (by decide +kernel) (by decide +kernel)
theorem wd_876 : (Jvm.Cond.instanceMethod ({ cls := "UnlikeCoins", name := "back", desc := "()I" } : Jvm.MethodName)) ∈ gw_tbl := gw_mem (i := 876) (by decide +kernel) (by decide +kernel)
theorem wd_877 : (Jvm.Cond.selects "UnlikeCoins" ({ cls := "UnlikeCoins", name := "back", desc := "()I" } : Jvm.MethodName) ({ cls := "UnlikeCoins", name := "back", desc := "()I" } : Jvm.MethodName)) ∈ gw_tbl := gw_mem (i := 877) (by decide +kernel) (by decide +kernel)
set_option maxRecDepth 100000 in
theorem wd_878 : (Jvm.Cond.code ({ cls := "UnlikeCoins", name := "back", desc := "()I" } : Jvm.MethodName) prog_1_method_35_code (2 : Nat) (Option.some Jvm.ClassFile.FieldType.int)) ∈ gw_tbl := gw_mem (i := 878) rfl (by decide +kernel)
theorem wd_879 : (Jvm.Cond.methodLink "UnlikeCoinsLaw" (156 : Nat) ({ cls := "UnlikeCoins", name := "sheet", desc := "(III)I" } : Jvm.MethodName)) ∈ gw_tbl := gw_mem (i := 879) (by decide +kernel) (by decide +kernel)
theorem wd_880 : (Jvm.Cond.instanceMethod ({ cls := "UnlikeCoins", name := "sheet", desc := "(III)I" } : Jvm.MethodName)) ∈ gw_tbl := gw_mem (i := 880) (by decide +kernel) (by decide +kernel)
theorem wd_881 : (Jvm.Cond.selects "UnlikeCoins" ({ cls := "UnlikeCoins", name := "sheet", desc := "(III)I" } : Jvm.MethodName) ({ cls := "UnlikeCoins", name := "sheet", desc := "(III)I" } : Jvm.MethodName)) ∈ gw_tbl := gw_mem (i := 881) (by decide +kernel) (by decide +kernel)
set_option maxRecDepth 100000 in
theorem wd_882 : (Jvm.Cond.code ({ cls := "UnlikeCoins", name := "sheet", desc := "(III)I" } : Jvm.MethodName) prog_1_method_36_code (5 : Nat) (Option.some Jvm.ClassFile.FieldType.int)) ∈ gw_tbl := gw_mem (i := 882) rfl (by decide +kernel)
theorem wd_883 : (Jvm.Cond.methodLink "UnlikeCoinsLaw" (160 : Nat) ({ cls := "UnlikeCoins", name := "cell", desc := "(III)I" } : Jvm.MethodName)) ∈ gw_tbl := gw_mem (i := 883) (by decide +kernel) (by decide +kernel)
theorem wd_884 : (Jvm.Cond.instanceMethod ({ cls := "UnlikeCoins", name := "cell", desc := "(III)I" } : Jvm.MethodName)) ∈ gw_tbl := gw_mem (i := 884) (by decide +kernel) (by decide +kernel)
theorem wd_885 : (Jvm.Cond.selects "UnlikeCoins" ({ cls := "UnlikeCoins", name := "cell", desc := "(III)I" } : Jvm.MethodName) ({ cls := "UnlikeCoins", name := "cell", desc := "(III)I" } : Jvm.MethodName)) ∈ gw_tbl := gw_mem (i := 885) (by decide +kernel) (by decide +kernel)
set_option maxRecDepth 100000 in
theorem wd_886 : (Jvm.Cond.code ({ cls := "UnlikeCoins", name := "cell", desc := "(III)I" } : Jvm.MethodName) prog_1_method_37_code (5 : Nat) (Option.some Jvm.ClassFile.FieldType.int)) ∈ gw_tbl := gw_mem (i := 886) rfl (by decide +kernel)
theorem wd_887 : (Jvm.Cond.methodLink "UnlikeCoins" (258 : Nat) ({ cls := "UnlikeCoins$Sheet", name := "holds", desc := "(II)Z" } : Jvm.MethodName)) ∈ gw_tbl := gw_mem (i := 887) (by decide +kernel) (by decide +kernel)
theorem wd_888 : (Jvm.Cond.methodLink "UnlikeCoinsLaw" (164 : Nat) ({ cls := "UnlikeCoins", name := "copy", desc := "(IIIII)I" } : Jvm.MethodName)) ∈ gw_tbl := gw_mem (i := 888) (by decide +kernel) (by decide +kernel)
theorem wd_889 : (Jvm.Cond.instanceMethod ({ cls := "UnlikeCoins", name := "copy", desc := "(IIIII)I" } : Jvm.MethodName)) ∈ gw_tbl := gw_mem (i := 889) (by decide +kernel) (by decide +kernel)
theorem wd_890 : (Jvm.Cond.selects "UnlikeCoins" ({ cls := "UnlikeCoins", name := "copy", desc := "(IIIII)I" } : Jvm.MethodName) ({ cls := "UnlikeCoins", name := "copy", desc := "(IIIII)I" } : Jvm.MethodName)) ∈ gw_tbl := gw_mem (i := 890) (by decide +kernel) (by decide +kernel)
set_option maxRecDepth 100000 in
theorem wd_891 : (Jvm.Cond.code ({ cls := "UnlikeCoins", name := "copy", desc := "(IIIII)I" } : Jvm.MethodName) prog_1_method_38_code (8 : Nat) (Option.some Jvm.ClassFile.FieldType.int)) ∈ gw_tbl := gw_mem (i := 891) rfl (by decide +kernel)
theorem wd_892 : (Jvm.Cond.methodLink "UnlikeCoins" (268 : Nat) ({ cls := "java/lang/System", name := "arraycopy", desc := "(Ljava/lang/Object;ILjava/lang/Object;II)V" } : Jvm.MethodName)) ∈ gw_tbl := gw_mem (i := 892) (by decide +kernel) (by decide +kernel)
theorem wd_893 : (Jvm.Cond.methodLink "UnlikeCoinsLaw" (169 : Nat) ({ cls := "UnlikeCoins", name := "coinsBy", desc := "(IIII)I" } : Jvm.MethodName)) ∈ gw_tbl := gw_mem (i := 893) (by decide +kernel) (by decide +kernel)
theorem wd_894 : (Jvm.Cond.instanceMethod ({ cls := "UnlikeCoins", name := "coinsBy", desc := "(IIII)I" } : Jvm.MethodName)) ∈ gw_tbl := gw_mem (i := 894) (by decide +kernel) (by decide +kernel)
theorem wd_895 : (Jvm.Cond.selects "UnlikeCoins" ({ cls := "UnlikeCoins", name := "coinsBy", desc := "(IIII)I" } : Jvm.MethodName) ({ cls := "UnlikeCoins", name := "coinsBy", desc := "(IIII)I" } : Jvm.MethodName)) ∈ gw_tbl := gw_mem (i := 895) (by decide +kernel) (by decide +kernel)
set_option maxRecDepth 100000 in
theorem wd_896 : (Jvm.Cond.code ({ cls := "UnlikeCoins", name := "coinsBy", desc := "(IIII)I" } : Jvm.MethodName) prog_1_method_39_code (9 : Nat) (Option.some Jvm.ClassFile.FieldType.int)) ∈ gw_tbl := gw_mem (i := 896) rfl (by decide +kernel)
theorem wd_897 : (Jvm.Cond.methodLink "UnlikeCoins" (277 : Nat) ({ cls := "UnlikeCoins", name := "set", desc := "(III)I" } : Jvm.MethodName)) ∈ gw_tbl := gw_mem (i := 897) (by decide +kernel) (by decide +kernel)
theorem wd_898 : (Jvm.Cond.methodLink "UnlikeCoinsLaw" (173 : Nat) ({ cls := "UnlikeCoins", name := "taken", desc := "(II)I" } : Jvm.MethodName)) ∈ gw_tbl := gw_mem (i := 898) (by decide +kernel) (by decide +kernel)
theorem wd_899 : (Jvm.Cond.instanceMethod ({ cls := "UnlikeCoins", name := "taken", desc := "(II)I" } : Jvm.MethodName)) ∈ gw_tbl := gw_mem (i := 899) (by decide +kernel) (by decide +kernel)
theorem wd_900 : (Jvm.Cond.selects "UnlikeCoins" ({ cls := "UnlikeCoins", name := "taken", desc := "(II)I" } : Jvm.MethodName) ({ cls := "UnlikeCoins", name := "taken", desc := "(II)I" } : Jvm.MethodName)) ∈ gw_tbl := gw_mem (i := 900) (by decide +kernel) (by decide +kernel)
set_option maxRecDepth 100000 in
theorem wd_901 : (Jvm.Cond.code ({ cls := "UnlikeCoins", name := "taken", desc := "(II)I" } : Jvm.MethodName) prog_1_method_40_code (4 : Nat) (Option.some Jvm.ClassFile.FieldType.int)) ∈ gw_tbl := gw_mem (i := 901) rfl (by decide +kernel)
theorem wd_902 : (Jvm.Cond.methodLink "UnlikeCoins" (281 : Nat) ({ cls := "UnlikeCoins", name := "isOfKind", desc := "(LUnlikeCoins$Sort;I)Z" } : Jvm.MethodName)) ∈ gw_tbl := gw_mem (i := 902) (by decide +kernel) (by decide +kernel)
theorem wd_903 : (Jvm.Cond.static ({ cls := "UnlikeCoins", name := "isOfKind", desc := "(LUnlikeCoins$Sort;I)Z" } : Jvm.MethodName)) ∈ gw_tbl := gw_mem (i := 903) (by decide +kernel) (by decide +kernel)
set_option maxRecDepth 100000 in
theorem wd_904 : (Jvm.Cond.code ({ cls := "UnlikeCoins", name := "isOfKind", desc := "(LUnlikeCoins$Sort;I)Z" } : Jvm.MethodName) prog_1_method_48_code (2 : Nat) (Option.some Jvm.ClassFile.FieldType.boolean)) ∈ gw_tbl := gw_mem (i := 904) rfl (by decide +kernel)
theorem wd_905 : (Jvm.Cond.classLink "UnlikeCoinsLaw" (10 : Nat) "UnlikeCoinsModel") ∈ gw_tbl := gw_mem (i := 905) (by decide +kernel) (by decide +kernel)
theorem wd_907 : (Jvm.Cond.methodLink "UnlikeCoinsLaw" (12 : Nat) ({ cls := "UnlikeCoinsModel", name := "<init>", desc := "()V" } : Jvm.MethodName)) ∈ gw_tbl := gw_mem (i := 907) (by decide +kernel) (by decide +kernel)
theorem wd_908 : (Jvm.Cond.instanceMethod ({ cls := "UnlikeCoinsModel", name := "<init>", desc := "()V" } : Jvm.MethodName)) ∈ gw_tbl := gw_mem (i := 908) (by decide +kernel) (by decide +kernel)
set_option maxRecDepth 100000 in
theorem wd_909 : (Jvm.Cond.code ({ cls := "UnlikeCoinsModel", name := "<init>", desc := "()V" } : Jvm.MethodName) prog_14_method_1_code (2 : Nat) (Option.none : Option Jvm.ClassFile.FieldType)) ∈ gw_tbl := gw_mem (i := 909) rfl (by decide +kernel)
theorem wd_910 : (Jvm.Cond.methodLink "UnlikeCoinsModel" (1 : Nat) ({ cls := "java/lang/Object", name := "<init>", desc := "()V" } : Jvm.MethodName)) ∈ gw_tbl := gw_mem (i := 910) (by decide +kernel) (by decide +kernel)
theorem wd_911 : (Jvm.Cond.methodLink "UnlikeCoinsModel" (80 : Nat) ({ cls := "UnlikeCoinsModel", name := "text", desc := "()I" } : Jvm.MethodName)) ∈ gw_tbl := gw_mem (i := 911) (by decide +kernel) (by decide +kernel)
theorem wd_912 : (Jvm.Cond.instanceMethod ({ cls := "UnlikeCoinsModel", name := "text", desc := "()I" } : Jvm.MethodName)) ∈ gw_tbl := gw_mem (i := 912) (by decide +kernel) (by decide +kernel)
theorem wd_913 : (Jvm.Cond.selects "UnlikeCoinsModel" ({ cls := "UnlikeCoinsModel", name := "text", desc := "()I" } : Jvm.MethodName) ({ cls := "UnlikeCoinsModel", name := "text", desc := "()I" } : Jvm.MethodName)) ∈ gw_tbl := gw_mem (i := 913) (by decide +kernel) (by decide +kernel)
set_option maxRecDepth 100000 in
theorem wd_914 : (Jvm.Cond.code ({ cls := "UnlikeCoinsModel", name := "text", desc := "()I" } : Jvm.MethodName) prog_14_method_21_code (3 : Nat) (Option.some Jvm.ClassFile.FieldType.int)) ∈ gw_tbl := gw_mem (i := 914) rfl (by decide +kernel)
theorem wd_915 : (Jvm.Cond.methodLink "UnlikeCoinsModel" (146 : Nat) ({ cls := "UnlikeCoinsModel", name := "next", desc := "()V" } : Jvm.MethodName)) ∈ gw_tbl := gw_mem (i := 915) (by decide +kernel) (by decide +kernel)
theorem wd_917 : (Jvm.Cond.instanceMethod ({ cls := "UnlikeCoinsModel", name := "next", desc := "()V" } : Jvm.MethodName)) ∈ gw_tbl := gw_mem (i := 917) (by decide +kernel) (by decide +kernel)
set_option maxRecDepth 100000 in
theorem wd_918 : (Jvm.Cond.code ({ cls := "UnlikeCoinsModel", name := "next", desc := "()V" } : Jvm.MethodName) prog_14_method_12_code (3 : Nat) (Option.none : Option Jvm.ClassFile.FieldType)) ∈ gw_tbl := gw_mem (i := 918) rfl (by decide +kernel)
theorem wd_919 : (Jvm.Cond.methodLink "UnlikeCoinsModel" (87 : Nat) ({ cls := "UnlikeCoinsModel", name := "in", desc := "(III)Z" } : Jvm.MethodName)) ∈ gw_tbl := gw_mem (i := 919) (by decide +kernel) (by decide +kernel)
theorem wd_920 : (Jvm.Cond.static ({ cls := "UnlikeCoinsModel", name := "in", desc := "(III)Z" } : Jvm.MethodName)) ∈ gw_tbl := gw_mem (i := 920) (by decide +kernel) (by decide +kernel)
set_option maxRecDepth 100000 in
theorem wd_921 : (Jvm.Cond.code ({ cls := "UnlikeCoinsModel", name := "in", desc := "(III)Z" } : Jvm.MethodName) prog_14_method_3_code (3 : Nat) (Option.some Jvm.ClassFile.FieldType.boolean)) ∈ gw_tbl := gw_mem (i := 921) rfl (by decide +kernel)
theorem wd_922 : (Jvm.Cond.methodLink "UnlikeCoinsModel" (119 : Nat) ({ cls := "UnlikeCoinsModel", name := "wordFrom", desc := "(II)I" } : Jvm.MethodName)) ∈ gw_tbl := gw_mem (i := 922) (by decide +kernel) (by decide +kernel)
theorem wd_924 : (Jvm.Cond.instanceMethod ({ cls := "UnlikeCoinsModel", name := "wordFrom", desc := "(II)I" } : Jvm.MethodName)) ∈ gw_tbl := gw_mem (i := 924) (by decide +kernel) (by decide +kernel)
set_option maxRecDepth 100000 in
theorem wd_925 : (Jvm.Cond.code ({ cls := "UnlikeCoinsModel", name := "wordFrom", desc := "(II)I" } : Jvm.MethodName) prog_14_method_11_code (6 : Nat) (Option.some Jvm.ClassFile.FieldType.int)) ∈ gw_tbl := gw_mem (i := 925) rfl (by decide +kernel)
theorem wd_926 : (Jvm.Cond.methodLink "UnlikeCoinsModel" (159 : Nat) ({ cls := "UnlikeCoinsModel", name := "eRead", desc := "()Z" } : Jvm.MethodName)) ∈ gw_tbl := gw_mem (i := 926) (by decide +kernel) (by decide +kernel)
theorem wd_928 : (Jvm.Cond.instanceMethod ({ cls := "UnlikeCoinsModel", name := "eRead", desc := "()Z" } : Jvm.MethodName)) ∈ gw_tbl := gw_mem (i := 928) (by decide +kernel) (by decide +kernel)
set_option maxRecDepth 100000 in
theorem wd_929 : (Jvm.Cond.code ({ cls := "UnlikeCoinsModel", name := "eRead", desc := "()Z" } : Jvm.MethodName) prog_14_method_20_code (4 : Nat) (Option.some Jvm.ClassFile.FieldType.boolean)) ∈ gw_tbl := gw_mem (i := 929) rfl (by decide +kernel)
theorem wd_930 : (Jvm.Cond.constant "UnlikeCoinsModel" (149 : Nat) (100000 : Int32)) ∈ gw_tbl := gw_mem (i := 930) (by decide +kernel) (by decide +kernel)
theorem wd_931 : (Jvm.Cond.methodLink "UnlikeCoinsModel" (136 : Nat) ({ cls := "UnlikeCoinsModel", name := "puts", desc := "(I)V" } : Jvm.MethodName)) ∈ gw_tbl := gw_mem (i := 931) (by decide +kernel) (by decide +kernel)
theorem wd_933 : (Jvm.Cond.instanceMethod ({ cls := "UnlikeCoinsModel", name := "puts", desc := "(I)V" } : Jvm.MethodName)) ∈ gw_tbl := gw_mem (i := 933) (by decide +kernel) (by decide +kernel)
set_option maxRecDepth 100000 in
theorem wd_934 : (Jvm.Cond.code ({ cls := "UnlikeCoinsModel", name := "puts", desc := "(I)V" } : Jvm.MethodName) prog_14_method_14_code (2 : Nat) (Option.none : Option Jvm.ClassFile.FieldType)) ∈ gw_tbl := gw_mem (i := 934) rfl (by decide +kernel)
theorem wd_935 : (Jvm.Cond.methodLink "UnlikeCoinsModel" (143 : Nat) ({ cls := "UnlikeCoinsModel", name := "unwinds", desc := "(I)V" } : Jvm.MethodName)) ∈ gw_tbl := gw_mem (i := 935) (by decide +kernel) (by decide +kernel)
theorem wd_937 : (Jvm.Cond.instanceMethod ({ cls := "UnlikeCoinsModel", name := "unwinds", desc := "(I)V" } : Jvm.MethodName)) ∈ gw_tbl := gw_mem (i := 937) (by decide +kernel) (by decide +kernel)
set_option maxRecDepth 100000 in
theorem wd_938 : (Jvm.Cond.code ({ cls := "UnlikeCoinsModel", name := "unwinds", desc := "(I)V" } : Jvm.MethodName) prog_14_method_15_code (3 : Nat) (Option.none : Option Jvm.ClassFile.FieldType)) ∈ gw_tbl := gw_mem (i := 938) rfl (by decide +kernel)
theorem wd_939 : (Jvm.Cond.methodLink "UnlikeCoinsModel" (129 : Nat) ({ cls := "UnlikeCoinsModel", name := "rank", desc := "(I)I" } : Jvm.MethodName)) ∈ gw_tbl := gw_mem (i := 939) (by decide +kernel) (by decide +kernel)
theorem wd_940 : (Jvm.Cond.static ({ cls := "UnlikeCoinsModel", name := "rank", desc := "(I)I" } : Jvm.MethodName)) ∈ gw_tbl := gw_mem (i := 940) (by decide +kernel) (by decide +kernel)
set_option maxRecDepth 100000 in
theorem wd_941 : (Jvm.Cond.code ({ cls := "UnlikeCoinsModel", name := "rank", desc := "(I)I" } : Jvm.MethodName) prog_14_method_13_code (1 : Nat) (Option.some Jvm.ClassFile.FieldType.int)) ∈ gw_tbl := gw_mem (i := 941) rfl (by decide +kernel)
theorem wd_942 : (Jvm.Cond.methodLink "UnlikeCoinsModel" (150 : Nat) ({ cls := "UnlikeCoinsModel", name := "opensOne", desc := "(I)Z" } : Jvm.MethodName)) ∈ gw_tbl := gw_mem (i := 942) (by decide +kernel) (by decide +kernel)
theorem wd_944 : (Jvm.Cond.instanceMethod ({ cls := "UnlikeCoinsModel", name := "opensOne", desc := "(I)Z" } : Jvm.MethodName)) ∈ gw_tbl := gw_mem (i := 944) (by decide +kernel) (by decide +kernel)
set_option maxRecDepth 100000 in
theorem wd_945 : (Jvm.Cond.code ({ cls := "UnlikeCoinsModel", name := "opensOne", desc := "(I)Z" } : Jvm.MethodName) prog_14_method_17_code (2 : Nat) (Option.some Jvm.ClassFile.FieldType.boolean)) ∈ gw_tbl := gw_mem (i := 945) rfl (by decide +kernel)
theorem wd_946 : (Jvm.Cond.methodLink "UnlikeCoinsModel" (140 : Nat) ({ cls := "UnlikeCoinsModel", name := "holds", desc := "(I)V" } : Jvm.MethodName)) ∈ gw_tbl := gw_mem (i := 946) (by decide +kernel) (by decide +kernel)
theorem wd_948 : (Jvm.Cond.instanceMethod ({ cls := "UnlikeCoinsModel", name := "holds", desc := "(I)V" } : Jvm.MethodName)) ∈ gw_tbl := gw_mem (i := 948) (by decide +kernel) (by decide +kernel)
set_option maxRecDepth 100000 in
theorem wd_949 : (Jvm.Cond.code ({ cls := "UnlikeCoinsModel", name := "holds", desc := "(I)V" } : Jvm.MethodName) prog_14_method_16_code (2 : Nat) (Option.none : Option Jvm.ClassFile.FieldType)) ∈ gw_tbl := gw_mem (i := 949) rfl (by decide +kernel)
theorem wd_950 : (Jvm.Cond.methodLink "UnlikeCoinsModel" (153 : Nat) ({ cls := "UnlikeCoinsModel", name := "signOf", desc := "()I" } : Jvm.MethodName)) ∈ gw_tbl := gw_mem (i := 950) (by decide +kernel) (by decide +kernel)
theorem wd_952 : (Jvm.Cond.instanceMethod ({ cls := "UnlikeCoinsModel", name := "signOf", desc := "()I" } : Jvm.MethodName)) ∈ gw_tbl := gw_mem (i := 952) (by decide +kernel) (by decide +kernel)
set_option maxRecDepth 100000 in
theorem wd_953 : (Jvm.Cond.code ({ cls := "UnlikeCoinsModel", name := "signOf", desc := "()I" } : Jvm.MethodName) prog_14_method_19_code (1 : Nat) (Option.some Jvm.ClassFile.FieldType.int)) ∈ gw_tbl := gw_mem (i := 953) rfl (by decide +kernel)
theorem wd_954 : (Jvm.Cond.methodLink "UnlikeCoinsModel" (156 : Nat) ({ cls := "UnlikeCoinsModel", name := "between", desc := "(I)Z" } : Jvm.MethodName)) ∈ gw_tbl := gw_mem (i := 954) (by decide +kernel) (by decide +kernel)
theorem wd_956 : (Jvm.Cond.instanceMethod ({ cls := "UnlikeCoinsModel", name := "between", desc := "(I)Z" } : Jvm.MethodName)) ∈ gw_tbl := gw_mem (i := 956) (by decide +kernel) (by decide +kernel)
set_option maxRecDepth 100000 in
theorem wd_957 : (Jvm.Cond.code ({ cls := "UnlikeCoinsModel", name := "between", desc := "(I)Z" } : Jvm.MethodName) prog_14_method_18_code (2 : Nat) (Option.some Jvm.ClassFile.FieldType.boolean)) ∈ gw_tbl := gw_mem (i := 957) rfl (by decide +kernel)
theorem wd_958 : (Jvm.Cond.fieldLink "UnlikeCoinsModel" (84 : Nat) "UnlikeCoinsModel" "sorts" "I") ∈ gw_tbl := gw_mem (i := 958) (by decide +kernel) (by decide +kernel)
theorem wd_959 : (Jvm.Cond.fieldLink "UnlikeCoinsModel" (7 : Nat) "UnlikeCoinsModel" "kind" "[I") ∈ gw_tbl := gw_mem (i := 959) (by decide +kernel) (by decide +kernel)
theorem wd_960 : (Jvm.Cond.fieldLink "UnlikeCoinsModel" (13 : Nat) "UnlikeCoinsModel" "toldOf" "[I") ∈ gw_tbl := gw_mem (i := 960) (by decide +kernel) (by decide +kernel)
theorem wd_961 : (Jvm.Cond.fieldLink "UnlikeCoinsModel" (16 : Nat) "UnlikeCoinsModel" "moreOf" "[I") ∈ gw_tbl := gw_mem (i := 961) (by decide +kernel) (by decide +kernel)
theorem wd_962 : (Jvm.Cond.fieldLink "UnlikeCoinsModel" (91 : Nat) "UnlikeCoinsModel" "purses" "I") ∈ gw_tbl := gw_mem (i := 962) (by decide +kernel) (by decide +kernel)
theorem wd_963 : (Jvm.Cond.fieldLink "UnlikeCoinsModel" (19 : Nat) "UnlikeCoinsModel" "has" "[I") ∈ gw_tbl := gw_mem (i := 963) (by decide +kernel) (by decide +kernel)
theorem wd_964 : (Jvm.Cond.fieldLink "UnlikeCoinsModel" (94 : Nat) "UnlikeCoinsModel" "year" "I") ∈ gw_tbl := gw_mem (i := 964) (by decide +kernel) (by decide +kernel)
theorem wd_965 : (Jvm.Cond.fieldLink "UnlikeCoinsModel" (22 : Nat) "UnlikeCoinsModel" "tape" "[I") ∈ gw_tbl := gw_mem (i := 965) (by decide +kernel) (by decide +kernel)
theorem wd_966 : (Jvm.Cond.fieldLink "UnlikeCoinsModel" (76 : Nat) "UnlikeCoinsModel" "taped" "I") ∈ gw_tbl := gw_mem (i := 966) (by decide +kernel) (by decide +kernel)
theorem wd_967 : (Jvm.Cond.fieldLink "UnlikeCoinsModel" (25 : Nat) "UnlikeCoinsModel" "codes" "[I") ∈ gw_tbl := gw_mem (i := 967) (by decide +kernel) (by decide +kernel)
theorem wd_968 : (Jvm.Cond.fieldLink "UnlikeCoinsModel" (28 : Nat) "UnlikeCoinsModel" "starts" "[I") ∈ gw_tbl := gw_mem (i := 968) (by decide +kernel) (by decide +kernel)
theorem wd_969 : (Jvm.Cond.fieldLink "UnlikeCoinsModel" (97 : Nat) "UnlikeCoinsModel" "texts" "I") ∈ gw_tbl := gw_mem (i := 969) (by decide +kernel) (by decide +kernel)
theorem wd_970 : (Jvm.Cond.fieldLink "UnlikeCoinsModel" (100 : Nat) "UnlikeCoinsModel" "rule" "I") ∈ gw_tbl := gw_mem (i := 970) (by decide +kernel) (by decide +kernel)
theorem wd_971 : (Jvm.Cond.fieldLink "UnlikeCoinsModel" (284 : Nat) "UnlikeCoinsModel" "hasImage" "Z") ∈ gw_tbl := gw_mem (i := 971) (by decide +kernel) (by decide +kernel)
theorem wd_972 : (Jvm.Cond.fieldLink "UnlikeCoinsModel" (288 : Nat) "UnlikeCoinsModel" "imageSorts" "I") ∈ gw_tbl := gw_mem (i := 972) (by decide +kernel) (by decide +kernel)
theorem wd_973 : (Jvm.Cond.fieldLink "UnlikeCoinsModel" (291 : Nat) "UnlikeCoinsModel" "imagePurses" "I") ∈ gw_tbl := gw_mem (i := 973) (by decide +kernel) (by decide +kernel)
theorem wd_974 : (Jvm.Cond.fieldLink "UnlikeCoinsModel" (294 : Nat) "UnlikeCoinsModel" "imageYear" "I") ∈ gw_tbl := gw_mem (i := 974) (by decide +kernel) (by decide +kernel)
theorem wd_975 : (Jvm.Cond.fieldLink "UnlikeCoinsModel" (297 : Nat) "UnlikeCoinsModel" "imageRule" "I") ∈ gw_tbl := gw_mem (i := 975) (by decide +kernel) (by decide +kernel)
theorem wd_976 : (Jvm.Cond.fieldLink "UnlikeCoinsModel" (31 : Nat) "UnlikeCoinsModel" "imageHas" "[I") ∈ gw_tbl := gw_mem (i := 976) (by decide +kernel) (by decide +kernel)
theorem wd_977 : (Jvm.Cond.fieldLink "UnlikeCoinsModel" (34 : Nat) "UnlikeCoinsModel" "sheetSort" "[I") ∈ gw_tbl := gw_mem (i := 977) (by decide +kernel) (by decide +kernel)
theorem wd_978 : (Jvm.Cond.fieldLink "UnlikeCoinsModel" (37 : Nat) "UnlikeCoinsModel" "sheetSize" "[I") ∈ gw_tbl := gw_mem (i := 978) (by decide +kernel) (by decide +kernel)
theorem wd_979 : (Jvm.Cond.fieldLink "UnlikeCoinsModel" (40 : Nat) "UnlikeCoinsModel" "cells" "[I") ∈ gw_tbl := gw_mem (i := 979) (by decide +kernel) (by decide +kernel)
theorem wd_980 : (Jvm.Cond.fieldLink "UnlikeCoinsModel" (43 : Nat) "UnlikeCoinsModel" "law" "[I") ∈ gw_tbl := gw_mem (i := 980) (by decide +kernel) (by decide +kernel)
theorem wd_981 : (Jvm.Cond.fieldLink "UnlikeCoinsModel" (107 : Nat) "UnlikeCoinsModel" "at" "I") ∈ gw_tbl := gw_mem (i := 981) (by decide +kernel) (by decide +kernel)
theorem wd_982 : (Jvm.Cond.fieldLink "UnlikeCoinsModel" (110 : Nat) "UnlikeCoinsModel" "begun" "I") ∈ gw_tbl := gw_mem (i := 982) (by decide +kernel) (by decide +kernel)
theorem wd_983 : (Jvm.Cond.fieldLink "UnlikeCoinsModel" (113 : Nat) "UnlikeCoinsModel" "token" "I") ∈ gw_tbl := gw_mem (i := 983) (by decide +kernel) (by decide +kernel)
theorem wd_984 : (Jvm.Cond.fieldLink "UnlikeCoinsModel" (116 : Nat) "UnlikeCoinsModel" "value" "I") ∈ gw_tbl := gw_mem (i := 984) (by decide +kernel) (by decide +kernel)
theorem wd_985 : (Jvm.Cond.fieldLink "UnlikeCoinsModel" (46 : Nat) "UnlikeCoinsModel" "words" "[I") ∈ gw_tbl := gw_mem (i := 985) (by decide +kernel) (by decide +kernel)
theorem wd_986 : (Jvm.Cond.fieldLink "UnlikeCoinsModel" (49 : Nat) "UnlikeCoinsModel" "held" "[I") ∈ gw_tbl := gw_mem (i := 986) (by decide +kernel) (by decide +kernel)
theorem wd_987 : (Jvm.Cond.fieldLink "UnlikeCoinsModel" (126 : Nat) "UnlikeCoinsModel" "heldMany" "I") ∈ gw_tbl := gw_mem (i := 987) (by decide +kernel) (by decide +kernel)
theorem wd_988 : (Jvm.Cond.fieldLink "UnlikeCoinsModel" (133 : Nat) "UnlikeCoinsModel" "opens" "I") ∈ gw_tbl := gw_mem (i := 988) (by decide +kernel) (by decide +kernel)
theorem wd_989 : (Jvm.Cond.fieldLink "UnlikeCoinsModel" (123 : Nat) "UnlikeCoinsModel" "out" "I") ∈ gw_tbl := gw_mem (i := 989) (by decide +kernel) (by decide +kernel)
theorem wd_990 : (Jvm.Cond.fieldLink "UnlikeCoinsModel" (52 : Nat) "UnlikeCoinsModel" "stack" "[I") ∈ gw_tbl := gw_mem (i := 990) (by decide +kernel) (by decide +kernel)
theorem wd_991 : (Jvm.Cond.fieldLink "UnlikeCoinsModel" (55 : Nat) "UnlikeCoinsModel" "named" "[I") ∈ gw_tbl := gw_mem (i := 991) (by decide +kernel) (by decide +kernel)
theorem wd_992 : (Jvm.Cond.fieldLink "UnlikeCoinsModel" (58 : Nat) "UnlikeCoinsModel" "left" "[I") ∈ gw_tbl := gw_mem (i := 992) (by decide +kernel) (by decide +kernel)
theorem wd_993 : (Jvm.Cond.fieldLink "UnlikeCoinsModel" (61 : Nat) "UnlikeCoinsModel" "began" "[I") ∈ gw_tbl := gw_mem (i := 993) (by decide +kernel) (by decide +kernel)
theorem wd_994 : (Jvm.Cond.fieldLink "UnlikeCoinsModel" (64 : Nat) "UnlikeCoinsModel" "lies" "[I") ∈ gw_tbl := gw_mem (i := 994) (by decide +kernel) (by decide +kernel)
theorem wd_995 : (Jvm.Cond.fieldLink "UnlikeCoinsModel" (67 : Nat) "UnlikeCoinsModel" "row" "[I") ∈ gw_tbl := gw_mem (i := 995) (by decide +kernel) (by decide +kernel)
theorem wd_996 : (Jvm.Cond.fieldLink "UnlikeCoinsModel" (70 : Nat) "UnlikeCoinsModel" "thought" "[I") ∈ gw_tbl := gw_mem (i := 996) (by decide +kernel) (by decide +kernel)
theorem wd_997 : (Jvm.Cond.fieldLink "UnlikeCoinsModel" (73 : Nat) "UnlikeCoinsModel" "keptHas" "[I") ∈ gw_tbl := gw_mem (i := 997) (by decide +kernel) (by decide +kernel)
theorem wd_1079 : (Jvm.Cond.methodLink "UnlikeCoinsLaw" (17 : Nat) ({ cls := "UnlikeCoinsModel", name := "count", desc := "(I)I" } : Jvm.MethodName)) ∈ gw_tbl := gw_mem (i := 1079) (by decide +kernel) (by decide +kernel)
theorem wd_1080 : (Jvm.Cond.instanceMethod ({ cls := "UnlikeCoinsModel", name := "count", desc := "(I)I" } : Jvm.MethodName)) ∈ gw_tbl := gw_mem (i := 1080) (by decide +kernel) (by decide +kernel)
theorem wd_1081 : (Jvm.Cond.selects "UnlikeCoinsModel" ({ cls := "UnlikeCoinsModel", name := "count", desc := "(I)I" } : Jvm.MethodName) ({ cls := "UnlikeCoinsModel", name := "count", desc := "(I)I" } : Jvm.MethodName)) ∈ gw_tbl := gw_mem (i := 1081) (by decide +kernel) (by decide +kernel)
set_option maxRecDepth 100000 in
theorem wd_1082 : (Jvm.Cond.code ({ cls := "UnlikeCoinsModel", name := "count", desc := "(I)I" } : Jvm.MethodName) prog_14_method_8_code (2 : Nat) (Option.some Jvm.ClassFile.FieldType.int)) ∈ gw_tbl := gw_mem (i := 1082) rfl (by decide +kernel)
theorem wd_1083 : (Jvm.Cond.methodLink "UnlikeCoinsLaw" (22 : Nat) ({ cls := "UnlikeCoinsModel", name := "feed", desc := "(IIIIII)I" } : Jvm.MethodName)) ∈ gw_tbl := gw_mem (i := 1083) (by decide +kernel) (by decide +kernel)
theorem wd_1084 : (Jvm.Cond.instanceMethod ({ cls := "UnlikeCoinsModel", name := "feed", desc := "(IIIIII)I" } : Jvm.MethodName)) ∈ gw_tbl := gw_mem (i := 1084) (by decide +kernel) (by decide +kernel)
theorem wd_1085 : (Jvm.Cond.selects "UnlikeCoinsModel" ({ cls := "UnlikeCoinsModel", name := "feed", desc := "(IIIIII)I" } : Jvm.MethodName) ({ cls := "UnlikeCoinsModel", name := "feed", desc := "(IIIIII)I" } : Jvm.MethodName)) ∈ gw_tbl := gw_mem (i := 1085) (by decide +kernel) (by decide +kernel)
set_option maxRecDepth 100000 in
theorem wd_1086 : (Jvm.Cond.code ({ cls := "UnlikeCoinsModel", name := "feed", desc := "(IIIIII)I" } : Jvm.MethodName) prog_14_method_10_code (8 : Nat) (Option.some Jvm.ClassFile.FieldType.int)) ∈ gw_tbl := gw_mem (i := 1086) rfl (by decide +kernel)
theorem wd_1087 : (Jvm.Cond.methodLink "UnlikeCoinsModel" (103 : Nat) ({ cls := "UnlikeCoinsModel", name := "isByte", desc := "(I)Z" } : Jvm.MethodName)) ∈ gw_tbl := gw_mem (i := 1087) (by decide +kernel) (by decide +kernel)
theorem wd_1088 : (Jvm.Cond.static ({ cls := "UnlikeCoinsModel", name := "isByte", desc := "(I)Z" } : Jvm.MethodName)) ∈ gw_tbl := gw_mem (i := 1088) (by decide +kernel) (by decide +kernel)
set_option maxRecDepth 100000 in
theorem wd_1089 : (Jvm.Cond.code ({ cls := "UnlikeCoinsModel", name := "isByte", desc := "(I)Z" } : Jvm.MethodName) prog_14_method_9_code (1 : Nat) (Option.some Jvm.ClassFile.FieldType.boolean)) ∈ gw_tbl := gw_mem (i := 1089) rfl (by decide +kernel)
theorem wd_1090 : (Jvm.Cond.methodLink "UnlikeCoinsLaw" (27 : Nat) ({ cls := "UnlikeCoinsModel", name := "text", desc := "()I" } : Jvm.MethodName)) ∈ gw_tbl := gw_mem (i := 1090) (by decide +kernel) (by decide +kernel)
theorem wd_1091 : (Jvm.Cond.methodLink "UnlikeCoinsLaw" (31 : Nat) ({ cls := "UnlikeCoinsModel", name := "force", desc := "(I)I" } : Jvm.MethodName)) ∈ gw_tbl := gw_mem (i := 1091) (by decide +kernel) (by decide +kernel)
theorem wd_1092 : (Jvm.Cond.instanceMethod ({ cls := "UnlikeCoinsModel", name := "force", desc := "(I)I" } : Jvm.MethodName)) ∈ gw_tbl := gw_mem (i := 1092) (by decide +kernel) (by decide +kernel)
theorem wd_1093 : (Jvm.Cond.selects "UnlikeCoinsModel" ({ cls := "UnlikeCoinsModel", name := "force", desc := "(I)I" } : Jvm.MethodName) ({ cls := "UnlikeCoinsModel", name := "force", desc := "(I)I" } : Jvm.MethodName)) ∈ gw_tbl := gw_mem (i := 1093) (by decide +kernel) (by decide +kernel)
set_option maxRecDepth 100000 in
theorem wd_1094 : (Jvm.Cond.code ({ cls := "UnlikeCoinsModel", name := "force", desc := "(I)I" } : Jvm.MethodName) prog_14_method_24_code (3 : Nat) (Option.some Jvm.ClassFile.FieldType.int)) ∈ gw_tbl := gw_mem (i := 1094) rfl (by decide +kernel)
theorem wd_1095 : (Jvm.Cond.methodLink "UnlikeCoinsLaw" (36 : Nat) ({ cls := "UnlikeCoinsModel", name := "asks", desc := "(IIII)I" } : Jvm.MethodName)) ∈ gw_tbl := gw_mem (i := 1095) (by decide +kernel) (by decide +kernel)
theorem wd_1096 : (Jvm.Cond.instanceMethod ({ cls := "UnlikeCoinsModel", name := "asks", desc := "(IIII)I" } : Jvm.MethodName)) ∈ gw_tbl := gw_mem (i := 1096) (by decide +kernel) (by decide +kernel)
theorem wd_1097 : (Jvm.Cond.selects "UnlikeCoinsModel" ({ cls := "UnlikeCoinsModel", name := "asks", desc := "(IIII)I" } : Jvm.MethodName) ({ cls := "UnlikeCoinsModel", name := "asks", desc := "(IIII)I" } : Jvm.MethodName)) ∈ gw_tbl := gw_mem (i := 1097) (by decide +kernel) (by decide +kernel)
set_option maxRecDepth 100000 in
theorem wd_1098 : (Jvm.Cond.code ({ cls := "UnlikeCoinsModel", name := "asks", desc := "(IIII)I" } : Jvm.MethodName) prog_14_method_26_code (6 : Nat) (Option.some Jvm.ClassFile.FieldType.int)) ∈ gw_tbl := gw_mem (i := 1098) rfl (by decide +kernel)
theorem wd_1099 : (Jvm.Cond.methodLink "UnlikeCoinsModel" (173 : Nat) ({ cls := "UnlikeCoinsModel", name := "asksOf", desc := "(IIIIII)I" } : Jvm.MethodName)) ∈ gw_tbl := gw_mem (i := 1099) (by decide +kernel) (by decide +kernel)
theorem wd_1101 : (Jvm.Cond.instanceMethod ({ cls := "UnlikeCoinsModel", name := "asksOf", desc := "(IIIIII)I" } : Jvm.MethodName)) ∈ gw_tbl := gw_mem (i := 1101) (by decide +kernel) (by decide +kernel)
set_option maxRecDepth 100000 in
theorem wd_1102 : (Jvm.Cond.code ({ cls := "UnlikeCoinsModel", name := "asksOf", desc := "(IIIIII)I" } : Jvm.MethodName) prog_14_method_25_code (7 : Nat) (Option.some Jvm.ClassFile.FieldType.int)) ∈ gw_tbl := gw_mem (i := 1102) rfl (by decide +kernel)
theorem wd_1103 : (Jvm.Cond.methodLink "UnlikeCoinsModel" (167 : Nat) ({ cls := "UnlikeCoinsModel", name := "says", desc := "(I)I" } : Jvm.MethodName)) ∈ gw_tbl := gw_mem (i := 1103) (by decide +kernel) (by decide +kernel)
theorem wd_1105 : (Jvm.Cond.instanceMethod ({ cls := "UnlikeCoinsModel", name := "says", desc := "(I)I" } : Jvm.MethodName)) ∈ gw_tbl := gw_mem (i := 1105) (by decide +kernel) (by decide +kernel)
set_option maxRecDepth 100000 in
theorem wd_1106 : (Jvm.Cond.code ({ cls := "UnlikeCoinsModel", name := "says", desc := "(I)I" } : Jvm.MethodName) prog_14_method_23_code (5 : Nat) (Option.some Jvm.ClassFile.FieldType.int)) ∈ gw_tbl := gw_mem (i := 1106) rfl (by decide +kernel)
theorem wd_1107 : (Jvm.Cond.methodLink "UnlikeCoinsModel" (163 : Nat) ({ cls := "UnlikeCoinsModel", name := "two", desc := "(III)I" } : Jvm.MethodName)) ∈ gw_tbl := gw_mem (i := 1107) (by decide +kernel) (by decide +kernel)
theorem wd_1108 : (Jvm.Cond.static ({ cls := "UnlikeCoinsModel", name := "two", desc := "(III)I" } : Jvm.MethodName)) ∈ gw_tbl := gw_mem (i := 1108) (by decide +kernel) (by decide +kernel)
set_option maxRecDepth 100000 in
theorem wd_1109 : (Jvm.Cond.code ({ cls := "UnlikeCoinsModel", name := "two", desc := "(III)I" } : Jvm.MethodName) prog_14_method_22_code (3 : Nat) (Option.some Jvm.ClassFile.FieldType.int)) ∈ gw_tbl := gw_mem (i := 1109) rfl (by decide +kernel)
theorem wd_1110 : (Jvm.Cond.methodLink "UnlikeCoinsModel" (170 : Nat) ({ cls := "UnlikeCoinsModel", name := "within", desc := "(III)I" } : Jvm.MethodName)) ∈ gw_tbl := gw_mem (i := 1110) (by decide +kernel) (by decide +kernel)
theorem wd_1111 : (Jvm.Cond.static ({ cls := "UnlikeCoinsModel", name := "within", desc := "(III)I" } : Jvm.MethodName)) ∈ gw_tbl := gw_mem (i := 1111) (by decide +kernel) (by decide +kernel)
set_option maxRecDepth 100000 in
theorem wd_1112 : (Jvm.Cond.code ({ cls := "UnlikeCoinsModel", name := "within", desc := "(III)I" } : Jvm.MethodName) prog_14_method_4_code (3 : Nat) (Option.some Jvm.ClassFile.FieldType.int)) ∈ gw_tbl := gw_mem (i := 1112) rfl (by decide +kernel)
theorem wd_1113 : (Jvm.Cond.methodLink "UnlikeCoinsLaw" (41 : Nat) ({ cls := "UnlikeCoinsModel", name := "sort", desc := "(III)I" } : Jvm.MethodName)) ∈ gw_tbl := gw_mem (i := 1113) (by decide +kernel) (by decide +kernel)
theorem wd_1114 : (Jvm.Cond.instanceMethod ({ cls := "UnlikeCoinsModel", name := "sort", desc := "(III)I" } : Jvm.MethodName)) ∈ gw_tbl := gw_mem (i := 1114) (by decide +kernel) (by decide +kernel)
theorem wd_1115 : (Jvm.Cond.selects "UnlikeCoinsModel" ({ cls := "UnlikeCoinsModel", name := "sort", desc := "(III)I" } : Jvm.MethodName) ({ cls := "UnlikeCoinsModel", name := "sort", desc := "(III)I" } : Jvm.MethodName)) ∈ gw_tbl := gw_mem (i := 1115) (by decide +kernel) (by decide +kernel)
set_option maxRecDepth 100000 in
theorem wd_1116 : (Jvm.Cond.code ({ cls := "UnlikeCoinsModel", name := "sort", desc := "(III)I" } : Jvm.MethodName) prog_14_method_29_code (5 : Nat) (Option.some Jvm.ClassFile.FieldType.int)) ∈ gw_tbl := gw_mem (i := 1116) rfl (by decide +kernel)
theorem wd_1117 : (Jvm.Cond.methodLink "UnlikeCoinsLaw" (46 : Nat) ({ cls := "UnlikeCoinsModel", name := "told", desc := "(II)I" } : Jvm.MethodName)) ∈ gw_tbl := gw_mem (i := 1117) (by decide +kernel) (by decide +kernel)
theorem wd_1118 : (Jvm.Cond.instanceMethod ({ cls := "UnlikeCoinsModel", name := "told", desc := "(II)I" } : Jvm.MethodName)) ∈ gw_tbl := gw_mem (i := 1118) (by decide +kernel) (by decide +kernel)
theorem wd_1119 : (Jvm.Cond.selects "UnlikeCoinsModel" ({ cls := "UnlikeCoinsModel", name := "told", desc := "(II)I" } : Jvm.MethodName) ({ cls := "UnlikeCoinsModel", name := "told", desc := "(II)I" } : Jvm.MethodName)) ∈ gw_tbl := gw_mem (i := 1119) (by decide +kernel) (by decide +kernel)
set_option maxRecDepth 100000 in
theorem wd_1120 : (Jvm.Cond.code ({ cls := "UnlikeCoinsModel", name := "told", desc := "(II)I" } : Jvm.MethodName) prog_14_method_30_code (3 : Nat) (Option.some Jvm.ClassFile.FieldType.int)) ∈ gw_tbl := gw_mem (i := 1120) rfl (by decide +kernel)
theorem wd_1121 : (Jvm.Cond.methodLink "UnlikeCoinsModel" (177 : Nat) ({ cls := "UnlikeCoinsModel", name := "isSort", desc := "(I)Z" } : Jvm.MethodName)) ∈ gw_tbl := gw_mem (i := 1121) (by decide +kernel) (by decide +kernel)
theorem wd_1123 : (Jvm.Cond.instanceMethod ({ cls := "UnlikeCoinsModel", name := "isSort", desc := "(I)Z" } : Jvm.MethodName)) ∈ gw_tbl := gw_mem (i := 1123) (by decide +kernel) (by decide +kernel)
set_option maxRecDepth 100000 in
theorem wd_1124 : (Jvm.Cond.code ({ cls := "UnlikeCoinsModel", name := "isSort", desc := "(I)Z" } : Jvm.MethodName) prog_14_method_5_code (2 : Nat) (Option.some Jvm.ClassFile.FieldType.boolean)) ∈ gw_tbl := gw_mem (i := 1124) rfl (by decide +kernel)
theorem wd_1125 : (Jvm.Cond.methodLink "UnlikeCoinsLaw" (50 : Nat) ({ cls := "UnlikeCoinsModel", name := "purse", desc := "()I" } : Jvm.MethodName)) ∈ gw_tbl := gw_mem (i := 1125) (by decide +kernel) (by decide +kernel)
theorem wd_1126 : (Jvm.Cond.instanceMethod ({ cls := "UnlikeCoinsModel", name := "purse", desc := "()I" } : Jvm.MethodName)) ∈ gw_tbl := gw_mem (i := 1126) (by decide +kernel) (by decide +kernel)
theorem wd_1127 : (Jvm.Cond.selects "UnlikeCoinsModel" ({ cls := "UnlikeCoinsModel", name := "purse", desc := "()I" } : Jvm.MethodName) ({ cls := "UnlikeCoinsModel", name := "purse", desc := "()I" } : Jvm.MethodName)) ∈ gw_tbl := gw_mem (i := 1127) (by decide +kernel) (by decide +kernel)
set_option maxRecDepth 100000 in
theorem wd_1128 : (Jvm.Cond.code ({ cls := "UnlikeCoinsModel", name := "purse", desc := "()I" } : Jvm.MethodName) prog_14_method_31_code (2 : Nat) (Option.some Jvm.ClassFile.FieldType.int)) ∈ gw_tbl := gw_mem (i := 1128) rfl (by decide +kernel)
theorem wd_1129 : (Jvm.Cond.methodLink "UnlikeCoinsLaw" (54 : Nat) ({ cls := "UnlikeCoinsModel", name := "set", desc := "(III)I" } : Jvm.MethodName)) ∈ gw_tbl := gw_mem (i := 1129) (by decide +kernel) (by decide +kernel)
theorem wd_1130 : (Jvm.Cond.instanceMethod ({ cls := "UnlikeCoinsModel", name := "set", desc := "(III)I" } : Jvm.MethodName)) ∈ gw_tbl := gw_mem (i := 1130) (by decide +kernel) (by decide +kernel)
theorem wd_1131 : (Jvm.Cond.selects "UnlikeCoinsModel" ({ cls := "UnlikeCoinsModel", name := "set", desc := "(III)I" } : Jvm.MethodName) ({ cls := "UnlikeCoinsModel", name := "set", desc := "(III)I" } : Jvm.MethodName)) ∈ gw_tbl := gw_mem (i := 1131) (by decide +kernel) (by decide +kernel)
set_option maxRecDepth 100000 in
theorem wd_1132 : (Jvm.Cond.code ({ cls := "UnlikeCoinsModel", name := "set", desc := "(III)I" } : Jvm.MethodName) prog_14_method_32_code (5 : Nat) (Option.some Jvm.ClassFile.FieldType.int)) ∈ gw_tbl := gw_mem (i := 1132) rfl (by decide +kernel)
theorem wd_1133 : (Jvm.Cond.methodLink "UnlikeCoinsModel" (180 : Nat) ({ cls := "UnlikeCoinsModel", name := "isPurse", desc := "(I)Z" } : Jvm.MethodName)) ∈ gw_tbl := gw_mem (i := 1133) (by decide +kernel) (by decide +kernel)
theorem wd_1135 : (Jvm.Cond.instanceMethod ({ cls := "UnlikeCoinsModel", name := "isPurse", desc := "(I)Z" } : Jvm.MethodName)) ∈ gw_tbl := gw_mem (i := 1135) (by decide +kernel) (by decide +kernel)
set_option maxRecDepth 100000 in
theorem wd_1136 : (Jvm.Cond.code ({ cls := "UnlikeCoinsModel", name := "isPurse", desc := "(I)Z" } : Jvm.MethodName) prog_14_method_6_code (2 : Nat) (Option.some Jvm.ClassFile.FieldType.boolean)) ∈ gw_tbl := gw_mem (i := 1136) rfl (by decide +kernel)
theorem wd_1137 : (Jvm.Cond.methodLink "UnlikeCoinsLaw" (58 : Nat) ({ cls := "UnlikeCoinsModel", name := "of", desc := "(II)I" } : Jvm.MethodName)) ∈ gw_tbl := gw_mem (i := 1137) (by decide +kernel) (by decide +kernel)
theorem wd_1138 : (Jvm.Cond.instanceMethod ({ cls := "UnlikeCoinsModel", name := "of", desc := "(II)I" } : Jvm.MethodName)) ∈ gw_tbl := gw_mem (i := 1138) (by decide +kernel) (by decide +kernel)
theorem wd_1139 : (Jvm.Cond.selects "UnlikeCoinsModel" ({ cls := "UnlikeCoinsModel", name := "of", desc := "(II)I" } : Jvm.MethodName) ({ cls := "UnlikeCoinsModel", name := "of", desc := "(II)I" } : Jvm.MethodName)) ∈ gw_tbl := gw_mem (i := 1139) (by decide +kernel) (by decide +kernel)
set_option maxRecDepth 100000 in
theorem wd_1140 : (Jvm.Cond.code ({ cls := "UnlikeCoinsModel", name := "of", desc := "(II)I" } : Jvm.MethodName) prog_14_method_33_code (3 : Nat) (Option.some Jvm.ClassFile.FieldType.int)) ∈ gw_tbl := gw_mem (i := 1140) rfl (by decide +kernel)
theorem wd_1141 : (Jvm.Cond.methodLink "UnlikeCoinsLaw" (62 : Nat) ({ cls := "UnlikeCoinsModel", name := "all", desc := "(II)I" } : Jvm.MethodName)) ∈ gw_tbl := gw_mem (i := 1141) (by decide +kernel) (by decide +kernel)
theorem wd_1142 : (Jvm.Cond.instanceMethod ({ cls := "UnlikeCoinsModel", name := "all", desc := "(II)I" } : Jvm.MethodName)) ∈ gw_tbl := gw_mem (i := 1142) (by decide +kernel) (by decide +kernel)
theorem wd_1143 : (Jvm.Cond.selects "UnlikeCoinsModel" ({ cls := "UnlikeCoinsModel", name := "all", desc := "(II)I" } : Jvm.MethodName) ({ cls := "UnlikeCoinsModel", name := "all", desc := "(II)I" } : Jvm.MethodName)) ∈ gw_tbl := gw_mem (i := 1143) (by decide +kernel) (by decide +kernel)
set_option maxRecDepth 100000 in
theorem wd_1144 : (Jvm.Cond.code ({ cls := "UnlikeCoinsModel", name := "all", desc := "(II)I" } : Jvm.MethodName) prog_14_method_38_code (6 : Nat) (Option.some Jvm.ClassFile.FieldType.int)) ∈ gw_tbl := gw_mem (i := 1144) rfl (by decide +kernel)
theorem wd_1145 : (Jvm.Cond.methodLink "UnlikeCoinsModel" (183 : Nat) ({ cls := "UnlikeCoinsModel", name := "coinWorth", desc := "(II)I" } : Jvm.MethodName)) ∈ gw_tbl := gw_mem (i := 1145) (by decide +kernel) (by decide +kernel)
theorem wd_1147 : (Jvm.Cond.instanceMethod ({ cls := "UnlikeCoinsModel", name := "coinWorth", desc := "(II)I" } : Jvm.MethodName)) ∈ gw_tbl := gw_mem (i := 1147) (by decide +kernel) (by decide +kernel)
set_option maxRecDepth 100000 in
theorem wd_1148 : (Jvm.Cond.code ({ cls := "UnlikeCoinsModel", name := "coinWorth", desc := "(II)I" } : Jvm.MethodName) prog_14_method_36_code (4 : Nat) (Option.some Jvm.ClassFile.FieldType.int)) ∈ gw_tbl := gw_mem (i := 1148) rfl (by decide +kernel)
theorem wd_1149 : (Jvm.Cond.methodLink "UnlikeCoinsLaw" (66 : Nat) ({ cls := "UnlikeCoinsModel", name := "often", desc := "(III)I" } : Jvm.MethodName)) ∈ gw_tbl := gw_mem (i := 1149) (by decide +kernel) (by decide +kernel)
theorem wd_1150 : (Jvm.Cond.instanceMethod ({ cls := "UnlikeCoinsModel", name := "often", desc := "(III)I" } : Jvm.MethodName)) ∈ gw_tbl := gw_mem (i := 1150) (by decide +kernel) (by decide +kernel)
theorem wd_1151 : (Jvm.Cond.selects "UnlikeCoinsModel" ({ cls := "UnlikeCoinsModel", name := "often", desc := "(III)I" } : Jvm.MethodName) ({ cls := "UnlikeCoinsModel", name := "often", desc := "(III)I" } : Jvm.MethodName)) ∈ gw_tbl := gw_mem (i := 1151) (by decide +kernel) (by decide +kernel)
set_option maxRecDepth 100000 in
theorem wd_1152 : (Jvm.Cond.code ({ cls := "UnlikeCoinsModel", name := "often", desc := "(III)I" } : Jvm.MethodName) prog_14_method_45_code (5 : Nat) (Option.some Jvm.ClassFile.FieldType.int)) ∈ gw_tbl := gw_mem (i := 1152) rfl (by decide +kernel)
theorem wd_1153 : (Jvm.Cond.methodLink "UnlikeCoinsModel" (201 : Nat) ({ cls := "UnlikeCoinsModel", name := "isPrice", desc := "(I)Z" } : Jvm.MethodName)) ∈ gw_tbl := gw_mem (i := 1153) (by decide +kernel) (by decide +kernel)
theorem wd_1154 : (Jvm.Cond.static ({ cls := "UnlikeCoinsModel", name := "isPrice", desc := "(I)Z" } : Jvm.MethodName)) ∈ gw_tbl := gw_mem (i := 1154) (by decide +kernel) (by decide +kernel)
set_option maxRecDepth 100000 in
theorem wd_1155 : (Jvm.Cond.code ({ cls := "UnlikeCoinsModel", name := "isPrice", desc := "(I)Z" } : Jvm.MethodName) prog_14_method_7_code (1 : Nat) (Option.some Jvm.ClassFile.FieldType.boolean)) ∈ gw_tbl := gw_mem (i := 1155) rfl (by decide +kernel)
theorem wd_1156 : (Jvm.Cond.methodLink "UnlikeCoinsModel" (204 : Nat) ({ cls := "UnlikeCoinsModel", name := "oftenOf", desc := "(II)I" } : Jvm.MethodName)) ∈ gw_tbl := gw_mem (i := 1156) (by decide +kernel) (by decide +kernel)
theorem wd_1158 : (Jvm.Cond.instanceMethod ({ cls := "UnlikeCoinsModel", name := "oftenOf", desc := "(II)I" } : Jvm.MethodName)) ∈ gw_tbl := gw_mem (i := 1158) (by decide +kernel) (by decide +kernel)
set_option maxRecDepth 100000 in
theorem wd_1159 : (Jvm.Cond.code ({ cls := "UnlikeCoinsModel", name := "oftenOf", desc := "(II)I" } : Jvm.MethodName) prog_14_method_43_code (3 : Nat) (Option.some Jvm.ClassFile.FieldType.int)) ∈ gw_tbl := gw_mem (i := 1159) rfl (by decide +kernel)
theorem wd_1160 : (Jvm.Cond.methodLink "UnlikeCoinsModel" (195 : Nat) ({ cls := "UnlikeCoinsModel", name := "thinksOf", desc := "(I)V" } : Jvm.MethodName)) ∈ gw_tbl := gw_mem (i := 1160) (by decide +kernel) (by decide +kernel)
theorem wd_1162 : (Jvm.Cond.instanceMethod ({ cls := "UnlikeCoinsModel", name := "thinksOf", desc := "(I)V" } : Jvm.MethodName)) ∈ gw_tbl := gw_mem (i := 1162) (by decide +kernel) (by decide +kernel)
set_option maxRecDepth 100000 in
theorem wd_1163 : (Jvm.Cond.code ({ cls := "UnlikeCoinsModel", name := "thinksOf", desc := "(I)V" } : Jvm.MethodName) prog_14_method_39_code (3 : Nat) (Option.none : Option Jvm.ClassFile.FieldType)) ∈ gw_tbl := gw_mem (i := 1163) rfl (by decide +kernel)
theorem wd_1164 : (Jvm.Cond.methodLink "UnlikeCoinsModel" (198 : Nat) ({ cls := "UnlikeCoinsModel", name := "oftenNow", desc := "(I)I" } : Jvm.MethodName)) ∈ gw_tbl := gw_mem (i := 1164) (by decide +kernel) (by decide +kernel)
theorem wd_1166 : (Jvm.Cond.instanceMethod ({ cls := "UnlikeCoinsModel", name := "oftenNow", desc := "(I)I" } : Jvm.MethodName)) ∈ gw_tbl := gw_mem (i := 1166) (by decide +kernel) (by decide +kernel)
set_option maxRecDepth 100000 in
theorem wd_1167 : (Jvm.Cond.code ({ cls := "UnlikeCoinsModel", name := "oftenNow", desc := "(I)I" } : Jvm.MethodName) prog_14_method_42_code (3 : Nat) (Option.some Jvm.ClassFile.FieldType.int)) ∈ gw_tbl := gw_mem (i := 1167) rfl (by decide +kernel)
theorem wd_1168 : (Jvm.Cond.methodLink "UnlikeCoinsModel" (192 : Nat) ({ cls := "UnlikeCoinsModel", name := "lays", desc := "(I)Z" } : Jvm.MethodName)) ∈ gw_tbl := gw_mem (i := 1168) (by decide +kernel) (by decide +kernel)
theorem wd_1170 : (Jvm.Cond.instanceMethod ({ cls := "UnlikeCoinsModel", name := "lays", desc := "(I)Z" } : Jvm.MethodName)) ∈ gw_tbl := gw_mem (i := 1170) (by decide +kernel) (by decide +kernel)
set_option maxRecDepth 100000 in
theorem wd_1171 : (Jvm.Cond.code ({ cls := "UnlikeCoinsModel", name := "lays", desc := "(I)Z" } : Jvm.MethodName) prog_14_method_41_code (5 : Nat) (Option.some Jvm.ClassFile.FieldType.boolean)) ∈ gw_tbl := gw_mem (i := 1171) rfl (by decide +kernel)
theorem wd_1172 : (Jvm.Cond.methodLink "UnlikeCoinsModel" (189 : Nat) ({ cls := "UnlikeCoinsModel", name := "nextLaid", desc := "()I" } : Jvm.MethodName)) ∈ gw_tbl := gw_mem (i := 1172) (by decide +kernel) (by decide +kernel)
theorem wd_1174 : (Jvm.Cond.instanceMethod ({ cls := "UnlikeCoinsModel", name := "nextLaid", desc := "()I" } : Jvm.MethodName)) ∈ gw_tbl := gw_mem (i := 1174) (by decide +kernel) (by decide +kernel)
set_option maxRecDepth 100000 in
theorem wd_1175 : (Jvm.Cond.code ({ cls := "UnlikeCoinsModel", name := "nextLaid", desc := "()I" } : Jvm.MethodName) prog_14_method_40_code (4 : Nat) (Option.some Jvm.ClassFile.FieldType.int)) ∈ gw_tbl := gw_mem (i := 1175) rfl (by decide +kernel)
theorem wd_1176 : (Jvm.Cond.methodLink "UnlikeCoinsModel" (186 : Nat) ({ cls := "UnlikeCoinsModel", name := "together", desc := "(II)I" } : Jvm.MethodName)) ∈ gw_tbl := gw_mem (i := 1176) (by decide +kernel) (by decide +kernel)
theorem wd_1178 : (Jvm.Cond.instanceMethod ({ cls := "UnlikeCoinsModel", name := "together", desc := "(II)I" } : Jvm.MethodName)) ∈ gw_tbl := gw_mem (i := 1178) (by decide +kernel) (by decide +kernel)
set_option maxRecDepth 100000 in
theorem wd_1179 : (Jvm.Cond.code ({ cls := "UnlikeCoinsModel", name := "together", desc := "(II)I" } : Jvm.MethodName) prog_14_method_34_code (4 : Nat) (Option.some Jvm.ClassFile.FieldType.int)) ∈ gw_tbl := gw_mem (i := 1179) rfl (by decide +kernel)
theorem wd_1180 : (Jvm.Cond.methodLink "UnlikeCoinsModel" (207 : Nat) ({ cls := "UnlikeCoinsModel", name := "leftNow", desc := "(I)I" } : Jvm.MethodName)) ∈ gw_tbl := gw_mem (i := 1180) (by decide +kernel) (by decide +kernel)
theorem wd_1182 : (Jvm.Cond.instanceMethod ({ cls := "UnlikeCoinsModel", name := "leftNow", desc := "(I)I" } : Jvm.MethodName)) ∈ gw_tbl := gw_mem (i := 1182) (by decide +kernel) (by decide +kernel)
set_option maxRecDepth 100000 in
theorem wd_1183 : (Jvm.Cond.code ({ cls := "UnlikeCoinsModel", name := "leftNow", desc := "(I)I" } : Jvm.MethodName) prog_14_method_44_code (4 : Nat) (Option.some Jvm.ClassFile.FieldType.int)) ∈ gw_tbl := gw_mem (i := 1183) rfl (by decide +kernel)
theorem wd_1184 : (Jvm.Cond.methodLink "UnlikeCoinsModel" (210 : Nat) ({ cls := "UnlikeCoinsModel", name := "worthOf", desc := "(I)I" } : Jvm.MethodName)) ∈ gw_tbl := gw_mem (i := 1184) (by decide +kernel) (by decide +kernel)
theorem wd_1186 : (Jvm.Cond.instanceMethod ({ cls := "UnlikeCoinsModel", name := "worthOf", desc := "(I)I" } : Jvm.MethodName)) ∈ gw_tbl := gw_mem (i := 1186) (by decide +kernel) (by decide +kernel)
set_option maxRecDepth 100000 in
theorem wd_1187 : (Jvm.Cond.code ({ cls := "UnlikeCoinsModel", name := "worthOf", desc := "(I)I" } : Jvm.MethodName) prog_14_method_27_code (2 : Nat) (Option.some Jvm.ClassFile.FieldType.int)) ∈ gw_tbl := gw_mem (i := 1187) rfl (by decide +kernel)
theorem wd_1188 : (Jvm.Cond.methodLink "UnlikeCoinsLaw" (70 : Nat) ({ cls := "UnlikeCoinsModel", name := "buy", desc := "(II)I" } : Jvm.MethodName)) ∈ gw_tbl := gw_mem (i := 1188) (by decide +kernel) (by decide +kernel)
theorem wd_1189 : (Jvm.Cond.instanceMethod ({ cls := "UnlikeCoinsModel", name := "buy", desc := "(II)I" } : Jvm.MethodName)) ∈ gw_tbl := gw_mem (i := 1189) (by decide +kernel) (by decide +kernel)
theorem wd_1190 : (Jvm.Cond.selects "UnlikeCoinsModel" ({ cls := "UnlikeCoinsModel", name := "buy", desc := "(II)I" } : Jvm.MethodName) ({ cls := "UnlikeCoinsModel", name := "buy", desc := "(II)I" } : Jvm.MethodName)) ∈ gw_tbl := gw_mem (i := 1190) (by decide +kernel) (by decide +kernel)
set_option maxRecDepth 100000 in
theorem wd_1191 : (Jvm.Cond.code ({ cls := "UnlikeCoinsModel", name := "buy", desc := "(II)I" } : Jvm.MethodName) prog_14_method_47_code (3 : Nat) (Option.some Jvm.ClassFile.FieldType.int)) ∈ gw_tbl := gw_mem (i := 1191) rfl (by decide +kernel)
theorem wd_1192 : (Jvm.Cond.methodLink "UnlikeCoinsModel" (213 : Nat) ({ cls := "UnlikeCoinsModel", name := "comesTrue", desc := "(I)I" } : Jvm.MethodName)) ∈ gw_tbl := gw_mem (i := 1192) (by decide +kernel) (by decide +kernel)
theorem wd_1194 : (Jvm.Cond.instanceMethod ({ cls := "UnlikeCoinsModel", name := "comesTrue", desc := "(I)I" } : Jvm.MethodName)) ∈ gw_tbl := gw_mem (i := 1194) (by decide +kernel) (by decide +kernel)
set_option maxRecDepth 100000 in
theorem wd_1195 : (Jvm.Cond.code ({ cls := "UnlikeCoinsModel", name := "comesTrue", desc := "(I)I" } : Jvm.MethodName) prog_14_method_46_code (4 : Nat) (Option.some Jvm.ClassFile.FieldType.int)) ∈ gw_tbl := gw_mem (i := 1195) rfl (by decide +kernel)
theorem wd_1196 : (Jvm.Cond.methodLink "UnlikeCoinsLaw" (74 : Nat) ({ cls := "UnlikeCoinsModel", name := "two", desc := "(IIII)I" } : Jvm.MethodName)) ∈ gw_tbl := gw_mem (i := 1196) (by decide +kernel) (by decide +kernel)
theorem wd_1197 : (Jvm.Cond.instanceMethod ({ cls := "UnlikeCoinsModel", name := "two", desc := "(IIII)I" } : Jvm.MethodName)) ∈ gw_tbl := gw_mem (i := 1197) (by decide +kernel) (by decide +kernel)
theorem wd_1198 : (Jvm.Cond.selects "UnlikeCoinsModel" ({ cls := "UnlikeCoinsModel", name := "two", desc := "(IIII)I" } : Jvm.MethodName) ({ cls := "UnlikeCoinsModel", name := "two", desc := "(IIII)I" } : Jvm.MethodName)) ∈ gw_tbl := gw_mem (i := 1198) (by decide +kernel) (by decide +kernel)
set_option maxRecDepth 100000 in
theorem wd_1199 : (Jvm.Cond.code ({ cls := "UnlikeCoinsModel", name := "two", desc := "(IIII)I" } : Jvm.MethodName) prog_14_method_49_code (10 : Nat) (Option.some Jvm.ClassFile.FieldType.int)) ∈ gw_tbl := gw_mem (i := 1199) rfl (by decide +kernel)
theorem wd_1200 : (Jvm.Cond.methodLink "UnlikeCoinsModel" (216 : Nat) ({ cls := "UnlikeCoinsModel", name := "worthTwo", desc := "(IIII)I" } : Jvm.MethodName)) ∈ gw_tbl := gw_mem (i := 1200) (by decide +kernel) (by decide +kernel)
theorem wd_1202 : (Jvm.Cond.instanceMethod ({ cls := "UnlikeCoinsModel", name := "worthTwo", desc := "(IIII)I" } : Jvm.MethodName)) ∈ gw_tbl := gw_mem (i := 1202) (by decide +kernel) (by decide +kernel)
set_option maxRecDepth 100000 in
theorem wd_1203 : (Jvm.Cond.code ({ cls := "UnlikeCoinsModel", name := "worthTwo", desc := "(IIII)I" } : Jvm.MethodName) prog_14_method_48_code (6 : Nat) (Option.some Jvm.ClassFile.FieldType.int)) ∈ gw_tbl := gw_mem (i := 1203) rfl (by decide +kernel)
theorem wd_1204 : (Jvm.Cond.methodLink "UnlikeCoinsLaw" (78 : Nat) ({ cls := "UnlikeCoinsModel", name := "price", desc := "(I)I" } : Jvm.MethodName)) ∈ gw_tbl := gw_mem (i := 1204) (by decide +kernel) (by decide +kernel)
theorem wd_1205 : (Jvm.Cond.instanceMethod ({ cls := "UnlikeCoinsModel", name := "price", desc := "(I)I" } : Jvm.MethodName)) ∈ gw_tbl := gw_mem (i := 1205) (by decide +kernel) (by decide +kernel)
theorem wd_1206 : (Jvm.Cond.selects "UnlikeCoinsModel" ({ cls := "UnlikeCoinsModel", name := "price", desc := "(I)I" } : Jvm.MethodName) ({ cls := "UnlikeCoinsModel", name := "price", desc := "(I)I" } : Jvm.MethodName)) ∈ gw_tbl := gw_mem (i := 1206) (by decide +kernel) (by decide +kernel)
set_option maxRecDepth 100000 in
theorem wd_1207 : (Jvm.Cond.code ({ cls := "UnlikeCoinsModel", name := "price", desc := "(I)I" } : Jvm.MethodName) prog_14_method_51_code (8 : Nat) (Option.some Jvm.ClassFile.FieldType.int)) ∈ gw_tbl := gw_mem (i := 1207) rfl (by decide +kernel)
theorem wd_1208 : (Jvm.Cond.methodLink "UnlikeCoinsModel" (220 : Nat) ({ cls := "UnlikeCoinsModel", name := "oftenOfAll", desc := "(I)I" } : Jvm.MethodName)) ∈ gw_tbl := gw_mem (i := 1208) (by decide +kernel) (by decide +kernel)
theorem wd_1210 : (Jvm.Cond.instanceMethod ({ cls := "UnlikeCoinsModel", name := "oftenOfAll", desc := "(I)I" } : Jvm.MethodName)) ∈ gw_tbl := gw_mem (i := 1210) (by decide +kernel) (by decide +kernel)
set_option maxRecDepth 100000 in
theorem wd_1211 : (Jvm.Cond.code ({ cls := "UnlikeCoinsModel", name := "oftenOfAll", desc := "(I)I" } : Jvm.MethodName) prog_14_method_50_code (4 : Nat) (Option.some Jvm.ClassFile.FieldType.int)) ∈ gw_tbl := gw_mem (i := 1211) rfl (by decide +kernel)
theorem wd_1212 : (Jvm.Cond.methodLink "UnlikeCoinsLaw" (82 : Nat) ({ cls := "UnlikeCoinsModel", name := "idle", desc := "(II)I" } : Jvm.MethodName)) ∈ gw_tbl := gw_mem (i := 1212) (by decide +kernel) (by decide +kernel)
theorem wd_1213 : (Jvm.Cond.instanceMethod ({ cls := "UnlikeCoinsModel", name := "idle", desc := "(II)I" } : Jvm.MethodName)) ∈ gw_tbl := gw_mem (i := 1213) (by decide +kernel) (by decide +kernel)
theorem wd_1214 : (Jvm.Cond.selects "UnlikeCoinsModel" ({ cls := "UnlikeCoinsModel", name := "idle", desc := "(II)I" } : Jvm.MethodName) ({ cls := "UnlikeCoinsModel", name := "idle", desc := "(II)I" } : Jvm.MethodName)) ∈ gw_tbl := gw_mem (i := 1214) (by decide +kernel) (by decide +kernel)
set_option maxRecDepth 100000 in
theorem wd_1215 : (Jvm.Cond.code ({ cls := "UnlikeCoinsModel", name := "idle", desc := "(II)I" } : Jvm.MethodName) prog_14_method_52_code (3 : Nat) (Option.some Jvm.ClassFile.FieldType.int)) ∈ gw_tbl := gw_mem (i := 1215) rfl (by decide +kernel)
theorem wd_1216 : (Jvm.Cond.methodLink "UnlikeCoinsLaw" (86 : Nat) ({ cls := "UnlikeCoinsModel", name := "dearest", desc := "(II)I" } : Jvm.MethodName)) ∈ gw_tbl := gw_mem (i := 1216) (by decide +kernel) (by decide +kernel)
theorem wd_1217 : (Jvm.Cond.instanceMethod ({ cls := "UnlikeCoinsModel", name := "dearest", desc := "(II)I" } : Jvm.MethodName)) ∈ gw_tbl := gw_mem (i := 1217) (by decide +kernel) (by decide +kernel)
theorem wd_1218 : (Jvm.Cond.selects "UnlikeCoinsModel" ({ cls := "UnlikeCoinsModel", name := "dearest", desc := "(II)I" } : Jvm.MethodName) ({ cls := "UnlikeCoinsModel", name := "dearest", desc := "(II)I" } : Jvm.MethodName)) ∈ gw_tbl := gw_mem (i := 1218) (by decide +kernel) (by decide +kernel)
set_option maxRecDepth 100000 in
theorem wd_1219 : (Jvm.Cond.code ({ cls := "UnlikeCoinsModel", name := "dearest", desc := "(II)I" } : Jvm.MethodName) prog_14_method_53_code (4 : Nat) (Option.some Jvm.ClassFile.FieldType.int)) ∈ gw_tbl := gw_mem (i := 1219) rfl (by decide +kernel)
theorem wd_1220 : (Jvm.Cond.methodLink "UnlikeCoinsLaw" (90 : Nat) ({ cls := "UnlikeCoinsModel", name := "swap", desc := "(III)I" } : Jvm.MethodName)) ∈ gw_tbl := gw_mem (i := 1220) (by decide +kernel) (by decide +kernel)
theorem wd_1221 : (Jvm.Cond.instanceMethod ({ cls := "UnlikeCoinsModel", name := "swap", desc := "(III)I" } : Jvm.MethodName)) ∈ gw_tbl := gw_mem (i := 1221) (by decide +kernel) (by decide +kernel)
theorem wd_1222 : (Jvm.Cond.selects "UnlikeCoinsModel" ({ cls := "UnlikeCoinsModel", name := "swap", desc := "(III)I" } : Jvm.MethodName) ({ cls := "UnlikeCoinsModel", name := "swap", desc := "(III)I" } : Jvm.MethodName)) ∈ gw_tbl := gw_mem (i := 1222) (by decide +kernel) (by decide +kernel)
set_option maxRecDepth 100000 in
theorem wd_1223 : (Jvm.Cond.code ({ cls := "UnlikeCoinsModel", name := "swap", desc := "(III)I" } : Jvm.MethodName) prog_14_method_57_code (4 : Nat) (Option.some Jvm.ClassFile.FieldType.int)) ∈ gw_tbl := gw_mem (i := 1223) rfl (by decide +kernel)
theorem wd_1224 : (Jvm.Cond.methodLink "UnlikeCoinsModel" (223 : Nat) ({ cls := "UnlikeCoinsModel", name := "areTwo", desc := "(II)Z" } : Jvm.MethodName)) ∈ gw_tbl := gw_mem (i := 1224) (by decide +kernel) (by decide +kernel)
theorem wd_1226 : (Jvm.Cond.instanceMethod ({ cls := "UnlikeCoinsModel", name := "areTwo", desc := "(II)Z" } : Jvm.MethodName)) ∈ gw_tbl := gw_mem (i := 1226) (by decide +kernel) (by decide +kernel)
set_option maxRecDepth 100000 in
theorem wd_1227 : (Jvm.Cond.code ({ cls := "UnlikeCoinsModel", name := "areTwo", desc := "(II)Z" } : Jvm.MethodName) prog_14_method_54_code (3 : Nat) (Option.some Jvm.ClassFile.FieldType.boolean)) ∈ gw_tbl := gw_mem (i := 1227) rfl (by decide +kernel)
theorem wd_1228 : (Jvm.Cond.methodLink "UnlikeCoinsModel" (227 : Nat) ({ cls := "UnlikeCoinsModel", name := "canSwap", desc := "(IIII)Z" } : Jvm.MethodName)) ∈ gw_tbl := gw_mem (i := 1228) (by decide +kernel) (by decide +kernel)
theorem wd_1230 : (Jvm.Cond.instanceMethod ({ cls := "UnlikeCoinsModel", name := "canSwap", desc := "(IIII)Z" } : Jvm.MethodName)) ∈ gw_tbl := gw_mem (i := 1230) (by decide +kernel) (by decide +kernel)
set_option maxRecDepth 100000 in
theorem wd_1231 : (Jvm.Cond.code ({ cls := "UnlikeCoinsModel", name := "canSwap", desc := "(IIII)Z" } : Jvm.MethodName) prog_14_method_55_code (5 : Nat) (Option.some Jvm.ClassFile.FieldType.boolean)) ∈ gw_tbl := gw_mem (i := 1231) rfl (by decide +kernel)
theorem wd_1232 : (Jvm.Cond.methodLink "UnlikeCoinsModel" (231 : Nat) ({ cls := "UnlikeCoinsModel", name := "swaps", desc := "(IIII)V" } : Jvm.MethodName)) ∈ gw_tbl := gw_mem (i := 1232) (by decide +kernel) (by decide +kernel)
theorem wd_1234 : (Jvm.Cond.instanceMethod ({ cls := "UnlikeCoinsModel", name := "swaps", desc := "(IIII)V" } : Jvm.MethodName)) ∈ gw_tbl := gw_mem (i := 1234) (by decide +kernel) (by decide +kernel)
set_option maxRecDepth 100000 in
theorem wd_1235 : (Jvm.Cond.code ({ cls := "UnlikeCoinsModel", name := "swaps", desc := "(IIII)V" } : Jvm.MethodName) prog_14_method_56_code (5 : Nat) (Option.none : Option Jvm.ClassFile.FieldType)) ∈ gw_tbl := gw_mem (i := 1235) rfl (by decide +kernel)
theorem wd_1236 : (Jvm.Cond.methodLink "UnlikeCoinsModel" (235 : Nat) ({ cls := "UnlikeCoinsModel", name := "feeOf", desc := "(II)I" } : Jvm.MethodName)) ∈ gw_tbl := gw_mem (i := 1236) (by decide +kernel) (by decide +kernel)
theorem wd_1238 : (Jvm.Cond.instanceMethod ({ cls := "UnlikeCoinsModel", name := "feeOf", desc := "(II)I" } : Jvm.MethodName)) ∈ gw_tbl := gw_mem (i := 1238) (by decide +kernel) (by decide +kernel)
set_option maxRecDepth 100000 in
theorem wd_1239 : (Jvm.Cond.code ({ cls := "UnlikeCoinsModel", name := "feeOf", desc := "(II)I" } : Jvm.MethodName) prog_14_method_28_code (3 : Nat) (Option.some Jvm.ClassFile.FieldType.int)) ∈ gw_tbl := gw_mem (i := 1239) rfl (by decide +kernel)
theorem wd_1240 : (Jvm.Cond.methodLink "UnlikeCoinsLaw" (94 : Nat) ({ cls := "UnlikeCoinsModel", name := "best", desc := "(IIII)I" } : Jvm.MethodName)) ∈ gw_tbl := gw_mem (i := 1240) (by decide +kernel) (by decide +kernel)
theorem wd_1241 : (Jvm.Cond.instanceMethod ({ cls := "UnlikeCoinsModel", name := "best", desc := "(IIII)I" } : Jvm.MethodName)) ∈ gw_tbl := gw_mem (i := 1241) (by decide +kernel) (by decide +kernel)
theorem wd_1242 : (Jvm.Cond.selects "UnlikeCoinsModel" ({ cls := "UnlikeCoinsModel", name := "best", desc := "(IIII)I" } : Jvm.MethodName) ({ cls := "UnlikeCoinsModel", name := "best", desc := "(IIII)I" } : Jvm.MethodName)) ∈ gw_tbl := gw_mem (i := 1242) (by decide +kernel) (by decide +kernel)
set_option maxRecDepth 100000 in
theorem wd_1243 : (Jvm.Cond.code ({ cls := "UnlikeCoinsModel", name := "best", desc := "(IIII)I" } : Jvm.MethodName) prog_14_method_58_code (14 : Nat) (Option.some Jvm.ClassFile.FieldType.int)) ∈ gw_tbl := gw_mem (i := 1243) rfl (by decide +kernel)
theorem wd_1244 : (Jvm.Cond.methodLink "UnlikeCoinsLaw" (98 : Nat) ({ cls := "UnlikeCoinsModel", name := "lacks", desc := "(II)I" } : Jvm.MethodName)) ∈ gw_tbl := gw_mem (i := 1244) (by decide +kernel) (by decide +kernel)
theorem wd_1245 : (Jvm.Cond.instanceMethod ({ cls := "UnlikeCoinsModel", name := "lacks", desc := "(II)I" } : Jvm.MethodName)) ∈ gw_tbl := gw_mem (i := 1245) (by decide +kernel) (by decide +kernel)
theorem wd_1246 : (Jvm.Cond.selects "UnlikeCoinsModel" ({ cls := "UnlikeCoinsModel", name := "lacks", desc := "(II)I" } : Jvm.MethodName) ({ cls := "UnlikeCoinsModel", name := "lacks", desc := "(II)I" } : Jvm.MethodName)) ∈ gw_tbl := gw_mem (i := 1246) (by decide +kernel) (by decide +kernel)
set_option maxRecDepth 100000 in
theorem wd_1247 : (Jvm.Cond.code ({ cls := "UnlikeCoinsModel", name := "lacks", desc := "(II)I" } : Jvm.MethodName) prog_14_method_60_code (7 : Nat) (Option.some Jvm.ClassFile.FieldType.int)) ∈ gw_tbl := gw_mem (i := 1247) rfl (by decide +kernel)
theorem wd_1248 : (Jvm.Cond.methodLink "UnlikeCoinsModel" (238 : Nat) ({ cls := "UnlikeCoinsModel", name := "oftenWithMore", desc := "(II)I" } : Jvm.MethodName)) ∈ gw_tbl := gw_mem (i := 1248) (by decide +kernel) (by decide +kernel)
theorem wd_1250 : (Jvm.Cond.instanceMethod ({ cls := "UnlikeCoinsModel", name := "oftenWithMore", desc := "(II)I" } : Jvm.MethodName)) ∈ gw_tbl := gw_mem (i := 1250) (by decide +kernel) (by decide +kernel)
set_option maxRecDepth 100000 in
theorem wd_1251 : (Jvm.Cond.code ({ cls := "UnlikeCoinsModel", name := "oftenWithMore", desc := "(II)I" } : Jvm.MethodName) prog_14_method_59_code (5 : Nat) (Option.some Jvm.ClassFile.FieldType.int)) ∈ gw_tbl := gw_mem (i := 1251) rfl (by decide +kernel)
theorem wd_1252 : (Jvm.Cond.methodLink "UnlikeCoinsLaw" (102 : Nat) ({ cls := "UnlikeCoinsModel", name := "thief", desc := "(III)I" } : Jvm.MethodName)) ∈ gw_tbl := gw_mem (i := 1252) (by decide +kernel) (by decide +kernel)
theorem wd_1253 : (Jvm.Cond.instanceMethod ({ cls := "UnlikeCoinsModel", name := "thief", desc := "(III)I" } : Jvm.MethodName)) ∈ gw_tbl := gw_mem (i := 1253) (by decide +kernel) (by decide +kernel)
theorem wd_1254 : (Jvm.Cond.selects "UnlikeCoinsModel" ({ cls := "UnlikeCoinsModel", name := "thief", desc := "(III)I" } : Jvm.MethodName) ({ cls := "UnlikeCoinsModel", name := "thief", desc := "(III)I" } : Jvm.MethodName)) ∈ gw_tbl := gw_mem (i := 1254) (by decide +kernel) (by decide +kernel)
set_option maxRecDepth 100000 in
theorem wd_1255 : (Jvm.Cond.code ({ cls := "UnlikeCoinsModel", name := "thief", desc := "(III)I" } : Jvm.MethodName) prog_14_method_61_code (8 : Nat) (Option.some Jvm.ClassFile.FieldType.int)) ∈ gw_tbl := gw_mem (i := 1255) rfl (by decide +kernel)
theorem wd_1256 : (Jvm.Cond.methodLink "UnlikeCoinsLaw" (106 : Nat) ({ cls := "UnlikeCoinsModel", name := "rob", desc := "(I)I" } : Jvm.MethodName)) ∈ gw_tbl := gw_mem (i := 1256) (by decide +kernel) (by decide +kernel)
theorem wd_1257 : (Jvm.Cond.instanceMethod ({ cls := "UnlikeCoinsModel", name := "rob", desc := "(I)I" } : Jvm.MethodName)) ∈ gw_tbl := gw_mem (i := 1257) (by decide +kernel) (by decide +kernel)
theorem wd_1258 : (Jvm.Cond.selects "UnlikeCoinsModel" ({ cls := "UnlikeCoinsModel", name := "rob", desc := "(I)I" } : Jvm.MethodName) ({ cls := "UnlikeCoinsModel", name := "rob", desc := "(I)I" } : Jvm.MethodName)) ∈ gw_tbl := gw_mem (i := 1258) (by decide +kernel) (by decide +kernel)
set_option maxRecDepth 100000 in
theorem wd_1259 : (Jvm.Cond.code ({ cls := "UnlikeCoinsModel", name := "rob", desc := "(I)I" } : Jvm.MethodName) prog_14_method_62_code (4 : Nat) (Option.some Jvm.ClassFile.FieldType.int)) ∈ gw_tbl := gw_mem (i := 1259) rfl (by decide +kernel)
theorem wd_1260 : (Jvm.Cond.methodLink "UnlikeCoinsLaw" (110 : Nat) ({ cls := "UnlikeCoinsModel", name := "wage", desc := "(IIII)I" } : Jvm.MethodName)) ∈ gw_tbl := gw_mem (i := 1260) (by decide +kernel) (by decide +kernel)
theorem wd_1261 : (Jvm.Cond.instanceMethod ({ cls := "UnlikeCoinsModel", name := "wage", desc := "(IIII)I" } : Jvm.MethodName)) ∈ gw_tbl := gw_mem (i := 1261) (by decide +kernel) (by decide +kernel)
theorem wd_1262 : (Jvm.Cond.selects "UnlikeCoinsModel" ({ cls := "UnlikeCoinsModel", name := "wage", desc := "(IIII)I" } : Jvm.MethodName) ({ cls := "UnlikeCoinsModel", name := "wage", desc := "(IIII)I" } : Jvm.MethodName)) ∈ gw_tbl := gw_mem (i := 1262) (by decide +kernel) (by decide +kernel)
set_option maxRecDepth 100000 in
theorem wd_1263 : (Jvm.Cond.code ({ cls := "UnlikeCoinsModel", name := "wage", desc := "(IIII)I" } : Jvm.MethodName) prog_14_method_66_code (9 : Nat) (Option.some Jvm.ClassFile.FieldType.int)) ∈ gw_tbl := gw_mem (i := 1263) rfl (by decide +kernel)
theorem wd_1264 : (Jvm.Cond.methodLink "UnlikeCoinsModel" (241 : Nat) ({ cls := "UnlikeCoinsModel", name := "oftenWithRow", desc := "(III)I" } : Jvm.MethodName)) ∈ gw_tbl := gw_mem (i := 1264) (by decide +kernel) (by decide +kernel)
theorem wd_1266 : (Jvm.Cond.instanceMethod ({ cls := "UnlikeCoinsModel", name := "oftenWithRow", desc := "(III)I" } : Jvm.MethodName)) ∈ gw_tbl := gw_mem (i := 1266) (by decide +kernel) (by decide +kernel)
set_option maxRecDepth 100000 in
theorem wd_1267 : (Jvm.Cond.code ({ cls := "UnlikeCoinsModel", name := "oftenWithRow", desc := "(III)I" } : Jvm.MethodName) prog_14_method_64_code (5 : Nat) (Option.some Jvm.ClassFile.FieldType.int)) ∈ gw_tbl := gw_mem (i := 1267) rfl (by decide +kernel)
theorem wd_1268 : (Jvm.Cond.methodLink "UnlikeCoinsModel" (244 : Nat) ({ cls := "UnlikeCoinsModel", name := "rowDigits", desc := "(I)I" } : Jvm.MethodName)) ∈ gw_tbl := gw_mem (i := 1268) (by decide +kernel) (by decide +kernel)
theorem wd_1270 : (Jvm.Cond.instanceMethod ({ cls := "UnlikeCoinsModel", name := "rowDigits", desc := "(I)I" } : Jvm.MethodName)) ∈ gw_tbl := gw_mem (i := 1270) (by decide +kernel) (by decide +kernel)
set_option maxRecDepth 100000 in
theorem wd_1271 : (Jvm.Cond.code ({ cls := "UnlikeCoinsModel", name := "rowDigits", desc := "(I)I" } : Jvm.MethodName) prog_14_method_65_code (4 : Nat) (Option.some Jvm.ClassFile.FieldType.int)) ∈ gw_tbl := gw_mem (i := 1271) rfl (by decide +kernel)
theorem wd_1272 : (Jvm.Cond.methodLink "UnlikeCoinsModel" (247 : Nat) ({ cls := "UnlikeCoinsModel", name := "nextRow", desc := "(I)Z" } : Jvm.MethodName)) ∈ gw_tbl := gw_mem (i := 1272) (by decide +kernel) (by decide +kernel)
theorem wd_1274 : (Jvm.Cond.instanceMethod ({ cls := "UnlikeCoinsModel", name := "nextRow", desc := "(I)Z" } : Jvm.MethodName)) ∈ gw_tbl := gw_mem (i := 1274) (by decide +kernel) (by decide +kernel)
set_option maxRecDepth 100000 in
theorem wd_1275 : (Jvm.Cond.code ({ cls := "UnlikeCoinsModel", name := "nextRow", desc := "(I)Z" } : Jvm.MethodName) prog_14_method_63_code (5 : Nat) (Option.some Jvm.ClassFile.FieldType.boolean)) ∈ gw_tbl := gw_mem (i := 1275) rfl (by decide +kernel)
theorem wd_1276 : (Jvm.Cond.methodLink "UnlikeCoinsLaw" (114 : Nat) ({ cls := "UnlikeCoinsModel", name := "strike", desc := "(II)I" } : Jvm.MethodName)) ∈ gw_tbl := gw_mem (i := 1276) (by decide +kernel) (by decide +kernel)
theorem wd_1277 : (Jvm.Cond.instanceMethod ({ cls := "UnlikeCoinsModel", name := "strike", desc := "(II)I" } : Jvm.MethodName)) ∈ gw_tbl := gw_mem (i := 1277) (by decide +kernel) (by decide +kernel)
theorem wd_1278 : (Jvm.Cond.selects "UnlikeCoinsModel" ({ cls := "UnlikeCoinsModel", name := "strike", desc := "(II)I" } : Jvm.MethodName) ({ cls := "UnlikeCoinsModel", name := "strike", desc := "(II)I" } : Jvm.MethodName)) ∈ gw_tbl := gw_mem (i := 1278) (by decide +kernel) (by decide +kernel)
set_option maxRecDepth 100000 in
theorem wd_1279 : (Jvm.Cond.code ({ cls := "UnlikeCoinsModel", name := "strike", desc := "(II)I" } : Jvm.MethodName) prog_14_method_67_code (6 : Nat) (Option.some Jvm.ClassFile.FieldType.int)) ∈ gw_tbl := gw_mem (i := 1279) rfl (by decide +kernel)
theorem wd_1280 : (Jvm.Cond.methodLink "UnlikeCoinsLaw" (118 : Nat) ({ cls := "UnlikeCoinsModel", name := "pass", desc := "()I" } : Jvm.MethodName)) ∈ gw_tbl := gw_mem (i := 1280) (by decide +kernel) (by decide +kernel)
theorem wd_1281 : (Jvm.Cond.instanceMethod ({ cls := "UnlikeCoinsModel", name := "pass", desc := "()I" } : Jvm.MethodName)) ∈ gw_tbl := gw_mem (i := 1281) (by decide +kernel) (by decide +kernel)
theorem wd_1282 : (Jvm.Cond.selects "UnlikeCoinsModel" ({ cls := "UnlikeCoinsModel", name := "pass", desc := "()I" } : Jvm.MethodName) ({ cls := "UnlikeCoinsModel", name := "pass", desc := "()I" } : Jvm.MethodName)) ∈ gw_tbl := gw_mem (i := 1282) (by decide +kernel) (by decide +kernel)
set_option maxRecDepth 100000 in
theorem wd_1283 : (Jvm.Cond.code ({ cls := "UnlikeCoinsModel", name := "pass", desc := "()I" } : Jvm.MethodName) prog_14_method_68_code (6 : Nat) (Option.some Jvm.ClassFile.FieldType.int)) ∈ gw_tbl := gw_mem (i := 1283) rfl (by decide +kernel)
theorem wd_1284 : (Jvm.Cond.methodLink "UnlikeCoinsModel" (250 : Nat) ({ cls := "UnlikeCoinsModel", name := "remains", desc := "(II)I" } : Jvm.MethodName)) ∈ gw_tbl := gw_mem (i := 1284) (by decide +kernel) (by decide +kernel)
theorem wd_1286 : (Jvm.Cond.instanceMethod ({ cls := "UnlikeCoinsModel", name := "remains", desc := "(II)I" } : Jvm.MethodName)) ∈ gw_tbl := gw_mem (i := 1286) (by decide +kernel) (by decide +kernel)
set_option maxRecDepth 100000 in
theorem wd_1287 : (Jvm.Cond.code ({ cls := "UnlikeCoinsModel", name := "remains", desc := "(II)I" } : Jvm.MethodName) prog_14_method_35_code (3 : Nat) (Option.some Jvm.ClassFile.FieldType.int)) ∈ gw_tbl := gw_mem (i := 1287) rfl (by decide +kernel)
theorem wd_1288 : (Jvm.Cond.methodLink "UnlikeCoinsLaw" (122 : Nat) ({ cls := "UnlikeCoinsModel", name := "judge", desc := "(II)I" } : Jvm.MethodName)) ∈ gw_tbl := gw_mem (i := 1288) (by decide +kernel) (by decide +kernel)
theorem wd_1289 : (Jvm.Cond.instanceMethod ({ cls := "UnlikeCoinsModel", name := "judge", desc := "(II)I" } : Jvm.MethodName)) ∈ gw_tbl := gw_mem (i := 1289) (by decide +kernel) (by decide +kernel)
theorem wd_1290 : (Jvm.Cond.selects "UnlikeCoinsModel" ({ cls := "UnlikeCoinsModel", name := "judge", desc := "(II)I" } : Jvm.MethodName) ({ cls := "UnlikeCoinsModel", name := "judge", desc := "(II)I" } : Jvm.MethodName)) ∈ gw_tbl := gw_mem (i := 1290) (by decide +kernel) (by decide +kernel)
set_option maxRecDepth 100000 in
theorem wd_1291 : (Jvm.Cond.code ({ cls := "UnlikeCoinsModel", name := "judge", desc := "(II)I" } : Jvm.MethodName) prog_14_method_72_code (4 : Nat) (Option.some Jvm.ClassFile.FieldType.int)) ∈ gw_tbl := gw_mem (i := 1291) rfl (by decide +kernel)
theorem wd_1292 : (Jvm.Cond.methodLink "UnlikeCoinsModel" (256 : Nat) ({ cls := "UnlikeCoinsModel", name := "sheetWrong", desc := "(I)I" } : Jvm.MethodName)) ∈ gw_tbl := gw_mem (i := 1292) (by decide +kernel) (by decide +kernel)
theorem wd_1294 : (Jvm.Cond.instanceMethod ({ cls := "UnlikeCoinsModel", name := "sheetWrong", desc := "(I)I" } : Jvm.MethodName)) ∈ gw_tbl := gw_mem (i := 1294) (by decide +kernel) (by decide +kernel)
set_option maxRecDepth 100000 in
theorem wd_1295 : (Jvm.Cond.code ({ cls := "UnlikeCoinsModel", name := "sheetWrong", desc := "(I)I" } : Jvm.MethodName) prog_14_method_69_code (2 : Nat) (Option.some Jvm.ClassFile.FieldType.int)) ∈ gw_tbl := gw_mem (i := 1295) rfl (by decide +kernel)
theorem wd_1296 : (Jvm.Cond.methodLink "UnlikeCoinsModel" (259 : Nat) ({ cls := "UnlikeCoinsModel", name := "unlike", desc := "(II)I" } : Jvm.MethodName)) ∈ gw_tbl := gw_mem (i := 1296) (by decide +kernel) (by decide +kernel)
theorem wd_1298 : (Jvm.Cond.instanceMethod ({ cls := "UnlikeCoinsModel", name := "unlike", desc := "(II)I" } : Jvm.MethodName)) ∈ gw_tbl := gw_mem (i := 1298) (by decide +kernel) (by decide +kernel)
set_option maxRecDepth 100000 in
theorem wd_1299 : (Jvm.Cond.code ({ cls := "UnlikeCoinsModel", name := "unlike", desc := "(II)I" } : Jvm.MethodName) prog_14_method_71_code (4 : Nat) (Option.some Jvm.ClassFile.FieldType.int)) ∈ gw_tbl := gw_mem (i := 1299) rfl (by decide +kernel)
theorem wd_1300 : (Jvm.Cond.methodLink "UnlikeCoinsModel" (253 : Nat) ({ cls := "UnlikeCoinsModel", name := "unlikeThought", desc := "(I)I" } : Jvm.MethodName)) ∈ gw_tbl := gw_mem (i := 1300) (by decide +kernel) (by decide +kernel)
theorem wd_1302 : (Jvm.Cond.instanceMethod ({ cls := "UnlikeCoinsModel", name := "unlikeThought", desc := "(I)I" } : Jvm.MethodName)) ∈ gw_tbl := gw_mem (i := 1302) (by decide +kernel) (by decide +kernel)
set_option maxRecDepth 100000 in
theorem wd_1303 : (Jvm.Cond.code ({ cls := "UnlikeCoinsModel", name := "unlikeThought", desc := "(I)I" } : Jvm.MethodName) prog_14_method_70_code (4 : Nat) (Option.some Jvm.ClassFile.FieldType.int)) ∈ gw_tbl := gw_mem (i := 1303) rfl (by decide +kernel)
theorem wd_1304 : (Jvm.Cond.methodLink "UnlikeCoinsLaw" (126 : Nat) ({ cls := "UnlikeCoinsModel", name := "whose", desc := "(I)I" } : Jvm.MethodName)) ∈ gw_tbl := gw_mem (i := 1304) (by decide +kernel) (by decide +kernel)
theorem wd_1305 : (Jvm.Cond.instanceMethod ({ cls := "UnlikeCoinsModel", name := "whose", desc := "(I)I" } : Jvm.MethodName)) ∈ gw_tbl := gw_mem (i := 1305) (by decide +kernel) (by decide +kernel)
theorem wd_1306 : (Jvm.Cond.selects "UnlikeCoinsModel" ({ cls := "UnlikeCoinsModel", name := "whose", desc := "(I)I" } : Jvm.MethodName) ({ cls := "UnlikeCoinsModel", name := "whose", desc := "(I)I" } : Jvm.MethodName)) ∈ gw_tbl := gw_mem (i := 1306) (by decide +kernel) (by decide +kernel)
set_option maxRecDepth 100000 in
theorem wd_1307 : (Jvm.Cond.code ({ cls := "UnlikeCoinsModel", name := "whose", desc := "(I)I" } : Jvm.MethodName) prog_14_method_73_code (5 : Nat) (Option.some Jvm.ClassFile.FieldType.int)) ∈ gw_tbl := gw_mem (i := 1307) rfl (by decide +kernel)
theorem wd_1308 : (Jvm.Cond.methodLink "UnlikeCoinsLaw" (130 : Nat) ({ cls := "UnlikeCoinsModel", name := "was", desc := "(II)I" } : Jvm.MethodName)) ∈ gw_tbl := gw_mem (i := 1308) (by decide +kernel) (by decide +kernel)
theorem wd_1309 : (Jvm.Cond.instanceMethod ({ cls := "UnlikeCoinsModel", name := "was", desc := "(II)I" } : Jvm.MethodName)) ∈ gw_tbl := gw_mem (i := 1309) (by decide +kernel) (by decide +kernel)
theorem wd_1310 : (Jvm.Cond.selects "UnlikeCoinsModel" ({ cls := "UnlikeCoinsModel", name := "was", desc := "(II)I" } : Jvm.MethodName) ({ cls := "UnlikeCoinsModel", name := "was", desc := "(II)I" } : Jvm.MethodName)) ∈ gw_tbl := gw_mem (i := 1310) (by decide +kernel) (by decide +kernel)
set_option maxRecDepth 100000 in
theorem wd_1311 : (Jvm.Cond.code ({ cls := "UnlikeCoinsModel", name := "was", desc := "(II)I" } : Jvm.MethodName) prog_14_method_74_code (9 : Nat) (Option.some Jvm.ClassFile.FieldType.int)) ∈ gw_tbl := gw_mem (i := 1311) rfl (by decide +kernel)
theorem wd_1312 : (Jvm.Cond.methodLink "UnlikeCoinsLaw" (134 : Nat) ({ cls := "UnlikeCoinsModel", name := "film", desc := "(III)I" } : Jvm.MethodName)) ∈ gw_tbl := gw_mem (i := 1312) (by decide +kernel) (by decide +kernel)
theorem wd_1313 : (Jvm.Cond.instanceMethod ({ cls := "UnlikeCoinsModel", name := "film", desc := "(III)I" } : Jvm.MethodName)) ∈ gw_tbl := gw_mem (i := 1313) (by decide +kernel) (by decide +kernel)
theorem wd_1314 : (Jvm.Cond.selects "UnlikeCoinsModel" ({ cls := "UnlikeCoinsModel", name := "film", desc := "(III)I" } : Jvm.MethodName) ({ cls := "UnlikeCoinsModel", name := "film", desc := "(III)I" } : Jvm.MethodName)) ∈ gw_tbl := gw_mem (i := 1314) (by decide +kernel) (by decide +kernel)
set_option maxRecDepth 100000 in
theorem wd_1315 : (Jvm.Cond.code ({ cls := "UnlikeCoinsModel", name := "film", desc := "(III)I" } : Jvm.MethodName) prog_14_method_75_code (5 : Nat) (Option.some Jvm.ClassFile.FieldType.int)) ∈ gw_tbl := gw_mem (i := 1315) rfl (by decide +kernel)
theorem wd_1316 : (Jvm.Cond.methodLink "UnlikeCoinsLaw" (138 : Nat) ({ cls := "UnlikeCoinsModel", name := "laws", desc := "(III)I" } : Jvm.MethodName)) ∈ gw_tbl := gw_mem (i := 1316) (by decide +kernel) (by decide +kernel)
theorem wd_1317 : (Jvm.Cond.instanceMethod ({ cls := "UnlikeCoinsModel", name := "laws", desc := "(III)I" } : Jvm.MethodName)) ∈ gw_tbl := gw_mem (i := 1317) (by decide +kernel) (by decide +kernel)
theorem wd_1318 : (Jvm.Cond.selects "UnlikeCoinsModel" ({ cls := "UnlikeCoinsModel", name := "laws", desc := "(III)I" } : Jvm.MethodName) ({ cls := "UnlikeCoinsModel", name := "laws", desc := "(III)I" } : Jvm.MethodName)) ∈ gw_tbl := gw_mem (i := 1318) (by decide +kernel) (by decide +kernel)
set_option maxRecDepth 100000 in
theorem wd_1319 : (Jvm.Cond.code ({ cls := "UnlikeCoinsModel", name := "laws", desc := "(III)I" } : Jvm.MethodName) prog_14_method_76_code (8 : Nat) (Option.some Jvm.ClassFile.FieldType.int)) ∈ gw_tbl := gw_mem (i := 1319) rfl (by decide +kernel)
theorem wd_1320 : (Jvm.Cond.constant "UnlikeCoinsModel" (262 : Nat) (99999 : Int32)) ∈ gw_tbl := gw_mem (i := 1320) (by decide +kernel) (by decide +kernel)
theorem wd_1321 : (Jvm.Cond.methodLink "UnlikeCoinsLaw" (142 : Nat) ({ cls := "UnlikeCoinsModel", name := "drawn", desc := "(II)I" } : Jvm.MethodName)) ∈ gw_tbl := gw_mem (i := 1321) (by decide +kernel) (by decide +kernel)
theorem wd_1322 : (Jvm.Cond.instanceMethod ({ cls := "UnlikeCoinsModel", name := "drawn", desc := "(II)I" } : Jvm.MethodName)) ∈ gw_tbl := gw_mem (i := 1322) (by decide +kernel) (by decide +kernel)
theorem wd_1323 : (Jvm.Cond.selects "UnlikeCoinsModel" ({ cls := "UnlikeCoinsModel", name := "drawn", desc := "(II)I" } : Jvm.MethodName) ({ cls := "UnlikeCoinsModel", name := "drawn", desc := "(II)I" } : Jvm.MethodName)) ∈ gw_tbl := gw_mem (i := 1323) (by decide +kernel) (by decide +kernel)
set_option maxRecDepth 100000 in
theorem wd_1324 : (Jvm.Cond.code ({ cls := "UnlikeCoinsModel", name := "drawn", desc := "(II)I" } : Jvm.MethodName) prog_14_method_79_code (3 : Nat) (Option.some Jvm.ClassFile.FieldType.int)) ∈ gw_tbl := gw_mem (i := 1324) rfl (by decide +kernel)
theorem wd_1325 : (Jvm.Cond.methodLink "UnlikeCoinsModel" (272 : Nat) ({ cls := "UnlikeCoinsModel", name := "isDrawn", desc := "(II)Z" } : Jvm.MethodName)) ∈ gw_tbl := gw_mem (i := 1325) (by decide +kernel) (by decide +kernel)
theorem wd_1326 : (Jvm.Cond.static ({ cls := "UnlikeCoinsModel", name := "isDrawn", desc := "(II)Z" } : Jvm.MethodName)) ∈ gw_tbl := gw_mem (i := 1326) (by decide +kernel) (by decide +kernel)
set_option maxRecDepth 100000 in
theorem wd_1327 : (Jvm.Cond.code ({ cls := "UnlikeCoinsModel", name := "isDrawn", desc := "(II)Z" } : Jvm.MethodName) prog_14_method_78_code (2 : Nat) (Option.some Jvm.ClassFile.FieldType.boolean)) ∈ gw_tbl := gw_mem (i := 1327) rfl (by decide +kernel)
theorem wd_1328 : (Jvm.Cond.methodLink "UnlikeCoinsModel" (275 : Nat) ({ cls := "UnlikeCoinsModel", name := "couldBy", desc := "(II)I" } : Jvm.MethodName)) ∈ gw_tbl := gw_mem (i := 1328) (by decide +kernel) (by decide +kernel)
theorem wd_1330 : (Jvm.Cond.instanceMethod ({ cls := "UnlikeCoinsModel", name := "couldBy", desc := "(II)I" } : Jvm.MethodName)) ∈ gw_tbl := gw_mem (i := 1330) (by decide +kernel) (by decide +kernel)
set_option maxRecDepth 100000 in
theorem wd_1331 : (Jvm.Cond.code ({ cls := "UnlikeCoinsModel", name := "couldBy", desc := "(II)I" } : Jvm.MethodName) prog_14_method_77_code (8 : Nat) (Option.some Jvm.ClassFile.FieldType.int)) ∈ gw_tbl := gw_mem (i := 1331) rfl (by decide +kernel)
theorem wd_1332 : (Jvm.Cond.constantLong "UnlikeCoinsModel" (263 : Nat) (48271 : Int64)) ∈ gw_tbl := gw_mem (i := 1332) (by decide +kernel) (by decide +kernel)
theorem wd_1333 : (Jvm.Cond.constantLong "UnlikeCoinsModel" (265 : Nat) (2147483647 : Int64)) ∈ gw_tbl := gw_mem (i := 1333) (by decide +kernel) (by decide +kernel)
theorem wd_1334 : (Jvm.Cond.constantLong "UnlikeCoinsModel" (267 : Nat) (6 : Int64)) ∈ gw_tbl := gw_mem (i := 1334) (by decide +kernel) (by decide +kernel)
theorem wd_1335 : (Jvm.Cond.methodLink "UnlikeCoinsModel" (269 : Nat) ({ cls := "UnlikeCoinsModel", name := "buy", desc := "(II)I" } : Jvm.MethodName)) ∈ gw_tbl := gw_mem (i := 1335) (by decide +kernel) (by decide +kernel)
theorem wd_1336 : (Jvm.Cond.methodLink "UnlikeCoinsLaw" (147 : Nat) ({ cls := "UnlikeCoinsModel", name := "mean", desc := "(IIII)J" } : Jvm.MethodName)) ∈ gw_tbl := gw_mem (i := 1336) (by decide +kernel) (by decide +kernel)
theorem wd_1337 : (Jvm.Cond.instanceMethod ({ cls := "UnlikeCoinsModel", name := "mean", desc := "(IIII)J" } : Jvm.MethodName)) ∈ gw_tbl := gw_mem (i := 1337) (by decide +kernel) (by decide +kernel)
theorem wd_1338 : (Jvm.Cond.selects "UnlikeCoinsModel" ({ cls := "UnlikeCoinsModel", name := "mean", desc := "(IIII)J" } : Jvm.MethodName) ({ cls := "UnlikeCoinsModel", name := "mean", desc := "(IIII)J" } : Jvm.MethodName)) ∈ gw_tbl := gw_mem (i := 1338) (by decide +kernel) (by decide +kernel)
set_option maxRecDepth 100000 in
theorem wd_1339 : (Jvm.Cond.code ({ cls := "UnlikeCoinsModel", name := "mean", desc := "(IIII)J" } : Jvm.MethodName) prog_14_method_81_code (8 : Nat) (Option.some Jvm.ClassFile.FieldType.long)) ∈ gw_tbl := gw_mem (i := 1339) rfl (by decide +kernel)
theorem wd_1340 : (Jvm.Cond.constantLong "UnlikeCoinsModel" (278 : Nat) (-4611686018427387904 : Int64)) ∈ gw_tbl := gw_mem (i := 1340) (by decide +kernel) (by decide +kernel)
theorem wd_1341 : (Jvm.Cond.methodLink "UnlikeCoinsModel" (280 : Nat) ({ cls := "UnlikeCoinsModel", name := "lowest", desc := "(JJI)J" } : Jvm.MethodName)) ∈ gw_tbl := gw_mem (i := 1341) (by decide +kernel) (by decide +kernel)
theorem wd_1342 : (Jvm.Cond.static ({ cls := "UnlikeCoinsModel", name := "lowest", desc := "(JJI)J" } : Jvm.MethodName)) ∈ gw_tbl := gw_mem (i := 1342) (by decide +kernel) (by decide +kernel)
set_option maxRecDepth 100000 in
theorem wd_1343 : (Jvm.Cond.code ({ cls := "UnlikeCoinsModel", name := "lowest", desc := "(JJI)J" } : Jvm.MethodName) prog_14_method_80_code (11 : Nat) (Option.some Jvm.ClassFile.FieldType.long)) ∈ gw_tbl := gw_mem (i := 1343) rfl (by decide +kernel)
theorem wd_1344 : (Jvm.Cond.methodLink "UnlikeCoinsLaw" (151 : Nat) ({ cls := "UnlikeCoinsModel", name := "image", desc := "()I" } : Jvm.MethodName)) ∈ gw_tbl := gw_mem (i := 1344) (by decide +kernel) (by decide +kernel)
theorem wd_1345 : (Jvm.Cond.instanceMethod ({ cls := "UnlikeCoinsModel", name := "image", desc := "()I" } : Jvm.MethodName)) ∈ gw_tbl := gw_mem (i := 1345) (by decide +kernel) (by decide +kernel)
theorem wd_1346 : (Jvm.Cond.selects "UnlikeCoinsModel" ({ cls := "UnlikeCoinsModel", name := "image", desc := "()I" } : Jvm.MethodName) ({ cls := "UnlikeCoinsModel", name := "image", desc := "()I" } : Jvm.MethodName)) ∈ gw_tbl := gw_mem (i := 1346) (by decide +kernel) (by decide +kernel)
set_option maxRecDepth 100000 in
theorem wd_1347 : (Jvm.Cond.code ({ cls := "UnlikeCoinsModel", name := "image", desc := "()I" } : Jvm.MethodName) prog_14_method_82_code (2 : Nat) (Option.some Jvm.ClassFile.FieldType.int)) ∈ gw_tbl := gw_mem (i := 1347) rfl (by decide +kernel)
theorem wd_1348 : (Jvm.Cond.methodLink "UnlikeCoinsLaw" (155 : Nat) ({ cls := "UnlikeCoinsModel", name := "back", desc := "()I" } : Jvm.MethodName)) ∈ gw_tbl := gw_mem (i := 1348) (by decide +kernel) (by decide +kernel)
theorem wd_1349 : (Jvm.Cond.instanceMethod ({ cls := "UnlikeCoinsModel", name := "back", desc := "()I" } : Jvm.MethodName)) ∈ gw_tbl := gw_mem (i := 1349) (by decide +kernel) (by decide +kernel)
theorem wd_1350 : (Jvm.Cond.selects "UnlikeCoinsModel" ({ cls := "UnlikeCoinsModel", name := "back", desc := "()I" } : Jvm.MethodName) ({ cls := "UnlikeCoinsModel", name := "back", desc := "()I" } : Jvm.MethodName)) ∈ gw_tbl := gw_mem (i := 1350) (by decide +kernel) (by decide +kernel)
set_option maxRecDepth 100000 in
theorem wd_1351 : (Jvm.Cond.code ({ cls := "UnlikeCoinsModel", name := "back", desc := "()I" } : Jvm.MethodName) prog_14_method_83_code (2 : Nat) (Option.some Jvm.ClassFile.FieldType.int)) ∈ gw_tbl := gw_mem (i := 1351) rfl (by decide +kernel)
theorem wd_1352 : (Jvm.Cond.methodLink "UnlikeCoinsLaw" (159 : Nat) ({ cls := "UnlikeCoinsModel", name := "sheet", desc := "(III)I" } : Jvm.MethodName)) ∈ gw_tbl := gw_mem (i := 1352) (by decide +kernel) (by decide +kernel)
theorem wd_1353 : (Jvm.Cond.instanceMethod ({ cls := "UnlikeCoinsModel", name := "sheet", desc := "(III)I" } : Jvm.MethodName)) ∈ gw_tbl := gw_mem (i := 1353) (by decide +kernel) (by decide +kernel)
theorem wd_1354 : (Jvm.Cond.selects "UnlikeCoinsModel" ({ cls := "UnlikeCoinsModel", name := "sheet", desc := "(III)I" } : Jvm.MethodName) ({ cls := "UnlikeCoinsModel", name := "sheet", desc := "(III)I" } : Jvm.MethodName)) ∈ gw_tbl := gw_mem (i := 1354) (by decide +kernel) (by decide +kernel)
set_option maxRecDepth 100000 in
theorem wd_1355 : (Jvm.Cond.code ({ cls := "UnlikeCoinsModel", name := "sheet", desc := "(III)I" } : Jvm.MethodName) prog_14_method_84_code (5 : Nat) (Option.some Jvm.ClassFile.FieldType.int)) ∈ gw_tbl := gw_mem (i := 1355) rfl (by decide +kernel)
theorem wd_1356 : (Jvm.Cond.methodLink "UnlikeCoinsLaw" (163 : Nat) ({ cls := "UnlikeCoinsModel", name := "cell", desc := "(III)I" } : Jvm.MethodName)) ∈ gw_tbl := gw_mem (i := 1356) (by decide +kernel) (by decide +kernel)
theorem wd_1357 : (Jvm.Cond.instanceMethod ({ cls := "UnlikeCoinsModel", name := "cell", desc := "(III)I" } : Jvm.MethodName)) ∈ gw_tbl := gw_mem (i := 1357) (by decide +kernel) (by decide +kernel)
theorem wd_1358 : (Jvm.Cond.selects "UnlikeCoinsModel" ({ cls := "UnlikeCoinsModel", name := "cell", desc := "(III)I" } : Jvm.MethodName) ({ cls := "UnlikeCoinsModel", name := "cell", desc := "(III)I" } : Jvm.MethodName)) ∈ gw_tbl := gw_mem (i := 1358) (by decide +kernel) (by decide +kernel)
set_option maxRecDepth 100000 in
theorem wd_1359 : (Jvm.Cond.code ({ cls := "UnlikeCoinsModel", name := "cell", desc := "(III)I" } : Jvm.MethodName) prog_14_method_85_code (4 : Nat) (Option.some Jvm.ClassFile.FieldType.int)) ∈ gw_tbl := gw_mem (i := 1359) rfl (by decide +kernel)
theorem wd_1360 : (Jvm.Cond.methodLink "UnlikeCoinsLaw" (168 : Nat) ({ cls := "UnlikeCoinsModel", name := "copy", desc := "(IIIII)I" } : Jvm.MethodName)) ∈ gw_tbl := gw_mem (i := 1360) (by decide +kernel) (by decide +kernel)
theorem wd_1361 : (Jvm.Cond.instanceMethod ({ cls := "UnlikeCoinsModel", name := "copy", desc := "(IIIII)I" } : Jvm.MethodName)) ∈ gw_tbl := gw_mem (i := 1361) (by decide +kernel) (by decide +kernel)
theorem wd_1362 : (Jvm.Cond.selects "UnlikeCoinsModel" ({ cls := "UnlikeCoinsModel", name := "copy", desc := "(IIIII)I" } : Jvm.MethodName) ({ cls := "UnlikeCoinsModel", name := "copy", desc := "(IIIII)I" } : Jvm.MethodName)) ∈ gw_tbl := gw_mem (i := 1362) (by decide +kernel) (by decide +kernel)
set_option maxRecDepth 100000 in
theorem wd_1363 : (Jvm.Cond.code ({ cls := "UnlikeCoinsModel", name := "copy", desc := "(IIIII)I" } : Jvm.MethodName) prog_14_method_86_code (10 : Nat) (Option.some Jvm.ClassFile.FieldType.int)) ∈ gw_tbl := gw_mem (i := 1363) rfl (by decide +kernel)
theorem wd_1364 : (Jvm.Cond.methodLink "UnlikeCoinsLaw" (172 : Nat) ({ cls := "UnlikeCoinsModel", name := "coinsBy", desc := "(IIII)I" } : Jvm.MethodName)) ∈ gw_tbl := gw_mem (i := 1364) (by decide +kernel) (by decide +kernel)
theorem wd_1365 : (Jvm.Cond.instanceMethod ({ cls := "UnlikeCoinsModel", name := "coinsBy", desc := "(IIII)I" } : Jvm.MethodName)) ∈ gw_tbl := gw_mem (i := 1365) (by decide +kernel) (by decide +kernel)
theorem wd_1366 : (Jvm.Cond.selects "UnlikeCoinsModel" ({ cls := "UnlikeCoinsModel", name := "coinsBy", desc := "(IIII)I" } : Jvm.MethodName) ({ cls := "UnlikeCoinsModel", name := "coinsBy", desc := "(IIII)I" } : Jvm.MethodName)) ∈ gw_tbl := gw_mem (i := 1366) (by decide +kernel) (by decide +kernel)
set_option maxRecDepth 100000 in
theorem wd_1367 : (Jvm.Cond.code ({ cls := "UnlikeCoinsModel", name := "coinsBy", desc := "(IIII)I" } : Jvm.MethodName) prog_14_method_87_code (9 : Nat) (Option.some Jvm.ClassFile.FieldType.int)) ∈ gw_tbl := gw_mem (i := 1367) rfl (by decide +kernel)
theorem wd_1368 : (Jvm.Cond.methodLink "UnlikeCoinsModel" (300 : Nat) ({ cls := "UnlikeCoinsModel", name := "set", desc := "(III)I" } : Jvm.MethodName)) ∈ gw_tbl := gw_mem (i := 1368) (by decide +kernel) (by decide +kernel)
theorem wd_1369 : (Jvm.Cond.methodLink "UnlikeCoinsLaw" (176 : Nat) ({ cls := "UnlikeCoinsModel", name := "taken", desc := "(II)I" } : Jvm.MethodName)) ∈ gw_tbl := gw_mem (i := 1369) (by decide +kernel) (by decide +kernel)
theorem wd_1370 : (Jvm.Cond.instanceMethod ({ cls := "UnlikeCoinsModel", name := "taken", desc := "(II)I" } : Jvm.MethodName)) ∈ gw_tbl := gw_mem (i := 1370) (by decide +kernel) (by decide +kernel)
theorem wd_1371 : (Jvm.Cond.selects "UnlikeCoinsModel" ({ cls := "UnlikeCoinsModel", name := "taken", desc := "(II)I" } : Jvm.MethodName) ({ cls := "UnlikeCoinsModel", name := "taken", desc := "(II)I" } : Jvm.MethodName)) ∈ gw_tbl := gw_mem (i := 1371) (by decide +kernel) (by decide +kernel)
set_option maxRecDepth 100000 in
theorem wd_1372 : (Jvm.Cond.code ({ cls := "UnlikeCoinsModel", name := "taken", desc := "(II)I" } : Jvm.MethodName) prog_14_method_89_code (4 : Nat) (Option.some Jvm.ClassFile.FieldType.int)) ∈ gw_tbl := gw_mem (i := 1372) rfl (by decide +kernel)
theorem wd_1373 : (Jvm.Cond.methodLink "UnlikeCoinsModel" (303 : Nat) ({ cls := "UnlikeCoinsModel", name := "coinsOf", desc := "(I)I" } : Jvm.MethodName)) ∈ gw_tbl := gw_mem (i := 1373) (by decide +kernel) (by decide +kernel)
theorem wd_1375 : (Jvm.Cond.instanceMethod ({ cls := "UnlikeCoinsModel", name := "coinsOf", desc := "(I)I" } : Jvm.MethodName)) ∈ gw_tbl := gw_mem (i := 1375) (by decide +kernel) (by decide +kernel)
set_option maxRecDepth 100000 in
theorem wd_1376 : (Jvm.Cond.code ({ cls := "UnlikeCoinsModel", name := "coinsOf", desc := "(I)I" } : Jvm.MethodName) prog_14_method_37_code (4 : Nat) (Option.some Jvm.ClassFile.FieldType.int)) ∈ gw_tbl := gw_mem (i := 1376) rfl (by decide +kernel)
theorem wd_1377 : (Jvm.Cond.methodLink "UnlikeCoinsModel" (306 : Nat) ({ cls := "UnlikeCoinsModel", name := "isUnder", desc := "(II)Z" } : Jvm.MethodName)) ∈ gw_tbl := gw_mem (i := 1377) (by decide +kernel) (by decide +kernel)
theorem wd_1378 : (Jvm.Cond.static ({ cls := "UnlikeCoinsModel", name := "isUnder", desc := "(II)Z" } : Jvm.MethodName)) ∈ gw_tbl := gw_mem (i := 1378) (by decide +kernel) (by decide +kernel)
set_option maxRecDepth 100000 in
theorem wd_1379 : (Jvm.Cond.code ({ cls := "UnlikeCoinsModel", name := "isUnder", desc := "(II)Z" } : Jvm.MethodName) prog_14_method_88_code (2 : Nat) (Option.some Jvm.ClassFile.FieldType.boolean)) ∈ gw_tbl := gw_mem (i := 1379) rfl (by decide +kernel)
theorem wd_1380 : (Jvm.Cond.sameMethod "UnlikeCoins$Scarce" "UnlikeCoins$Scarce" "worthOf" "(I)I") ∈ gw_tbl := gw_mem (i := 1380) (by decide +kernel) (by decide +kernel)
theorem wd_1381 : (Jvm.Cond.sameMethod "UnlikeCoins$Common" "UnlikeCoins$Common" "together" "(I)I") ∈ gw_tbl := gw_mem (i := 1381) (by decide +kernel) (by decide +kernel)
theorem wd_1389 : (Jvm.Cond.fieldLink "java/lang/String" (9 : Nat) "java/lang/String" "value" "[B") ∈ gw_tbl := gw_mem (i := 1389) (by decide +kernel) (by decide +kernel)
theorem wd_1390 : (Jvm.Cond.fieldLink "java/lang/String" (15 : Nat) "java/lang/String" "coder" "B") ∈ gw_tbl := gw_mem (i := 1390) (by decide +kernel) (by decide +kernel)
end
section
section RULES1
variable {g : Gt} {y : Mth} {d rc rs pc : Nat} {lv : List (Nat × Value)} {st : List Value} {z : Zs} {I : Is} {Q : Option Value → Zs → Is → Prop}
theorem r_iadd {x y0 : Int32} (hd : decode y.2.1 pc = .ok (.iadd, 1))  (k : WPc g y d rc rs (pc + 1) lv (.int (x + y0) :: st) z I Q) : WPc g y d rc rs (pc) lv (.int y0 :: .int x :: st) z I Q := fun p l e R s m args below meth c H locs cells slots ls C h1 h2 h3 h4 hX hW hS hg hl => lv_iadd C.1 C.2.1 hd (k p l e R s m args below meth c H locs cells slots ls C h1 h2 h3 h4 hX hW hS hg hl)
theorem r_isub {x y0 : Int32} (hd : decode y.2.1 pc = .ok (.isub, 1))  (k : WPc g y d rc rs (pc + 1) lv (.int (x - y0) :: st) z I Q) : WPc g y d rc rs (pc) lv (.int y0 :: .int x :: st) z I Q := fun p l e R s m args below meth c H locs cells slots ls C h1 h2 h3 h4 hX hW hS hg hl => lv_isub C.1 C.2.1 hd (k p l e R s m args below meth c H locs cells slots ls C h1 h2 h3 h4 hX hW hS hg hl)
theorem r_imul {x y0 : Int32} (hd : decode y.2.1 pc = .ok (.imul, 1))  (k : WPc g y d rc rs (pc + 1) lv (.int (x * y0) :: st) z I Q) : WPc g y d rc rs (pc) lv (.int y0 :: .int x :: st) z I Q := fun p l e R s m args below meth c H locs cells slots ls C h1 h2 h3 h4 hX hW hS hg hl => lv_imul C.1 C.2.1 hd (k p l e R s m args below meth c H locs cells slots ls C h1 h2 h3 h4 hX hW hS hg hl)
theorem r_iand {x y0 : Int32} (hd : decode y.2.1 pc = .ok (.iand, 1))  (k : WPc g y d rc rs (pc + 1) lv (.int (x &&& y0) :: st) z I Q) : WPc g y d rc rs (pc) lv (.int y0 :: .int x :: st) z I Q := fun p l e R s m args below meth c H locs cells slots ls C h1 h2 h3 h4 hX hW hS hg hl => lv_iand C.1 C.2.1 hd (k p l e R s m args below meth c H locs cells slots ls C h1 h2 h3 h4 hX hW hS hg hl)
theorem r_ior {x y0 : Int32} (hd : decode y.2.1 pc = .ok (.ior, 1))  (k : WPc g y d rc rs (pc + 1) lv (.int (x ||| y0) :: st) z I Q) : WPc g y d rc rs (pc) lv (.int y0 :: .int x :: st) z I Q := fun p l e R s m args below meth c H locs cells slots ls C h1 h2 h3 h4 hX hW hS hg hl => lv_ior C.1 C.2.1 hd (k p l e R s m args below meth c H locs cells slots ls C h1 h2 h3 h4 hX hW hS hg hl)
theorem r_ishl {x y0 : Int32} (hd : decode y.2.1 pc = .ok (.ishl, 1))  (k : WPc g y d rc rs (pc + 1) lv (.int (x <<< (y0 &&& 31)) :: st) z I Q) : WPc g y d rc rs (pc) lv (.int y0 :: .int x :: st) z I Q := fun p l e R s m args below meth c H locs cells slots ls C h1 h2 h3 h4 hX hW hS hg hl => lv_ishl C.1 C.2.1 hd (k p l e R s m args below meth c H locs cells slots ls C h1 h2 h3 h4 hX hW hS hg hl)
theorem r_ishr {x y0 : Int32} (hd : decode y.2.1 pc = .ok (.ishr, 1))  (k : WPc g y d rc rs (pc + 1) lv (.int (x >>> (y0 &&& 31)) :: st) z I Q) : WPc g y d rc rs (pc) lv (.int y0 :: .int x :: st) z I Q := fun p l e R s m args below meth c H locs cells slots ls C h1 h2 h3 h4 hX hW hS hg hl => lv_ishr C.1 C.2.1 hd (k p l e R s m args below meth c H locs cells slots ls C h1 h2 h3 h4 hX hW hS hg hl)
theorem r_idiv {x y0 : Int32} (hd : decode y.2.1 pc = .ok (.idiv, 1)) (hne : ¬ y0 = 0) (k : WPc g y d rc rs (pc + 1) lv (.int (x / y0) :: st) z I Q) : WPc g y d rc rs (pc) lv (.int y0 :: .int x :: st) z I Q := fun p l e R s m args below meth c H locs cells slots ls C h1 h2 h3 h4 hX hW hS hg hl => lv_idiv C.1 C.2.1 hd hne (k p l e R s m args below meth c H locs cells slots ls C h1 h2 h3 h4 hX hW hS hg hl)
theorem r_irem {x y0 : Int32} (hd : decode y.2.1 pc = .ok (.irem, 1)) (hne : ¬ y0 = 0) (k : WPc g y d rc rs (pc + 1) lv (.int (x - x / y0 * y0) :: st) z I Q) : WPc g y d rc rs (pc) lv (.int y0 :: .int x :: st) z I Q := fun p l e R s m args below meth c H locs cells slots ls C h1 h2 h3 h4 hX hW hS hg hl => lv_irem C.1 C.2.1 hd hne (k p l e R s m args below meth c H locs cells slots ls C h1 h2 h3 h4 hX hW hS hg hl)
theorem r_ladd {x y0 : Int64} (hd : decode y.2.1 pc = .ok (.ladd, 1))  (k : WPc g y d rc rs (pc + 1) lv (.long (x + y0) :: st) z I Q) : WPc g y d rc rs (pc) lv (.long y0 :: .long x :: st) z I Q := fun p l e R s m args below meth c H locs cells slots ls C h1 h2 h3 h4 hX hW hS hg hl => lv_ladd C.1 C.2.1 hd (k p l e R s m args below meth c H locs cells slots ls C h1 h2 h3 h4 hX hW hS hg hl)
theorem r_lmul {x y0 : Int64} (hd : decode y.2.1 pc = .ok (.lmul, 1))  (k : WPc g y d rc rs (pc + 1) lv (.long (x * y0) :: st) z I Q) : WPc g y d rc rs (pc) lv (.long y0 :: .long x :: st) z I Q := fun p l e R s m args below meth c H locs cells slots ls C h1 h2 h3 h4 hX hW hS hg hl => lv_lmul C.1 C.2.1 hd (k p l e R s m args below meth c H locs cells slots ls C h1 h2 h3 h4 hX hW hS hg hl)
theorem r_ldiv {x y0 : Int64} (hd : decode y.2.1 pc = .ok (.ldiv, 1)) (hne : ¬ y0 = 0) (k : WPc g y d rc rs (pc + 1) lv (.long (x / y0) :: st) z I Q) : WPc g y d rc rs (pc) lv (.long y0 :: .long x :: st) z I Q := fun p l e R s m args below meth c H locs cells slots ls C h1 h2 h3 h4 hX hW hS hg hl => lv_ldiv C.1 C.2.1 hd hne (k p l e R s m args below meth c H locs cells slots ls C h1 h2 h3 h4 hX hW hS hg hl)
theorem r_lrem {x y0 : Int64} (hd : decode y.2.1 pc = .ok (.lrem, 1)) (hne : ¬ y0 = 0) (k : WPc g y d rc rs (pc + 1) lv (.long (x - x / y0 * y0) :: st) z I Q) : WPc g y d rc rs (pc) lv (.long y0 :: .long x :: st) z I Q := fun p l e R s m args below meth c H locs cells slots ls C h1 h2 h3 h4 hX hW hS hg hl => lv_lrem C.1 C.2.1 hd hne (k p l e R s m args below meth c H locs cells slots ls C h1 h2 h3 h4 hX hW hS hg hl)
theorem r_lcmp {x y0 : Int64} (hd : decode y.2.1 pc = .ok (.lcmp, 1))  (k : WPc g y d rc rs (pc + 1) lv (.int (lg_cmp x y0) :: st) z I Q) : WPc g y d rc rs (pc) lv (.long y0 :: .long x :: st) z I Q := fun p l e R s m args below meth c H locs cells slots ls C h1 h2 h3 h4 hX hW hS hg hl => W.lcmp C.1 C.2.1 hd (k p l e R s m args below meth c H locs cells slots ls C h1 h2 h3 h4 hX hW hS hg hl)
theorem r_ineg {x : Int32} (hd : decode y.2.1 pc = .ok (.ineg, 1))  (k : WPc g y d rc rs (pc + 1) lv (.int (-x) :: st) z I Q) : WPc g y d rc rs (pc) lv (.int x :: st) z I Q := fun p l e R s m args below meth c H locs cells slots ls C h1 h2 h3 h4 hX hW hS hg hl => lv_ineg C.1 C.2.1 hd (k p l e R s m args below meth c H locs cells slots ls C h1 h2 h3 h4 hX hW hS hg hl)
theorem r_i2l {x : Int32} (hd : decode y.2.1 pc = .ok (.i2l, 1))  (k : WPc g y d rc rs (pc + 1) lv (.long (x.toInt64) :: st) z I Q) : WPc g y d rc rs (pc) lv (.int x :: st) z I Q := fun p l e R s m args below meth c H locs cells slots ls C h1 h2 h3 h4 hX hW hS hg hl => lv_i2l C.1 C.2.1 hd rfl (k p l e R s m args below meth c H locs cells slots ls C h1 h2 h3 h4 hX hW hS hg hl)
theorem r_l2i {x : Int64} (hd : decode y.2.1 pc = .ok (.l2i, 1))  (k : WPc g y d rc rs (pc + 1) lv (.int (x.toInt32) :: st) z I Q) : WPc g y d rc rs (pc) lv (.long x :: st) z I Q := fun p l e R s m args below meth c H locs cells slots ls C h1 h2 h3 h4 hX hW hS hg hl => lv_l2i C.1 C.2.1 hd rfl (k p l e R s m args below meth c H locs cells slots ls C h1 h2 h3 h4 hX hW hS hg hl)
theorem r_i2b {x : Int32} (hd : decode y.2.1 pc = .ok (.i2b, 1))  (k : WPc g y d rc rs (pc + 1) lv (.int (x.toInt8.toInt32) :: st) z I Q) : WPc g y d rc rs (pc) lv (.int x :: st) z I Q := fun p l e R s m args below meth c H locs cells slots ls C h1 h2 h3 h4 hX hW hS hg hl => lv_i2b C.1 C.2.1 hd rfl (k p l e R s m args below meth c H locs cells slots ls C h1 h2 h3 h4 hX hW hS hg hl)
theorem r_i2s {x : Int32} (hd : decode y.2.1 pc = .ok (.i2s, 1))  (k : WPc g y d rc rs (pc + 1) lv (.int (x.toInt16.toInt32) :: st) z I Q) : WPc g y d rc rs (pc) lv (.int x :: st) z I Q := fun p l e R s m args below meth c H locs cells slots ls C h1 h2 h3 h4 hX hW hS hg hl => lv_i2s C.1 C.2.1 hd rfl (k p l e R s m args below meth c H locs cells slots ls C h1 h2 h3 h4 hX hW hS hg hl)
theorem r_i2c {x : Int32} (hd : decode y.2.1 pc = .ok (.i2c, 1))  (k : WPc g y d rc rs (pc + 1) lv (.int ((x.toUInt32 % 65536).toInt32) :: st) z I Q) : WPc g y d rc rs (pc) lv (.int x :: st) z I Q := fun p l e R s m args below meth c H locs cells slots ls C h1 h2 h3 h4 hX hW hS hg hl => lv_i2c C.1 C.2.1 hd rfl (k p l e R s m args below meth c H locs cells slots ls C h1 h2 h3 h4 hX hW hS hg hl)
theorem r_iconst {n : Int} (hd : decode y.2.1 pc = .ok (.iconst n, 1))  (k : WPc g y d rc rs (pc + 1) lv (.int (Int32.ofInt n) :: st) z I Q) : WPc g y d rc rs (pc) lv (st) z I Q := fun p l e R s m args below meth c H locs cells slots ls C h1 h2 h3 h4 hX hW hS hg hl => lv_iconst C.1 C.2.1 hd rfl (k p l e R s m args below meth c H locs cells slots ls C h1 h2 h3 h4 hX hW hS hg hl)
theorem r_bipush {n : Int} (hd : decode y.2.1 pc = .ok (.bipush n, 2))  (k : WPc g y d rc rs (pc + 2) lv (.int (Int8.ofInt n).toInt32 :: st) z I Q) : WPc g y d rc rs (pc) lv (st) z I Q := fun p l e R s m args below meth c H locs cells slots ls C h1 h2 h3 h4 hX hW hS hg hl => lv_bipush C.1 C.2.1 hd rfl (k p l e R s m args below meth c H locs cells slots ls C h1 h2 h3 h4 hX hW hS hg hl)
theorem r_sipush {n : Int} (hd : decode y.2.1 pc = .ok (.sipush n, 3))  (k : WPc g y d rc rs (pc + 3) lv (.int (Int16.ofInt n).toInt32 :: st) z I Q) : WPc g y d rc rs (pc) lv (st) z I Q := fun p l e R s m args below meth c H locs cells slots ls C h1 h2 h3 h4 hX hW hS hg hl => lv_sipush C.1 C.2.1 hd rfl (k p l e R s m args below meth c H locs cells slots ls C h1 h2 h3 h4 hX hW hS hg hl)
theorem r_lconst {n : Fin 2} (hd : decode y.2.1 pc = .ok (.lconst n, 1))  (k : WPc g y d rc rs (pc + 1) lv (.long (Int64.ofNat n.val) :: st) z I Q) : WPc g y d rc rs (pc) lv (st) z I Q := fun p l e R s m args below meth c H locs cells slots ls C h1 h2 h3 h4 hX hW hS hg hl => lv_lconst C.1 C.2.1 hd rfl (k p l e R s m args below meth c H locs cells slots ls C h1 h2 h3 h4 hX hW hS hg hl)
theorem r_null  (hd : decode y.2.1 pc = .ok (.aconst_null, 1))  (k : WPc g y d rc rs (pc + 1) lv (.null :: st) z I Q) : WPc g y d rc rs (pc) lv (st) z I Q := fun p l e R s m args below meth c H locs cells slots ls C h1 h2 h3 h4 hX hW hS hg hl => lv_null C.1 C.2.1 hd (k p l e R s m args below meth c H locs cells slots ls C h1 h2 h3 h4 hX hW hS hg hl)
theorem r_dup {v : Value} (hd : decode y.2.1 pc = .ok (.dup, 1)) (hv : v.category = 1) (k : WPc g y d rc rs (pc + 1) lv (v :: v :: st) z I Q) : WPc g y d rc rs (pc) lv (v :: st) z I Q := fun p l e R s m args below meth c H locs cells slots ls C h1 h2 h3 h4 hX hW hS hg hl => lv_dup C.1 C.2.1 hd (by rw [lf_cat]; exact hv) (k p l e R s m args below meth c H locs cells slots ls C h1 h2 h3 h4 hX hW hS hg hl)
theorem r_pop {v : Value} (hd : decode y.2.1 pc = .ok (.pop, 1)) (hv : v.category = 1) (k : WPc g y d rc rs (pc + 1) lv (st) z I Q) : WPc g y d rc rs (pc) lv (v :: st) z I Q := fun p l e R s m args below meth c H locs cells slots ls C h1 h2 h3 h4 hX hW hS hg hl => lv_pop C.1 C.2.1 hd (by rw [lf_cat]; exact hv) (k p l e R s m args below meth c H locs cells slots ls C h1 h2 h3 h4 hX hW hS hg hl)
theorem r_dup2 {v w : Value} (hd : decode y.2.1 pc = .ok (.dup2, 1)) (hv : v.category = 1) (hw : w.category = 1) (k : WPc g y d rc rs (pc + 1) lv (v :: w :: v :: w :: st) z I Q) : WPc g y d rc rs (pc) lv (v :: w :: st) z I Q := fun p l e R s m args below meth c H locs cells slots ls C h1 h2 h3 h4 hX hW hS hg hl => lv_dup2_11 C.1 C.2.1 hd (by rw [lf_cat]; exact hv) (by rw [lf_cat]; exact hw) (k p l e R s m args below meth c H locs cells slots ls C h1 h2 h3 h4 hX hW hS hg hl)
theorem r_iload_n {n : Fin 4} {x : Int32} (hd : decode y.2.1 pc = .ok (.iload_n n, 1)) (hv : lk lv n.val = some (.int x)) (k : WPc g y d rc rs (pc + 1) lv (.int x :: st) z I Q) : WPc g y d rc rs (pc) lv (st) z I Q := fun p l e R s m args below meth c H locs cells slots ls C h1 h2 h3 h4 hX hW hS hg hl => lv_iload_n C.1 C.2.1 hd rfl (lfs_look hl (lk_mem hv)) (k p l e R s m args below meth c H locs cells slots ls C h1 h2 h3 h4 hX hW hS hg hl)
theorem r_iload {n : Nat} {x : Int32} (hd : decode y.2.1 pc = .ok (.iload n, 2)) (hv : lk lv n = some (.int x)) (k : WPc g y d rc rs (pc + 2) lv (.int x :: st) z I Q) : WPc g y d rc rs (pc) lv (st) z I Q := fun p l e R s m args below meth c H locs cells slots ls C h1 h2 h3 h4 hX hW hS hg hl => lv_iload C.1 C.2.1 hd (lfs_look hl (lk_mem hv)) (k p l e R s m args below meth c H locs cells slots ls C h1 h2 h3 h4 hX hW hS hg hl)
theorem r_lload_n {n : Fin 4} {x : Int64} (hd : decode y.2.1 pc = .ok (.lload_n n, 1)) (hv : lk lv n.val = some (.long x)) (k : WPc g y d rc rs (pc + 1) lv (.long x :: st) z I Q) : WPc g y d rc rs (pc) lv (st) z I Q := fun p l e R s m args below meth c H locs cells slots ls C h1 h2 h3 h4 hX hW hS hg hl => lv_lload_n C.1 C.2.1 hd rfl (lfs_look hl (lk_mem hv)) (k p l e R s m args below meth c H locs cells slots ls C h1 h2 h3 h4 hX hW hS hg hl)
theorem r_lload {n : Nat} {x : Int64} (hd : decode y.2.1 pc = .ok (.lload n, 2)) (hv : lk lv n = some (.long x)) (k : WPc g y d rc rs (pc + 2) lv (.long x :: st) z I Q) : WPc g y d rc rs (pc) lv (st) z I Q := fun p l e R s m args below meth c H locs cells slots ls C h1 h2 h3 h4 hX hW hS hg hl => lv_lload C.1 C.2.1 hd (lfs_look hl (lk_mem hv)) (k p l e R s m args below meth c H locs cells slots ls C h1 h2 h3 h4 hX hW hS hg hl)
theorem r_aload_n {n : Fin 4} {x : Nat} (hd : decode y.2.1 pc = .ok (.aload_n n, 1)) (hv : lk lv n.val = some (.ref x)) (k : WPc g y d rc rs (pc + 1) lv (.ref x :: st) z I Q) : WPc g y d rc rs (pc) lv (st) z I Q := fun p l e R s m args below meth c H locs cells slots ls C h1 h2 h3 h4 hX hW hS hg hl => lv_aload_n C.1 C.2.1 hd rfl (lfs_look hl (lk_mem hv)) (k p l e R s m args below meth c H locs cells slots ls C h1 h2 h3 h4 hX hW hS hg hl)
theorem r_aload {n : Nat} {x : Nat} (hd : decode y.2.1 pc = .ok (.aload n, 2)) (hv : lk lv n = some (.ref x)) (k : WPc g y d rc rs (pc + 2) lv (.ref x :: st) z I Q) : WPc g y d rc rs (pc) lv (st) z I Q := fun p l e R s m args below meth c H locs cells slots ls C h1 h2 h3 h4 hX hW hS hg hl => lv_aload C.1 C.2.1 hd (lfs_look hl (lk_mem hv)) (k p l e R s m args below meth c H locs cells slots ls C h1 h2 h3 h4 hX hW hS hg hl)
theorem r_aload_nN {n : Fin 4} (hd : decode y.2.1 pc = .ok (.aload_n n, 1)) (hv : lk lv n.val = some .null) (k : WPc g y d rc rs (pc + 1) lv (.null :: st) z I Q) : WPc g y d rc rs (pc) lv (st) z I Q := fun p l e R s m args below meth c H locs cells slots ls C h1 h2 h3 h4 hX hW hS hg hl => lv_aload_nN C.1 C.2.1 hd rfl (lfs_look hl (lk_mem hv)) (k p l e R s m args below meth c H locs cells slots ls C h1 h2 h3 h4 hX hW hS hg hl)
theorem r_aloadN {n : Nat} (hd : decode y.2.1 pc = .ok (.aload n, 2)) (hv : lk lv n = some .null) (k : WPc g y d rc rs (pc + 2) lv (.null :: st) z I Q) : WPc g y d rc rs (pc) lv (st) z I Q := fun p l e R s m args below meth c H locs cells slots ls C h1 h2 h3 h4 hX hW hS hg hl => lv_aloadN C.1 C.2.1 hd (lfs_look hl (lk_mem hv)) (k p l e R s m args below meth c H locs cells slots ls C h1 h2 h3 h4 hX hW hS hg hl)
theorem r_istore_n {n : Fin 4} {x : Int32} (hd : decode y.2.1 pc = .ok (.istore_n n, 1)) (hn : n.val < y.2.2.1) (k : WPc g y d rc rs (pc + 1) (lst lv n.val (.int x)) (st) z I Q) : WPc g y d rc rs (pc) lv (.int x :: st) z I Q := fun p l e R s m args below meth c H locs cells slots ls C h1 h2 h3 h4 hX hW hS hg hl => lv_istore_n C.1 C.2.1 hd rfl hl hn (lfs_lst g lv _ (.int x)) (fun ls hl => k p l e R s m args below meth c H locs cells slots ls C h1 h2 h3 h4 hX hW hS hg hl)
theorem r_istore {n : Nat} {x : Int32} (hd : decode y.2.1 pc = .ok (.istore n, 2)) (hn : n < y.2.2.1) (k : WPc g y d rc rs (pc + 2) (lst lv n (.int x)) (st) z I Q) : WPc g y d rc rs (pc) lv (.int x :: st) z I Q := fun p l e R s m args below meth c H locs cells slots ls C h1 h2 h3 h4 hX hW hS hg hl => lv_istore C.1 C.2.1 hd hl hn (lfs_lst g lv _ (.int x)) (fun ls hl => k p l e R s m args below meth c H locs cells slots ls C h1 h2 h3 h4 hX hW hS hg hl)
theorem r_lstore_n {n : Fin 4} {x : Int64} (hd : decode y.2.1 pc = .ok (.lstore_n n, 1)) (hn : n.val + 1 < y.2.2.1) (k : WPc g y d rc rs (pc + 1) (lst2 lv n.val (.long x)) (st) z I Q) : WPc g y d rc rs (pc) lv (.long x :: st) z I Q := fun p l e R s m args below meth c H locs cells slots ls C h1 h2 h3 h4 hX hW hS hg hl => lv_lstore_n C.1 C.2.1 hd rfl hl hn (lfs_lst2 g lv _ (.long x)) (fun ls hl => k p l e R s m args below meth c H locs cells slots ls C h1 h2 h3 h4 hX hW hS hg hl)
theorem r_lstore {n : Nat} {x : Int64} (hd : decode y.2.1 pc = .ok (.lstore n, 2)) (hn : n + 1 < y.2.2.1) (k : WPc g y d rc rs (pc + 2) (lst2 lv n (.long x)) (st) z I Q) : WPc g y d rc rs (pc) lv (.long x :: st) z I Q := fun p l e R s m args below meth c H locs cells slots ls C h1 h2 h3 h4 hX hW hS hg hl => lv_lstore C.1 C.2.1 hd hl hn (lfs_lst2 g lv _ (.long x)) (fun ls hl => k p l e R s m args below meth c H locs cells slots ls C h1 h2 h3 h4 hX hW hS hg hl)
theorem r_astore_n {n : Fin 4} {x : Nat} (hd : decode y.2.1 pc = .ok (.astore_n n, 1)) (hn : n.val < y.2.2.1) (k : WPc g y d rc rs (pc + 1) (lst lv n.val (.ref x)) (st) z I Q) : WPc g y d rc rs (pc) lv (.ref x :: st) z I Q := fun p l e R s m args below meth c H locs cells slots ls C h1 h2 h3 h4 hX hW hS hg hl => lv_astore_n C.1 C.2.1 hd rfl hl hn (lfs_lst g lv _ (.ref x)) (fun ls hl => k p l e R s m args below meth c H locs cells slots ls C h1 h2 h3 h4 hX hW hS hg hl)
theorem r_astore {n : Nat} {x : Nat} (hd : decode y.2.1 pc = .ok (.astore n, 2)) (hn : n < y.2.2.1) (k : WPc g y d rc rs (pc + 2) (lst lv n (.ref x)) (st) z I Q) : WPc g y d rc rs (pc) lv (.ref x :: st) z I Q := fun p l e R s m args below meth c H locs cells slots ls C h1 h2 h3 h4 hX hW hS hg hl => lv_astore C.1 C.2.1 hd hl hn (lfs_lst g lv _ (.ref x)) (fun ls hl => k p l e R s m args below meth c H locs cells slots ls C h1 h2 h3 h4 hX hW hS hg hl)
theorem r_astore_nN {n : Fin 4} (hd : decode y.2.1 pc = .ok (.astore_n n, 1)) (hn : n.val < y.2.2.1) (k : WPc g y d rc rs (pc + 1) (lst lv n.val (.null)) (st) z I Q) : WPc g y d rc rs (pc) lv (.null :: st) z I Q := fun p l e R s m args below meth c H locs cells slots ls C h1 h2 h3 h4 hX hW hS hg hl => lv_astore_nN C.1 C.2.1 hd rfl hl hn (lfs_lst g lv _ (.null)) (fun ls hl => k p l e R s m args below meth c H locs cells slots ls C h1 h2 h3 h4 hX hW hS hg hl)
theorem r_astoreN {n : Nat} (hd : decode y.2.1 pc = .ok (.astore n, 2)) (hn : n < y.2.2.1) (k : WPc g y d rc rs (pc + 2) (lst lv n (.null)) (st) z I Q) : WPc g y d rc rs (pc) lv (.null :: st) z I Q := fun p l e R s m args below meth c H locs cells slots ls C h1 h2 h3 h4 hX hW hS hg hl => lv_astoreN C.1 C.2.1 hd hl hn (lfs_lst g lv _ (.null)) (fun ls hl => k p l e R s m args below meth c H locs cells slots ls C h1 h2 h3 h4 hX hW hS hg hl)
theorem lk_place : ∀ {lv : List (Nat × Value)} {i : Nat} {v : Value}, lk lv i = some v → ∃ k : Nat, lv[k]? = some (i, v) := fun h => List.mem_iff_getElem?.mp (lk_mem h)
theorem r_iinc {n : Nat} {a : Int} {x : Int32} (hd : decode y.2.1 pc = .ok (.iinc n a, 3)) (hv : lk lv n = some (.int x)) (hn : n < y.2.2.1) (k : WPc g y d rc rs (pc + 3) (lst lv n (.int (x + Int32.ofInt a))) (st) z I Q) : WPc g y d rc rs (pc) lv (st) z I Q := fun p l e R s m args below meth c H locs cells slots ls C h1 h2 h3 h4 hX hW hS hg hl => by
  obtain ⟨j, hj⟩ := lk_place hv
  exact lv_iinc (k := j) C.1 C.2.1 hd hl (by show (List.map _ _)[j]? = _; rw [List.getElem?_map, hj]; rfl) rfl hn (lfs_lst g lv n (.int (x + Int32.ofInt a))) (fun ls hl => k p l e R s m args below meth c H locs cells slots ls C h1 h2 h3 h4 hX hW hS hg hl)
theorem r_icmp_eq {x y0 : Int32} {off : Int} {tgt : Nat} (hd : decode y.2.1 pc = .ok (.if_icmp .eq off, 3)) (ht : (pc : Int) + off = (tgt : Int)) (kt : x = y0 → WPc g y d rc rs (tgt) lv (st) z I Q) (kf : ¬ x = y0 → WPc g y d rc rs (pc + 3) lv (st) z I Q) : WPc g y d rc rs (pc) lv (.int y0 :: .int x :: st) z I Q := fun p l e R s m args below meth c H locs cells slots ls C h1 h2 h3 h4 hX hW hS hg hl => lv_icmp_eq C.1 C.2.1 hd ht (fun q => kt q p l e R s m args below meth c H locs cells slots ls C h1 h2 h3 h4 hX hW hS hg hl) (fun q => kf q p l e R s m args below meth c H locs cells slots ls C h1 h2 h3 h4 hX hW hS hg hl)
theorem r_icmp_ne {x y0 : Int32} {off : Int} {tgt : Nat} (hd : decode y.2.1 pc = .ok (.if_icmp .ne off, 3)) (ht : (pc : Int) + off = (tgt : Int)) (kt : ¬ x = y0 → WPc g y d rc rs (tgt) lv (st) z I Q) (kf : x = y0 → WPc g y d rc rs (pc + 3) lv (st) z I Q) : WPc g y d rc rs (pc) lv (.int y0 :: .int x :: st) z I Q := fun p l e R s m args below meth c H locs cells slots ls C h1 h2 h3 h4 hX hW hS hg hl => lv_icmp_ne C.1 C.2.1 hd ht (fun q => kt q p l e R s m args below meth c H locs cells slots ls C h1 h2 h3 h4 hX hW hS hg hl) (fun q => kf q p l e R s m args below meth c H locs cells slots ls C h1 h2 h3 h4 hX hW hS hg hl)
theorem r_icmp_lt {x y0 : Int32} {off : Int} {tgt : Nat} (hd : decode y.2.1 pc = .ok (.if_icmp .lt off, 3)) (ht : (pc : Int) + off = (tgt : Int)) (kt : x < y0 → WPc g y d rc rs (tgt) lv (st) z I Q) (kf : ¬ x < y0 → WPc g y d rc rs (pc + 3) lv (st) z I Q) : WPc g y d rc rs (pc) lv (.int y0 :: .int x :: st) z I Q := fun p l e R s m args below meth c H locs cells slots ls C h1 h2 h3 h4 hX hW hS hg hl => lv_icmp_lt C.1 C.2.1 hd ht (fun q => kt q p l e R s m args below meth c H locs cells slots ls C h1 h2 h3 h4 hX hW hS hg hl) (fun q => kf q p l e R s m args below meth c H locs cells slots ls C h1 h2 h3 h4 hX hW hS hg hl)
theorem r_icmp_le {x y0 : Int32} {off : Int} {tgt : Nat} (hd : decode y.2.1 pc = .ok (.if_icmp .le off, 3)) (ht : (pc : Int) + off = (tgt : Int)) (kt : x ≤ y0 → WPc g y d rc rs (tgt) lv (st) z I Q) (kf : ¬ x ≤ y0 → WPc g y d rc rs (pc + 3) lv (st) z I Q) : WPc g y d rc rs (pc) lv (.int y0 :: .int x :: st) z I Q := fun p l e R s m args below meth c H locs cells slots ls C h1 h2 h3 h4 hX hW hS hg hl => lv_icmp_le C.1 C.2.1 hd ht (fun q => kt q p l e R s m args below meth c H locs cells slots ls C h1 h2 h3 h4 hX hW hS hg hl) (fun q => kf q p l e R s m args below meth c H locs cells slots ls C h1 h2 h3 h4 hX hW hS hg hl)
theorem r_icmp_gt {x y0 : Int32} {off : Int} {tgt : Nat} (hd : decode y.2.1 pc = .ok (.if_icmp .gt off, 3)) (ht : (pc : Int) + off = (tgt : Int)) (kt : y0 < x → WPc g y d rc rs (tgt) lv (st) z I Q) (kf : ¬ y0 < x → WPc g y d rc rs (pc + 3) lv (st) z I Q) : WPc g y d rc rs (pc) lv (.int y0 :: .int x :: st) z I Q := fun p l e R s m args below meth c H locs cells slots ls C h1 h2 h3 h4 hX hW hS hg hl => lv_icmp_gt C.1 C.2.1 hd ht (fun q => kt q p l e R s m args below meth c H locs cells slots ls C h1 h2 h3 h4 hX hW hS hg hl) (fun q => kf q p l e R s m args below meth c H locs cells slots ls C h1 h2 h3 h4 hX hW hS hg hl)
theorem r_icmp_ge {x y0 : Int32} {off : Int} {tgt : Nat} (hd : decode y.2.1 pc = .ok (.if_icmp .ge off, 3)) (ht : (pc : Int) + off = (tgt : Int)) (kt : y0 ≤ x → WPc g y d rc rs (tgt) lv (st) z I Q) (kf : ¬ y0 ≤ x → WPc g y d rc rs (pc + 3) lv (st) z I Q) : WPc g y d rc rs (pc) lv (.int y0 :: .int x :: st) z I Q := fun p l e R s m args below meth c H locs cells slots ls C h1 h2 h3 h4 hX hW hS hg hl => lv_icmp_ge C.1 C.2.1 hd ht (fun q => kt q p l e R s m args below meth c H locs cells slots ls C h1 h2 h3 h4 hX hW hS hg hl) (fun q => kf q p l e R s m args below meth c H locs cells slots ls C h1 h2 h3 h4 hX hW hS hg hl)
theorem r_if_eq {x : Int32} {off : Int} {tgt : Nat} (hd : decode y.2.1 pc = .ok (.ifCond .eq off, 3)) (ht : (pc : Int) + off = (tgt : Int)) (kt : x = 0 → WPc g y d rc rs (tgt) lv (st) z I Q) (kf : ¬ x = 0 → WPc g y d rc rs (pc + 3) lv (st) z I Q) : WPc g y d rc rs (pc) lv (.int x :: st) z I Q := fun p l e R s m args below meth c H locs cells slots ls C h1 h2 h3 h4 hX hW hS hg hl => lv_if_eq C.1 C.2.1 hd ht (fun q => kt q p l e R s m args below meth c H locs cells slots ls C h1 h2 h3 h4 hX hW hS hg hl) (fun q => kf q p l e R s m args below meth c H locs cells slots ls C h1 h2 h3 h4 hX hW hS hg hl)
theorem r_if_ne {x : Int32} {off : Int} {tgt : Nat} (hd : decode y.2.1 pc = .ok (.ifCond .ne off, 3)) (ht : (pc : Int) + off = (tgt : Int)) (kt : ¬ x = 0 → WPc g y d rc rs (tgt) lv (st) z I Q) (kf : x = 0 → WPc g y d rc rs (pc + 3) lv (st) z I Q) : WPc g y d rc rs (pc) lv (.int x :: st) z I Q := fun p l e R s m args below meth c H locs cells slots ls C h1 h2 h3 h4 hX hW hS hg hl => lv_if_ne C.1 C.2.1 hd ht (fun q => kt q p l e R s m args below meth c H locs cells slots ls C h1 h2 h3 h4 hX hW hS hg hl) (fun q => kf q p l e R s m args below meth c H locs cells slots ls C h1 h2 h3 h4 hX hW hS hg hl)
theorem r_if_lt {x : Int32} {off : Int} {tgt : Nat} (hd : decode y.2.1 pc = .ok (.ifCond .lt off, 3)) (ht : (pc : Int) + off = (tgt : Int)) (kt : x < 0 → WPc g y d rc rs (tgt) lv (st) z I Q) (kf : ¬ x < 0 → WPc g y d rc rs (pc + 3) lv (st) z I Q) : WPc g y d rc rs (pc) lv (.int x :: st) z I Q := fun p l e R s m args below meth c H locs cells slots ls C h1 h2 h3 h4 hX hW hS hg hl => lv_if_lt C.1 C.2.1 hd ht (fun q => kt q p l e R s m args below meth c H locs cells slots ls C h1 h2 h3 h4 hX hW hS hg hl) (fun q => kf q p l e R s m args below meth c H locs cells slots ls C h1 h2 h3 h4 hX hW hS hg hl)
theorem r_if_le {x : Int32} {off : Int} {tgt : Nat} (hd : decode y.2.1 pc = .ok (.ifCond .le off, 3)) (ht : (pc : Int) + off = (tgt : Int)) (kt : x ≤ 0 → WPc g y d rc rs (tgt) lv (st) z I Q) (kf : ¬ x ≤ 0 → WPc g y d rc rs (pc + 3) lv (st) z I Q) : WPc g y d rc rs (pc) lv (.int x :: st) z I Q := fun p l e R s m args below meth c H locs cells slots ls C h1 h2 h3 h4 hX hW hS hg hl => lv_if_le C.1 C.2.1 hd ht (fun q => kt q p l e R s m args below meth c H locs cells slots ls C h1 h2 h3 h4 hX hW hS hg hl) (fun q => kf q p l e R s m args below meth c H locs cells slots ls C h1 h2 h3 h4 hX hW hS hg hl)
theorem r_if_gt {x : Int32} {off : Int} {tgt : Nat} (hd : decode y.2.1 pc = .ok (.ifCond .gt off, 3)) (ht : (pc : Int) + off = (tgt : Int)) (kt : 0 < x → WPc g y d rc rs (tgt) lv (st) z I Q) (kf : ¬ 0 < x → WPc g y d rc rs (pc + 3) lv (st) z I Q) : WPc g y d rc rs (pc) lv (.int x :: st) z I Q := fun p l e R s m args below meth c H locs cells slots ls C h1 h2 h3 h4 hX hW hS hg hl => lv_if_gt C.1 C.2.1 hd ht (fun q => kt q p l e R s m args below meth c H locs cells slots ls C h1 h2 h3 h4 hX hW hS hg hl) (fun q => kf q p l e R s m args below meth c H locs cells slots ls C h1 h2 h3 h4 hX hW hS hg hl)
theorem r_if_ge {x : Int32} {off : Int} {tgt : Nat} (hd : decode y.2.1 pc = .ok (.ifCond .ge off, 3)) (ht : (pc : Int) + off = (tgt : Int)) (kt : 0 ≤ x → WPc g y d rc rs (tgt) lv (st) z I Q) (kf : ¬ 0 ≤ x → WPc g y d rc rs (pc + 3) lv (st) z I Q) : WPc g y d rc rs (pc) lv (.int x :: st) z I Q := fun p l e R s m args below meth c H locs cells slots ls C h1 h2 h3 h4 hX hW hS hg hl => lv_if_ge C.1 C.2.1 hd ht (fun q => kt q p l e R s m args below meth c H locs cells slots ls C h1 h2 h3 h4 hX hW hS hg hl) (fun q => kf q p l e R s m args below meth c H locs cells slots ls C h1 h2 h3 h4 hX hW hS hg hl)
theorem r_goto {off : Int} {tgt : Nat} (hd : decode y.2.1 pc = .ok (.goto off, 3)) (ht : (pc : Int) + off = (tgt : Int)) (k : WPc g y d rc rs (tgt) lv (st) z I Q) : WPc g y d rc rs (pc) lv (st) z I Q := fun p l e R s m args below meth c H locs cells slots ls C h1 h2 h3 h4 hX hW hS hg hl => lv_goto C.1 C.2.1 hd ht (k p l e R s m args below meth c H locs cells slots ls C h1 h2 h3 h4 hX hW hS hg hl)
theorem r_ifnull {a : Nat} {off : Int} {tgt : Nat} (hd : decode y.2.1 pc = .ok (.ifnull off, 3)) (k : WPc g y d rc rs (pc + 3) lv (st) z I Q) : WPc g y d rc rs (pc) lv (.ref a :: st) z I Q := fun p l e R s m args below meth c H locs cells slots ls C h1 h2 h3 h4 hX hW hS hg hl => lv_ifnull C.1 C.2.1 hd (k p l e R s m args below meth c H locs cells slots ls C h1 h2 h3 h4 hX hW hS hg hl)
theorem r_ifnullN {a : Nat} {off : Int} {tgt : Nat} (hd : decode y.2.1 pc = .ok (.ifnull off, 3)) (ht : (pc : Int) + off = (tgt : Int)) (k : WPc g y d rc rs (tgt) lv (st) z I Q) : WPc g y d rc rs (pc) lv (.null :: st) z I Q := fun p l e R s m args below meth c H locs cells slots ls C h1 h2 h3 h4 hX hW hS hg hl => lv_ifnullN C.1 C.2.1 hd ht (k p l e R s m args below meth c H locs cells slots ls C h1 h2 h3 h4 hX hW hS hg hl)
theorem r_ifnonnull {a : Nat} {off : Int} {tgt : Nat} (hd : decode y.2.1 pc = .ok (.ifnonnull off, 3)) (ht : (pc : Int) + off = (tgt : Int)) (k : WPc g y d rc rs (tgt) lv (st) z I Q) : WPc g y d rc rs (pc) lv (.ref a :: st) z I Q := fun p l e R s m args below meth c H locs cells slots ls C h1 h2 h3 h4 hX hW hS hg hl => lv_ifnonnull C.1 C.2.1 hd ht (k p l e R s m args below meth c H locs cells slots ls C h1 h2 h3 h4 hX hW hS hg hl)
theorem r_ifnonnullN {a : Nat} {off : Int} {tgt : Nat} (hd : decode y.2.1 pc = .ok (.ifnonnull off, 3)) (k : WPc g y d rc rs (pc + 3) lv (st) z I Q) : WPc g y d rc rs (pc) lv (.null :: st) z I Q := fun p l e R s m args below meth c H locs cells slots ls C h1 h2 h3 h4 hX hW hS hg hl => lv_ifnonnullN C.1 C.2.1 hd (k p l e R s m args below meth c H locs cells slots ls C h1 h2 h3 h4 hX hW hS hg hl)
theorem r_tsw {dflt lo hi : Int} {offs : Array Int} {len : Nat} {x : Int32} (hd : decode y.2.1 pc = .ok (.tableswitch dflt lo hi offs, len)) (hlen : lo + offs.size = hi + 1) (kin : ∀ (i : Nat) (off : Int) (tgt : Nat), offs[i]? = some off → (pc : Int) + off = (tgt : Int) → x.toInt = lo + i → WPc g y d rc rs (tgt) lv (st) z I Q) (tgt : Nat) (ht : (pc : Int) + dflt = (tgt : Int)) (kout : (x.toInt < lo ∨ hi < x.toInt) → WPc g y d rc rs (tgt) lv (st) z I Q) (hall : ∀ (i : Nat) (off : Int), offs[i]? = some off → 0 ≤ (pc : Int) + off) : WPc g y d rc rs (pc) lv (.int x :: st) z I Q := fun p l e R s m args below meth c H locs cells slots ls C h1 h2 h3 h4 hX hW hS hg hl => by
  by_cases q : x.toInt < lo ∨ hi < x.toInt
  · exact lv_tableOut C.1 C.2.1 hd q ht (kout q p l e R s m args below meth c H locs cells slots ls C h1 h2 h3 h4 hX hW hS hg hl)
  · have q1 : ¬ x.toInt < lo := fun w => q (Or.inl w)
    have q2 : ¬ hi < x.toInt := fun w => q (Or.inr w)
    have hi : (x.toInt - lo).toNat < offs.size := by omega
    obtain ⟨off, ho⟩ : ∃ off, offs[(x.toInt - lo).toNat]? = some off := ⟨_, Array.getElem?_eq_getElem hi⟩
    have h0 := hall _ _ ho
    have hz : (pc : Int) + off = (((pc : Int) + off).toNat : Int) := by omega
    exact lv_tableIn C.1 C.2.1 hd q1 q2 ho hz (kin _ off _ ho hz (by omega) p l e R s m args below meth c H locs cells slots ls C h1 h2 h3 h4 hX hW hS hg hl)
theorem r_lsw {dflt : Int} {ps : Array (Int × Int)} {len : Nat} {x : Int32} {off : Int} {tgt : Nat} (hd : decode y.2.1 pc = .ok (.lookupswitch dflt ps, len)) (hp : (ps.toList.zip (ps.toList.drop 1)).all (fun (a, next) => a.1 < next.1) = true) (ho : Op.lookupswitch.offset ps.toList dflt x.toInt = off) (ht : (pc : Int) + off = (tgt : Int)) (k : WPc g y d rc rs (tgt) lv (st) z I Q) : WPc g y d rc rs (pc) lv (.int x :: st) z I Q := fun p l e R s m args below meth c H locs cells slots ls C h1 h2 h3 h4 hX hW hS hg hl => lv_lookup C.1 C.2.1 hd hp ho ht (k p l e R s m args below meth c H locs cells slots ls C h1 h2 h3 h4 hX hW hS hg hl)
theorem r_sub {lv2 : List (Nat × Value)} (hs : ∀ q ∈ lv2, q ∈ lv) (k : WPc g y d rc rs (pc) lv2 (st) z I Q) : WPc g y d rc rs (pc) lv (st) z I Q := fun p l e R s m args below meth c H locs cells slots ls C h1 h2 h3 h4 hX hW hS hg hl => k p l e R s m args below meth c H locs cells slots ls C h1 h2 h3 h4 hX hW hS hg (lfs_sub hl hs)
end RULES1
end
section
/-! the heap's rules, at WPc -/
def oe (o : Option Nat) (A : Prop) (B : Nat → Prop) : Prop := match o with
  | none => A
  | some q => B q
def ClsF (ci : Nat) (C : String) (T : u_T) : Prop := vwCl[ci]? = some (C, T, clN ci) ∧ (∀ w ∈ u_ws C T (clN ci), w ∈ gw_tbl) ∧ (∀ k, k < clN ci → parseFieldDescriptor (T k).2.2.1 = some (tyC ci k)) ∧ (∀ a, a < clN ci → ∀ b, b < clN ci → a ≠ b → (T a).2.1 ≠ (T b).2.1) ∧ ci < 13
def FldOK (own : String) (idx ci j : Nat) : Prop := ∃ (C : String) (T : u_T) (ref : String), ClsF ci C T ∧ j < clN ci ∧ Cond.fieldLink own idx ref (T j).2.1 (T j).2.2.1 ∈ gw_tbl ∧ (ref = (T j).1 ∨ Cond.sameField ref (T j).1 (T j).2.1 (T j).2.2.1 ∈ gw_tbl)
/-- may be written, by a method y: not final, or the own class' constructor writes -/
def FinOK (y : Mth) (ci j : Nat) : Prop := ∃ C T, ClsF ci C T ∧ ((T j).2.2.2 = false ∨ ((T j).2.2.2 = true ∧ y.1.name = "<init>" ∧ (T j).1 = y.1.cls))
theorem elm_reft {g : Gt} {z : Zs} {I : Is} {k t : Nat} (h : zT z k = 100 + t) (h1 : 1 ≤ t) : elm g z I k = .inl (gA g t, zL z k, .inr (.inr (.inr (.inr (fun i => (zP z k i).map (ad g)))))) := by
  rw [elm_ref (by omega), h, show 100 + t - 100 = t by omega]
theorem ClsF.uniq {ci : Nat} {C C' : String} {T T' : u_T} (h : ClsF ci C T) (h' : ClsF ci C' T') : C = C' ∧ T = T' := by
  have e := h.1.symm.trans h'.1
  have e2 := Option.some.inj e
  exact ⟨congrArg Prod.fst e2, congrArg (fun q => q.2.1) e2⟩
theorem Wh.set {g : Gt} {z z' : Zs} {I I' : Is} {H H' : Heap} {k : Nat} (h : Wh g z I H) (hk : zT z k < 105) (hN : zN z' = zN z) (hT : zT z' = zT z) (hL : ∀ j, j < 8 → zL z' j = zL z j) (hI : 8 ≤ k → ∀ j, j < 8 → I' j = I j) (ho : ∀ j, j ≠ k → elm g z' I' j = elm g z I j) (he : va_at (gD g) vwCl (ad g k, elm g z' I' k) H') (hs : H'.size = H.size) (oq : ∀ q, q ≠ ad g k → H'[q]? = H[q]?) : Wh g z' I' H' := by
  obtain ⟨h8, hlt⟩ := h.inN hk
  obtain ⟨a1, a2, a3, a4, a5, a6⟩ := h
  refine ⟨by rw [hN]; exact a1, by rw [hN, hT]; exact a2, by rw [hT]; exact a3, ?_, by rw [hs, hN]; exact a5, fun j hj => by rw [hT, hL j hj, hI h8 j hj]; exact a6 j hj⟩
  have hp := a4.set (wsO_D g z I) (wsO_get h8 hlt) he oq
  rw [wsO_set h8 hN ho] at hp
  exact hp
theorem ad_ge {g : Gt} {k : Nat} (h : 8 ≤ k) : g0 g ≤ ad g k := by
  unfold ad
  rw [if_neg (by omega)]
  omega
section RULES2
variable {g : Gt} {y : Mth} {d rc rs pc : Nat} {lv : List (Nat × Value)} {st : List Value} {z : Zs} {I : Is} {Q : Option Value → Zs → Is → Prop}
theorem r_getI {idx a ci j : Nat} (hd : decode y.2.1 pc = .ok (.getfield idx, 3)) (hf : FldOK y.1.cls idx ci j) (hi : isR ci j = false) (ht : zT z a = ci) (k : WPc g y d rc rs (pc + 3) lv (.int (I a j) :: st) z I Q) : WPc g y d rc rs pc lv (.ref a :: st) z I Q := by
  intro p l e R s m args below meth c H locs cells slots ls C h1 h2 h3 h4 hX hW hS hg hl
  obtain ⟨hx, hb, hml, hr, hown, hts, hlk, hnm, hK, hG⟩ := id C
  obtain ⟨C0, T, ref, hc, hj, hlink, hsame⟩ := hf
  have h13 := hc.2.2.2.2
  obtain ⟨h8, hlt⟩ := hW.inN (k := a) (by omega)
  refine va_get (D := gD g) (ci := ci) (v := .int (I a j)) (fs := (List.range (clN ci)).map (fv g z I a ci)) (C := C0) (T := T) (N := clN ci) (ref := ref) hx hb hts hc.2.1 hown hK hW.2.2.2.1 (a - 8) (by rw [wsO_get h8 hlt, elm_obj ht (by omega)]) hc.1 j hj (hts _ hlink) ?_ (by rw [fs_get hj]; unfold fv; rw [hi]; rfl) hd (k p l e R s m args below meth c H locs cells slots ls C h1 h2 h3 h4 hX hW hS hg hl)
  intro x hx
  rcases hsame with rfl | hs
  · exact hx
  · exact u_same (hts _ hs) x hx
theorem r_getR {idx a ci j : Nat} (hd : decode y.2.1 pc = .ok (.getfield idx, 3)) (hf : FldOK y.1.cls idx ci j) (hi : isR ci j = true) (ht : zT z a = ci) (k : oe (zP z a j) (WPc g y d rc rs (pc + 3) lv (.null :: st) z I Q) (fun q => WPc g y d rc rs (pc + 3) lv (.ref q :: st) z I Q)) : WPc g y d rc rs pc lv (.ref a :: st) z I Q := by
  intro p l e R s m args below meth c H locs cells slots ls C h1 h2 h3 h4 hX hW hS hg hl
  obtain ⟨hx, hb, hml, hr, hown, hts, hlk, hnm, hK, hG⟩ := id C
  obtain ⟨C0, T, ref, hc, hj, hlink, hsame⟩ := hf
  have h13 := hc.2.2.2.2
  obtain ⟨h8, hlt⟩ := hW.inN (k := a) (by omega)
  refine va_get (D := gD g) (ci := ci) (v := va_rf ((zP z a j).map (ad g))) (fs := (List.range (clN ci)).map (fv g z I a ci)) (C := C0) (T := T) (N := clN ci) (ref := ref) hx hb hts hc.2.1 hown hK hW.2.2.2.1 (a - 8) (by rw [wsO_get h8 hlt, elm_obj ht (by omega)]) hc.1 j hj (hts _ hlink) ?_ (by rw [fs_get hj]; unfold fv; rw [hi]; rfl) hd ?_
  · intro x hx
    rcases hsame with rfl | hs
    · exact hx
    · exact u_same (hts _ hs) x hx
  · cases ho : zP z a j with
    | none => rw [ho] at k; exact k p l e R s m args below meth c H locs cells slots ls C h1 h2 h3 h4 hX hW hS hg hl
    | some q => rw [ho] at k; exact k p l e R s m args below meth c H locs cells slots ls C h1 h2 h3 h4 hX hW hS hg hl
theorem elm_other {g : Gt} {z : Zs} {I I' : Is} {j : Nat} (h : I' j = I j) : elm g z I' j = elm g z I j := by
  unfold elm fv
  rw [h]
/-- a field is written: the machine's part -/
theorem putW {idx a ci j : Nat} {v : Value} {z' : Zs} {I' : Is} (hd : decode y.2.1 pc = .ok (.putfield idx, 3)) (hf : FldOK y.1.cls idx ci j) (hfin : FinOK y ci j) (ht : zT z a = ci) (hn : narrow (tyC ci j) (lf g v) = lf g v) (hfit : fits (tyC ci j) (lf g v) = true) (hN : zN z' = zN z) (hT : zT z' = zT z) (hL : ∀ j, j < 8 → zL z' j = zL z j) (hI : 8 ≤ a → ∀ j, j < 8 → I' j = I j) (ho : ∀ b, b ≠ a → elm g z' I' b = elm g z I b) (hnew : ∀ i, i < clN ci → fv g z' I' a ci i = if i = j then lf g v else fv g z I a ci i) (k : WPc g y d rc rs (pc + 3) lv st z' I' Q) : WPc g y d rc rs pc lv (v :: .ref a :: st) z I Q := by
  intro p l e R s m args below meth c H locs cells slots ls C h1 h2 h3 h4 hX hW hS hg hl
  obtain ⟨hx, hb, hml, hr, hown, hts, hlk, hnm, hK, hG⟩ := id C
  obtain ⟨C0, T, ref, hc, hj, hlink, hsame⟩ := hf
  obtain ⟨C1, T1, hc1, hfin⟩ := hfin
  obtain ⟨rfl, rfl⟩ := hc.uniq hc1
  have h13 := hc.2.2.2.2
  obtain ⟨h8, hlt⟩ := hW.inN (k := a) (by omega)
  have hap := va_apart (own := y.1.cls) hts hc.2.1 (tyC ci) hc.2.2.1 hc.2.2.2.1 hK hc.1
  obtain ⟨r, hr1, cell, q1, q2, q3, q4⟩ := hW.2.2.2.1 (a - 8) _ (by rw [wsO_get h8 hlt, elm_obj ht (by omega)])
  have hrr : r = (C0, T, clN ci) := Option.some.inj (hr1.symm.trans hc.1)
  subst hrr
  obtain ⟨hSl, hfc, kC, hkC, hkind⟩ := hK.1 ci _ hc.1
  obtain ⟨cf, kf, fi, f, hi, hsl⟩ := hSl j hj
  have hsm : s.fieldFound? ref (T j).2.1 (T j).2.2.1 = some (cf, kf, fi, f) := by
    rcases hsame with rfl | hs
    · exact hi
    · exact u_same (hts _ hs) _ hi
  have hst := (u_facts hfc hkC (u_lays hts hc.2.1 hj) hi).1
  have hend : ∀ H' : Heap, H'[ad g a]? = some (cell.setSlot f.slot (lf g v)) → H'.size = H.size → (∀ q, q ≠ ad g a → H'[q]? = H[q]?) → W p l e R s m args below meth c H' (locs ++ [⟨ad g a, f.slot⟩]) cells slots (MQ below (Qm g Q) args s R.cells R.slots (Fa g)) (F0 m (pc + 3) ls (st.map (lf g))) := by
    intro H' e1 e2 e3
    rw [hsl] at e1
    have hlow : ∀ q, q < g0 g → H'[q]? = H[q]? := fun q hq => e3 q (Nat.ne_of_lt (Nat.lt_of_lt_of_le hq (ad_ge h8)))
    refine k p l e R s m args below meth c H' _ cells slots ls C h1 h2 h3 h4 (hG.2 s H H' (Nat.le_trans hg hS.1) hlow hX) (hW.set (k := a) (by omega) hN hT hL hI ho ?_ e2 e3) (hS.put e2 e3 (ad_ge h8)) hg hl
    rw [elm_obj (ci := ci) (z := z') (by rw [hT]; exact ht) (by omega)]
    refine ⟨_, hc.1, t_OB.to (V := updV (vp_V ((List.range (clN ci)).map (fv g z I a ci))) j (lf g v)) ⟨_, e1, q2, q3, t_set q4 hap hj (lf g v)⟩ (fun i hi2 => ?_)⟩
    show _ = List.getD _ i Value.null
    rw [List.getD_eq_getElem?_getD, fs_get hi2, Option.getD_some, hnew i hi2]
    unfold updV
    by_cases hij : i = j
    · rw [if_pos hij, if_pos hij]
    · rw [if_neg hij, if_neg hij]
      show List.getD _ i Value.null = _
      rw [List.getD_eq_getElem?_getD, fs_get hi2, Option.getD_some]
  rcases hfin with hfin | ⟨hfin, hin2, hdecl⟩
  · have hlay := hts _ (hc.2.1 _ (u_in_lay hj))
    unfold u_lay at hlay
    rw [if_neg (by rw [hfin]; decide)] at hlay
    have h6 := u_store hfc hkC hkind hlay hi (hc.2.2.1 j hj) hn hfit
    exact W.putK hx hb (f := f) ⟨hown, hts _ hlink, ⟨_, _, _, hsm⟩, hst⟩ (by rw [q2]; exact h6) q1 q3 (by rw [hsl]; exact k2_hasslot (q4 j hj)) rfl rfl hd hend
  · have hlay := hts _ (hc.2.1 _ (u_in_lay hj))
    unfold u_lay at hlay
    rw [if_pos hfin] at hlay
    have hcf : m.cls = cf := by
      obtain ⟨_, _, c', _, _, _, -, -, hf', -, -, -, hown2, -⟩ := Cond.laysFinal_spec hlay
      have e1 : c' = cf := by have := hi.symm.trans hf'; simp at this; exact this.1.symm
      rw [hdecl] at hown2
      rw [← e1]; exact Option.some.inj (hown.symm.trans hown2)
    have h6 := u_fits hfc hkC hkind (Or.inr hlay) hi (hc.2.2.1 j hj) hn hfit
    exact W.putFinK hx hb hown (hts _ hlink) hsm hst hcf (by rw [hnm]; exact hin2) (by rw [q2]; exact h6) q1 q3 (by rw [hsl]; exact k2_hasslot (q4 j hj)) rfl rfl hd hend
theorem tyC_isR {ci j : Nat} (h : isR ci j = true) (a : Nat) : narrow (tyC ci j) (.ref a) = .ref a ∧ fits (tyC ci j) (.ref a) = true ∧ narrow (tyC ci j) .null = .null ∧ fits (tyC ci j) .null = true := by
  unfold isR at h
  cases hh : tyC ci j <;> rw [hh] at h <;> first | exact ⟨rfl, rfl, rfl, rfl⟩ | cases h
theorem r_putI {idx a ci j : Nat} {x : Int32} (hd : decode y.2.1 pc = .ok (.putfield idx, 3)) (hf : FldOK y.1.cls idx ci j) (hfin : FinOK y ci j) (hi : isR ci j = false) (ht : zT z a = ci) (hn : narrow (tyC ci j) (.int x) = .int x) (hfit : fits (tyC ci j) (.int x) = true) (k : WPc g y d rc rs (pc + 3) lv st z (up2 I a j x) Q) : WPc g y d rc rs pc lv (.int x :: .ref a :: st) z I Q := by
  refine putW hd hf hfin ht hn hfit rfl rfl (fun _ _ => rfl) (fun h8 b hb => ?_) (fun b hb => elm_other ?_) (fun i _ => ?_) k
  · funext i; unfold up2; rw [if_neg (by omega)]
  · funext i; unfold up2; rw [if_neg hb]
  · unfold fv up2
    by_cases hij : i = j
    · subst hij; rw [if_pos rfl, if_pos rfl, hi]; simp only [if_pos rfl]; rfl
    · rw [if_neg hij, if_pos rfl]; simp only [if_neg hij]
def zPut (z : Zs) (a i : Nat) (o : Option Nat) : Zs := (z.1, z.2.1, z.2.2.1, up2 z.2.2.2 a i o)
theorem elm_zPut {g : Gt} {z : Zs} {I : Is} {a i b : Nat} {o : Option Nat} (h : b ≠ a) : elm g (zPut z a i o) I b = elm g z I b := by
  have e : zP (zPut z a i o) b = zP z b := by funext j; show up2 _ _ _ _ _ _ = _; unfold up2; rw [if_neg h]; rfl
  unfold elm fv
  rw [e]
  rfl
theorem r_putR {idx a q ci j : Nat} (hd : decode y.2.1 pc = .ok (.putfield idx, 3)) (hf : FldOK y.1.cls idx ci j) (hfin : FinOK y ci j) (hi : isR ci j = true) (ht : zT z a = ci) (k : WPc g y d rc rs (pc + 3) lv st (zPut z a j (some q)) I Q) : WPc g y d rc rs pc lv (.ref q :: .ref a :: st) z I Q := by
  refine putW (z' := zPut z a j (some q)) (I' := I) hd hf hfin ht (tyC_isR hi _).1 (tyC_isR hi _).2.1 rfl rfl (fun _ _ => rfl) (fun _ _ _ => rfl) (fun b hb => elm_zPut hb) (fun i _ => ?_) k
  unfold fv
  show (bif isR ci i then va_rf (((up2 z.2.2.2 a j (some q)) a i).map (ad g)) else _) = _
  unfold up2
  by_cases hij : i = j
  · subst hij; rw [if_pos rfl, if_pos rfl, if_pos rfl, hi]; rfl
  · rw [if_pos rfl, if_neg hij, if_neg hij]; rfl
/-- the index lies in the row -/
def inB (i : Int32) (n : Nat) : Bool := decide (0 ≤ i.toInt) && decide (i.toInt < (n : Int))
theorem inB_vp {i : Int32} {n : Nat} (h : inB i n = true) : vp_in i n := by
  unfold inB at h
  rw [Bool.and_eq_true, decide_eq_true_iff, decide_eq_true_iff] at h
  exact vp_in_iff.mpr h
theorem r_iald {a : Nat} {i : Int32} (hd : decode y.2.1 pc = .ok (.iaload, 1)) (ht : zT z a = 100) (hi : inB i (zL z a) = true) (k : WPc g y d rc rs (pc + 1) lv (.int (I a i.toNatClampNeg) :: st) z I Q) : WPc g y d rc rs pc lv (.int i :: .ref a :: st) z I Q := by
  intro p l e R s m args below meth c H locs cells slots ls C h1 h2 h3 h4 hX hW hS hg hl
  obtain ⟨hx, hb, hml, hr, hown, hts, hlk, hnm, hK, hG⟩ := id C
  obtain ⟨h8, hlt⟩ := hW.inN (k := a) (by omega)
  exact va_iald (D := gD g) hx hb hK hW.2.2.2.1 (a - 8) 0 (by rw [wsO_get h8 hlt, elm_int ht]) rfl (inB_vp hi) hd (k p l e R s m args below meth c H locs cells slots ls C h1 h2 h3 h4 hX hW hS hg hl)
theorem r_alenI {a : Nat} (hd : decode y.2.1 pc = .ok (.arraylength, 1)) (ht : zT z a = 100) (k : WPc g y d rc rs (pc + 1) lv (.int (Int32.ofNat (zL z a)) :: st) z I Q) : WPc g y d rc rs pc lv (.ref a :: st) z I Q := by
  intro p l e R s m args below meth c H locs cells slots ls C h1 h2 h3 h4 hX hW hS hg hl
  obtain ⟨hx, hb, hml, hr, hown, hts, hlk, hnm, hK, hG⟩ := id C
  obtain ⟨h8, hlt⟩ := hW.inN (k := a) (by omega)
  exact va_alen (D := gD g) (x := (zL z a, .inl (I a))) hx hb hK hW.2.2.2.1 (a - 8) 0 (by rw [wsO_get h8 hlt, elm_int ht]) rfl rfl hd (k p l e R s m args below meth c H locs cells slots ls C h1 h2 h3 h4 hX hW hS hg hl)
def tyR (t : Nat) : String := ([RX8, RX8, RX4, RX10, RX7] : List String).getD t RX8
theorem tysG_R {g : Gt} {t : Nat} (h1 : 1 ≤ t) (h2 : t ≤ 4) : (tysG g)[t]? = some (gA g t, .object (tyR t)) := by
  match t, h1, h2 with
  | 1, _, _ => rfl
  | 2, _, _ => rfl
  | 3, _, _ => rfl
  | 4, _, _ => rfl
theorem r_alenR {a t : Nat} (hd : decode y.2.1 pc = .ok (.arraylength, 1)) (ht : zT z a = 100 + t) (ht1 : 1 ≤ t) (ht4 : t ≤ 4) (k : WPc g y d rc rs (pc + 1) lv (.int (Int32.ofNat (zL z a)) :: st) z I Q) : WPc g y d rc rs pc lv (.ref a :: st) z I Q := by
  intro p l e R s m args below meth c H locs cells slots ls C h1 h2 h3 h4 hX hW hS hg hl
  obtain ⟨hx, hb, hml, hr, hown, hts, hlk, hnm, hK, hG⟩ := id C
  obtain ⟨h8, hlt⟩ := hW.inN (k := a) (by omega)
  exact va_alen (D := gD g) (x := (zL z a, .inr (.inr (.inr (.inr (fun i => (zP z a i).map (ad g))))))) hx hb hK hW.2.2.2.1 (a - 8) t (by rw [wsO_get h8 hlt, elm_reft ht ht1]) (tysG_R ht1 ht4) rfl hd (k p l e R s m args below meth c H locs cells slots ls C h1 h2 h3 h4 hX hW hS hg hl)
theorem r_aald {a t : Nat} {i : Int32} (hd : decode y.2.1 pc = .ok (.aaload, 1)) (ht : zT z a = 100 + t) (ht1 : 1 ≤ t) (ht4 : t ≤ 4) (hi : inB i (zL z a) = true) (k : oe (zP z a i.toNatClampNeg) (WPc g y d rc rs (pc + 1) lv (.null :: st) z I Q) (fun q => WPc g y d rc rs (pc + 1) lv (.ref q :: st) z I Q)) : WPc g y d rc rs pc lv (.int i :: .ref a :: st) z I Q := by
  intro p l e R s m args below meth c H locs cells slots ls C h1 h2 h3 h4 hX hW hS hg hl
  obtain ⟨hx, hb, hml, hr, hown, hts, hlk, hnm, hK, hG⟩ := id C
  obtain ⟨h8, hlt⟩ := hW.inN (k := a) (by omega)
  refine va_aldq (D := gD g) hx hb hK hW.2.2.2.1 (a - 8) t (by rw [wsO_get h8 hlt, elm_reft ht ht1]) (tysG_R ht1 ht4) (inB_vp hi) hd ?_
  show W _ _ _ _ _ _ _ _ _ _ _ _ _ _ _ (F0 _ _ _ (va_rf ((zP z a i.toNatClampNeg).map (ad g)) :: _))
  cases ho : zP z a i.toNatClampNeg with
  | none => rw [ho] at k; exact k p l e R s m args below meth c H locs cells slots ls C h1 h2 h3 h4 hX hW hS hg hl
  | some q => rw [ho] at k; exact k p l e R s m args below meth c H locs cells slots ls C h1 h2 h3 h4 hX hW hS hg hl
theorem r_iast {a : Nat} {i x : Int32} (hd : decode y.2.1 pc = .ok (.iastore, 1)) (ht : zT z a = 100) (hi : inB i (zL z a) = true) (k : WPc g y d rc rs (pc + 1) lv st z (up2 I a i.toNatClampNeg x) Q) : WPc g y d rc rs pc lv (.int x :: .int i :: .ref a :: st) z I Q := by
  intro p l e R s m args below meth c H locs cells slots ls C h1 h2 h3 h4 hX hW hS hg hl
  obtain ⟨hx, hb, hml, hr, hown, hts, hlk, hnm, hK, hG⟩ := id C
  obtain ⟨h8, hlt⟩ := hW.inN (k := a) (by omega)
  have hcell : H[ad g a]? = some (arrV (gA g 0) (zL z a) (fun j => .int (I a j))) := hW.2.2.2.1 (a - 8) (ad g a, .inl (gA g 0, zL z a, .inl (I a))) (by rw [wsO_get h8 hlt, elm_int ht])
  have hin := inB_vp hi
  refine W.iast hx hb hcell ((hK.2 0 _ rfl).1 _ (fun j => .int (I a j))) (fun q => by cases q) (by show ¬ (i < 0 ∨ (arrV _ _ _).slots.size ≤ _); rw [arrV_size]; exact hin) rfl rfl hd fun H1 e1 e2 e3 => ?_
  have hlow : ∀ q, q < g0 g → H1[q]? = H[q]? := fun q hq => e3 q (Nat.ne_of_lt (Nat.lt_of_lt_of_le hq (ad_ge h8)))
  refine k p l e R s m args below meth c H1 _ cells slots ls C h1 h2 h3 h4 (hG.2 s H H1 (Nat.le_trans hg hS.1) hlow hX) (hW.set (k := a) (by omega) rfl rfl (fun _ _ => rfl) (fun h8 b hb => ?_) (fun b hb => elm_other ?_) ?_ e2 e3) (hS.put e2 e3 (ad_ge h8)) hg hl
  · funext j; unfold up2; rw [if_neg (by omega)]
  · funext j; unfold up2; rw [if_neg hb]
  · rw [elm_int ht]
    show H1[ad g a]? = some (vp_cell _ _)
    rw [e1, vp_cell_i, arrV_store]
    congr 2
    funext q
    unfold updV up2
    rw [if_pos rfl]
    by_cases hq : q = i.toNatClampNeg
    · rw [if_pos hq, if_pos hq]
    · rw [if_neg hq, if_neg hq]
theorem aastEnd {a i t : Nat} {o : Option Nat} {H1 : Heap} (ht : zT z a = 100 + t) (ht1 : 1 ≤ t) (e1 : H1[ad g a]? = some ((arrV (gA g t) (zL z a) (fun j => va_rf ((zP z a j).map (ad g)))).setSlot i (va_rf (o.map (ad g))))) : va_at (gD g) vwCl (ad g a, elm g (zPut z a i o) I a) H1 := by
  rw [elm_ref (by show 101 ≤ zT z a; omega)]
  show H1[ad g a]? = some (vp_cell (gA g (zT z a - 100)) _)
  rw [e1, vp_cell_q, arrV_store, ht, show 100 + t - 100 = t by omega]
  congr 2
  funext q
  show updV _ _ _ _ = va_rf (((up2 z.2.2.2 a i o) a q).map (ad g))
  unfold updV up2
  rw [if_pos rfl]
  by_cases hq : q = i
  · rw [if_pos hq, if_pos hq]
  · rw [if_neg hq, if_neg hq]; rfl
theorem r_aastN {a t : Nat} {i : Int32} (hd : decode y.2.1 pc = .ok (.aastore, 1)) (ht : zT z a = 100 + t) (ht1 : 1 ≤ t) (ht4 : t ≤ 4) (hi : inB i (zL z a) = true) (k : WPc g y d rc rs (pc + 1) lv st (zPut z a i.toNatClampNeg none) I Q) : WPc g y d rc rs pc lv (.null :: .int i :: .ref a :: st) z I Q := by
  intro p l e R s m args below meth c H locs cells slots ls C h1 h2 h3 h4 hX hW hS hg hl
  obtain ⟨hx, hb, hml, hr, hown, hts, hlk, hnm, hK, hG⟩ := id C
  obtain ⟨h8, hlt⟩ := hW.inN (k := a) (by omega)
  have hcell : H[ad g a]? = some (arrV (gA g t) (zL z a) (fun j => va_rf ((zP z a j).map (ad g)))) := hW.2.2.2.1 (a - 8) (ad g a, .inl (gA g t, zL z a, .inr (.inr (.inr (.inr (fun i => (zP z a i).map (ad g))))))) (by rw [wsO_get h8 hlt, elm_reft ht ht1])
  have hin := inB_vp hi
  refine va_WaastN (C := tyR t) hx hb hcell ((hK.2 t _ (tysG_R ht1 ht4)).1 _ (fun j => va_rf _)) (fun h => by cases h) (by show ¬ (i < 0 ∨ (arrV _ _ _).slots.size ≤ _); rw [arrV_size]; exact hin) rfl rfl hd fun H1 e1 e2 e3 => ?_
  have hlow : ∀ q, q < g0 g → H1[q]? = H[q]? := fun q hq => e3 q (Nat.ne_of_lt (Nat.lt_of_lt_of_le hq (ad_ge h8)))
  exact k p l e R s m args below meth c H1 _ cells slots ls C h1 h2 h3 h4 (hG.2 s H H1 (Nat.le_trans hg hS.1) hlow hX) (hW.set (k := a) (by omega) rfl rfl (fun _ _ => rfl) (fun _ _ _ => rfl) (fun b hb => elm_zPut hb) (aastEnd ht ht1 e1) e2 e3) (hS.put e2 e3 (ad_ge h8)) hg hl
/-- casts and array classes that the tables give, but not as words that keep -/
def CaL : List (String × String) := [("UnlikeCoins$Common", "UnlikeCoins$Sort"), ("UnlikeCoins$Gilt", "UnlikeCoins$Scarce"), ("UnlikeCoins$Gilt", "UnlikeCoins$Sort"), ("UnlikeCoins$Melting", "UnlikeCoins$Sort"), ("UnlikeCoins$Scarce", "UnlikeCoins$Sort"), ("UnlikeCoins$Stamped", "UnlikeCoins$Common"), ("UnlikeCoins$Stamped", "UnlikeCoins$Sort"), ("[I", "java/lang/Cloneable")]
def NsL : List (String × Nat × MethodName × String) := [(RX11, 24, yX4_init, "UnlikeCoins"), (RX11, 46, yX5_init, "UnlikeCoins"), (RX2, 17, yX4_init, "UnlikeCoins"), (RX11, 62, yX7_init, "UnlikeCoins"), (RX5, 84, yX11_within, "UnlikeCoins"), (RX10, 21, yX11_within, "UnlikeCoins"), (RX4, 21, yX11_within, "UnlikeCoins")]
def GC (g : Gt) : Prop := (∀ (s : State) (H : Heap), gX g s H → ∀ q ∈ CaL, va_Nw (.castable q.1 q.2) s) ∧ ∀ (s : State) (H : Heap), gX g s H → (∀ t, 1 ≤ t → t ≤ 4 → va_AO (tyR t) s) ∧ ∀ q ∈ NsL, va_Nw (.methodLinkNest q.1 q.2.1 q.2.2.1 q.2.2.2) s
/-- may a cell of class ci stand in an array of tag 100 + t (its element class is that class, or the tables say that it can be cast to it) -/
def StoOK (ci t : Nat) : Prop := ∃ C T, ClsF ci C T ∧ (C = tyR t ∨ (C, tyR t) ∈ CaL)
theorem r_aast {a q ci t : Nat} {i : Int32} (hgc : GC g) (hd : decode y.2.1 pc = .ok (.aastore, 1)) (ht : zT z a = 100 + t) (ht1 : 1 ≤ t) (ht4 : t ≤ 4) (hi : inB i (zL z a) = true) (hq : zT z q = ci) (hsto : StoOK ci t) (hel : ∃ ce, ∃ C T, ClsF ce C T ∧ C = tyR t) (k : WPc g y d rc rs (pc + 1) lv st (zPut z a i.toNatClampNeg (some q)) I Q) : WPc g y d rc rs pc lv (.ref q :: .int i :: .ref a :: st) z I Q := by
  intro p l e R s m args below meth c H locs cells slots ls C h1 h2 h3 h4 hX hW hS hg hl
  obtain ⟨hx, hb, hml, hr, hown, hts, hlk, hnm, hK, hG⟩ := id C
  obtain ⟨h8, hlt⟩ := hW.inN (k := a) (by omega)
  obtain ⟨C0, T0, hc0, hcast⟩ := hsto
  obtain ⟨ce, C1, T1, hce, hC1⟩ := hel
  have h13 := hc0.2.2.2.2
  obtain ⟨h8q, hltq⟩ := hW.inN (k := q) (by omega)
  have hcell : H[ad g a]? = some (arrV (gA g t) (zL z a) (fun j => va_rf ((zP z a j).map (ad g)))) := hW.2.2.2.1 (a - 8) (ad g a, .inl (gA g t, zL z a, .inr (.inr (.inr (.inr (fun i => (zP z a i).map (ad g))))))) (by rw [wsO_get h8 hlt, elm_reft ht ht1])
  have hin := inB_vp hi
  have hlt2 : i.toNatClampNeg < zL z a := Nat.not_le.mp fun q => hin (Or.inr q)
  have hi0 : ¬ i < 0 := fun q => hin (Or.inl q)
  obtain ⟨r', hr', cellV, g1, g2, g3, -⟩ := hW.2.2.2.1 (q - 8) _ (by rw [wsO_get h8q hltq, elm_obj hq (by omega)])
  have hr2 : r' = (C0, T0, clN ci) := Option.some.inj (hr'.symm.trans hc0.1)
  subst hr2
  have hcls := (hK.1 ci _ hc0.1).2
  have hcle := (hK.1 ce _ hce.1).2
  obtain ⟨kA, comp, k1, k2, k3, -⟩ := (hK.2 t _ (tysG_R ht1 ht4)).2
  have hcomp : comp = (gD g).1 ce := Option.some.inj (k3.symm.trans (by rw [← hC1]; exact hcle.1))
  subst hcomp
  obtain ⟨kC, hkC, -⟩ := hcls.2
  obtain ⟨kE, hkE, -⟩ := hcle.2
  have hass : s.vm.assignable ((gD g).1 ci) ((gD g).1 ce) = true := by
    rcases hcast with h | h
    · have e : (gD g).1 ci = (gD g).1 ce := by
        have e1 := hcls.1
        have e2 := hcle.1
        rw [h, ← hC1] at e1
        exact Option.some.inj (e1.symm.trans e2)
      rw [← e]
      exact va_assign hcls
    · have h5 : (Cond.castable C0 (tyR t)).before args s = true := va_Nw.use (A := args) rfl (hgc.1 s H hX _ h)
      simp only [Cond.before, Cond.holds, Cond.value] at h5
      rw [hcls.1, ← hC1, hcle.1] at h5
      simpa using h5
  refine W.aast hx hb hcell (fun q h => by cases h) (fun h => by cases h) k1 k2 rfl hkE ⟨hi0, by show _ < (arrV _ _ _).slots.size; rw [arrV_size]; exact hlt2⟩ g1 (fun q h => by rw [g3] at h; cases h) (by rw [g2]; exact hkC) (by rw [g2]; exact hass) rfl rfl hd fun H1 e1 e2 e3 => ?_
  have hlow : ∀ q, q < g0 g → H1[q]? = H[q]? := fun q hq => e3 q (Nat.ne_of_lt (Nat.lt_of_lt_of_le hq (ad_ge h8)))
  exact k p l e R s m args below meth c H1 _ cells slots ls C h1 h2 h3 h4 (hG.2 s H H1 (Nat.le_trans hg hS.1) hlow hX) (hW.set (k := a) (by omega) rfl rfl (fun _ _ => rfl) (fun _ _ _ => rfl) (fun b hb => elm_zPut hb) (aastEnd (o := some q) ht ht1 e1) e2 e3) (hS.put e2 e3 (ad_ge h8)) hg hl
end RULES2
end
section
/-! making cells, calls, ends, at WPc -/
def nI0 (I : Is) (n : Nat) : Is := fun b j => if b = n then 0 else I b j
def zNew (z : Zs) (t len : Nat) : Zs := (z.1 + 1, up1 z.2.1 z.1 t, up1 z.2.2.1 z.1 len, fun b j => if b = z.1 then none else z.2.2.2 b j)
theorem elm_push {g : Gt} {z : Zs} {I : Is} {t len j : Nat} (h : j ≠ zN z) : elm g (zNew z t len) (nI0 I (zN z)) j = elm g z I j := by
  have h' : j ≠ z.1 := h
  have e1 : zT (zNew z t len) j = zT z j := by show up1 _ _ _ _ = _; unfold up1; rw [if_neg h']; rfl
  have e2 : zL (zNew z t len) j = zL z j := by show up1 _ _ _ _ = _; unfold up1; rw [if_neg h']; rfl
  have e3 : zP (zNew z t len) j = zP z j := by funext i; show (if j = z.1 then _ else _) = _; rw [if_neg h']; rfl
  have e4 : nI0 I (zN z) j = I j := by funext i; unfold nI0; rw [if_neg h]
  unfold elm fv
  rw [e1, e2, e3, e4]
theorem wsO_push {g : Gt} {z : Zs} {I : Is} {t len : Nat} (h : 8 ≤ zN z) : wsO g (zNew z t len) (nI0 I (zN z)) = wsO g z I ++ [(g0 g + (zN z - 8), elm g (zNew z t len) (nI0 I (zN z)) (zN z))] := by
  unfold wsO
  have e : zN (zNew z t len) - 8 = (zN z - 8) + 1 := by show zN z + 1 - 8 = _; omega
  rw [e, List.range_succ, List.map_append]
  congr 1
  · apply List.map_congr_left
    intro j hj
    have := List.mem_range.mp hj
    rw [elm_push (by omega)]
  · simp only [List.map_cons, List.map_nil]
    rw [show zN z - 8 + 8 = zN z by omega]
theorem Wh.push {g : Gt} {z : Zs} {I : Is} {H H' : Heap} {t len : Nat} (h : Wh g z I H) (ht : t < 13 ∨ 100 ≤ t) (he : va_at (gD g) vwCl (H.size, elm g (zNew z t len) (nI0 I (zN z)) (zN z)) H') (hs : H'.size = H.size + 1) (oq : ∀ q, q < H.size → H'[q]? = H[q]?) : Wh g (zNew z t len) (nI0 I (zN z)) H' := by
  obtain ⟨a1, a2, a3, a4, a5, a6⟩ := h
  have hne : ∀ k, k ≠ zN z → zT (zNew z t len) k = zT z k := fun k hk => by show up1 _ _ _ _ = _; unfold up1; exact if_neg hk
  refine ⟨by show 8 ≤ zN z + 1; omega, fun k hk => ?_, fun k hk => ?_, ?_, ?_, ?_⟩
  · have hk' : k < 8 ∨ zN z + 1 ≤ k := hk
    rw [hne k (by omega)]
    exact a2 k (by omega)
  · by_cases hkn : k = zN z
    · subst hkn
      have e : zT (zNew z t len) (zN z) = t := by show up1 _ _ _ _ = _; unfold up1; exact if_pos rfl
      rw [e] at hk ⊢
      omega
    · rw [hne k hkn] at hk ⊢
      exact a3 k hk
  · rw [wsO_push a1]
    refine va_P.app (a4.kept (fun k q hq => oq q.1 ((a4 k q hq).lt))) (fun k q hq => ?_)
    have hk : k < 1 := (List.getElem?_eq_some_iff.mp hq).1
    rw [show k = 0 by omega] at hq
    cases hq
    rw [← a5]
    exact he
  · rw [hs, a5]; show _ = g0 g + (zN z + 1 - 8); omega
  · intro k hk
    obtain ⟨b1, b2, b3⟩ := a6 k hk
    refine ⟨by rw [hne k (by omega)]; exact b1, ?_, ?_⟩
    · have : zL (zNew z t len) k = zL z k := by show up1 _ _ _ _ = _; unfold up1; rw [if_neg (by show k ≠ zN z; omega)]; rfl
      rw [this]; exact b2
    · rw [← b3]; funext j; unfold nI0; rw [if_neg (by omega)]
section RULES3
variable {g : Gt} {y : Mth} {d rc rs pc : Nat} {lv : List (Nat × Value)} {st : List Value} {z : Zs} {I : Is} {Q : Option Value → Zs → Is → Prop}
theorem ad_new {g : Gt} {z : Zs} {I : Is} {H : Heap} (h : Wh g z I H) : ad g (zN z) = H.size := by
  unfold ad
  rw [if_neg (by have := h.1; omega), h.2.2.2.2.1]
def DefOK (ci : Nat) : Prop := ∀ j, j < clN ci → defaultValue (tyC ci j) = if isR ci j then .null else .int 0
def NewOK (own : String) (idx ci : Nat) : Prop := ∃ C T, ClsF ci C T ∧ Cond.classLink own idx C ∈ gw_tbl ∧ Cond.instantiable C (clN ci) ∈ gw_tbl ∧ Cond.initialized C ∈ gw_tbl ∧ DefOK ci
theorem r_new {idx ci rc' rs' : Nat} (hd : decode y.2.1 pc = .ok (.new idx, 3)) (hn : NewOK y.1.cls idx ci) (hrc : 1 + rc' ≤ rc) (hrs : clN ci + rs' ≤ rs) (k : WPc g y d rc' rs' (pc + 3) lv (.ref (zN z) :: st) (zNew z ci 0) (nI0 I (zN z)) Q) : WPc g y d rc rs pc lv st z I Q := by
  intro p l e R s m args below meth c H locs cells slots ls C h1 h2 h3 h4 hX hW hS hg hl
  obtain ⟨hx, hb, hml, hr, hown, hts, hlk, hnm, hK, hG⟩ := id C
  obtain ⟨C0, T, hc, hcl, hinst, hini, hdef⟩ := hn
  have hKn := hK.1 ci _ hc.1
  refine W.newcK hx hb hown (hts _ hcl) (hts _ hinst) (hts _ hini) rfl hd (by omega) (by omega) hKn.2.1 rfl fun H1 kC hkC e1 z1 o1 => ?_
  have h13 := hc.2.2.2.2
  have hlow : ∀ q, q < g0 g → H1[q]? = H[q]? := fun q hq => o1 q (Nat.lt_of_lt_of_le hq (Nat.le_trans hg hS.1))
  rw [← ad_new hW]
  refine k p l e R s m args below meth c H1 locs (cells + 1) (slots + clN ci) ls C h1 h2 (by omega) (by omega) (hG.2 s H H1 (Nat.le_trans hg hS.1) hlow hX) (hW.push (Or.inl h13) ?_ z1 o1) ⟨Nat.le_trans hS.1 (by omega), fun q h1 h2 => (o1 q (Nat.lt_of_lt_of_le h1 hS.1)).trans (hS.2.1 q h1 h2), hS.2.2⟩ hg hl
  have ht : zT (zNew z ci 0) (zN z) = ci := by show up1 _ _ _ _ = _; unfold up1; exact if_pos rfl
  rw [elm_obj ht (by omega)]
  refine ⟨_, hc.1, (u_born (tyC ci) hts hc.2.1 hKn hkC e1 hc.2.2.1).to (fun j hj => ?_)⟩
  show _ = List.getD _ j Value.null
  rw [List.getD_eq_getElem?_getD, fs_get hj, Option.getD_some, hdef j hj]
  unfold fv
  have ep : zP (zNew z ci 0) (zN z) j = none := by show (if _ then _ else _) = _; exact if_pos rfl
  rw [ep]
  cases isR ci j
  · show _ = Value.int (nI0 I (zN z) (zN z) j); unfold nI0; rw [if_pos rfl]; rfl
  · rfl
theorem r_newI {n : Int32} {rc' rs' N : Nat} (hd : decode y.2.1 pc = .ok (.newarray .int, 2)) (hn : n = Int32.ofNat N) (hN : N ≤ 100000) (hrc : 1 + rc' ≤ rc) (hrs : N + rs' ≤ rs) (hw : Cond.arrayClass .int ∈ gw_tbl) (k : WPc g y d rc' rs' (pc + 2) lv (.ref (zN z) :: st) (zNew z 100 N) (nI0 I (zN z)) Q) : WPc g y d rc rs pc lv (.int n :: st) z I Q := by
  intro p l e R s m args below meth c H locs cells slots ls C h1 h2 h3 h4 hX hW hS hg hl
  obtain ⟨hx, hb, hml, hr, hown, hts, hlk, hnm, hK, hG⟩ := id C
  have hcl : n.toNatClampNeg = N := by rw [hn]; exact nI_clamp (n := N) (by omega)
  have hn0 : ¬ n < 0 := by rw [hn]; exact nI_pos (n := N) (by omega)
  refine va_newaK (atype := .int) hx hb (hts _ hw) rfl hd rfl hn0 hcl (by show N * 4 ≤ _; omega) (by omega) (by omega) rfl fun H1 cA e1 z1 o1 hAr hNm => ?_
  have hcA : cA = gA g 0 := by
    have h5 := (hK.2 0 _ rfl).2
    exact Option.some.inj (hNm.symm.trans h5)
  subst hcA
  have hlow : ∀ q, q < g0 g → H1[q]? = H[q]? := fun q hq => o1 q (Nat.lt_of_lt_of_le hq (Nat.le_trans hg hS.1))
  rw [← ad_new hW]
  refine k p l e R s m args below meth c H1 locs (cells + 1) (slots + N) ls C h1 h2 (by omega) (by omega) (hG.2 s H H1 (Nat.le_trans hg hS.1) hlow hX) (hW.push (Or.inr (by omega)) ?_ z1 o1) ⟨Nat.le_trans hS.1 (by omega), fun q h1 h2 => (o1 q (Nat.lt_of_lt_of_le h1 hS.1)).trans (hS.2.1 q h1 h2), hS.2.2⟩ hg hl
  have ht : zT (zNew z 100 N) (zN z) = 100 := by show up1 _ _ _ _ = _; unfold up1; exact if_pos rfl
  have hL : zL (zNew z 100 N) (zN z) = N := by show up1 _ _ _ _ = _; unfold up1; exact if_pos rfl
  rw [elm_int ht, hL]
  show H1[H.size]? = some (vp_cell _ _)
  rw [e1, vp_cell_i]
  congr 2
  funext j
  unfold nI0
  rw [if_pos rfl]
  rfl
def AnwOK (own : String) (idx t : Nat) : Prop := Cond.classLink own idx (tyR t) ∈ gw_tbl ∧ 1 ≤ t ∧ t ≤ 4
theorem r_newR {n : Int32} {idx t rc' rs' N : Nat} (hgc : GC g) (hd : decode y.2.1 pc = .ok (.anewarray idx, 3)) (ha : AnwOK y.1.cls idx t) (hn : n = Int32.ofNat N) (hN : N ≤ 100000) (hrc : 1 + rc' ≤ rc) (hrs : N + rs' ≤ rs) (k : WPc g y d rc' rs' (pc + 3) lv (.ref (zN z) :: st) (zNew z (100 + t) N) (nI0 I (zN z)) Q) : WPc g y d rc rs pc lv (.int n :: st) z I Q := by
  intro p l e R s m args below meth c H locs cells slots ls C h1 h2 h3 h4 hX hW hS hg hl
  obtain ⟨hx, hb, hml, hr, hown, hts, hlk, hnm, hK, hG⟩ := id C
  obtain ⟨hcl, ht1, ht4⟩ := ha
  have hclm : n.toNatClampNeg = N := by rw [hn]; exact nI_clamp (n := N) (by omega)
  have hn0 : ¬ n < 0 := by rw [hn]; exact nI_pos (n := N) (by omega)
  refine W.anew hx hb hown (hts _ hcl) ((hgc.2 s H hX).1 t ht1 ht4).use rfl hd rfl hn0 (by rw [hclm]; omega) (by omega) (by rw [hclm]; omega) (fun cA kA comp e1 e2 e3 e4 => ?_)
  rw [hclm]
  have hcA : cA = gA g t := by
    obtain ⟨kA', comp', b1, b2, b3, b4⟩ := (hK.2 t _ (tysG_R ht1 ht4)).2
    exact Option.some.inj (e1.symm.trans b4)
  subst hcA
  have o1 : ∀ q, q < H.size → (H.push ({ cls := gA g t, slots := Array.replicate N Value.null, vm := .none } : Cell))[q]? = H[q]? := fun q hq => by rw [Array.getElem?_push]; rw [if_neg (Nat.ne_of_lt hq)]
  have z1 : (H.push ({ cls := gA g t, slots := Array.replicate N Value.null, vm := .none } : Cell)).size = H.size + 1 := Array.size_push ..
  have hlow : ∀ q, q < g0 g → (H.push ({ cls := gA g t, slots := Array.replicate N Value.null, vm := .none } : Cell))[q]? = H[q]? := fun q hq => o1 q (Nat.lt_of_lt_of_le hq (Nat.le_trans hg hS.1))
  rw [← ad_new hW]
  refine k p l e R s m args below meth c _ locs (cells + 1) (slots + N) ls C h1 h2 (by omega) (by omega) (hG.2 s H _ (Nat.le_trans hg hS.1) hlow hX) (hW.push (Or.inr (by omega)) ?_ z1 o1) ⟨Nat.le_trans hS.1 (by omega), fun q h1 h2 => (o1 q (Nat.lt_of_lt_of_le h1 hS.1)).trans (hS.2.1 q h1 h2), hS.2.2⟩ hg hl
  have ht : zT (zNew z (100 + t) N) (zN z) = 100 + t := by show up1 _ _ _ _ = _; unfold up1; exact if_pos rfl
  have hL : zL (zNew z (100 + t) N) (zN z) = N := by show up1 _ _ _ _ = _; unfold up1; exact if_pos rfl
  rw [elm_reft ht ht1, hL]
  show (H.push _)[H.size]? = some (vp_cell _ _)
  rw [Array.getElem?_push_size, vp_cell_q]
  congr 1
  unfold arrV
  congr 1
  apply Array.ext
  · simp
  · intro i hi1 hi2
    simp only [Array.getElem_replicate, Array.getElem_ofFn]
    have ep : zP (zNew z (100 + t) N) (zN z) i = none := by show (if _ then _ else _) = _; exact if_pos rfl
    rw [ep]
    rfl
-- ends
theorem qmI {Q : Option Value → Zs → Is → Prop} {s t : State} {args : Array Value} {H : Heap} {locs : List Loc} {v : Option Value} (hq : Q v z I) (hW : Wh g z I H) (hS : va_S (Fa g) s.heap H locs) (hg : g0 g ≤ s.heap.size) (ht : t.heap = H) : Qm g Q args s (.returned (v.map (lf g))) t :=
  ⟨⟨v, z, I, rfl, hq, by rw [ht]; exact hW⟩, by rw [ht]; exact hS.1, fun q hq => by rw [ht]; exact hS.2.1 q (Nat.lt_of_lt_of_le hq hg) (fun h => absurd hq (Nat.not_lt.mpr h))⟩
theorem r_iret {x : Int32} {ty : FieldType} (hd : decode y.2.1 pc = .ok (.ireturn, 1)) (hr : y.2.2.2 = some ty) (hn : narrow ty (.int x) = .int x) (hq : Q (some (.int x)) z I) : WPc g y d rc rs pc lv [.int x] z I Q := by
  intro p l e R s m args below meth c H locs cells slots ls C h1 h2 h3 h4 hX hW hS hg hl
  refine W.widen (k := R.cells) (n := R.slots) (by omega) (by omega) ?_
  exact W.zret (v := x) C.1 C.2.1 (C.2.2.2.1.trans hr) hn (fun t ht _ => qmI (v := some (.int x)) hq hW hS hg ht) hS.2.2 hd C.2.2.2.2.2.2.1
theorem r_lret {x : Int64} (hd : decode y.2.1 pc = .ok (.lreturn, 1)) (hr : y.2.2.2 = some .long) (hq : Q (some (.long x)) z I) : WPc g y d rc rs pc lv [.long x] z I Q := by
  intro p l e R s m args below meth c H locs cells slots ls C h1 h2 h3 h4 hX hW hS hg hl
  refine W.widen (k := R.cells) (n := R.slots) (by omega) (by omega) ?_
  exact W.lret (v := x) C.1 C.2.1 (C.2.2.2.1.trans hr) (fun t ht _ => qmI (v := some (.long x)) hq hW hS hg ht) hS.2.2 hd C.2.2.2.2.2.2.1
theorem r_vret (hd : decode y.2.1 pc = .ok (.return_, 1)) (hr : y.2.2.2 = none) (hq : Q none z I) : WPc g y d rc rs pc lv [] z I Q := by
  intro p l e R s m args below meth c H locs cells slots ls C h1 h2 h3 h4 hX hW hS hg hl
  refine W.widen (k := R.cells) (n := R.slots) (by omega) (by omega) ?_
  exact W.vret C.1 C.2.1 (C.2.2.2.1.trans hr) (fun t ht _ => qmI (v := none) hq hW hS hg ht) hS.2.2 hd C.2.2.2.2.2.2.1
theorem r_aret {o : Option Nat} {ty : FieldType} (hd : decode y.2.1 pc = .ok (.areturn, 1)) (hr : y.2.2.2 = some ty) (hty : (∃ n, ty = .object n) ∨ ∃ t, ty = .array t) (hq : Q (some (va_rf o)) z I) : WPc g y d rc rs pc lv [va_rf o] z I Q := by
  intro p l e R s m args below meth c H locs cells slots ls C h1 h2 h3 h4 hX hW hS hg hl
  refine W.widen (k := R.cells) (n := R.slots) (by omega) (by omega) ?_
  show W _ _ _ _ _ _ _ _ _ _ _ _ _ _ _ (F0 m pc ls [lf g (va_rf o)])
  refine W.aret (v := lf g (va_rf o)) C.1 C.2.1 (C.2.2.2.1.trans hr) hty (by rw [lf_rf]; exact va_rf_or _) (fun t ht _ => qmI (v := some (va_rf o)) hq hW hS hg ht) hS.2.2 hd C.2.2.2.2.2.2.1
-- entry
theorem WPm.of {args : List Value} (hp : plainName y.1.cls = true) (hlen : (lg_sl args).length ≤ y.2.2.1) (k : WPc g y d rc rs 0 (lv_args 0 args) [] z I Q) : WPm g y d rc rs args z I Q := by
  intro l
  refine Met.ofW (cc := y.2.1) (maxL := y.2.2.1) (ret := y.2.2.2) hp rfl ?_
  intro p e s m as below meth c s₁ B hml hv
  obtain ⟨rfl, hK, hG, hX, hW⟩ := hv
  have hts := atoms_spec (ws := WS y) B.pre
  have hl := lv_entry (args.map (lf g)) (n := y.2.2.1) (by rw [lg_sl_lf]; exact hlen)
  rw [lfs_args] at hl
  rw [lg_entry_eq]
  have hgs : g0 g ≤ s.heap.size := by have := hW.2.2.2.2.1; omega
  exact k p l e (rmO d rc rs) s m _ below meth c s.heap [] 0 0 _ ⟨B.exec, B.bytes, hml, B.returns, findClass_of_methodNamed B.named, fun w h => hts w (List.mem_cons_of_mem _ h), B.notSynchronized, (name_of_methodNamed B.named B.method).1, hK, hG⟩ (Nat.le_refl _) (Nat.le_refl _) (by show 0 + rc ≤ rc; omega) (by show 0 + rs ≤ rs; omega) hX hW va_S.rf hgs hl
end RULES3
end
section
/-! calls, at WPc -/
/-- what every called method needs of the tables -/
def MthOK (y : Mth) (n : Nat) : Prop := Cond.code y.1 y.2.1 y.2.2.1 y.2.2.2 ∈ gw_tbl ∧ Cond.initialized y.1.cls ∈ gw_tbl ∧ (y.1.cls ≠ "java/lang/invoke/MethodHandle" ∧ y.1.cls ≠ "java/lang/invoke/VarHandle") ∧ (parseMethodDescriptor y.1.desc).map (fun d => d.parameters.length) = some n ∧ y.2.2.1 ≤ 22
theorem WS_good (y : Mth) (h : Cond.code y.1 y.2.1 y.2.2.1 y.2.2.2 ∈ gw_tbl) : GoodIn gw_tbl (WS y) := fun w hw => by
  have hm : w ∈ gw_tbl := (List.mem_cons.mp hw).elim (fun e => by rw [e]; exact h) id
  exact ⟨hm, good_of_word (gw_good w hm)⟩
section RULES4
variable {g : Gt} {y : Mth} {d rc rs pc : Nat} {lv : List (Nat × Value)} {st : List Value} {z : Zs} {I : Is} {Q : Option Value → Zs → Is → Prop}
variable {p : Program} {l : Launch} {e : Env} {R : Room} {s : State} {m : MethodId} {args : Array Value} {below : List Frame} {meth : Method} {c : Code} {H : Heap} {locs : List Loc} {cells slots : Nat} {ls : Array Slot}
theorem runK {mc ms rc' rs' : Nat} {st0 : List Value} {a : Array Value} {Q0 : Option Value → Zs → Is → Prop} (hr : va_Run p l e R s m args below meth c H locs cells slots mc ms (F0 m pc ls st0) (st.map (lf g)) (Qm g Q0 a) (Fa g)) (C : Cx g p y s m args meth c) (h1 : d ≤ R.frames) (h2 : 41 * d ≤ R.locals) (h3 : cells + rc ≤ R.cells) (h4 : slots + rs ≤ R.slots) (hmc : mc + rc' ≤ rc) (hms : ms + rs' ≤ rs) (hX : gX g s H) (hS : va_S (Fa g) s.heap H locs) (hg : g0 g ≤ s.heap.size) (hl : lv_has ls y.2.2.1 (lfs g lv)) (k : ∀ v z' I', Q0 v z' I' → WPc g y d rc' rs' (pc + 3) lv (v.toList ++ st) z' I' Q) : W p l e R s m args below meth c H locs cells slots (MQ below (Qm g Q) args s R.cells R.slots (Fa g)) (F0 m pc ls st0) := by
  intro T hT X
  obtain ⟨v, st₀, t, T', L, h0, X', hL, e1, e2, ⟨⟨v1, z1, I1, hv, hq, hW1⟩, hz, hk⟩, hst⟩ := hr T hT X
  have hv' : v = v1.map (lf g) := by cases hv; rfl
  rw [h0] at hz hk
  have hlow : ∀ q, q < g0 g → T'.heap[q]? = H[q]? := fun q hq => by rw [e1]; exact hk q hq
  have hsz : H.size ≤ T'.heap.size := by rw [e1]; exact hz
  obtain ⟨t2, a1, b1⟩ := k v1 z1 I1 hq p l e R s m args below meth c T'.heap (locs ++ L) (cells + mc) (slots + ms) ls C h1 h2 (by omega) (by omega) (C.2.2.2.2.2.2.2.2.2.2 s H T'.heap (Nat.le_trans hg hS.1) hlow hX) (by rw [e1]; exact hW1)
    ⟨Nat.le_trans hS.1 hsz, fun q h1 h2 => by rw [hlow q (Nat.lt_of_not_le h2)]; exact hS.2.1 q h1 h2, fun q hq => (List.mem_append.mp hq).elim (fun h => hS.2.2 q h) (fun h => hL q h)⟩ hg hl T' rfl X'
  refine ⟨t2, hst t2 ?_, b1⟩
  have e3 : v.toList ++ st.map (lf g) = (v1.toList ++ st).map (lf g) := by rw [hv']; cases v1 <;> simp
  show Steps _ _ _ (T'.setTop { method := m, pc := pc + 3, locals := ls, stack := v.toList ++ st.map (lf g), locked := none }) t2
  rw [e3]
  exact a1
theorem pm_blind {As : List Value} : FrameBlind (Pm g As z I) := fun a U gf mk q => ⟨q.1, va_K.moved (u := U) (U := U.calling gf mk a) (Vm.Alike.refl U.vm) q.2.1, q.2.2.1, q.2.2.1.1 U (U.calling gf mk a) U.heap (State.WarmedH.refl U) q.2.2.2.1, q.2.2.2.2⟩
theorem pm_at {As : List Value} (C : Cx g p y s m args meth c) (hX : gX g s H) (hW : Wh g z I H) : ∀ U : State, U.heap = H → s.WarmedH U.vm → Pm g As z I ((As.map (lf g)).toArray) U := fun U hU hw => ⟨rfl, va_K.moved hw.alike C.2.2.2.2.2.2.2.2.1, C.2.2.2.2.2.2.2.2.2, by rw [hU]; exact C.2.2.2.2.2.2.2.2.2.1 s U H hw hX, by rw [hU]; exact hW⟩
theorem cat_map : (st.map (lf g)).map (fun v => v.category) = st.map (fun v => v.category) := by rw [List.map_map]; exact List.map_congr_left (fun v _ => lf_cat g v)
theorem room_map {stx : List Value} (h : (st.map (fun v => v.category)).sum ≤ 8) : 2 * (F0 m pc ls stx).monitorRoom + ((st.map (lf g)).map fun v => v.category).sum ≤ 8 := lv_room (by rw [cat_map]; exact h)
theorem callB {y' : Mth} {n d' mc ms idx : Nat} (hm : MthOK y' n) (C : Cx g p y s m args meth c) (h1 : d' + 1 ≤ R.frames) (h2 : 41 * (d' + 1) ≤ R.locals) (hlink : Cond.methodLink y.1.cls idx y'.1 ∈ gw_tbl) : CallB R s args y.1.cls idx y'.1 y'.2.1 y'.2.2.1 y'.2.2.2 (WS y') (rmO d' mc ms) mc ms n := by
  obtain ⟨hc, hi, hne, hd, hml⟩ := hm
  have hts := C.2.2.2.2.2.1
  exact callB_of n hts (WS_good y' hc) rfl rfl rfl (hts _ hi) (hts _ hlink) ⟨hne.1, hne.2, hd⟩ ⟨h1, by show 8 + (y'.2.2.1 + 11) + 41 * d' ≤ _; omega⟩
theorem cfix (C : Cx g p y s m args meth c) : CallFix p m c y.2.1 y.2.2.1 s args gw_tbl y.1.cls := ⟨C.1, C.2.1, C.2.2.1, C.2.2.2.2.1, C.2.2.2.2.2.1⟩
theorem stk (As : List Value) (r : List Value) : (As.reverse ++ r).map (lf g) = (As.map (lf g)).reverse ++ r.map (lf g) := by rw [List.map_append, List.map_reverse]
end RULES4
section RULES5
variable {g : Gt} {y : Mth} {d rc rs pc : Nat} {lv : List (Nat × Value)} {st : List Value} {z : Zs} {I : Is} {Q : Option Value → Zs → Is → Prop}
def CalS (own : String) (idx : Nat) (y' : Mth) (n : Nat) : Prop := MthOK y' n ∧ Cond.methodLink own idx y'.1 ∈ gw_tbl ∧ Cond.static y'.1 ∈ gw_tbl
theorem r_callS {idx n mc ms rc' rs' : Nat} {y' : Mth} (As : List Value) (hd : decode y.2.1 pc = .ok (.invokestatic idx, 3)) (hc : CalS y.1.cls idx y' n) (hn : As.length = n) (hcat : (st.map (fun v => v.category)).sum ≤ 8) (hmc : mc + rc' ≤ rc) (hms : ms + rs' ≤ rs) (hM : WPm g y' d mc ms As z I (fun v z' I' => WPc g y (d + 1) rc' rs' (pc + 3) lv (v.toList ++ st) z' I' Q)) : WPc g y (d + 1) rc rs pc lv (As.reverse ++ st) z I Q := by
  intro p l e R s m args below meth c H locs cells slots ls C h1 h2 h3 h4 hX hW hS hg hl
  refine runK (va_runS (As := As.map (lf g)) (n := n) (cfix C) (hM l) ⟨callB hc.1 C h1 h2 hc.2.1, C.2.2.2.2.2.1 _ hc.2.2⟩ ⟨pm_blind, pm_at C hX hW⟩ rfl (by rw [List.length_map]; exact hn) hl.1 (stk As st) (room_map hcat) hd ⟨by omega, by omega⟩) C h1 h2 h3 h4 hmc hms hX hS hg hl (fun v z' I' q => q)
/-- the receiver's cell is of class ci -/
theorem recvO {g : Gt} {y : Mth} {z : Zs} {I : Is} {H : Heap} {p : Program} {s : State} {m : MethodId} {args : Array Value} {meth : Method} {c : Code} {a ci : Nat} {C0 : String} {T : u_T} (C : Cx g p y s m args meth c) (hW : Wh g z I H) (ht : zT z a = ci) (hc : ClsF ci C0 T) : ∃ cell : Cell, H[ad g a]? = some cell ∧ cell.vm.isStatics = false ∧ s.vm.findClass C0 = some cell.cls := by
  have h13 := hc.2.2.2.2
  obtain ⟨h8, hlt⟩ := hW.inN (k := a) (by omega)
  exact va_recv (D := gD g) (q := (C0, T, clN ci)) C.2.2.2.2.2.2.2.2.1 hW.2.2.2.1 (q0 := a - 8) hc.1 (by rw [wsO_get h8 hlt, elm_obj ht (by omega)])
def CalI (own : String) (idx : Nat) (y' : Mth) (n : Nat) : Prop := MthOK y' n ∧ Cond.methodLink own idx y'.1 ∈ gw_tbl ∧ Cond.instanceMethod y'.1 ∈ gw_tbl ∧ y'.1.name = "<init>" ∧ y'.2.2.2 = none
theorem r_callI {idx n mc ms rc' rs' a : Nat} {y' : Mth} (As : List Value) (hd : decode y.2.1 pc = .ok (.invokespecial idx, 3)) (hc : CalI y.1.cls idx y' n) (hn : As.length = n) (hcat : (st.map (fun v => v.category)).sum ≤ 8) (hmc : mc + rc' ≤ rc) (hms : ms + rs' ≤ rs) (hM : WPm g y' d mc ms (.ref a :: As) z I (fun v z' I' => WPc g y (d + 1) rc' rs' (pc + 3) lv (v.toList ++ st) z' I' Q)) : WPc g y (d + 1) rc rs pc lv (As.reverse ++ .ref a :: st) z I Q := by
  intro p l e R s m args below meth c H locs cells slots ls C h1 h2 h3 h4 hX hW hS hg hl
  have hB := callB (R := R) (mc := mc) (ms := ms) hc.1 C h1 h2 hc.2.1
  rw [hc.2.2.2.2] at hB
  exact runK (va_runI (As := As.map (lf g)) (b := ad g a) (n := n) (bytes := y'.2.1) (maxL := y'.2.2.1) (ws := WS y') (cfix C) (hM l) ⟨hB, hc.2.2.2.1, C.2.2.2.2.2.1 _ hc.2.2.1⟩ ⟨pm_blind, pm_at (As := .ref a :: As) C hX hW⟩ rfl (by rw [List.length_map]; exact hn) hl.1 (stk As (.ref a :: st)) (room_map hcat) hd ⟨by omega, by omega⟩) C h1 h2 h3 h4 hmc hms hX hS hg hl (fun v z' I' q => q)
def CalV (own : String) (idx : Nat) (y' : Mth) (n ci : Nat) : Prop := MthOK y' n ∧ Cond.methodLink own idx y'.1 ∈ gw_tbl ∧ Cond.instanceMethod y'.1 ∈ gw_tbl ∧ ∃ C T, ClsF ci C T ∧ C = y'.1.cls ∧ Cond.selects C y'.1 y'.1 ∈ gw_tbl
theorem r_callV {idx n ci mc ms rc' rs' a : Nat} {y' : Mth} (As : List Value) (hd : decode y.2.1 pc = .ok (.invokevirtual idx, 3)) (hc : CalV y.1.cls idx y' n ci) (ht : zT z a = ci) (hn : As.length = n) (hcat : (st.map (fun v => v.category)).sum ≤ 8) (hmc : mc + rc' ≤ rc) (hms : ms + rs' ≤ rs) (hM : WPm g y' d mc ms (.ref a :: As) z I (fun v z' I' => WPc g y (d + 1) rc' rs' (pc + 3) lv (v.toList ++ st) z' I' Q)) : WPc g y (d + 1) rc rs pc lv (As.reverse ++ .ref a :: st) z I Q := by
  intro p l e R s m args below meth c H locs cells slots ls C h1 h2 h3 h4 hX hW hS hg hl
  obtain ⟨hm, hlink, hinst, C0, T, hcl, hC0, hsel⟩ := hc
  have hts := C.2.2.2.2.2.1
  exact runK (va_runV (C := C0) (As := As.map (lf g)) (b := ad g a) (n := n) (cfix C) (hM l) ⟨callB hm C h1 h2 hlink, hts _ hinst, hts _ hsel⟩ ⟨pm_blind, recvO C hW ht hcl, pm_at (As := .ref a :: As) C hX hW⟩ rfl (by rw [List.length_map]; exact hn) hl.1 (stk As (.ref a :: st)) (room_map hcat) hd ⟨by omega, by omega⟩) C h1 h2 h3 h4 hmc hms hX hS hg hl (fun v z' I' q => q)
/-- a virtual call of x (named in the pool; owner declares it) that comes to y' for receivers of class ci -/
def CalU (own : String) (idx : Nat) (x : MethodName) (y' : Mth) (n ci : Nat) : Prop := MthOK y' n ∧ Cond.methodLink own idx x ∈ gw_tbl ∧ Cond.instanceMethod y'.1 ∈ gw_tbl ∧ ∃ (C : String) (T : u_T) (owner : String) (b0 : ByteArray) (m0 : Nat) (r0 : Option FieldType), ClsF ci C T ∧ Cond.sameMethod x.cls owner x.name x.desc ∈ gw_tbl ∧ Cond.instanceMethod ⟨owner, x.name, x.desc⟩ ∈ gw_tbl ∧ Cond.code ⟨owner, x.name, x.desc⟩ b0 m0 r0 ∈ gw_tbl ∧ Cond.selects C x y'.1 ∈ gw_tbl ∧ (owner ≠ "java/lang/invoke/MethodHandle" ∧ owner ≠ "java/lang/invoke/VarHandle") ∧ (parseMethodDescriptor x.desc).map (fun d => d.parameters.length) = some n
theorem r_callU {idx n ci mc ms rc' rs' a : Nat} {x : MethodName} {y' : Mth} (As : List Value) (hd : decode y.2.1 pc = .ok (.invokevirtual idx, 3)) (hc : CalU y.1.cls idx x y' n ci) (ht : zT z a = ci) (hn : As.length = n) (hcat : (st.map (fun v => v.category)).sum ≤ 8) (hmc : mc + rc' ≤ rc) (hms : ms + rs' ≤ rs) (hM : WPm g y' d mc ms (.ref a :: As) z I (fun v z' I' => WPc g y (d + 1) rc' rs' (pc + 3) lv (v.toList ++ st) z' I' Q)) : WPc g y (d + 1) rc rs pc lv (As.reverse ++ .ref a :: st) z I Q := by
  intro p l e R s m args below meth c H locs cells slots ls C h1 h2 h3 h4 hX hW hS hg hl
  obtain ⟨hm, hlink, hinst, C0, T, owner, b0, m0, r0, hcl, hsame, hio, hco, hsel, hne, hdesc⟩ := hc
  have hts := C.2.2.2.2.2.1
  have hG := WS_good y' hm.1
  have hcu : va_CU R s args y.1.cls C0 owner idx x y'.1 y'.2.1 y'.2.2.1 y'.2.2.2 (WS y') (rmO d mc ms) mc ms n := by
    refine ⟨⟨rfl, rfl, h1, by show 8 + (y'.2.2.1 + 11) + 41 * d ≤ _; have := hm.2.2.2.2; omega, pay_in hts hG, List.mem_cons_self⟩, hts _ hm.1, hts _ hm.2.1, hne, fun sig h => ?_, hts _ hlink, hts _ hsame, va_Decl.of (hts _ hio) (hts _ hco), hts _ hsel, hts _ hinst⟩
    rw [h] at hdesc
    exact (Option.some.inj hdesc).symm
  exact runK (va_runU (As := As.map (lf g)) (b := ad g a) (n := n) (cfix C) (hM l) hcu ⟨pm_blind, recvO C hW ht hcl, pm_at (As := .ref a :: As) C hX hW⟩ rfl (by rw [List.length_map]; exact hn) hl.1 (stk As (.ref a :: st)) (room_map hcat) hd ⟨by omega, by omega⟩) C h1 h2 h3 h4 hmc hms hX hS hg hl (fun v z' I' q => q)
/-- super.y'(..), for receivers of class ci -/
def CalP (own : String) (idx : Nat) (y' : Mth) (n ci : Nat) : Prop := MthOK y' n ∧ Cond.methodLink own idx y'.1 ∈ gw_tbl ∧ Cond.instanceMethod y'.1 ∈ gw_tbl ∧ Cond.sameMethod y'.1.cls y'.1.cls y'.1.name y'.1.desc ∈ gw_tbl ∧ Cond.superclass own y'.1.cls ∈ gw_tbl ∧ y'.1.name ≠ "<init>" ∧ ∃ C T, ClsF ci C T
theorem r_callP {idx n ci mc ms rc' rs' a : Nat} {y' : Mth} (As : List Value) (hd : decode y.2.1 pc = .ok (.invokespecial idx, 3)) (hc : CalP y.1.cls idx y' n ci) (ht : zT z a = ci) (hn : As.length = n) (hcat : (st.map (fun v => v.category)).sum ≤ 8) (hmc : mc + rc' ≤ rc) (hms : ms + rs' ≤ rs) (hM : WPm g y' d mc ms (.ref a :: As) z I (fun v z' I' => WPc g y (d + 1) rc' rs' (pc + 3) lv (v.toList ++ st) z' I' Q)) : WPc g y (d + 1) rc rs pc lv (As.reverse ++ .ref a :: st) z I Q := by
  intro p l e R s m args below meth c H locs cells slots ls C h1 h2 h3 h4 hX hW hS hg hl
  obtain ⟨hm, hlink, hinst, hsame, hsup, hni, C0, T, hcl⟩ := hc
  have hts := C.2.2.2.2.2.1
  have hG := WS_good y' hm.1
  have hcs : va_CS R s args y.1.cls idx y'.1 y'.2.1 y'.2.2.1 y'.2.2.2 (WS y') (rmO d mc ms) mc ms n := by
    refine ⟨⟨rfl, rfl, h1, by show 8 + (y'.2.2.1 + 11) + 41 * d ≤ _; have := hm.2.2.2.2; omega, pay_in hts hG, List.mem_cons_self⟩, hts _ hlink, hts _ hsame, hts _ hsup, hts _ hinst, hts _ hm.2.1, hts _ hm.1, hni, fun sig h => ?_⟩
    have hdesc := hm.2.2.2.1
    rw [h] at hdesc
    exact (Option.some.inj hdesc).symm
  have hat := (C.2.2.2.2.2.2.2.2.1.1 ci _ hcl.1).2
  exact runK (va_runSU (hat := hat) (As := As.map (lf g)) (b := ad g a) (n := n) (cfix C) (hM l) hcs ⟨pm_blind, recvO C hW ht hcl, pm_at (As := .ref a :: As) C hX hW⟩ rfl (by rw [List.length_map]; exact hn) hl.1 (stk As (.ref a :: st)) (room_map hcat) hd ⟨by omega, by omega⟩) C h1 h2 h3 h4 hmc hms hX hS hg hl (fun v z' I' q => q)
/-- super.x(..), where x is inherited: the pool names the superclass x.cls, the code is y' of its superclass -/
def CalQ (own : String) (idx : Nat) (x : MethodName) (y' : Mth) (n ci : Nat) : Prop := MthOK y' n ∧ Cond.methodLink own idx x ∈ gw_tbl ∧ Cond.instanceMethod y'.1 ∈ gw_tbl ∧ Cond.sameMethod x.cls y'.1.cls x.name x.desc ∈ gw_tbl ∧ Cond.superclass own x.cls ∈ gw_tbl ∧ Cond.superclass x.cls y'.1.cls ∈ gw_tbl ∧ (y'.1.name ≠ "<init>" ∧ x.name = y'.1.name ∧ x.desc = y'.1.desc) ∧ ∃ C T, ClsF ci C T
theorem r_callQ {idx n ci mc ms rc' rs' a : Nat} {x : MethodName} {y' : Mth} (As : List Value) (hd : decode y.2.1 pc = .ok (.invokespecial idx, 3)) (hc : CalQ y.1.cls idx x y' n ci) (ht : zT z a = ci) (hn : As.length = n) (hcat : (st.map (fun v => v.category)).sum ≤ 8) (hmc : mc + rc' ≤ rc) (hms : ms + rs' ≤ rs) (hM : WPm g y' d mc ms (.ref a :: As) z I (fun v z' I' => WPc g y (d + 1) rc' rs' (pc + 3) lv (v.toList ++ st) z' I' Q)) : WPc g y (d + 1) rc rs pc lv (As.reverse ++ .ref a :: st) z I Q := by
  intro p l e R s m args below meth c H locs cells slots ls C h1 h2 h3 h4 hX hW hS hg hl
  obtain ⟨hm, hlink, hinst, hsame, hsup, hsup2, ⟨hni, hxn, hxd⟩, C0, T0, hcl⟩ := hc
  have hts := C.2.2.2.2.2.1
  have hG := WS_good y' hm.1
  obtain ⟨hx, hb, hml, hown, -⟩ := cfix C
  obtain ⟨cellB, hcB, hoB, hclB⟩ := recvO C hW ht hcl
  obtain ⟨hfc, kB, hkB, -⟩ := (C.2.2.2.2.2.2.2.2.1.1 ci _ hcl.1).2
  have hcc : cellB.cls = (gD g).1 ci := (Option.some.inj (hfc.symm.trans hclB)).symm
  refine runK (mc := mc) (ms := ms) (Q0 := fun v z' I' => WPc g y (d + 1) rc' rs' (pc + 3) lv (v.toList ++ st) z' I' Q) (a := (Value.ref (ad g a) :: As.map (lf g)).toArray) ?_ C h1 h2 h3 h4 hmc hms hX hS hg hl (fun v z' I' q => q)
  intro T hT X
  obtain ⟨mk, methM, hnamed, hmethM, hstM, habM⟩ := Cond.instanceMethod_spec (hts _ hinst)
  obtain ⟨methM', cM, hmethM', -, -, -, -, -, -, hsigM⟩ := Cond.code_spec hnamed (hts _ hm.1)
  cases hmethM.symm.trans hmethM'
  obtain ⟨ps, dk, kp, hps, hdk, hkp, hsuper, -, -, hnid⟩ := Cond.superclass_spec hown (hts _ hsup)
  obtain ⟨ps2, dk2, kp2, hps2, hdk2, hkp2, hsuper2, -, -, -⟩ := Cond.superclass_spec hps (hts _ hsup2)
  have hn2 : s.methodNamed? ⟨y'.1.cls, x.name, x.desc⟩ = some mk := by rw [hxn, hxd]; exact hnamed
  have hpm : ps2 = mk.cls := Option.some.inj (hps2.symm.trans (findClass_of_methodNamed hnamed))
  have hsub : s.vm.isSubclass ps mk.cls = true := by
    rw [← hpm]
    obtain ⟨k, hk⟩ : ∃ k, s.vm.classes.size = k + 1 := ⟨s.vm.classes.size - 1, by have := (Array.getElem?_eq_some_iff.mp hdk).1; omega⟩
    unfold Vm.isSubclass
    rw [hk]
    simp [Vm.isSubclassAux, hdk2, hsuper2]
  obtain ⟨vm₁, X₁, hstep₁⟩ := X.invokespecialUp hx hown (hts _ hlink) (hts _ hsame) hn2 hmethM hstM habM (by rw [hxn]; exact hni) hdk hnid hps hsuper hsub (a := ad g a) (cell := cellB) (by rw [hT]; exact hcB)
    (fun z h => by rw [h] at hoB; cases hoB) (by rw [hcc]; exact hkB) (g := F0 m pc ls ((As.reverse ++ .ref a :: st : List Value).map (lf g))) rfl (argsL := As.map (lf g)) (rest := st.map (lf g)) (by
      rw [List.length_map, hn]
      have hdesc := hm.2.2.2.1
      rw [hsigM] at hdesc
      exact (Option.some.inj hdesc).symm) (stk As (.ref a :: st)) (by rw [hb]; exact hd)
  have hK : Back l R p e below s args y'.1 3 8 (PreOf R mc ms (Pm g (.ref a :: As) z I)) (PostOf (Qm g (fun v z' I' => WPc g y (d + 1) rc' rs' (pc + 3) lv (v.toList ++ st) z' I' Q)) mc ms (Fa g)) := back_of (bytes := y'.2.1) (maxL := y'.2.2.1) (ret := y'.2.2.2) (hM l) pm_blind rfl rfl h1 (by show 8 + (y'.2.2.1 + 11) + 41 * d ≤ _; have := hm.2.2.2.2; omega) (pay_in hts hG) List.mem_cons_self (fun a' U hW => word_at hW (Or.inl (by first | rfl | simp [Cond.onTables, Cond.keeps, Cond.steady])) (hts _ hm.2.1))
  obtain ⟨v, ⟨U', l2, c2, s2⟩, X', hpost, hsteps⟩ := hK m meth c ⟨T.setVm vm₁, locs, cells, slots⟩ (F0 m pc ls (st.map (lf g))) (.invokespecial idx) mk (Value.ref (ad g a) :: As.map (lf g)).toArray X₁ rfl (hl.1.trans hml.symm) (by rw [hb]; exact hd) (room_map hcat) (X₁.named hnamed) ⟨by show cells + mc ≤ _; omega, by show slots + ms ≤ _; omega, pm_at (As := .ref a :: As) C hX hW (T.setVm vm₁) hT X₁.warmed⟩
  obtain ⟨g', mk', t, L, e1, e2, hq, q1, hL, q2, q3⟩ := hpost
  dsimp only [Pt.U, Pt.locs, Pt.cells, Pt.slots] at X' e1 e2 q1 q2 q3 hsteps
  subst q1; subst q2; subst q3
  exact ⟨v, (T.setVm vm₁).calling g' mk' (Value.ref (ad g a) :: As.map (lf g)).toArray, t, U', L, hT, X', hL, e1, e2, hq, fun target h => hstep₁ _ (by rw [doInvoke_state]; exact hsteps.trans h)⟩
-- private ones of a nest mate
def NstOK (own : String) (idx : Nat) (y' : Mth) (n : Nat) (host : String) : Prop := MthOK y' n ∧ (own, idx, y'.1, host) ∈ NsL
theorem nestC {g : Gt} {y : Mth} {p : Program} {R : Room} {s : State} {m : MethodId} {args : Array Value} {meth : Method} {c : Code} {y' : Mth} {n d' mc ms idx : Nat} {host : String} (hm : NstOK y.1.cls idx y' n host) (hl0 : ∀ q ∈ NsL, va_Nw (.methodLinkNest q.1 q.2.1 q.2.2.1 q.2.2.2) s) (C : Cx g p y s m args meth c) (h1 : d' + 1 ≤ R.frames) (h2 : 41 * (d' + 1) ≤ R.locals) : va_CN R s args y.1.cls idx y'.1 host y'.2.1 y'.2.2.1 y'.2.2.2 (WS y') (rmO d' mc ms) mc ms n := by
  obtain ⟨⟨hc, hi, hne, hd, hml⟩, hl⟩ := hm
  have hts := C.2.2.2.2.2.1
  refine ⟨⟨rfl, rfl, h1, by show 8 + (y'.2.2.1 + 11) + 41 * d' ≤ _; omega, pay_in hts (WS_good y' hc), List.mem_cons_self⟩, hts _ hc, hts _ hi, hne, fun sig h => ?_, va_Nw.use rfl (hl0 _ hl)⟩
  rw [h] at hd
  exact (Option.some.inj hd).symm
theorem r_callSN {idx n mc ms rc' rs' : Nat} {y' : Mth} {host : String} (hgc : GC g) (As : List Value) (hd : decode y.2.1 pc = .ok (.invokestatic idx, 3)) (hc : NstOK y.1.cls idx y' n host) (hst : Cond.static y'.1 ∈ gw_tbl) (hn : As.length = n) (hcat : (st.map (fun v => v.category)).sum ≤ 8) (hmc : mc + rc' ≤ rc) (hms : ms + rs' ≤ rs) (hM : WPm g y' d mc ms As z I (fun v z' I' => WPc g y (d + 1) rc' rs' (pc + 3) lv (v.toList ++ st) z' I' Q)) : WPc g y (d + 1) rc rs pc lv (As.reverse ++ st) z I Q := by
  intro p l e R s m args below meth c H locs cells slots ls C h1 h2 h3 h4 hX hW hS hg hl
  exact runK (va_runSN (As := As.map (lf g)) (n := n) (cfix C) (hM l) ⟨nestC hc (hgc.2 s H hX).2 C h1 h2, C.2.2.2.2.2.1 _ hst, trivial⟩ ⟨pm_blind, pm_at C hX hW⟩ rfl (by rw [List.length_map]; exact hn) hl.1 (stk As st) (room_map hcat) hd ⟨by omega, by omega⟩) C h1 h2 h3 h4 hmc hms hX hS hg hl (fun v z' I' q => q)
theorem r_callIN {idx n mc ms rc' rs' a : Nat} {y' : Mth} {host : String} (hgc : GC g) (As : List Value) (hd : decode y.2.1 pc = .ok (.invokespecial idx, 3)) (hc : NstOK y.1.cls idx y' n host) (hin : Cond.instanceMethod y'.1 ∈ gw_tbl) (hnm : y'.1.name = "<init>") (hrn : y'.2.2.2 = none) (hn : As.length = n) (hcat : (st.map (fun v => v.category)).sum ≤ 8) (hmc : mc + rc' ≤ rc) (hms : ms + rs' ≤ rs) (hM : WPm g y' d mc ms (.ref a :: As) z I (fun v z' I' => WPc g y (d + 1) rc' rs' (pc + 3) lv (v.toList ++ st) z' I' Q)) : WPc g y (d + 1) rc rs pc lv (As.reverse ++ .ref a :: st) z I Q := by
  intro p l e R s m args below meth c H locs cells slots ls C h1 h2 h3 h4 hX hW hS hg hl
  have hB := nestC (R := R) (mc := mc) (ms := ms) hc (hgc.2 s H hX).2 C h1 h2
  rw [hrn] at hB
  exact runK (va_runIN (As := As.map (lf g)) (b := ad g a) (n := n) (bytes := y'.2.1) (maxL := y'.2.2.1) (ws := WS y') (cfix C) (hM l) ⟨hB, hnm, C.2.2.2.2.2.1 _ hin⟩ ⟨pm_blind, pm_at (As := .ref a :: As) C hX hW⟩ rfl (by rw [List.length_map]; exact hn) hl.1 (stk As (.ref a :: st)) (room_map hcat) hd ⟨by omega, by omega⟩) C h1 h2 h3 h4 hmc hms hX hS hg hl (fun v z' I' q => q)
/-- Object.<init> -/
def ObjOK (own : String) (idx : Nat) : Prop := Cond.methodLink own idx Lib.objectInit ∈ gw_tbl ∧ Cond.instanceMethod Lib.objectInit ∈ gw_tbl ∧ Cond.code Lib.objectInit ⟨#[0xb1]⟩ 1 none ∈ gw_tbl
theorem r_objInit {idx a : Nat} (hd : decode y.2.1 pc = .ok (.invokespecial idx, 3)) (hc : ObjOK y.1.cls idx) (hcat : (st.map (fun v => v.category)).sum ≤ 8) (k : WPc g y (d + 1) rc rs (pc + 3) lv st z I Q) : WPc g y (d + 1) rc rs pc lv (.ref a :: st) z I Q := by
  intro p l e R s m args below meth c H locs cells slots ls C h1 h2 h3 h4 hX hW hS hg hl
  have hts := C.2.2.2.2.2.1
  have hr := room_map (g := g) (m := m) (pc := pc) (ls := ls) (stx := (Value.ref a :: st).map (lf g)) hcat
  refine W.objInit C.1 C.2.1 C.2.2.2.2.1 (hts _ hc.1) (hts _ hc.2.1) (hts _ hc.2.2) rfl (hl.1.trans C.2.2.1.symm) rfl hd (by omega) (by omega) ?_
  exact W.eq (g2 := F0 m (pc + 3) ls (st.map (lf g))) rfl (k p l e R s m args below meth c H locs cells slots ls C h1 h2 h3 h4 hX hW hS hg hl)
/-- instanceof -/
theorem r_instY {idx a ci : Nat} {nm : String} (hgc : GC g) (hd : decode y.2.1 pc = .ok (.instanceof idx, 3)) (ht : zT z a = ci) (hl0 : Cond.classLink y.1.cls idx nm ∈ gw_tbl) (hy : ∃ C T, ClsF ci C T ∧ (C = nm ∨ (C, nm) ∈ CaL)) (k : WPc g y d rc rs (pc + 3) lv (.int 1 :: st) z I Q) : WPc g y d rc rs pc lv (.ref a :: st) z I Q := by
  intro p l e R s m args below meth c H locs cells slots ls C h1 h2 h3 h4 hX hW hS hg hl
  have hts := C.2.2.2.2.2.1
  obtain ⟨C0, T, hcl, hor⟩ := hy
  rcases hor with rfl | hcast
  · exact va_instS C.1 C.2.1 C.2.2.2.2.1 (hts _ hl0) (C.2.2.2.2.2.2.2.2.1.1 ci _ hcl.1).2 (recvO C hW ht hcl) hd (k p l e R s m args below meth c H locs cells slots ls C h1 h2 h3 h4 hX hW hS hg hl)
  · exact va_instY C.1 C.2.1 C.2.2.2.2.1 (hts _ hl0) (hgc.1 s H hX _ hcast) (recvO C hW ht hcl) hd (k p l e R s m args below meth c H locs cells slots ls C h1 h2 h3 h4 hX hW hS hg hl)
theorem r_instN {idx a ci : Nat} {nm : String} (hd : decode y.2.1 pc = .ok (.instanceof idx, 3)) (ht : zT z a = ci) (hl0 : Cond.classLink y.1.cls idx nm ∈ gw_tbl) {C0 : String} {T0 : u_T} (hcl : ClsF ci C0 T0) (hn : ∀ (s : State) (H : Heap), gX g s H → va_Nc C0 nm s) (k : WPc g y d rc rs (pc + 3) lv (.int 0 :: st) z I Q) : WPc g y d rc rs pc lv (.ref a :: st) z I Q := by
  intro p l e R s m args below meth c H locs cells slots ls C h1 h2 h3 h4 hX hW hS hg hl
  exact va_instNo C.1 C.2.1 C.2.2.2.2.1 (C.2.2.2.2.2.1 _ hl0) (hn s H hX) (recvO C hW ht hcl) hd (k p l e R s m args below meth c H locs cells slots ls C h1 h2 h3 h4 hX hW hS hg hl)
theorem r_ldc {idx : Nat} {v : Int32} (hd : decode y.2.1 pc = .ok (.ldc idx, 2)) (hc : Cond.constant y.1.cls idx v ∈ gw_tbl) (k : WPc g y d rc rs (pc + 2) lv (.int v :: st) z I Q) : WPc g y d rc rs pc lv st z I Q := fun p l e R s m args below meth c H locs cells slots ls C h1 h2 h3 h4 hX hW hS hg hl => lv_ldc C.1 C.2.1 C.2.2.2.2.1 (C.2.2.2.2.2.1 _ hc) hd (k p l e R s m args below meth c H locs cells slots ls C h1 h2 h3 h4 hX hW hS hg hl)
theorem r_ldcw {idx : Nat} {v : Int32} (hd : decode y.2.1 pc = .ok (.ldc_w idx, 3)) (hc : Cond.constant y.1.cls idx v ∈ gw_tbl) (k : WPc g y d rc rs (pc + 3) lv (.int v :: st) z I Q) : WPc g y d rc rs pc lv st z I Q := fun p l e R s m args below meth c H locs cells slots ls C h1 h2 h3 h4 hX hW hS hg hl => lv_ldcw C.1 C.2.1 C.2.2.2.2.1 (C.2.2.2.2.2.1 _ hc) hd (k p l e R s m args below meth c H locs cells slots ls C h1 h2 h3 h4 hX hW hS hg hl)
theorem r_ldc2 {idx : Nat} {v : Int64} (hd : decode y.2.1 pc = .ok (.ldc2_w idx, 3)) (hc : Cond.constantLong y.1.cls idx v ∈ gw_tbl) (k : WPc g y d rc rs (pc + 3) lv (.long v :: st) z I Q) : WPc g y d rc rs pc lv st z I Q := fun p l e R s m args below meth c H locs cells slots ls C h1 h2 h3 h4 hX hW hS hg hl => lv_ldc2 C.1 C.2.1 C.2.2.2.2.1 (C.2.2.2.2.2.1 _ hc) hd (k p l e R s m args below meth c H locs cells slots ls C h1 h2 h3 h4 hX hW hS hg hl)
end RULES5
end
section
/-! the methods; what the tables say of each -/
def mJ0_charAt_5068e : Mth := (yJ0_charAt_5068e, cJ0_charAt_5068e, 2, (some FieldType.char))
theorem mo_mJ0_charAt_5068e : MthOK mJ0_charAt_5068e 1 := ⟨wd_151, wd_6, ⟨by decide +kernel, by decide +kernel⟩, by decide +kernel, by decide⟩
def mJ0_checkBoundsBeginEnd_23922 : Mth := (yJ0_checkBoundsBeginEnd_23922, cJ0_checkBoundsBeginEnd_23922, 3, none)
theorem mo_mJ0_checkBoundsBeginEnd_23922 : MthOK mJ0_checkBoundsBeginEnd_23922 3 := ⟨wd_263, wd_6, ⟨by decide +kernel, by decide +kernel⟩, by decide +kernel, by decide⟩
def mJ0_checkIndex_df160 : Mth := (yJ0_checkIndex_df160, cJ0_checkIndex_df160, 2, none)
theorem mo_mJ0_checkIndex_df160 : MthOK mJ0_checkIndex_df160 2 := ⟨wd_161, wd_6, ⟨by decide +kernel, by decide +kernel⟩, by decide +kernel, by decide⟩
def mJ0_coder_7d493 : Mth := (yJ0_coder_7d493, cJ0_coder_7d493, 1, (some FieldType.byte))
theorem mo_mJ0_coder_7d493 : MthOK mJ0_coder_7d493 0 := ⟨wd_145, wd_6, ⟨by decide +kernel, by decide +kernel⟩, by decide +kernel, by decide⟩
def mJ0_indexOf_0f7a4 : Mth := (yJ0_indexOf_0f7a4, cJ0_indexOf_0f7a4, 2, (some FieldType.int))
theorem mo_mJ0_indexOf_0f7a4 : MthOK mJ0_indexOf_0f7a4 1 := ⟨wd_228, wd_6, ⟨by decide +kernel, by decide +kernel⟩, by decide +kernel, by decide⟩
def mJ0_indexOf_7cf53 : Mth := (yJ0_indexOf_7cf53, cJ0_indexOf_7cf53, 3, (some FieldType.int))
theorem mo_mJ0_indexOf_7cf53 : MthOK mJ0_indexOf_7cf53 2 := ⟨wd_232, wd_6, ⟨by decide +kernel, by decide +kernel⟩, by decide +kernel, by decide⟩
def mJ0_isLatin1_aae02 : Mth := (yJ0_isLatin1_aae02, cJ0_isLatin1_aae02, 1, (some FieldType.boolean))
theorem mo_mJ0_isLatin1_aae02 : MthOK mJ0_isLatin1_aae02 0 := ⟨wd_155, wd_6, ⟨by decide +kernel, by decide +kernel⟩, by decide +kernel, by decide⟩
def mJ0_length_8abf5 : Mth := (yJ0_length_8abf5, cJ0_length_8abf5, 1, (some FieldType.int))
theorem mo_mJ0_length_8abf5 : MthOK mJ0_length_8abf5 0 := ⟨wd_141, wd_6, ⟨by decide +kernel, by decide +kernel⟩, by decide +kernel, by decide⟩
def mJ1_canEncode_9a6ad : Mth := (yJ1_canEncode_9a6ad, cJ1_canEncode_9a6ad, 1, (some FieldType.boolean))
theorem mo_mJ1_canEncode_9a6ad : MthOK mJ1_canEncode_9a6ad 1 := ⟨wd_239, wd_7, ⟨by decide +kernel, by decide +kernel⟩, by decide +kernel, by decide⟩
def mJ1_charAt_3b067 : Mth := (yJ1_charAt_3b067, cJ1_charAt_3b067, 2, (some FieldType.char))
theorem mo_mJ1_charAt_3b067 : MthOK mJ1_charAt_3b067 2 := ⟨wd_158, wd_7, ⟨by decide +kernel, by decide +kernel⟩, by decide +kernel, by decide⟩
def mJ1_indexOfChar_4cfef : Mth := (yJ1_indexOfChar_4cfef, cJ1_indexOfChar_4cfef, 6, (some FieldType.int))
theorem mo_mJ1_indexOfChar_4cfef : MthOK mJ1_indexOfChar_4cfef 4 := ⟨wd_248, wd_7, ⟨by decide +kernel, by decide +kernel⟩, by decide +kernel, by decide⟩
def mJ1_indexOf_4cfef : Mth := (yJ1_indexOf_4cfef, cJ1_indexOf_4cfef, 4, (some FieldType.int))
theorem mo_mJ1_indexOf_4cfef : MthOK mJ1_indexOf_4cfef 4 := ⟨wd_236, wd_7, ⟨by decide +kernel, by decide +kernel⟩, by decide +kernel, by decide⟩
def mJ3_checkFromToIndex_8c36e : Mth := (yJ3_checkFromToIndex_8c36e, cJ3_checkFromToIndex_8c36e, 4, (some FieldType.int))
theorem mo_mJ3_checkFromToIndex_8c36e : MthOK mJ3_checkFromToIndex_8c36e 4 := ⟨wd_266, wd_8, ⟨by decide +kernel, by decide +kernel⟩, by decide +kernel, by decide⟩
def mJ3_checkIndex_8e157 : Mth := (yJ3_checkIndex_8e157, cJ3_checkIndex_8e157, 3, (some FieldType.int))
theorem mo_mJ3_checkIndex_8e157 : MthOK mJ3_checkIndex_8e157 3 := ⟨wd_166, wd_8, ⟨by decide +kernel, by decide +kernel⟩, by decide +kernel, by decide⟩
def mJ7_copyOf_59c91 : Mth := (yJ7_copyOf_59c91, cJ7_copyOf_59c91, 3, (some (FieldType.array FieldType.int)))
theorem mo_mJ7_copyOf_59c91 : MthOK mJ7_copyOf_59c91 2 := ⟨wd_328, wd_13, ⟨by decide +kernel, by decide +kernel⟩, by decide +kernel, by decide⟩
def mJ7_fill_53178 : Mth := (yJ7_fill_53178, cJ7_fill_53178, 4, none)
theorem mo_mJ7_fill_53178 : MthOK mJ7_fill_53178 2 := ⟨wd_584, wd_13, ⟨by decide +kernel, by decide +kernel⟩, by decide +kernel, by decide⟩
def mJ9_max_7cf53 : Mth := (yJ9_max_7cf53, cJ9_max_7cf53, 2, (some FieldType.int))
theorem mo_mJ9_max_7cf53 : MthOK mJ9_max_7cf53 2 := ⟨wd_242, wd_10, ⟨by decide +kernel, by decide +kernel⟩, by decide +kernel, by decide⟩
def mJ9_min_7cf53 : Mth := (yJ9_min_7cf53, cJ9_min_7cf53, 2, (some FieldType.int))
theorem mo_mJ9_min_7cf53 : MthOK mJ9_min_7cf53 2 := ⟨wd_245, wd_10, ⟨by decide +kernel, by decide +kernel⟩, by decide +kernel, by decide⟩
def m0_init : Mth := (yX0_init, cX0_init, 3, none)
theorem mo_m0_init : MthOK m0_init 2 := ⟨wd_485, wd_17, ⟨by decide +kernel, by decide +kernel⟩, by decide +kernel, by decide⟩
def m0_kind : Mth := (yX0_kind, cX0_kind, 1, (some FieldType.int))
theorem mo_m0_kind : MthOK m0_kind 0 := ⟨wd_560, wd_17, ⟨by decide +kernel, by decide +kernel⟩, by decide +kernel, by decide⟩
def m0_together : Mth := (yX0_together, cX0_together, 2, (some FieldType.int))
theorem mo_m0_together : MthOK m0_together 1 := ⟨wd_664, wd_17, ⟨by decide +kernel, by decide +kernel⟩, by decide +kernel, by decide⟩
def m10_init : Mth := (yX10_init, cX10_init, 3, none)
theorem mo_m10_init : MthOK m10_init 2 := ⟨wd_342, wd_12, ⟨by decide +kernel, by decide +kernel⟩, by decide +kernel, by decide⟩
def m10_pop : Mth := (yX10_pop, cX10_pop, 1, (some FieldType.int))
theorem mo_m10_pop : MthOK m10_pop 0 := ⟨wd_469, wd_12, ⟨by decide +kernel, by decide +kernel⟩, by decide +kernel, by decide⟩
def m10_push : Mth := (yX10_push, cX10_push, 2, none)
theorem mo_m10_push : MthOK m10_push 1 := ⟨wd_465, wd_12, ⟨by decide +kernel, by decide +kernel⟩, by decide +kernel, by decide⟩
def m10_reckon : Mth := (yX10_reckon, cX10_reckon, 3, (some FieldType.int))
theorem mo_m10_reckon : MthOK m10_reckon 3 := ⟨wd_472, wd_12, ⟨by decide +kernel, by decide +kernel⟩, by decide +kernel, by decide⟩
def m10_step : Mth := (yX10_step, cX10_step, 6, none)
theorem mo_m10_step : MthOK m10_step 2 := ⟨wd_461, wd_12, ⟨by decide +kernel, by decide +kernel⟩, by decide +kernel, by decide⟩
def m10_value : Mth := (yX10_value, cX10_value, 5, (some FieldType.int))
theorem mo_m10_value : MthOK m10_value 2 := ⟨wd_455, wd_12, ⟨by decide +kernel, by decide +kernel⟩, by decide +kernel, by decide⟩
def m11_all : Mth := (yX11_all, cX11_all, 4, (some FieldType.int))
theorem mo_m11_all : MthOK m11_all 2 := ⟨wd_609, wd_1, ⟨by decide +kernel, by decide +kernel⟩, by decide +kernel, by decide⟩
def m11_asks : Mth := (yX11_asks, cX11_asks, 5, (some FieldType.int))
theorem mo_m11_asks : MthOK m11_asks 4 := ⟨wd_443, wd_1, ⟨by decide +kernel, by decide +kernel⟩, by decide +kernel, by decide⟩
def m11_back : Mth := (yX11_back, cX11_back, 2, (some FieldType.int))
theorem mo_m11_back : MthOK m11_back 0 := ⟨wd_878, wd_1, ⟨by decide +kernel, by decide +kernel⟩, by decide +kernel, by decide⟩
def m11_best : Mth := (yX11_best, cX11_best, 14, (some FieldType.int))
theorem mo_m11_best : MthOK m11_best 4 := ⟨wd_732, wd_1, ⟨by decide +kernel, by decide +kernel⟩, by decide +kernel, by decide⟩
def m11_buy : Mth := (yX11_buy, cX11_buy, 5, (some FieldType.int))
theorem mo_m11_buy : MthOK m11_buy 2 := ⟨wd_688, wd_1, ⟨by decide +kernel, by decide +kernel⟩, by decide +kernel, by decide⟩
def m11_canSwap : Mth := (yX11_canSwap, cX11_canSwap, 4, (some FieldType.boolean))
theorem mo_m11_canSwap : MthOK m11_canSwap 4 := ⟨wd_720, wd_1, ⟨by decide +kernel, by decide +kernel⟩, by decide +kernel, by decide⟩
def m11_cell : Mth := (yX11_cell, cX11_cell, 5, (some FieldType.int))
theorem mo_m11_cell : MthOK m11_cell 3 := ⟨wd_886, wd_1, ⟨by decide +kernel, by decide +kernel⟩, by decide +kernel, by decide⟩
def m11_coinsBy : Mth := (yX11_coinsBy, cX11_coinsBy, 9, (some FieldType.int))
theorem mo_m11_coinsBy : MthOK m11_coinsBy 4 := ⟨wd_896, wd_1, ⟨by decide +kernel, by decide +kernel⟩, by decide +kernel, by decide⟩
def m11_commonDivisor : Mth := (yX11_commonDivisor, cX11_commonDivisor, 3, (some FieldType.int))
theorem mo_m11_commonDivisor : MthOK m11_commonDivisor 2 := ⟨wd_870, wd_1, ⟨by decide +kernel, by decide +kernel⟩, by decide +kernel, by decide⟩
def m11_copy : Mth := (yX11_copy, cX11_copy, 8, (some FieldType.int))
theorem mo_m11_copy : MthOK m11_copy 5 := ⟨wd_891, wd_1, ⟨by decide +kernel, by decide +kernel⟩, by decide +kernel, by decide⟩
def m11_count : Mth := (yX11_count, cX11_count, 2, (some FieldType.int))
theorem mo_m11_count : MthOK m11_count 1 := ⟨wd_411, wd_1, ⟨by decide +kernel, by decide +kernel⟩, by decide +kernel, by decide⟩
def m11_dearest : Mth := (yX11_dearest, cX11_dearest, 5, (some FieldType.int))
theorem mo_m11_dearest : MthOK m11_dearest 2 := ⟨wd_713, wd_1, ⟨by decide +kernel, by decide +kernel⟩, by decide +kernel, by decide⟩
def m11_drawn : Mth := (yX11_drawn, cX11_drawn, 3, (some FieldType.int))
theorem mo_m11_drawn : MthOK m11_drawn 2 := ⟨wd_852, wd_1, ⟨by decide +kernel, by decide +kernel⟩, by decide +kernel, by decide⟩
def m11_drawnBy : Mth := (yX11_drawnBy, cX11_drawnBy, 9, (some FieldType.int))
theorem mo_m11_drawnBy : MthOK m11_drawnBy 2 := ⟨wd_856, wd_1, ⟨by decide +kernel, by decide +kernel⟩, by decide +kernel, by decide⟩
def m11_feeFor : Mth := (yX11_feeFor, cX11_feeFor, 5, (some FieldType.int))
theorem mo_m11_feeFor : MthOK m11_feeFor 2 := ⟨wd_728, wd_1, ⟨by decide +kernel, by decide +kernel⟩, by decide +kernel, by decide⟩
def m11_feed : Mth := (yX11_feed, cX11_feed, 7, (some FieldType.int))
theorem mo_m11_feed : MthOK m11_feed 6 := ⟨wd_419, wd_1, ⟨by decide +kernel, by decide +kernel⟩, by decide +kernel, by decide⟩
def m11_film : Mth := (yX11_film, cX11_film, 7, (some FieldType.int))
theorem mo_m11_film : MthOK m11_film 3 := ⟨wd_834, wd_1, ⟨by decide +kernel, by decide +kernel⟩, by decide +kernel, by decide⟩
def m11_firstOther : Mth := (yX11_firstOther, cX11_firstOther, 4, (some FieldType.int))
theorem mo_m11_firstOther : MthOK m11_firstOther 2 := ⟨wd_810, wd_1, ⟨by decide +kernel, by decide +kernel⟩, by decide +kernel, by decide⟩
def m11_force : Mth := (yX11_force, cX11_force, 3, (some FieldType.int))
theorem mo_m11_force : MthOK m11_force 1 := ⟨wd_439, wd_1, ⟨by decide +kernel, by decide +kernel⟩, by decide +kernel, by decide⟩
def m11_idle : Mth := (yX11_idle, cX11_idle, 4, (some FieldType.int))
theorem mo_m11_idle : MthOK m11_idle 2 := ⟨wd_709, wd_1, ⟨by decide +kernel, by decide +kernel⟩, by decide +kernel, by decide⟩
def m11_image : Mth := (yX11_image, cX11_image, 2, (some FieldType.int))
theorem mo_m11_image : MthOK m11_image 0 := ⟨wd_874, wd_1, ⟨by decide +kernel, by decide +kernel⟩, by decide +kernel, by decide⟩
def m11_init : Mth := (yX11_init, cX11_init, 2, none)
theorem mo_m11_init : MthOK m11_init 0 := ⟨wd_26, wd_1, ⟨by decide +kernel, by decide +kernel⟩, by decide +kernel, by decide⟩
def m11_isByte : Mth := (yX11_isByte, cX11_isByte, 1, (some FieldType.boolean))
theorem mo_m11_isByte : MthOK m11_isByte 1 := ⟨wd_423, wd_1, ⟨by decide +kernel, by decide +kernel⟩, by decide +kernel, by decide⟩
def m11_isOfKind : Mth := (yX11_isOfKind, cX11_isOfKind, 2, (some FieldType.boolean))
theorem mo_m11_isOfKind : MthOK m11_isOfKind 2 := ⟨wd_904, wd_1, ⟨by decide +kernel, by decide +kernel⟩, by decide +kernel, by decide⟩
def m11_isPrice : Mth := (yX11_isPrice, cX11_isPrice, 1, (some FieldType.boolean))
theorem mo_m11_isPrice : MthOK m11_isPrice 1 := ⟨wd_644, wd_1, ⟨by decide +kernel, by decide +kernel⟩, by decide +kernel, by decide⟩
def m11_judge : Mth := (yX11_judge, cX11_judge, 5, (some FieldType.int))
theorem mo_m11_judge : MthOK m11_judge 2 := ⟨wd_793, wd_1, ⟨by decide +kernel, by decide +kernel⟩, by decide +kernel, by decide⟩
def m11_lacks : Mth := (yX11_lacks, cX11_lacks, 7, (some FieldType.int))
theorem mo_m11_lacks : MthOK m11_lacks 2 := ⟨wd_740, wd_1, ⟨by decide +kernel, by decide +kernel⟩, by decide +kernel, by decide⟩
def m11_laws : Mth := (yX11_laws, cX11_laws, 8, (some FieldType.int))
theorem mo_m11_laws : MthOK m11_laws 3 := ⟨wd_847, wd_1, ⟨by decide +kernel, by decide +kernel⟩, by decide +kernel, by decide⟩
def m11_lotBehind : Mth := (yX11_lotBehind, cX11_lotBehind, 2, (some FieldType.long))
theorem mo_m11_lotBehind : MthOK m11_lotBehind 1 := ⟨wd_859, wd_1, ⟨by decide +kernel, by decide +kernel⟩, by decide +kernel, by decide⟩
def m11_mean : Mth := (yX11_mean, cX11_mean, 7, (some FieldType.long))
theorem mo_m11_mean : MthOK m11_mean 4 := ⟨wd_866, wd_1, ⟨by decide +kernel, by decide +kernel⟩, by decide +kernel, by decide⟩
def m11_nameAll : Mth := (yX11_nameAll, cX11_nameAll, 6, none)
theorem mo_m11_nameAll : MthOK m11_nameAll 5 := ⟨wd_447, wd_1, ⟨by decide +kernel, by decide +kernel⟩, by decide +kernel, by decide⟩
def m11_newSort : Mth := (yX11_newSort, cX11_newSort, 3, (some (FieldType.object "UnlikeCoins$Sort")))
theorem mo_m11_newSort : MthOK m11_newSort 3 := ⟨wd_480, wd_1, ⟨by decide +kernel, by decide +kernel⟩, by decide +kernel, by decide⟩
def m11_of : Mth := (yX11_of, cX11_of, 4, (some FieldType.int))
theorem mo_m11_of : MthOK m11_of 2 := ⟨wd_605, wd_1, ⟨by decide +kernel, by decide +kernel⟩, by decide +kernel, by decide⟩
def m11_often : Mth := (yX11_often, cX11_often, 6, (some FieldType.int))
theorem mo_m11_often : MthOK m11_often 3 := ⟨wd_641, wd_1, ⟨by decide +kernel, by decide +kernel⟩, by decide +kernel, by decide⟩
def m11_pass : Mth := (yX11_pass, cX11_pass, 3, (some FieldType.int))
theorem mo_m11_pass : MthOK m11_pass 0 := ⟨wd_765, wd_1, ⟨by decide +kernel, by decide +kernel⟩, by decide +kernel, by decide⟩
def m11_passFor : Mth := (yX11_passFor, cX11_passFor, 5, none)
theorem mo_m11_passFor : MthOK m11_passFor 1 := ⟨wd_770, wd_1, ⟨by decide +kernel, by decide +kernel⟩, by decide +kernel, by decide⟩
def m11_price : Mth := (yX11_price, cX11_price, 7, (some FieldType.int))
theorem mo_m11_price : MthOK m11_price 1 := ⟨wd_696, wd_1, ⟨by decide +kernel, by decide +kernel⟩, by decide +kernel, by decide⟩
def m11_purse : Mth := (yX11_purse, cX11_purse, 1, (some FieldType.int))
theorem mo_m11_purse : MthOK m11_purse 0 := ⟨wd_577, wd_1, ⟨by decide +kernel, by decide +kernel⟩, by decide +kernel, by decide⟩
def m11_purseAt : Mth := (yX11_purseAt, cX11_purseAt, 2, (some (FieldType.object "UnlikeCoins$Purse")))
theorem mo_m11_purseAt : MthOK m11_purseAt 1 := ⟨wd_592, wd_1, ⟨by decide +kernel, by decide +kernel⟩, by decide +kernel, by decide⟩
def m11_rob : Mth := (yX11_rob, cX11_rob, 5, (some FieldType.int))
theorem mo_m11_rob : MthOK m11_rob 1 := ⟨wd_748, wd_1, ⟨by decide +kernel, by decide +kernel⟩, by decide +kernel, by decide⟩
def m11_says : Mth := (yX11_says, cX11_says, 4, (some FieldType.int))
theorem mo_m11_says : MthOK m11_says 2 := ⟨wd_451, wd_1, ⟨by decide +kernel, by decide +kernel⟩, by decide +kernel, by decide⟩
def m11_set : Mth := (yX11_set, cX11_set, 6, (some FieldType.int))
theorem mo_m11_set : MthOK m11_set 3 := ⟨wd_588, wd_1, ⟨by decide +kernel, by decide +kernel⟩, by decide +kernel, by decide⟩
def m11_sheet : Mth := (yX11_sheet, cX11_sheet, 5, (some FieldType.int))
theorem mo_m11_sheet : MthOK m11_sheet 3 := ⟨wd_882, wd_1, ⟨by decide +kernel, by decide +kernel⟩, by decide +kernel, by decide⟩
def m11_sheetAt : Mth := (yX11_sheetAt, cX11_sheetAt, 2, (some (FieldType.object "UnlikeCoins$Sheet")))
theorem mo_m11_sheetAt : MthOK m11_sheetAt 1 := ⟨wd_797, wd_1, ⟨by decide +kernel, by decide +kernel⟩, by decide +kernel, by decide⟩
def m11_sort : Mth := (yX11_sort, cX11_sort, 4, (some FieldType.int))
theorem mo_m11_sort : MthOK m11_sort 3 := ⟨wd_477, wd_1, ⟨by decide +kernel, by decide +kernel⟩, by decide +kernel, by decide⟩
def m11_sortAt : Mth := (yX11_sortAt, cX11_sortAt, 2, (some (FieldType.object "UnlikeCoins$Sort")))
theorem mo_m11_sortAt : MthOK m11_sortAt 1 := ⟨wd_553, wd_1, ⟨by decide +kernel, by decide +kernel⟩, by decide +kernel, by decide⟩
def m11_strike : Mth := (yX11_strike, cX11_strike, 5, (some FieldType.int))
theorem mo_m11_strike : MthOK m11_strike 2 := ⟨wd_761, wd_1, ⟨by decide +kernel, by decide +kernel⟩, by decide +kernel, by decide⟩
def m11_swap : Mth := (yX11_swap, cX11_swap, 8, (some FieldType.int))
theorem mo_m11_swap : MthOK m11_swap 3 := ⟨wd_717, wd_1, ⟨by decide +kernel, by decide +kernel⟩, by decide +kernel, by decide⟩
def m11_taken : Mth := (yX11_taken, cX11_taken, 4, (some FieldType.int))
theorem mo_m11_taken : MthOK m11_taken 2 := ⟨wd_901, wd_1, ⟨by decide +kernel, by decide +kernel⟩, by decide +kernel, by decide⟩
def m11_text : Mth := (yX11_text, cX11_text, 2, (some FieldType.int))
theorem mo_m11_text : MthOK m11_text 0 := ⟨wd_431, wd_1, ⟨by decide +kernel, by decide +kernel⟩, by decide +kernel, by decide⟩
def m11_thief : Mth := (yX11_thief, cX11_thief, 9, (some FieldType.int))
theorem mo_m11_thief : MthOK m11_thief 3 := ⟨wd_744, wd_1, ⟨by decide +kernel, by decide +kernel⟩, by decide +kernel, by decide⟩
def m11_timesAt : Mth := (yX11_timesAt, cX11_timesAt, 4, (some FieldType.int))
theorem mo_m11_timesAt : MthOK m11_timesAt 2 := ⟨wd_648, wd_1, ⟨by decide +kernel, by decide +kernel⟩, by decide +kernel, by decide⟩
def m11_timesOfAll : Mth := (yX11_timesOfAll, cX11_timesOfAll, 5, (some FieldType.int))
theorem mo_m11_timesOfAll : MthOK m11_timesOfAll 2 := ⟨wd_700, wd_1, ⟨by decide +kernel, by decide +kernel⟩, by decide +kernel, by decide⟩
def m11_timesWith : Mth := (yX11_timesWith, cX11_timesWith, 5, (some FieldType.int))
theorem mo_m11_timesWith : MthOK m11_timesWith 4 := ⟨wd_736, wd_1, ⟨by decide +kernel, by decide +kernel⟩, by decide +kernel, by decide⟩
def m11_told : Mth := (yX11_told, cX11_told, 4, (some FieldType.int))
theorem mo_m11_told : MthOK m11_told 2 := ⟨wd_549, wd_1, ⟨by decide +kernel, by decide +kernel⟩, by decide +kernel, by decide⟩
def m11_tryPurse : Mth := (yX11_tryPurse, cX11_tryPurse, 5, (some FieldType.int))
theorem mo_m11_tryPurse : MthOK m11_tryPurse 1 := ⟨wd_830, wd_1, ⟨by decide +kernel, by decide +kernel⟩, by decide +kernel, by decide⟩
def m11_tryWage : Mth := (yX11_tryWage, cX11_tryWage, 10, (some FieldType.int))
theorem mo_m11_tryWage : MthOK m11_tryWage 3 := ⟨wd_756, wd_1, ⟨by decide +kernel, by decide +kernel⟩, by decide +kernel, by decide⟩
def m11_two : Mth := (yX11_two, cX11_two, 13, (some FieldType.int))
theorem mo_m11_two : MthOK m11_two 4 := ⟨wd_692, wd_1, ⟨by decide +kernel, by decide +kernel⟩, by decide +kernel, by decide⟩
def m11_wage : Mth := (yX11_wage, cX11_wage, 12, (some FieldType.int))
theorem mo_m11_wage : MthOK m11_wage 4 := ⟨wd_752, wd_1, ⟨by decide +kernel, by decide +kernel⟩, by decide +kernel, by decide⟩
def m11_was : Mth := (yX11_was, cX11_was, 9, (some FieldType.int))
theorem mo_m11_was : MthOK m11_was 2 := ⟨wd_826, wd_1, ⟨by decide +kernel, by decide +kernel⟩, by decide +kernel, by decide⟩
def m11_whose : Mth := (yX11_whose, cX11_whose, 5, (some FieldType.int))
theorem mo_m11_whose : MthOK m11_whose 1 := ⟨wd_822, wd_1, ⟨by decide +kernel, by decide +kernel⟩, by decide +kernel, by decide⟩
def m11_within : Mth := (yX11_within, cX11_within, 3, (some FieldType.boolean))
theorem mo_m11_within : MthOK m11_within 3 := ⟨wd_206, wd_1, ⟨by decide +kernel, by decide +kernel⟩, by decide +kernel, by decide⟩
def m11_worthAt : Mth := (yX11_worthAt, cX11_worthAt, 3, (some FieldType.int))
theorem mo_m11_worthAt : MthOK m11_worthAt 2 := ⟨wd_684, wd_1, ⟨by decide +kernel, by decide +kernel⟩, by decide +kernel, by decide⟩
def m12_all : Mth := (yX12_all, cX12_all, 6, (some FieldType.int))
theorem mo_m12_all : MthOK m12_all 2 := ⟨wd_1144, wd_15, ⟨by decide +kernel, by decide +kernel⟩, by decide +kernel, by decide⟩
def m12_areTwo : Mth := (yX12_areTwo, cX12_areTwo, 3, (some FieldType.boolean))
theorem mo_m12_areTwo : MthOK m12_areTwo 2 := ⟨wd_1227, wd_15, ⟨by decide +kernel, by decide +kernel⟩, by decide +kernel, by decide⟩
def m12_asks : Mth := (yX12_asks, cX12_asks, 6, (some FieldType.int))
theorem mo_m12_asks : MthOK m12_asks 4 := ⟨wd_1098, wd_15, ⟨by decide +kernel, by decide +kernel⟩, by decide +kernel, by decide⟩
def m12_asksOf : Mth := (yX12_asksOf, cX12_asksOf, 7, (some FieldType.int))
theorem mo_m12_asksOf : MthOK m12_asksOf 6 := ⟨wd_1102, wd_15, ⟨by decide +kernel, by decide +kernel⟩, by decide +kernel, by decide⟩
def m12_back : Mth := (yX12_back, cX12_back, 2, (some FieldType.int))
theorem mo_m12_back : MthOK m12_back 0 := ⟨wd_1351, wd_15, ⟨by decide +kernel, by decide +kernel⟩, by decide +kernel, by decide⟩
def m12_best : Mth := (yX12_best, cX12_best, 14, (some FieldType.int))
theorem mo_m12_best : MthOK m12_best 4 := ⟨wd_1243, wd_15, ⟨by decide +kernel, by decide +kernel⟩, by decide +kernel, by decide⟩
def m12_between : Mth := (yX12_between, cX12_between, 2, (some FieldType.boolean))
theorem mo_m12_between : MthOK m12_between 1 := ⟨wd_957, wd_15, ⟨by decide +kernel, by decide +kernel⟩, by decide +kernel, by decide⟩
def m12_buy : Mth := (yX12_buy, cX12_buy, 3, (some FieldType.int))
theorem mo_m12_buy : MthOK m12_buy 2 := ⟨wd_1191, wd_15, ⟨by decide +kernel, by decide +kernel⟩, by decide +kernel, by decide⟩
def m12_canSwap : Mth := (yX12_canSwap, cX12_canSwap, 5, (some FieldType.boolean))
theorem mo_m12_canSwap : MthOK m12_canSwap 4 := ⟨wd_1231, wd_15, ⟨by decide +kernel, by decide +kernel⟩, by decide +kernel, by decide⟩
def m12_cell : Mth := (yX12_cell, cX12_cell, 4, (some FieldType.int))
theorem mo_m12_cell : MthOK m12_cell 3 := ⟨wd_1359, wd_15, ⟨by decide +kernel, by decide +kernel⟩, by decide +kernel, by decide⟩
def m12_coinWorth : Mth := (yX12_coinWorth, cX12_coinWorth, 4, (some FieldType.int))
theorem mo_m12_coinWorth : MthOK m12_coinWorth 2 := ⟨wd_1148, wd_15, ⟨by decide +kernel, by decide +kernel⟩, by decide +kernel, by decide⟩
def m12_coinsBy : Mth := (yX12_coinsBy, cX12_coinsBy, 9, (some FieldType.int))
theorem mo_m12_coinsBy : MthOK m12_coinsBy 4 := ⟨wd_1367, wd_15, ⟨by decide +kernel, by decide +kernel⟩, by decide +kernel, by decide⟩
def m12_coinsOf : Mth := (yX12_coinsOf, cX12_coinsOf, 4, (some FieldType.int))
theorem mo_m12_coinsOf : MthOK m12_coinsOf 1 := ⟨wd_1376, wd_15, ⟨by decide +kernel, by decide +kernel⟩, by decide +kernel, by decide⟩
def m12_comesTrue : Mth := (yX12_comesTrue, cX12_comesTrue, 4, (some FieldType.int))
theorem mo_m12_comesTrue : MthOK m12_comesTrue 1 := ⟨wd_1195, wd_15, ⟨by decide +kernel, by decide +kernel⟩, by decide +kernel, by decide⟩
def m12_copy : Mth := (yX12_copy, cX12_copy, 10, (some FieldType.int))
theorem mo_m12_copy : MthOK m12_copy 5 := ⟨wd_1363, wd_15, ⟨by decide +kernel, by decide +kernel⟩, by decide +kernel, by decide⟩
def m12_couldBy : Mth := (yX12_couldBy, cX12_couldBy, 8, (some FieldType.int))
theorem mo_m12_couldBy : MthOK m12_couldBy 2 := ⟨wd_1331, wd_15, ⟨by decide +kernel, by decide +kernel⟩, by decide +kernel, by decide⟩
def m12_count : Mth := (yX12_count, cX12_count, 2, (some FieldType.int))
theorem mo_m12_count : MthOK m12_count 1 := ⟨wd_1082, wd_15, ⟨by decide +kernel, by decide +kernel⟩, by decide +kernel, by decide⟩
def m12_dearest : Mth := (yX12_dearest, cX12_dearest, 4, (some FieldType.int))
theorem mo_m12_dearest : MthOK m12_dearest 2 := ⟨wd_1219, wd_15, ⟨by decide +kernel, by decide +kernel⟩, by decide +kernel, by decide⟩
def m12_drawn : Mth := (yX12_drawn, cX12_drawn, 3, (some FieldType.int))
theorem mo_m12_drawn : MthOK m12_drawn 2 := ⟨wd_1324, wd_15, ⟨by decide +kernel, by decide +kernel⟩, by decide +kernel, by decide⟩
def m12_eRead : Mth := (yX12_eRead, cX12_eRead, 4, (some FieldType.boolean))
theorem mo_m12_eRead : MthOK m12_eRead 0 := ⟨wd_929, wd_15, ⟨by decide +kernel, by decide +kernel⟩, by decide +kernel, by decide⟩
def m12_feeOf : Mth := (yX12_feeOf, cX12_feeOf, 3, (some FieldType.int))
theorem mo_m12_feeOf : MthOK m12_feeOf 2 := ⟨wd_1239, wd_15, ⟨by decide +kernel, by decide +kernel⟩, by decide +kernel, by decide⟩
def m12_feed : Mth := (yX12_feed, cX12_feed, 8, (some FieldType.int))
theorem mo_m12_feed : MthOK m12_feed 6 := ⟨wd_1086, wd_15, ⟨by decide +kernel, by decide +kernel⟩, by decide +kernel, by decide⟩
def m12_film : Mth := (yX12_film, cX12_film, 5, (some FieldType.int))
theorem mo_m12_film : MthOK m12_film 3 := ⟨wd_1315, wd_15, ⟨by decide +kernel, by decide +kernel⟩, by decide +kernel, by decide⟩
def m12_force : Mth := (yX12_force, cX12_force, 3, (some FieldType.int))
theorem mo_m12_force : MthOK m12_force 1 := ⟨wd_1094, wd_15, ⟨by decide +kernel, by decide +kernel⟩, by decide +kernel, by decide⟩
def m12_holds : Mth := (yX12_holds, cX12_holds, 2, none)
theorem mo_m12_holds : MthOK m12_holds 1 := ⟨wd_949, wd_15, ⟨by decide +kernel, by decide +kernel⟩, by decide +kernel, by decide⟩
def m12_idle : Mth := (yX12_idle, cX12_idle, 3, (some FieldType.int))
theorem mo_m12_idle : MthOK m12_idle 2 := ⟨wd_1215, wd_15, ⟨by decide +kernel, by decide +kernel⟩, by decide +kernel, by decide⟩
def m12_image : Mth := (yX12_image, cX12_image, 2, (some FieldType.int))
theorem mo_m12_image : MthOK m12_image 0 := ⟨wd_1347, wd_15, ⟨by decide +kernel, by decide +kernel⟩, by decide +kernel, by decide⟩
def m12_in : Mth := (yX12_in, cX12_in, 3, (some FieldType.boolean))
theorem mo_m12_in : MthOK m12_in 3 := ⟨wd_921, wd_15, ⟨by decide +kernel, by decide +kernel⟩, by decide +kernel, by decide⟩
def m12_init : Mth := (yX12_init, cX12_init, 2, none)
theorem mo_m12_init : MthOK m12_init 0 := ⟨wd_909, wd_15, ⟨by decide +kernel, by decide +kernel⟩, by decide +kernel, by decide⟩
def m12_isByte : Mth := (yX12_isByte, cX12_isByte, 1, (some FieldType.boolean))
theorem mo_m12_isByte : MthOK m12_isByte 1 := ⟨wd_1089, wd_15, ⟨by decide +kernel, by decide +kernel⟩, by decide +kernel, by decide⟩
def m12_isDrawn : Mth := (yX12_isDrawn, cX12_isDrawn, 2, (some FieldType.boolean))
theorem mo_m12_isDrawn : MthOK m12_isDrawn 2 := ⟨wd_1327, wd_15, ⟨by decide +kernel, by decide +kernel⟩, by decide +kernel, by decide⟩
def m12_isPrice : Mth := (yX12_isPrice, cX12_isPrice, 1, (some FieldType.boolean))
theorem mo_m12_isPrice : MthOK m12_isPrice 1 := ⟨wd_1155, wd_15, ⟨by decide +kernel, by decide +kernel⟩, by decide +kernel, by decide⟩
def m12_isPurse : Mth := (yX12_isPurse, cX12_isPurse, 2, (some FieldType.boolean))
theorem mo_m12_isPurse : MthOK m12_isPurse 1 := ⟨wd_1136, wd_15, ⟨by decide +kernel, by decide +kernel⟩, by decide +kernel, by decide⟩
def m12_isSort : Mth := (yX12_isSort, cX12_isSort, 2, (some FieldType.boolean))
theorem mo_m12_isSort : MthOK m12_isSort 1 := ⟨wd_1124, wd_15, ⟨by decide +kernel, by decide +kernel⟩, by decide +kernel, by decide⟩
def m12_isUnder : Mth := (yX12_isUnder, cX12_isUnder, 2, (some FieldType.boolean))
theorem mo_m12_isUnder : MthOK m12_isUnder 2 := ⟨wd_1379, wd_15, ⟨by decide +kernel, by decide +kernel⟩, by decide +kernel, by decide⟩
def m12_judge : Mth := (yX12_judge, cX12_judge, 4, (some FieldType.int))
theorem mo_m12_judge : MthOK m12_judge 2 := ⟨wd_1291, wd_15, ⟨by decide +kernel, by decide +kernel⟩, by decide +kernel, by decide⟩
def m12_lacks : Mth := (yX12_lacks, cX12_lacks, 7, (some FieldType.int))
theorem mo_m12_lacks : MthOK m12_lacks 2 := ⟨wd_1247, wd_15, ⟨by decide +kernel, by decide +kernel⟩, by decide +kernel, by decide⟩
def m12_laws : Mth := (yX12_laws, cX12_laws, 8, (some FieldType.int))
theorem mo_m12_laws : MthOK m12_laws 3 := ⟨wd_1319, wd_15, ⟨by decide +kernel, by decide +kernel⟩, by decide +kernel, by decide⟩
def m12_lays : Mth := (yX12_lays, cX12_lays, 5, (some FieldType.boolean))
theorem mo_m12_lays : MthOK m12_lays 1 := ⟨wd_1171, wd_15, ⟨by decide +kernel, by decide +kernel⟩, by decide +kernel, by decide⟩
def m12_leftNow : Mth := (yX12_leftNow, cX12_leftNow, 4, (some FieldType.int))
theorem mo_m12_leftNow : MthOK m12_leftNow 1 := ⟨wd_1183, wd_15, ⟨by decide +kernel, by decide +kernel⟩, by decide +kernel, by decide⟩
def m12_lowest : Mth := (yX12_lowest, cX12_lowest, 11, (some FieldType.long))
theorem mo_m12_lowest : MthOK m12_lowest 3 := ⟨wd_1343, wd_15, ⟨by decide +kernel, by decide +kernel⟩, by decide +kernel, by decide⟩
def m12_mean : Mth := (yX12_mean, cX12_mean, 8, (some FieldType.long))
theorem mo_m12_mean : MthOK m12_mean 4 := ⟨wd_1339, wd_15, ⟨by decide +kernel, by decide +kernel⟩, by decide +kernel, by decide⟩
def m12_next : Mth := (yX12_next, cX12_next, 3, none)
theorem mo_m12_next : MthOK m12_next 0 := ⟨wd_918, wd_15, ⟨by decide +kernel, by decide +kernel⟩, by decide +kernel, by decide⟩
def m12_nextLaid : Mth := (yX12_nextLaid, cX12_nextLaid, 4, (some FieldType.int))
theorem mo_m12_nextLaid : MthOK m12_nextLaid 0 := ⟨wd_1175, wd_15, ⟨by decide +kernel, by decide +kernel⟩, by decide +kernel, by decide⟩
def m12_nextRow : Mth := (yX12_nextRow, cX12_nextRow, 5, (some FieldType.boolean))
theorem mo_m12_nextRow : MthOK m12_nextRow 1 := ⟨wd_1275, wd_15, ⟨by decide +kernel, by decide +kernel⟩, by decide +kernel, by decide⟩
def m12_of : Mth := (yX12_of, cX12_of, 3, (some FieldType.int))
theorem mo_m12_of : MthOK m12_of 2 := ⟨wd_1140, wd_15, ⟨by decide +kernel, by decide +kernel⟩, by decide +kernel, by decide⟩
def m12_often : Mth := (yX12_often, cX12_often, 5, (some FieldType.int))
theorem mo_m12_often : MthOK m12_often 3 := ⟨wd_1152, wd_15, ⟨by decide +kernel, by decide +kernel⟩, by decide +kernel, by decide⟩
def m12_oftenNow : Mth := (yX12_oftenNow, cX12_oftenNow, 3, (some FieldType.int))
theorem mo_m12_oftenNow : MthOK m12_oftenNow 1 := ⟨wd_1167, wd_15, ⟨by decide +kernel, by decide +kernel⟩, by decide +kernel, by decide⟩
def m12_oftenOf : Mth := (yX12_oftenOf, cX12_oftenOf, 3, (some FieldType.int))
theorem mo_m12_oftenOf : MthOK m12_oftenOf 2 := ⟨wd_1159, wd_15, ⟨by decide +kernel, by decide +kernel⟩, by decide +kernel, by decide⟩
def m12_oftenOfAll : Mth := (yX12_oftenOfAll, cX12_oftenOfAll, 4, (some FieldType.int))
theorem mo_m12_oftenOfAll : MthOK m12_oftenOfAll 1 := ⟨wd_1211, wd_15, ⟨by decide +kernel, by decide +kernel⟩, by decide +kernel, by decide⟩
def m12_oftenWithMore : Mth := (yX12_oftenWithMore, cX12_oftenWithMore, 5, (some FieldType.int))
theorem mo_m12_oftenWithMore : MthOK m12_oftenWithMore 2 := ⟨wd_1251, wd_15, ⟨by decide +kernel, by decide +kernel⟩, by decide +kernel, by decide⟩
def m12_oftenWithRow : Mth := (yX12_oftenWithRow, cX12_oftenWithRow, 5, (some FieldType.int))
theorem mo_m12_oftenWithRow : MthOK m12_oftenWithRow 3 := ⟨wd_1267, wd_15, ⟨by decide +kernel, by decide +kernel⟩, by decide +kernel, by decide⟩
def m12_opensOne : Mth := (yX12_opensOne, cX12_opensOne, 2, (some FieldType.boolean))
theorem mo_m12_opensOne : MthOK m12_opensOne 1 := ⟨wd_945, wd_15, ⟨by decide +kernel, by decide +kernel⟩, by decide +kernel, by decide⟩
def m12_pass : Mth := (yX12_pass, cX12_pass, 6, (some FieldType.int))
theorem mo_m12_pass : MthOK m12_pass 0 := ⟨wd_1283, wd_15, ⟨by decide +kernel, by decide +kernel⟩, by decide +kernel, by decide⟩
def m12_price : Mth := (yX12_price, cX12_price, 8, (some FieldType.int))
theorem mo_m12_price : MthOK m12_price 1 := ⟨wd_1207, wd_15, ⟨by decide +kernel, by decide +kernel⟩, by decide +kernel, by decide⟩
def m12_purse : Mth := (yX12_purse, cX12_purse, 2, (some FieldType.int))
theorem mo_m12_purse : MthOK m12_purse 0 := ⟨wd_1128, wd_15, ⟨by decide +kernel, by decide +kernel⟩, by decide +kernel, by decide⟩
def m12_puts : Mth := (yX12_puts, cX12_puts, 2, none)
theorem mo_m12_puts : MthOK m12_puts 1 := ⟨wd_934, wd_15, ⟨by decide +kernel, by decide +kernel⟩, by decide +kernel, by decide⟩
def m12_rank : Mth := (yX12_rank, cX12_rank, 1, (some FieldType.int))
theorem mo_m12_rank : MthOK m12_rank 1 := ⟨wd_941, wd_15, ⟨by decide +kernel, by decide +kernel⟩, by decide +kernel, by decide⟩
def m12_remains : Mth := (yX12_remains, cX12_remains, 3, (some FieldType.int))
theorem mo_m12_remains : MthOK m12_remains 2 := ⟨wd_1287, wd_15, ⟨by decide +kernel, by decide +kernel⟩, by decide +kernel, by decide⟩
def m12_rob : Mth := (yX12_rob, cX12_rob, 4, (some FieldType.int))
theorem mo_m12_rob : MthOK m12_rob 1 := ⟨wd_1259, wd_15, ⟨by decide +kernel, by decide +kernel⟩, by decide +kernel, by decide⟩
def m12_rowDigits : Mth := (yX12_rowDigits, cX12_rowDigits, 4, (some FieldType.int))
theorem mo_m12_rowDigits : MthOK m12_rowDigits 1 := ⟨wd_1271, wd_15, ⟨by decide +kernel, by decide +kernel⟩, by decide +kernel, by decide⟩
def m12_says : Mth := (yX12_says, cX12_says, 5, (some FieldType.int))
theorem mo_m12_says : MthOK m12_says 1 := ⟨wd_1106, wd_15, ⟨by decide +kernel, by decide +kernel⟩, by decide +kernel, by decide⟩
def m12_set : Mth := (yX12_set, cX12_set, 5, (some FieldType.int))
theorem mo_m12_set : MthOK m12_set 3 := ⟨wd_1132, wd_15, ⟨by decide +kernel, by decide +kernel⟩, by decide +kernel, by decide⟩
def m12_sheet : Mth := (yX12_sheet, cX12_sheet, 5, (some FieldType.int))
theorem mo_m12_sheet : MthOK m12_sheet 3 := ⟨wd_1355, wd_15, ⟨by decide +kernel, by decide +kernel⟩, by decide +kernel, by decide⟩
def m12_sheetWrong : Mth := (yX12_sheetWrong, cX12_sheetWrong, 2, (some FieldType.int))
theorem mo_m12_sheetWrong : MthOK m12_sheetWrong 1 := ⟨wd_1295, wd_15, ⟨by decide +kernel, by decide +kernel⟩, by decide +kernel, by decide⟩
def m12_signOf : Mth := (yX12_signOf, cX12_signOf, 1, (some FieldType.int))
theorem mo_m12_signOf : MthOK m12_signOf 0 := ⟨wd_953, wd_15, ⟨by decide +kernel, by decide +kernel⟩, by decide +kernel, by decide⟩
def m12_sort : Mth := (yX12_sort, cX12_sort, 5, (some FieldType.int))
theorem mo_m12_sort : MthOK m12_sort 3 := ⟨wd_1116, wd_15, ⟨by decide +kernel, by decide +kernel⟩, by decide +kernel, by decide⟩
def m12_strike : Mth := (yX12_strike, cX12_strike, 6, (some FieldType.int))
theorem mo_m12_strike : MthOK m12_strike 2 := ⟨wd_1279, wd_15, ⟨by decide +kernel, by decide +kernel⟩, by decide +kernel, by decide⟩
def m12_swap : Mth := (yX12_swap, cX12_swap, 4, (some FieldType.int))
theorem mo_m12_swap : MthOK m12_swap 3 := ⟨wd_1223, wd_15, ⟨by decide +kernel, by decide +kernel⟩, by decide +kernel, by decide⟩
def m12_swaps : Mth := (yX12_swaps, cX12_swaps, 5, none)
theorem mo_m12_swaps : MthOK m12_swaps 4 := ⟨wd_1235, wd_15, ⟨by decide +kernel, by decide +kernel⟩, by decide +kernel, by decide⟩
def m12_taken : Mth := (yX12_taken, cX12_taken, 4, (some FieldType.int))
theorem mo_m12_taken : MthOK m12_taken 2 := ⟨wd_1372, wd_15, ⟨by decide +kernel, by decide +kernel⟩, by decide +kernel, by decide⟩
def m12_text : Mth := (yX12_text, cX12_text, 3, (some FieldType.int))
theorem mo_m12_text : MthOK m12_text 0 := ⟨wd_914, wd_15, ⟨by decide +kernel, by decide +kernel⟩, by decide +kernel, by decide⟩
def m12_thief : Mth := (yX12_thief, cX12_thief, 8, (some FieldType.int))
theorem mo_m12_thief : MthOK m12_thief 3 := ⟨wd_1255, wd_15, ⟨by decide +kernel, by decide +kernel⟩, by decide +kernel, by decide⟩
def m12_thinksOf : Mth := (yX12_thinksOf, cX12_thinksOf, 3, none)
theorem mo_m12_thinksOf : MthOK m12_thinksOf 1 := ⟨wd_1163, wd_15, ⟨by decide +kernel, by decide +kernel⟩, by decide +kernel, by decide⟩
def m12_together : Mth := (yX12_together, cX12_together, 4, (some FieldType.int))
theorem mo_m12_together : MthOK m12_together 2 := ⟨wd_1179, wd_15, ⟨by decide +kernel, by decide +kernel⟩, by decide +kernel, by decide⟩
def m12_told : Mth := (yX12_told, cX12_told, 3, (some FieldType.int))
theorem mo_m12_told : MthOK m12_told 2 := ⟨wd_1120, wd_15, ⟨by decide +kernel, by decide +kernel⟩, by decide +kernel, by decide⟩
def m12_two : Mth := (yX12_two, cX12_two, 3, (some FieldType.int))
theorem mo_m12_two : MthOK m12_two 3 := ⟨wd_1109, wd_15, ⟨by decide +kernel, by decide +kernel⟩, by decide +kernel, by decide⟩
def m12_two_ : Mth := (yX12_two_, cX12_two_, 10, (some FieldType.int))
theorem mo_m12_two_ : MthOK m12_two_ 4 := ⟨wd_1199, wd_15, ⟨by decide +kernel, by decide +kernel⟩, by decide +kernel, by decide⟩
def m12_unlike : Mth := (yX12_unlike, cX12_unlike, 4, (some FieldType.int))
theorem mo_m12_unlike : MthOK m12_unlike 2 := ⟨wd_1299, wd_15, ⟨by decide +kernel, by decide +kernel⟩, by decide +kernel, by decide⟩
def m12_unlikeThought : Mth := (yX12_unlikeThought, cX12_unlikeThought, 4, (some FieldType.int))
theorem mo_m12_unlikeThought : MthOK m12_unlikeThought 1 := ⟨wd_1303, wd_15, ⟨by decide +kernel, by decide +kernel⟩, by decide +kernel, by decide⟩
def m12_unwinds : Mth := (yX12_unwinds, cX12_unwinds, 3, none)
theorem mo_m12_unwinds : MthOK m12_unwinds 1 := ⟨wd_938, wd_15, ⟨by decide +kernel, by decide +kernel⟩, by decide +kernel, by decide⟩
def m12_wage : Mth := (yX12_wage, cX12_wage, 9, (some FieldType.int))
theorem mo_m12_wage : MthOK m12_wage 4 := ⟨wd_1263, wd_15, ⟨by decide +kernel, by decide +kernel⟩, by decide +kernel, by decide⟩
def m12_was : Mth := (yX12_was, cX12_was, 9, (some FieldType.int))
theorem mo_m12_was : MthOK m12_was 2 := ⟨wd_1311, wd_15, ⟨by decide +kernel, by decide +kernel⟩, by decide +kernel, by decide⟩
def m12_whose : Mth := (yX12_whose, cX12_whose, 5, (some FieldType.int))
theorem mo_m12_whose : MthOK m12_whose 1 := ⟨wd_1307, wd_15, ⟨by decide +kernel, by decide +kernel⟩, by decide +kernel, by decide⟩
def m12_within : Mth := (yX12_within, cX12_within, 3, (some FieldType.int))
theorem mo_m12_within : MthOK m12_within 3 := ⟨wd_1112, wd_15, ⟨by decide +kernel, by decide +kernel⟩, by decide +kernel, by decide⟩
def m12_wordFrom : Mth := (yX12_wordFrom, cX12_wordFrom, 6, (some FieldType.int))
theorem mo_m12_wordFrom : MthOK m12_wordFrom 2 := ⟨wd_925, wd_15, ⟨by decide +kernel, by decide +kernel⟩, by decide +kernel, by decide⟩
def m12_worthOf : Mth := (yX12_worthOf, cX12_worthOf, 2, (some FieldType.int))
theorem mo_m12_worthOf : MthOK m12_worthOf 1 := ⟨wd_1187, wd_15, ⟨by decide +kernel, by decide +kernel⟩, by decide +kernel, by decide⟩
def m12_worthTwo : Mth := (yX12_worthTwo, cX12_worthTwo, 6, (some FieldType.int))
theorem mo_m12_worthTwo : MthOK m12_worthTwo 4 := ⟨wd_1203, wd_15, ⟨by decide +kernel, by decide +kernel⟩, by decide +kernel, by decide⟩
def m1_init : Mth := (yX1_init, cX1_init, 3, none)
theorem mo_m1_init : MthOK m1_init 2 := ⟨wd_527, wd_20, ⟨by decide +kernel, by decide +kernel⟩, by decide +kernel, by decide⟩
def m1_kind : Mth := (yX1_kind, cX1_kind, 1, (some FieldType.int))
theorem mo_m1_kind : MthOK m1_kind 0 := ⟨wd_563, wd_20, ⟨by decide +kernel, by decide +kernel⟩, by decide +kernel, by decide⟩
def m1_leftOf : Mth := (yX1_leftOf, cX1_leftOf, 2, (some FieldType.int))
theorem mo_m1_leftOf : MthOK m1_leftOf 1 := ⟨wd_778, wd_20, ⟨by decide +kernel, by decide +kernel⟩, by decide +kernel, by decide⟩
def m1_worthOf : Mth := (yX1_worthOf, cX1_worthOf, 2, (some FieldType.int))
theorem mo_m1_worthOf : MthOK m1_worthOf 1 := ⟨wd_629, wd_20, ⟨by decide +kernel, by decide +kernel⟩, by decide +kernel, by decide⟩
def m2_init : Mth := (yX2_init, cX2_init, 2, none)
theorem mo_m2_init : MthOK m2_init 0 := ⟨wd_95, wd_4, ⟨by decide +kernel, by decide +kernel⟩, by decide +kernel, by decide⟩
def m3_init : Mth := (yX3_init, cX3_init, 3, none)
theorem mo_m3_init : MthOK m3_init 2 := ⟨wd_536, wd_21, ⟨by decide +kernel, by decide +kernel⟩, by decide +kernel, by decide⟩
def m3_kind : Mth := (yX3_kind, cX3_kind, 1, (some FieldType.int))
theorem mo_m3_kind : MthOK m3_kind 0 := ⟨wd_566, wd_21, ⟨by decide +kernel, by decide +kernel⟩, by decide +kernel, by decide⟩
def m3_leftOf : Mth := (yX3_leftOf, cX3_leftOf, 2, (some FieldType.int))
theorem mo_m3_leftOf : MthOK m3_leftOf 1 := ⟨wd_785, wd_21, ⟨by decide +kernel, by decide +kernel⟩, by decide +kernel, by decide⟩
def m3_together : Mth := (yX3_together, cX3_together, 2, (some FieldType.int))
theorem mo_m3_together : MthOK m3_together 1 := ⟨wd_669, wd_21, ⟨by decide +kernel, by decide +kernel⟩, by decide +kernel, by decide⟩
def m4_become : Mth := (yX4_become, cX4_become, 2, none)
theorem mo_m4_become : MthOK m4_become 1 := ⟨wd_652, wd_2, ⟨by decide +kernel, by decide +kernel⟩, by decide +kernel, by decide⟩
def m4_clear : Mth := (yX4_clear, cX4_clear, 1, none)
theorem mo_m4_clear : MthOK m4_clear 0 := ⟨wd_581, wd_2, ⟨by decide +kernel, by decide +kernel⟩, by decide +kernel, by decide⟩
def m4_coins : Mth := (yX4_coins, cX4_coins, 3, (some FieldType.int))
theorem mo_m4_coins : MthOK m4_coins 0 := ⟨wd_613, wd_2, ⟨by decide +kernel, by decide +kernel⟩, by decide +kernel, by decide⟩
def m4_grow : Mth := (yX4_grow, cX4_grow, 4, (some FieldType.int))
theorem mo_m4_grow : MthOK m4_grow 2 := ⟨wd_704, wd_2, ⟨by decide +kernel, by decide +kernel⟩, by decide +kernel, by decide⟩
def m4_init : Mth := (yX4_init, cX4_init, 1, none)
theorem mo_m4_init : MthOK m4_init 0 := ⟨wd_37, wd_2, ⟨by decide +kernel, by decide +kernel⟩, by decide +kernel, by decide⟩
def m4_lay : Mth := (yX4_lay, cX4_lay, 6, (some FieldType.int))
theorem mo_m4_lay : MthOK m4_lay 2 := ⟨wd_657, wd_2, ⟨by decide +kernel, by decide +kernel⟩, by decide +kernel, by decide⟩
def m4_lose : Mth := (yX4_lose, cX4_lose, 2, none)
theorem mo_m4_lose : MthOK m4_lose 1 := ⟨wd_724, wd_2, ⟨by decide +kernel, by decide +kernel⟩, by decide +kernel, by decide⟩
def m4_many : Mth := (yX4_many, cX4_many, 2, (some FieldType.int))
theorem mo_m4_many : MthOK m4_many 1 := ⟨wd_596, wd_2, ⟨by decide +kernel, by decide +kernel⟩, by decide +kernel, by decide⟩
def m4_mostPlentiful : Mth := (yX4_mostPlentiful, cX4_mostPlentiful, 4, (some FieldType.int))
theorem mo_m4_mostPlentiful : MthOK m4_mostPlentiful 0 := ⟨wd_680, wd_2, ⟨by decide +kernel, by decide +kernel⟩, by decide +kernel, by decide⟩
def m4_put : Mth := (yX4_put, cX4_put, 3, none)
theorem mo_m4_put : MthOK m4_put 2 := ⟨wd_601, wd_2, ⟨by decide +kernel, by decide +kernel⟩, by decide +kernel, by decide⟩
def m4_sortBits : Mth := (yX4_sortBits, cX4_sortBits, 3, (some FieldType.int))
theorem mo_m4_sortBits : MthOK m4_sortBits 0 := ⟨wd_617, wd_2, ⟨by decide +kernel, by decide +kernel⟩, by decide +kernel, by decide⟩
def m4_worth : Mth := (yX4_worth, cX4_worth, 5, (some FieldType.int))
theorem mo_m4_worth : MthOK m4_worth 1 := ⟨wd_621, wd_2, ⟨by decide +kernel, by decide +kernel⟩, by decide +kernel, by decide⟩
def m5_advance : Mth := (yX5_advance, cX5_advance, 2, none)
theorem mo_m5_advance : MthOK m5_advance 0 := ⟨wd_197, wd_3, ⟨by decide +kernel, by decide +kernel⟩, by decide +kernel, by decide⟩
def m5_clear : Mth := (yX5_clear, cX5_clear, 1, none)
theorem mo_m5_clear : MthOK m5_clear 0 := ⟨wd_361, wd_3, ⟨by decide +kernel, by decide +kernel⟩, by decide +kernel, by decide⟩
def m5_emit : Mth := (yX5_emit, cX5_emit, 2, none)
theorem mo_m5_emit : MthOK m5_emit 1 := ⟨wd_319, wd_3, ⟨by decide +kernel, by decide +kernel⟩, by decide +kernel, by decide⟩
def m5_hasRoom : Mth := (yX5_hasRoom, cX5_hasRoom, 2, (some FieldType.boolean))
theorem mo_m5_hasRoom : MthOK m5_hasRoom 1 := ⟨wd_427, wd_3, ⟨by decide +kernel, by decide +kernel⟩, by decide +kernel, by decide⟩
def m5_init : Mth := (yX5_init, cX5_init, 1, none)
theorem mo_m5_init : MthOK m5_init 0 := ⟨wd_58, wd_3, ⟨by decide +kernel, by decide +kernel⟩, by decide +kernel, by decide⟩
def m5_isBlank : Mth := (yX5_isBlank, cX5_isBlank, 1, (some FieldType.boolean))
theorem mo_m5_isBlank : MthOK m5_isBlank 1 := ⟨wd_200, wd_3, ⟨by decide +kernel, by decide +kernel⟩, by decide +kernel, by decide⟩
def m5_isDigit : Mth := (yX5_isDigit, cX5_isDigit, 1, (some FieldType.boolean))
theorem mo_m5_isDigit : MthOK m5_isDigit 1 := ⟨wd_219, wd_3, ⟨by decide +kernel, by decide +kernel⟩, by decide +kernel, by decide⟩
def m5_isLetter : Mth := (yX5_isLetter, cX5_isLetter, 1, (some FieldType.boolean))
theorem mo_m5_isLetter : MthOK m5_isLetter 1 := ⟨wd_203, wd_3, ⟨by decide +kernel, by decide +kernel⟩, by decide +kernel, by decide⟩
def m5_isWord : Mth := (yX5_isWord, cX5_isWord, 4, (some FieldType.boolean))
theorem mo_m5_isWord : MthOK m5_isWord 1 := ⟨wd_214, wd_3, ⟨by decide +kernel, by decide +kernel⟩, by decide +kernel, by decide⟩
def m5_place : Mth := (yX5_place, cX5_place, 1, (some FieldType.int))
theorem mo_m5_place : MthOK m5_place 0 := ⟨wd_435, wd_3, ⟨by decide +kernel, by decide +kernel⟩, by decide +kernel, by decide⟩
def m5_put : Mth := (yX5_put, cX5_put, 2, none)
theorem mo_m5_put : MthOK m5_put 1 := ⟨wd_189, wd_3, ⟨by decide +kernel, by decide +kernel⟩, by decide +kernel, by decide⟩
def m5_readBoth : Mth := (yX5_readBoth, cX5_readBoth, 2, (some FieldType.boolean))
theorem mo_m5_readBoth : MthOK m5_readBoth 0 := ⟨wd_295, wd_3, ⟨by decide +kernel, by decide +kernel⟩, by decide +kernel, by decide⟩
def m5_readCompared : Mth := (yX5_readCompared, cX5_readCompared, 3, (some FieldType.boolean))
theorem mo_m5_readCompared : MthOK m5_readCompared 0 := ⟨wd_303, wd_3, ⟨by decide +kernel, by decide +kernel⟩, by decide +kernel, by decide⟩
def m5_readDenied : Mth := (yX5_readDenied, cX5_readDenied, 2, (some FieldType.boolean))
theorem mo_m5_readDenied : MthOK m5_readDenied 0 := ⟨wd_299, wd_3, ⟨by decide +kernel, by decide +kernel⟩, by decide +kernel, by decide⟩
def m5_readEither : Mth := (yX5_readEither, cX5_readEither, 2, (some FieldType.boolean))
theorem mo_m5_readEither : MthOK m5_readEither 0 := ⟨wd_291, wd_3, ⟨by decide +kernel, by decide +kernel⟩, by decide +kernel, by decide⟩
def m5_readNumber : Mth := (yX5_readNumber, cX5_readNumber, 1, none)
theorem mo_m5_readNumber : MthOK m5_readNumber 0 := ⟨wd_223, wd_3, ⟨by decide +kernel, by decide +kernel⟩, by decide +kernel, by decide⟩
def m5_readOne : Mth := (yX5_readOne, cX5_readOne, 3, (some FieldType.boolean))
theorem mo_m5_readOne : MthOK m5_readOne 0 := ⟨wd_315, wd_3, ⟨by decide +kernel, by decide +kernel⟩, by decide +kernel, by decide⟩
def m5_readSum : Mth := (yX5_readSum, cX5_readSum, 3, (some FieldType.boolean))
theorem mo_m5_readSum : MthOK m5_readSum 0 := ⟨wd_307, wd_3, ⟨by decide +kernel, by decide +kernel⟩, by decide +kernel, by decide⟩
def m5_readTerm : Mth := (yX5_readTerm, cX5_readTerm, 2, (some FieldType.boolean))
theorem mo_m5_readTerm : MthOK m5_readTerm 0 := ⟨wd_311, wd_3, ⟨by decide +kernel, by decide +kernel⟩, by decide +kernel, by decide⟩
def m5_readText : Mth := (yX5_readText, cX5_readText, 2, (some FieldType.boolean))
theorem mo_m5_readText : MthOK m5_readText 0 := ⟨wd_193, wd_3, ⟨by decide +kernel, by decide +kernel⟩, by decide +kernel, by decide⟩
def m5_readToken : Mth := (yX5_readToken, cX5_readToken, 2, (some FieldType.boolean))
theorem mo_m5_readToken : MthOK m5_readToken 1 := ⟨wd_287, wd_3, ⟨by decide +kernel, by decide +kernel⟩, by decide +kernel, by decide⟩
def m5_readWord : Mth := (yX5_readWord, cX5_readWord, 2, none)
theorem mo_m5_readWord : MthOK m5_readWord 0 := ⟨wd_210, wd_3, ⟨by decide +kernel, by decide +kernel⟩, by decide +kernel, by decide⟩
def m5_size : Mth := (yX5_size, cX5_size, 1, (some FieldType.int))
theorem mo_m5_size : MthOK m5_size 0 := ⟨wd_415, wd_3, ⟨by decide +kernel, by decide +kernel⟩, by decide +kernel, by decide⟩
def m5_textRead : Mth := (yX5_textRead, cX5_textRead, 1, (some (FieldType.object "UnlikeCoins$Text")))
theorem mo_m5_textRead : MthOK m5_textRead 0 := ⟨wd_323, wd_3, ⟨by decide +kernel, by decide +kernel⟩, by decide +kernel, by decide⟩
def m6_init : Mth := (yX6_init, cX6_init, 3, none)
theorem mo_m6_init : MthOK m6_init 2 := ⟨wd_509, wd_18, ⟨by decide +kernel, by decide +kernel⟩, by decide +kernel, by decide⟩
def m6_kind : Mth := (yX6_kind, cX6_kind, 1, (some FieldType.int))
theorem mo_m6_kind : MthOK m6_kind 0 := ⟨wd_569, wd_18, ⟨by decide +kernel, by decide +kernel⟩, by decide +kernel, by decide⟩
def m6_worthOf : Mth := (yX6_worthOf, cX6_worthOf, 2, (some FieldType.int))
theorem mo_m6_worthOf : MthOK m6_worthOf 1 := ⟨wd_632, wd_18, ⟨by decide +kernel, by decide +kernel⟩, by decide +kernel, by decide⟩
def m7_become : Mth := (yX7_become, cX7_become, 3, none)
theorem mo_m7_become : MthOK m7_become 2 := ⟨wd_838, wd_5, ⟨by decide +kernel, by decide +kernel⟩, by decide +kernel, by decide⟩
def m7_cannotTell : Mth := (yX7_cannotTell, cX7_cannotTell, 1, (some FieldType.boolean))
theorem mo_m7_cannotTell : MthOK m7_cannotTell 0 := ⟨wd_801, wd_5, ⟨by decide +kernel, by decide +kernel⟩, by decide +kernel, by decide⟩
def m7_get : Mth := (yX7_get, cX7_get, 2, (some FieldType.int))
theorem mo_m7_get : MthOK m7_get 1 := ⟨wd_814, wd_5, ⟨by decide +kernel, by decide +kernel⟩, by decide +kernel, by decide⟩
def m7_holds : Mth := (yX7_holds, cX7_holds, 3, (some FieldType.boolean))
theorem mo_m7_holds : MthOK m7_holds 2 := ⟨wd_818, wd_5, ⟨by decide +kernel, by decide +kernel⟩, by decide +kernel, by decide⟩
def m7_init : Mth := (yX7_init, cX7_init, 1, none)
theorem mo_m7_init : MthOK m7_init 0 := ⟨wd_122, wd_5, ⟨by decide +kernel, by decide +kernel⟩, by decide +kernel, by decide⟩
def m7_isMissing : Mth := (yX7_isMissing, cX7_isMissing, 1, (some FieldType.boolean))
theorem mo_m7_isMissing : MthOK m7_isMissing 0 := ⟨wd_805, wd_5, ⟨by decide +kernel, by decide +kernel⟩, by decide +kernel, by decide⟩
def m7_put : Mth := (yX7_put, cX7_put, 3, none)
theorem mo_m7_put : MthOK m7_put 2 := ⟨wd_843, wd_5, ⟨by decide +kernel, by decide +kernel⟩, by decide +kernel, by decide⟩
def m8_init : Mth := (yX8_init, cX8_init, 3, none)
theorem mo_m8_init : MthOK m8_init 2 := ⟨wd_488, wd_16, ⟨by decide +kernel, by decide +kernel⟩, by decide +kernel, by decide⟩
def m8_kind : Mth := (yX8_kind, cX8_kind, 1, (some FieldType.int))
theorem mo_m8_kind : MthOK m8_kind 0 := ⟨wd_573, wd_16, ⟨by decide +kernel, by decide +kernel⟩, by decide +kernel, by decide⟩
def m8_leftOf : Mth := (yX8_leftOf, cX8_leftOf, 2, (some FieldType.int))
theorem mo_m8_leftOf : MthOK m8_leftOf 1 := ⟨wd_789, wd_16, ⟨by decide +kernel, by decide +kernel⟩, by decide +kernel, by decide⟩
def m8_together : Mth := (yX8_together, cX8_together, 2, (some FieldType.int))
theorem mo_m8_together : MthOK m8_together 1 := ⟨wd_676, wd_16, ⟨by decide +kernel, by decide +kernel⟩, by decide +kernel, by decide⟩
def m8_worthOf : Mth := (yX8_worthOf, cX8_worthOf, 2, (some FieldType.int))
theorem mo_m8_worthOf : MthOK m8_worthOf 1 := ⟨wd_637, wd_16, ⟨by decide +kernel, by decide +kernel⟩, by decide +kernel, by decide⟩
def m9_init : Mth := (yX9_init, cX9_init, 3, none)
theorem mo_m9_init : MthOK m9_init 2 := ⟨wd_518, wd_19, ⟨by decide +kernel, by decide +kernel⟩, by decide +kernel, by decide⟩
def m9_kind : Mth := (yX9_kind, cX9_kind, 1, (some FieldType.int))
theorem mo_m9_kind : MthOK m9_kind 0 := ⟨wd_572, wd_19, ⟨by decide +kernel, by decide +kernel⟩, by decide +kernel, by decide⟩
def m9_together : Mth := (yX9_together, cX9_together, 2, (some FieldType.int))
theorem mo_m9_together : MthOK m9_together 1 := ⟨wd_674, wd_19, ⟨by decide +kernel, by decide +kernel⟩, by decide +kernel, by decide⟩
def mL : Mth := (yL_law, cL_law, 4, some .boolean)
end
section
/-! instructions of a method as a list, checked against its bytes -/
abbrev TT : Type := List (Nat × Instr × Nat)
def ilen (ins : Instr) (len : Nat) : Nat := match ins with
  | .tableswitch .. => len
  | .lookupswitch .. => len
  | .bipush _ | .iload _ | .lload _ | .aload _ | .istore _ | .lstore _ | .astore _ | .ldc _ | .newarray _ => 2
  | .sipush _ | .iinc _ _ | .goto _ | .if_icmp _ _ | .ifCond _ _ | .ifnull _ | .ifnonnull _ | .ldc_w _ | .ldc2_w _ | .getfield _ | .putfield _ | .getstatic _ | .new _ | .anewarray _ | .instanceof _ | .checkcast _ | .invokestatic _ | .invokespecial _ | .invokevirtual _ => 3
  | _ => 1
def tabOK (y : Mth) (T : TT) : Bool := T.all (fun e => decide (decode y.2.1 e.1 = .ok (e.2.1, e.2.2)) && Nat.beq e.2.2 (ilen e.2.1 e.2.2))
theorem tab_app {y : Mth} {A B : TT} (ha : tabOK y A = true) (hb : tabOK y B = true) : tabOK y (A ++ B) = true := by
  unfold tabOK at *
  rw [List.all_append, ha, hb]
  rfl
end
section
/-! the instructions of each method; and: what the walker says of a method is enough -/
def T0_init : TT := [(0, .aload_n 0, 1), (1, .iload_n 1, 1), (2, .iload_n 2, 1), (3, .invokespecial 1, 3), (6, .return_, 1)]
set_option maxRecDepth 100000 in
theorem T0_init_ok : tabOK m0_init T0_init = true := by decide +kernel
def T0_kind : TT := [(0, .iconst 1, 1), (1, .ireturn, 1)]
set_option maxRecDepth 100000 in
theorem T0_kind_ok : tabOK m0_kind T0_kind = true := by decide +kernel
def T0_together : TT := [(0, .aload_n 0, 1), (1, .iload_n 1, 1), (2, .invokespecial 7, 3), (5, .iconst 1, 1), (6, .iadd, 1), (7, .ireturn, 1)]
set_option maxRecDepth 100000 in
theorem T0_together_ok : tabOK m0_together T0_together = true := by decide +kernel
def T1_init : TT := [(0, .aload_n 0, 1), (1, .iload_n 1, 1), (2, .iload_n 2, 1), (3, .invokespecial 1, 3), (6, .return_, 1)]
set_option maxRecDepth 100000 in
theorem T1_init_ok : tabOK m1_init T1_init = true := by decide +kernel
def T1_kind : TT := [(0, .iconst 4, 1), (1, .ireturn, 1)]
set_option maxRecDepth 100000 in
theorem T1_kind_ok : tabOK m1_kind T1_kind = true := by decide +kernel
def T1_leftOf : TT := [(0, .iconst 0, 1), (1, .aload_n 0, 1), (2, .iload_n 1, 1), (3, .invokespecial 7, 3), (6, .iconst 1, 1), (7, .isub, 1), (8, .invokestatic 11, 3), (11, .ireturn, 1)]
set_option maxRecDepth 100000 in
theorem T1_leftOf_ok : tabOK m1_leftOf T1_leftOf = true := by decide +kernel
def T1_worthOf : TT := [(0, .aload_n 0, 1), (1, .iload_n 1, 1), (2, .invokespecial 17, 3), (5, .aload_n 0, 1), (6, .getfield 20, 3), (9, .iadd, 1), (10, .ireturn, 1)]
set_option maxRecDepth 100000 in
theorem T1_worthOf_ok : tabOK m1_worthOf T1_worthOf = true := by decide +kernel
def T2_init : TT := [(0, .aload_n 0, 1), (1, .invokespecial 3, 3), (4, .aload_n 0, 1), (5, .iconst 5, 1), (6, .anewarray 9, 3), (9, .putfield 11, 3), (12, .iconst 0, 1), (13, .istore_n 1, 1), (14, .iload_n 1, 1), (15, .iconst 5, 1), (16, .if_icmp .ge 22, 3), (19, .aload_n 0, 1), (20, .getfield 11, 3), (23, .iload_n 1, 1), (24, .new 9, 3), (27, .dup, 1), (28, .invokespecial 17, 3), (31, .aastore, 1), (32, .iinc 1 1, 3), (35, .goto (-21), 3), (38, .return_, 1)]
set_option maxRecDepth 100000 in
theorem T2_init_ok : tabOK m2_init T2_init = true := by decide +kernel
def T3_init : TT := [(0, .aload_n 0, 1), (1, .iload_n 1, 1), (2, .iload_n 2, 1), (3, .invokespecial 1, 3), (6, .return_, 1)]
set_option maxRecDepth 100000 in
theorem T3_init_ok : tabOK m3_init T3_init = true := by decide +kernel
def T3_kind : TT := [(0, .iconst 5, 1), (1, .ireturn, 1)]
set_option maxRecDepth 100000 in
theorem T3_kind_ok : tabOK m3_kind T3_kind = true := by decide +kernel
def T3_together : TT := [(0, .iload_n 1, 1), (1, .iconst 5, 1), (2, .if_icmp .le 7, 3), (5, .iconst 0, 1), (6, .goto 8, 3), (9, .aload_n 0, 1), (10, .iload_n 1, 1), (11, .invokespecial 7, 3), (14, .ireturn, 1)]
set_option maxRecDepth 100000 in
theorem T3_together_ok : tabOK m3_together T3_together = true := by decide +kernel
def T3_leftOf : TT := [(0, .aload_n 0, 1), (1, .iload_n 1, 1), (2, .invokespecial 11, 3), (5, .bipush 9, 2), (7, .aload_n 0, 1), (8, .getfield 14, 3), (11, .isub, 1), (12, .imul, 1), (13, .bipush 9, 2), (15, .idiv, 1), (16, .ireturn, 1)]
set_option maxRecDepth 100000 in
theorem T3_leftOf_ok : tabOK m3_leftOf T3_leftOf = true := by decide +kernel
def T4_init : TT := [(0, .aload_n 0, 1), (1, .invokespecial 3, 3), (4, .aload_n 0, 1), (5, .bipush 6, 2), (7, .newarray .int, 2), (9, .putfield 9, 3), (12, .aload_n 0, 1), (13, .bipush 6, 2), (15, .newarray .int, 2), (17, .putfield 15, 3), (20, .aload_n 0, 1), (21, .bipush 6, 2), (23, .newarray .int, 2), (25, .putfield 18, 3), (28, .return_, 1)]
set_option maxRecDepth 100000 in
theorem T4_init_ok : tabOK m4_init T4_init = true := by decide +kernel
def T4_many : TT := [(0, .iload_n 1, 1), (1, .iconst 0, 1), (2, .iconst 5, 1), (3, .invokestatic 21, 3), (6, .ifCond .eq 12, 3), (9, .aload_n 0, 1), (10, .getfield 9, 3), (13, .iload_n 1, 1), (14, .iaload, 1), (15, .goto 4, 3), (18, .iconst 0, 1), (19, .ireturn, 1)]
set_option maxRecDepth 100000 in
theorem T4_many_ok : tabOK m4_many T4_many = true := by decide +kernel
def T4_put : TT := [(0, .iload_n 1, 1), (1, .iconst 0, 1), (2, .iconst 5, 1), (3, .invokestatic 21, 3), (6, .ifCond .eq 10, 3), (9, .aload_n 0, 1), (10, .getfield 9, 3), (13, .iload_n 1, 1), (14, .iload_n 2, 1), (15, .iastore, 1), (16, .return_, 1)]
set_option maxRecDepth 100000 in
theorem T4_put_ok : tabOK m4_put T4_put = true := by decide +kernel
def T4_grow : TT := [(0, .iload_n 1, 1), (1, .iconst 0, 1), (2, .iconst 5, 1), (3, .invokestatic 21, 3), (6, .ifCond .ne 5, 3), (9, .iconst 0, 1), (10, .ireturn, 1), (11, .iload_n 2, 1), (12, .bipush 99, 2), (14, .aload_n 0, 1), (15, .getfield 9, 3), (18, .iload_n 1, 1), (19, .iaload, 1), (20, .isub, 1), (21, .invokestatic 25, 3), (24, .istore_n 3, 1), (25, .aload_n 0, 1), (26, .getfield 9, 3), (29, .iload_n 1, 1), (30, .dup2, 1), (31, .iaload, 1), (32, .iload_n 3, 1), (33, .iadd, 1), (34, .iastore, 1), (35, .iload_n 3, 1), (36, .ireturn, 1)]
set_option maxRecDepth 100000 in
theorem T4_grow_ok : tabOK m4_grow T4_grow = true := by decide +kernel
def T4_lose : TT := [(0, .iload_n 1, 1), (1, .iconst 0, 1), (2, .iconst 5, 1), (3, .invokestatic 21, 3), (6, .ifCond .eq 22, 3), (9, .aload_n 0, 1), (10, .getfield 9, 3), (13, .iload_n 1, 1), (14, .iaload, 1), (15, .ifCond .le 13, 3), (18, .aload_n 0, 1), (19, .getfield 9, 3), (22, .iload_n 1, 1), (23, .dup2, 1), (24, .iaload, 1), (25, .iconst 1, 1), (26, .isub, 1), (27, .iastore, 1), (28, .return_, 1)]
set_option maxRecDepth 100000 in
theorem T4_lose_ok : tabOK m4_lose T4_lose = true := by decide +kernel
def T4_become : TT := [(0, .aload_n 1, 1), (1, .getfield 9, 3), (4, .iconst 0, 1), (5, .aload_n 0, 1), (6, .getfield 9, 3), (9, .iconst 0, 1), (10, .bipush 6, 2), (12, .invokestatic 31, 3), (15, .return_, 1)]
set_option maxRecDepth 100000 in
theorem T4_become_ok : tabOK m4_become T4_become = true := by decide +kernel
def T4_clear : TT := [(0, .aload_n 0, 1), (1, .getfield 9, 3), (4, .iconst 0, 1), (5, .invokestatic 37, 3), (8, .return_, 1)]
set_option maxRecDepth 100000 in
theorem T4_clear_ok : tabOK m4_clear T4_clear = true := by decide +kernel
def T4_coins : TT := [(0, .iconst 0, 1), (1, .istore_n 1, 1), (2, .iconst 0, 1), (3, .istore_n 2, 1), (4, .iload_n 2, 1), (5, .bipush 6, 2), (7, .if_icmp .ge 18, 3), (10, .iload_n 1, 1), (11, .aload_n 0, 1), (12, .getfield 9, 3), (15, .iload_n 2, 1), (16, .iaload, 1), (17, .iadd, 1), (18, .istore_n 1, 1), (19, .iinc 2 1, 3), (22, .goto (-18), 3), (25, .iload_n 1, 1), (26, .ireturn, 1)]
set_option maxRecDepth 100000 in
theorem T4_coins_ok : tabOK m4_coins T4_coins = true := by decide +kernel
def T4_sortBits : TT := [(0, .iconst 0, 1), (1, .istore_n 1, 1), (2, .iconst 0, 1), (3, .istore_n 2, 1), (4, .iload_n 2, 1), (5, .bipush 6, 2), (7, .if_icmp .ge 24, 3), (10, .aload_n 0, 1), (11, .getfield 9, 3), (14, .iload_n 2, 1), (15, .iaload, 1), (16, .ifCond .le 9, 3), (19, .iload_n 1, 1), (20, .iconst 1, 1), (21, .iload_n 2, 1), (22, .ishl, 1), (23, .ior, 1), (24, .istore_n 1, 1), (25, .iinc 2 1, 3), (28, .goto (-24), 3), (31, .iload_n 1, 1), (32, .ireturn, 1)]
set_option maxRecDepth 100000 in
theorem T4_sortBits_ok : tabOK m4_sortBits T4_sortBits = true := by decide +kernel
def T4_worth : TT := [(0, .iconst 0, 1), (1, .istore_n 2, 1), (2, .iconst 0, 1), (3, .istore_n 3, 1), (4, .iload_n 3, 1), (5, .bipush 6, 2), (7, .if_icmp .ge 46, 3), (10, .iload_n 3, 1), (11, .aload_n 1, 1), (12, .arraylength, 1), (13, .if_icmp .ge 40, 3), (16, .aload_n 1, 1), (17, .iload_n 3, 1), (18, .aaload, 1), (19, .astore 4, 2), (21, .aload 4, 2), (23, .ifnull 24, 3), (26, .iload_n 2, 1), (27, .aload_n 0, 1), (28, .getfield 9, 3), (31, .iload_n 3, 1), (32, .iaload, 1), (33, .aload 4, 2), (35, .aload_n 0, 1), (36, .getfield 9, 3), (39, .iload_n 3, 1), (40, .iaload, 1), (41, .invokevirtual 43, 3), (44, .imul, 1), (45, .iadd, 1), (46, .istore_n 2, 1), (47, .iinc 3 1, 3), (50, .goto (-46), 3), (53, .iload_n 2, 1), (54, .ireturn, 1)]
set_option maxRecDepth 100000 in
theorem T4_worth_ok : tabOK m4_worth T4_worth = true := by decide +kernel
def T4_lay : TT := [(0, .iconst 0, 1), (1, .istore_n 3, 1), (2, .iload_n 3, 1), (3, .bipush 6, 2), (5, .if_icmp .ge 58, 3), (8, .iload_n 3, 1), (9, .aload_n 1, 1), (10, .arraylength, 1), (11, .if_icmp .ge 52, 3), (14, .aload_n 1, 1), (15, .iload_n 3, 1), (16, .aaload, 1), (17, .astore 4, 2), (19, .aload_n 0, 1), (20, .getfield 15, 3), (23, .iload_n 3, 1), (24, .aload_n 0, 1), (25, .getfield 9, 3), (28, .iload_n 3, 1), (29, .iaload, 1), (30, .iastore, 1), (31, .aload_n 0, 1), (32, .getfield 18, 3), (35, .iload_n 3, 1), (36, .aload 4, 2), (38, .ifnonnull 7, 3), (41, .iconst 0, 1), (42, .goto 14, 3), (45, .aload 4, 2), (47, .aload_n 0, 1), (48, .getfield 9, 3), (51, .iload_n 3, 1), (52, .iaload, 1), (53, .invokevirtual 49, 3), (56, .iastore, 1), (57, .iinc 3 1, 3), (60, .goto (-58), 3), (63, .iconst 0, 1), (64, .istore_n 3, 1), (65, .iconst 0, 1), (66, .istore 4, 2), (68, .iload 4, 2), (70, .iload_n 2, 1), (71, .if_icmp .ge 51, 3), (74, .aload_n 0, 1), (75, .invokevirtual 52, 3), (78, .istore 5, 2), (80, .iload 5, 2), (82, .ifCond .ge 5, 3), (85, .iconst 0, 1), (86, .ireturn, 1), (87, .aload_n 0, 1), (88, .getfield 15, 3), (91, .iload 5, 2), (93, .dup2, 1), (94, .iaload, 1), (95, .iconst 1, 1), (96, .isub, 1), (97, .iastore, 1), (98, .aload_n 0, 1), (99, .getfield 18, 3), (102, .iload 5, 2), (104, .dup2, 1), (105, .iaload, 1), (106, .iconst 1, 1), (107, .isub, 1), (108, .iastore, 1), (109, .iload_n 3, 1), (110, .iconst 1, 1), (111, .iload 5, 2), (113, .ishl, 1), (114, .ior, 1), (115, .istore_n 3, 1), (116, .iinc 4 1, 3), (119, .goto (-51), 3), (122, .aload_n 0, 1), (123, .getfield 15, 3), (126, .iconst 0, 1), (127, .aload_n 0, 1), (128, .getfield 9, 3), (131, .iconst 0, 1), (132, .bipush 6, 2), (134, .invokestatic 31, 3), (137, .iload_n 3, 1), (138, .ireturn, 1)]
set_option maxRecDepth 100000 in
theorem T4_lay_ok : tabOK m4_lay T4_lay = true := by decide +kernel
def T4_mostPlentiful : TT := [(0, .iconst (-1), 1), (1, .istore_n 1, 1), (2, .iconst 0, 1), (3, .istore_n 2, 1), (4, .iconst 0, 1), (5, .istore_n 3, 1), (6, .iload_n 3, 1), (7, .bipush 6, 2), (9, .if_icmp .ge 37, 3), (12, .aload_n 0, 1), (13, .getfield 18, 3), (16, .iload_n 3, 1), (17, .iaload, 1), (18, .ifCond .le 22, 3), (21, .aload_n 0, 1), (22, .getfield 15, 3), (25, .iload_n 3, 1), (26, .iaload, 1), (27, .iload_n 2, 1), (28, .if_icmp .le 12, 3), (31, .aload_n 0, 1), (32, .getfield 15, 3), (35, .iload_n 3, 1), (36, .iaload, 1), (37, .istore_n 2, 1), (38, .iload_n 3, 1), (39, .istore_n 1, 1), (40, .iinc 3 1, 3), (43, .goto (-37), 3), (46, .iload_n 1, 1), (47, .ireturn, 1)]
set_option maxRecDepth 100000 in
theorem T4_mostPlentiful_ok : tabOK m4_mostPlentiful T4_mostPlentiful = true := by decide +kernel
def T5_init : TT := [(0, .aload_n 0, 1), (1, .invokespecial 3, 3), (4, .aload_n 0, 1), (5, .sipush 160, 3), (8, .newarray .int, 2), (10, .putfield 9, 3), (13, .aload_n 0, 1), (14, .sipush 160, 3), (17, .newarray .int, 2), (19, .putfield 15, 3), (22, .aload_n 0, 1), (23, .iconst 3, 1), (24, .newarray .int, 2), (26, .putfield 18, 3), (29, .return_, 1)]
set_option maxRecDepth 100000 in
theorem T5_init_ok : tabOK m5_init T5_init = true := by decide +kernel
def T5_size : TT := [(0, .aload_n 0, 1), (1, .getfield 21, 3), (4, .ireturn, 1)]
set_option maxRecDepth 100000 in
theorem T5_size_ok : tabOK m5_size T5_size = true := by decide +kernel
def T5_hasRoom : TT := [(0, .aload_n 0, 1), (1, .getfield 21, 3), (4, .iload_n 1, 1), (5, .iadd, 1), (6, .sipush 160, 3), (9, .if_icmp .gt 7, 3), (12, .iconst 1, 1), (13, .goto 4, 3), (16, .iconst 0, 1), (17, .ireturn, 1)]
set_option maxRecDepth 100000 in
theorem T5_hasRoom_ok : tabOK m5_hasRoom T5_hasRoom = true := by decide +kernel
def T5_put : TT := [(0, .aload_n 0, 1), (1, .getfield 21, 3), (4, .sipush 160, 3), (7, .if_icmp .ge 23, 3), (10, .aload_n 0, 1), (11, .getfield 9, 3), (14, .aload_n 0, 1), (15, .getfield 21, 3), (18, .iload_n 1, 1), (19, .iastore, 1), (20, .aload_n 0, 1), (21, .dup, 1), (22, .getfield 21, 3), (25, .iconst 1, 1), (26, .iadd, 1), (27, .putfield 21, 3), (30, .return_, 1)]
set_option maxRecDepth 100000 in
theorem T5_put_ok : tabOK m5_put T5_put = true := by decide +kernel
def T5_clear : TT := [(0, .aload_n 0, 1), (1, .iconst 0, 1), (2, .putfield 21, 3), (5, .return_, 1)]
set_option maxRecDepth 100000 in
theorem T5_clear_ok : tabOK m5_clear T5_clear = true := by decide +kernel
def T5_place : TT := [(0, .aload_n 0, 1), (1, .getfield 25, 3), (4, .ireturn, 1)]
set_option maxRecDepth 100000 in
theorem T5_place_ok : tabOK m5_place T5_place = true := by decide +kernel
def T5_textRead : TT := [(0, .new 28, 3), (3, .dup, 1), (4, .aload_n 0, 1), (5, .getfield 15, 3), (8, .aload_n 0, 1), (9, .getfield 30, 3), (12, .invokestatic 33, 3), (15, .aload_n 0, 1), (16, .getfield 18, 3), (19, .iconst 3, 1), (20, .invokestatic 33, 3), (23, .invokespecial 39, 3), (26, .areturn, 1)]
set_option maxRecDepth 100000 in
theorem T5_textRead_ok : tabOK m5_textRead T5_textRead = true := by decide +kernel
def T5_readText : TT := [(0, .aload_n 0, 1), (1, .iconst 0, 1), (2, .putfield 42, 3), (5, .aload_n 0, 1), (6, .iconst 0, 1), (7, .putfield 45, 3), (10, .aload_n 0, 1), (11, .iconst 0, 1), (12, .putfield 30, 3), (15, .aload_n 0, 1), (16, .invokevirtual 48, 3), (19, .iconst 0, 1), (20, .istore_n 1, 1), (21, .iload_n 1, 1), (22, .iconst 3, 1), (23, .if_icmp .ge 47, 3), (26, .aload_n 0, 1), (27, .iconst 0, 1), (28, .iload_n 1, 1), (29, .iadd, 1), (30, .invokevirtual 51, 3), (33, .ifCond .eq 19, 3), (36, .aload_n 0, 1), (37, .invokevirtual 55, 3), (40, .ifCond .eq 12, 3), (43, .aload_n 0, 1), (44, .bipush 14, 2), (46, .invokevirtual 51, 3), (49, .ifCond .ne 5, 3), (52, .iconst 0, 1), (53, .ireturn, 1), (54, .aload_n 0, 1), (55, .getfield 18, 3), (58, .iload_n 1, 1), (59, .aload_n 0, 1), (60, .getfield 30, 3), (63, .iastore, 1), (64, .iinc 1 1, 3), (67, .goto (-46), 3), (70, .aload_n 0, 1), (71, .getfield 59, 3), (74, .bipush 21, 2), (76, .if_icmp .ne 7, 3), (79, .iconst 1, 1), (80, .goto 4, 3), (83, .iconst 0, 1), (84, .ireturn, 1)]
set_option maxRecDepth 100000 in
theorem T5_readText_ok : tabOK m5_readText T5_readText = true := by decide +kernel
def T5_readToken : TT := [(0, .aload_n 0, 1), (1, .getfield 59, 3), (4, .iload_n 1, 1), (5, .if_icmp .eq 5, 3), (8, .iconst 0, 1), (9, .ireturn, 1), (10, .aload_n 0, 1), (11, .invokevirtual 48, 3), (14, .iconst 1, 1), (15, .ireturn, 1)]
set_option maxRecDepth 100000 in
theorem T5_readToken_ok : tabOK m5_readToken T5_readToken = true := by decide +kernel
def T5_readEither : TT := [(0, .aload_n 0, 1), (1, .invokevirtual 62, 3), (4, .ifCond .ne 5, 3), (7, .iconst 0, 1), (8, .ireturn, 1), (9, .iconst 0, 1), (10, .istore_n 1, 1), (11, .iload_n 1, 1), (12, .sipush 160, 3), (15, .if_icmp .ge 36, 3), (18, .aload_n 0, 1), (19, .getfield 59, 3), (22, .iconst 3, 1), (23, .if_icmp .ne 28, 3), (26, .aload_n 0, 1), (27, .invokevirtual 48, 3), (30, .aload_n 0, 1), (31, .invokevirtual 62, 3), (34, .ifCond .ne 5, 3), (37, .iconst 0, 1), (38, .ireturn, 1), (39, .aload_n 0, 1), (40, .bipush (-4), 2), (42, .invokevirtual 65, 3), (45, .iinc 1 1, 3), (48, .goto (-37), 3), (51, .iconst 1, 1), (52, .ireturn, 1)]
set_option maxRecDepth 100000 in
theorem T5_readEither_ok : tabOK m5_readEither T5_readEither = true := by decide +kernel
def T5_readBoth : TT := [(0, .aload_n 0, 1), (1, .invokevirtual 69, 3), (4, .ifCond .ne 5, 3), (7, .iconst 0, 1), (8, .ireturn, 1), (9, .iconst 0, 1), (10, .istore_n 1, 1), (11, .iload_n 1, 1), (12, .sipush 160, 3), (15, .if_icmp .ge 36, 3), (18, .aload_n 0, 1), (19, .getfield 59, 3), (22, .iconst 4, 1), (23, .if_icmp .ne 28, 3), (26, .aload_n 0, 1), (27, .invokevirtual 48, 3), (30, .aload_n 0, 1), (31, .invokevirtual 69, 3), (34, .ifCond .ne 5, 3), (37, .iconst 0, 1), (38, .ireturn, 1), (39, .aload_n 0, 1), (40, .bipush (-5), 2), (42, .invokevirtual 65, 3), (45, .iinc 1 1, 3), (48, .goto (-37), 3), (51, .iconst 1, 1), (52, .ireturn, 1)]
set_option maxRecDepth 100000 in
theorem T5_readBoth_ok : tabOK m5_readBoth T5_readBoth = true := by decide +kernel
def T5_readDenied : TT := [(0, .aload_n 0, 1), (1, .getfield 59, 3), (4, .iconst 5, 1), (5, .if_icmp .eq 8, 3), (8, .aload_n 0, 1), (9, .invokevirtual 72, 3), (12, .ireturn, 1), (13, .aload_n 0, 1), (14, .getfield 45, 3), (17, .iconst 5, 1), (18, .if_icmp .lt 5, 3), (21, .iconst 0, 1), (22, .ireturn, 1), (23, .aload_n 0, 1), (24, .dup, 1), (25, .getfield 45, 3), (28, .iconst 1, 1), (29, .iadd, 1), (30, .putfield 45, 3), (33, .aload_n 0, 1), (34, .invokevirtual 48, 3), (37, .aload_n 0, 1), (38, .invokevirtual 69, 3), (41, .istore_n 1, 1), (42, .aload_n 0, 1), (43, .dup, 1), (44, .getfield 45, 3), (47, .iconst 1, 1), (48, .isub, 1), (49, .putfield 45, 3), (52, .aload_n 0, 1), (53, .bipush (-6), 2), (55, .invokevirtual 65, 3), (58, .iload_n 1, 1), (59, .ireturn, 1)]
set_option maxRecDepth 100000 in
theorem T5_readDenied_ok : tabOK m5_readDenied T5_readDenied = true := by decide +kernel
def T5_readCompared : TT := [(0, .aload_n 0, 1), (1, .invokevirtual 75, 3), (4, .ifCond .ne 5, 3), (7, .iconst 0, 1), (8, .ireturn, 1), (9, .aload_n 0, 1), (10, .getfield 59, 3), (13, .istore_n 1, 1), (14, .iload_n 1, 1), (15, .bipush 18, 2), (17, .if_icmp .eq 11, 3), (20, .iload_n 1, 1), (21, .bipush 19, 2), (23, .if_icmp .eq 5, 3), (26, .iconst 1, 1), (27, .ireturn, 1), (28, .aload_n 0, 1), (29, .invokevirtual 48, 3), (32, .aload_n 0, 1), (33, .invokevirtual 75, 3), (36, .istore_n 2, 1), (37, .aload_n 0, 1), (38, .iconst (-1), 1), (39, .iload_n 1, 1), (40, .isub, 1), (41, .invokevirtual 65, 3), (44, .iload_n 2, 1), (45, .ireturn, 1)]
set_option maxRecDepth 100000 in
theorem T5_readCompared_ok : tabOK m5_readCompared T5_readCompared = true := by decide +kernel
def T5_readSum : TT := [(0, .aload_n 0, 1), (1, .invokevirtual 78, 3), (4, .ifCond .ne 5, 3), (7, .iconst 0, 1), (8, .ireturn, 1), (9, .iconst 0, 1), (10, .istore_n 1, 1), (11, .iload_n 1, 1), (12, .sipush 160, 3), (15, .if_icmp .ge 52, 3), (18, .aload_n 0, 1), (19, .getfield 59, 3), (22, .bipush 15, 2), (24, .if_icmp .eq 12, 3), (27, .aload_n 0, 1), (28, .getfield 59, 3), (31, .bipush 16, 2), (33, .if_icmp .ne 34, 3), (36, .aload_n 0, 1), (37, .getfield 59, 3), (40, .istore_n 2, 1), (41, .aload_n 0, 1), (42, .invokevirtual 48, 3), (45, .aload_n 0, 1), (46, .invokevirtual 78, 3), (49, .ifCond .ne 5, 3), (52, .iconst 0, 1), (53, .ireturn, 1), (54, .aload_n 0, 1), (55, .iconst (-1), 1), (56, .iload_n 2, 1), (57, .isub, 1), (58, .invokevirtual 65, 3), (61, .iinc 1 1, 3), (64, .goto (-53), 3), (67, .iconst 1, 1), (68, .ireturn, 1)]
set_option maxRecDepth 100000 in
theorem T5_readSum_ok : tabOK m5_readSum T5_readSum = true := by decide +kernel
def T5_readTerm : TT := [(0, .aload_n 0, 1), (1, .invokevirtual 81, 3), (4, .ifCond .ne 5, 3), (7, .iconst 0, 1), (8, .ireturn, 1), (9, .iconst 0, 1), (10, .istore_n 1, 1), (11, .iload_n 1, 1), (12, .sipush 160, 3), (15, .if_icmp .ge 37, 3), (18, .aload_n 0, 1), (19, .getfield 59, 3), (22, .bipush 17, 2), (24, .if_icmp .ne 28, 3), (27, .aload_n 0, 1), (28, .invokevirtual 48, 3), (31, .aload_n 0, 1), (32, .invokevirtual 81, 3), (35, .ifCond .ne 5, 3), (38, .iconst 0, 1), (39, .ireturn, 1), (40, .aload_n 0, 1), (41, .bipush (-18), 2), (43, .invokevirtual 65, 3), (46, .iinc 1 1, 3), (49, .goto (-38), 3), (52, .iconst 1, 1), (53, .ireturn, 1)]
set_option maxRecDepth 100000 in
theorem T5_readTerm_ok : tabOK m5_readTerm T5_readTerm = true := by decide +kernel
def T5_readOne : TT := [(0, .aload_n 0, 1), (1, .getfield 59, 3), (4, .bipush 20, 2), (6, .if_icmp .eq 17, 3), (9, .aload_n 0, 1), (10, .getfield 59, 3), (13, .bipush 6, 2), (15, .bipush 11, 2), (17, .invokestatic 84, 3), (20, .ifCond .eq 35, 3), (23, .aload_n 0, 1), (24, .aload_n 0, 1), (25, .getfield 59, 3), (28, .bipush 20, 2), (30, .if_icmp .ne 10, 3), (33, .aload_n 0, 1), (34, .getfield 88, 3), (37, .goto 9, 3), (40, .iconst (-1), 1), (41, .aload_n 0, 1), (42, .getfield 59, 3), (45, .isub, 1), (46, .invokevirtual 65, 3), (49, .aload_n 0, 1), (50, .invokevirtual 48, 3), (53, .iconst 1, 1), (54, .ireturn, 1), (55, .aload_n 0, 1), (56, .getfield 59, 3), (59, .bipush 12, 2), (61, .if_icmp .eq 12, 3), (64, .aload_n 0, 1), (65, .getfield 59, 3), (68, .bipush 16, 2), (70, .if_icmp .ne 11, 3), (73, .aload_n 0, 1), (74, .getfield 45, 3), (77, .iconst 5, 1), (78, .if_icmp .lt 5, 3), (81, .iconst 0, 1), (82, .ireturn, 1), (83, .aload_n 0, 1), (84, .getfield 59, 3), (87, .bipush 12, 2), (89, .if_icmp .ne 7, 3), (92, .iconst 1, 1), (93, .goto 4, 3), (96, .iconst 0, 1), (97, .istore_n 1, 1), (98, .aload_n 0, 1), (99, .dup, 1), (100, .getfield 45, 3), (103, .iconst 1, 1), (104, .iadd, 1), (105, .putfield 45, 3), (108, .aload_n 0, 1), (109, .invokevirtual 48, 3), (112, .iload_n 1, 1), (113, .ifCond .eq 27, 3), (116, .aload_n 0, 1), (117, .invokevirtual 55, 3), (120, .ifCond .eq 16, 3), (123, .aload_n 0, 1), (124, .bipush 13, 2), (126, .invokevirtual 51, 3), (129, .ifCond .eq 7, 3), (132, .iconst 1, 1), (133, .goto 11, 3), (136, .iconst 0, 1), (137, .goto 7, 3), (140, .aload_n 0, 1), (141, .invokevirtual 81, 3), (144, .istore_n 2, 1), (145, .aload_n 0, 1), (146, .dup, 1), (147, .getfield 45, 3), (150, .iconst 1, 1), (151, .isub, 1), (152, .putfield 45, 3), (155, .iload_n 1, 1), (156, .ifCond .ne 9, 3), (159, .aload_n 0, 1), (160, .bipush (-24), 2), (162, .invokevirtual 65, 3), (165, .iload_n 2, 1), (166, .ireturn, 1)]
set_option maxRecDepth 100000 in
theorem T5_readOne_ok : tabOK m5_readOne T5_readOne = true := by decide +kernel
def T5_emit : TT := [(0, .aload_n 0, 1), (1, .getfield 30, 3), (4, .sipush 160, 3), (7, .if_icmp .ge 23, 3), (10, .aload_n 0, 1), (11, .getfield 15, 3), (14, .aload_n 0, 1), (15, .getfield 30, 3), (18, .iload_n 1, 1), (19, .iastore, 1), (20, .aload_n 0, 1), (21, .dup, 1), (22, .getfield 30, 3), (25, .iconst 1, 1), (26, .iadd, 1), (27, .putfield 30, 3), (30, .return_, 1)]
set_option maxRecDepth 100000 in
theorem T5_emit_ok : tabOK m5_emit T5_emit = true := by decide +kernel
def T5_advance : TT := [(0, .aload_n 0, 1), (1, .getfield 42, 3), (4, .aload_n 0, 1), (5, .getfield 21, 3), (8, .if_icmp .ge 31, 3), (11, .aload_n 0, 1), (12, .getfield 9, 3), (15, .aload_n 0, 1), (16, .getfield 42, 3), (19, .iaload, 1), (20, .invokestatic 91, 3), (23, .ifCond .eq 16, 3), (26, .aload_n 0, 1), (27, .dup, 1), (28, .getfield 42, 3), (31, .iconst 1, 1), (32, .iadd, 1), (33, .putfield 42, 3), (36, .goto (-36), 3), (39, .aload_n 0, 1), (40, .aload_n 0, 1), (41, .getfield 42, 3), (44, .putfield 25, 3), (47, .aload_n 0, 1), (48, .getfield 25, 3), (51, .aload_n 0, 1), (52, .getfield 21, 3), (55, .if_icmp .lt 12, 3), (58, .aload_n 0, 1), (59, .bipush 21, 2), (61, .putfield 59, 3), (64, .goto 90, 3), (67, .aload_n 0, 1), (68, .getfield 9, 3), (71, .aload_n 0, 1), (72, .getfield 25, 3), (75, .iaload, 1), (76, .invokestatic 94, 3), (79, .ifCond .eq 10, 3), (82, .aload_n 0, 1), (83, .invokevirtual 97, 3), (86, .goto 68, 3), (89, .aload_n 0, 1), (90, .getfield 9, 3), (93, .aload_n 0, 1), (94, .getfield 25, 3), (97, .iaload, 1), (98, .invokestatic 100, 3), (101, .ifCond .eq 10, 3), (104, .aload_n 0, 1), (105, .invokevirtual 103, 3), (108, .goto 46, 3), (111, .ldc 106, 2), (113, .aload_n 0, 1), (114, .getfield 9, 3), (117, .aload_n 0, 1), (118, .getfield 25, 3), (121, .iaload, 1), (122, .i2c, 1), (123, .invokevirtual 108, 3), (126, .istore_n 1, 1), (127, .aload_n 0, 1), (128, .iload_n 1, 1), (129, .ifCond .ge 8, 3), (132, .bipush 22, 2), (134, .goto 7, 3), (137, .bipush 12, 2), (139, .iload_n 1, 1), (140, .iadd, 1), (141, .putfield 59, 3), (144, .aload_n 0, 1), (145, .dup, 1), (146, .getfield 42, 3), (149, .iconst 1, 1), (150, .iadd, 1), (151, .putfield 42, 3), (154, .return_, 1)]
set_option maxRecDepth 100000 in
theorem T5_advance_ok : tabOK m5_advance T5_advance = true := by decide +kernel
def T5_readWord : TT := [(0, .aload_n 0, 1), (1, .getfield 42, 3), (4, .aload_n 0, 1), (5, .getfield 21, 3), (8, .if_icmp .ge 31, 3), (11, .aload_n 0, 1), (12, .getfield 9, 3), (15, .aload_n 0, 1), (16, .getfield 42, 3), (19, .iaload, 1), (20, .invokestatic 94, 3), (23, .ifCond .eq 16, 3), (26, .aload_n 0, 1), (27, .dup, 1), (28, .getfield 42, 3), (31, .iconst 1, 1), (32, .iadd, 1), (33, .putfield 42, 3), (36, .goto (-36), 3), (39, .aload_n 0, 1), (40, .bipush 22, 2), (42, .putfield 59, 3), (45, .iconst 0, 1), (46, .istore_n 1, 1), (47, .iload_n 1, 1), (48, .bipush 12, 2), (50, .if_icmp .ge 22, 3), (53, .aload_n 0, 1), (54, .iload_n 1, 1), (55, .invokevirtual 114, 3), (58, .ifCond .eq 8, 3), (61, .aload_n 0, 1), (62, .iload_n 1, 1), (63, .putfield 59, 3), (66, .iinc 1 1, 3), (69, .goto (-22), 3), (72, .return_, 1)]
set_option maxRecDepth 100000 in
theorem T5_readWord_ok : tabOK m5_readWord T5_readWord = true := by decide +kernel
def T5_isWord : TT := [(0, .aload_n 0, 1), (1, .getfield 42, 3), (4, .aload_n 0, 1), (5, .getfield 25, 3), (8, .isub, 1), (9, .bipush 6, 2), (11, .if_icmp .le 5, 3), (14, .iconst 0, 1), (15, .ireturn, 1), (16, .iconst 0, 1), (17, .istore_n 2, 1), (18, .iload_n 2, 1), (19, .bipush 6, 2), (21, .if_icmp .ge 56, 3), (24, .aload_n 0, 1), (25, .getfield 25, 3), (28, .iload_n 2, 1), (29, .iadd, 1), (30, .aload_n 0, 1), (31, .getfield 42, 3), (34, .if_icmp .ge 17, 3), (37, .aload_n 0, 1), (38, .getfield 9, 3), (41, .aload_n 0, 1), (42, .getfield 25, 3), (45, .iload_n 2, 1), (46, .iadd, 1), (47, .iaload, 1), (48, .goto 5, 3), (51, .bipush 32, 2), (53, .istore_n 3, 1), (54, .iload_n 3, 1), (55, .ldc 117, 2), (57, .iload_n 1, 1), (58, .bipush 6, 2), (60, .imul, 1), (61, .iload_n 2, 1), (62, .iadd, 1), (63, .invokevirtual 119, 3), (66, .if_icmp .eq 5, 3), (69, .iconst 0, 1), (70, .ireturn, 1), (71, .iinc 2 1, 3), (74, .goto (-56), 3), (77, .iconst 1, 1), (78, .ireturn, 1)]
set_option maxRecDepth 100000 in
theorem T5_isWord_ok : tabOK m5_isWord T5_isWord = true := by decide +kernel
def T5_readNumber : TT := [(0, .aload_n 0, 1), (1, .iconst 0, 1), (2, .putfield 88, 3), (5, .aload_n 0, 1), (6, .getfield 42, 3), (9, .aload_n 0, 1), (10, .getfield 21, 3), (13, .if_icmp .ge 55, 3), (16, .aload_n 0, 1), (17, .getfield 9, 3), (20, .aload_n 0, 1), (21, .getfield 42, 3), (24, .iaload, 1), (25, .invokestatic 100, 3), (28, .ifCond .eq 40, 3), (31, .aload_n 0, 1), (32, .bipush 10, 2), (34, .aload_n 0, 1), (35, .getfield 88, 3), (38, .imul, 1), (39, .aload_n 0, 1), (40, .getfield 9, 3), (43, .aload_n 0, 1), (44, .getfield 42, 3), (47, .iaload, 1), (48, .iadd, 1), (49, .bipush 48, 2), (51, .isub, 1), (52, .putfield 88, 3), (55, .aload_n 0, 1), (56, .dup, 1), (57, .getfield 42, 3), (60, .iconst 1, 1), (61, .iadd, 1), (62, .putfield 42, 3), (65, .goto (-60), 3), (68, .aload_n 0, 1), (69, .aload_n 0, 1), (70, .getfield 42, 3), (73, .aload_n 0, 1), (74, .getfield 25, 3), (77, .isub, 1), (78, .iconst 4, 1), (79, .if_icmp .le 8, 3), (82, .bipush 22, 2), (84, .goto 5, 3), (87, .bipush 20, 2), (89, .putfield 59, 3), (92, .return_, 1)]
set_option maxRecDepth 100000 in
theorem T5_readNumber_ok : tabOK m5_readNumber T5_readNumber = true := by decide +kernel
def T5_isBlank : TT := [(0, .iload_n 0, 1), (1, .bipush 32, 2), (3, .if_icmp .eq 9, 3), (6, .iload_n 0, 1), (7, .bipush 10, 2), (9, .if_icmp .ne 7, 3), (12, .iconst 1, 1), (13, .goto 4, 3), (16, .iconst 0, 1), (17, .ireturn, 1)]
set_option maxRecDepth 100000 in
theorem T5_isBlank_ok : tabOK m5_isBlank T5_isBlank = true := by decide +kernel
def T5_isLetter : TT := [(0, .iload_n 0, 1), (1, .bipush 97, 2), (3, .bipush 122, 2), (5, .invokestatic 84, 3), (8, .ireturn, 1)]
set_option maxRecDepth 100000 in
theorem T5_isLetter_ok : tabOK m5_isLetter T5_isLetter = true := by decide +kernel
def T5_isDigit : TT := [(0, .iload_n 0, 1), (1, .bipush 48, 2), (3, .bipush 57, 2), (5, .invokestatic 84, 3), (8, .ireturn, 1)]
set_option maxRecDepth 100000 in
theorem T5_isDigit_ok : tabOK m5_isDigit T5_isDigit = true := by decide +kernel
def T6_init : TT := [(0, .aload_n 0, 1), (1, .iload_n 1, 1), (2, .iload_n 2, 1), (3, .invokespecial 1, 3), (6, .return_, 1)]
set_option maxRecDepth 100000 in
theorem T6_init_ok : tabOK m6_init T6_init = true := by decide +kernel
def T6_kind : TT := [(0, .iconst 2, 1), (1, .ireturn, 1)]
set_option maxRecDepth 100000 in
theorem T6_kind_ok : tabOK m6_kind T6_kind = true := by decide +kernel
def T6_worthOf : TT := [(0, .iload_n 1, 1), (1, .iconst 2, 1), (2, .if_icmp .ge 13, 3), (5, .iconst 3, 1), (6, .aload_n 0, 1), (7, .iload_n 1, 1), (8, .invokespecial 7, 3), (11, .imul, 1), (12, .goto 8, 3), (15, .aload_n 0, 1), (16, .iload_n 1, 1), (17, .invokespecial 7, 3), (20, .ireturn, 1)]
set_option maxRecDepth 100000 in
theorem T6_worthOf_ok : tabOK m6_worthOf T6_worthOf = true := by decide +kernel
def T7_init : TT := [(0, .aload_n 0, 1), (1, .invokespecial 3, 3), (4, .aload_n 0, 1), (5, .bipush 40, 2), (7, .newarray .int, 2), (9, .putfield 9, 3), (12, .aload_n 0, 1), (13, .iconst (-1), 1), (14, .putfield 15, 3), (17, .return_, 1)]
set_option maxRecDepth 100000 in
theorem T7_init_ok : tabOK m7_init T7_init = true := by decide +kernel
def T7_isMissing : TT := [(0, .aload_n 0, 1), (1, .getfield 15, 3), (4, .iconst (-1), 1), (5, .if_icmp .ne 7, 3), (8, .iconst 1, 1), (9, .goto 4, 3), (12, .iconst 0, 1), (13, .ireturn, 1)]
set_option maxRecDepth 100000 in
theorem T7_isMissing_ok : tabOK m7_isMissing T7_isMissing = true := by decide +kernel
def T7_cannotTell : TT := [(0, .aload_n 0, 1), (1, .invokevirtual 19, 3), (4, .ifCond .ne 12, 3), (7, .aload_n 0, 1), (8, .getfield 23, 3), (11, .bipush 12, 2), (13, .if_icmp .le 7, 3), (16, .iconst 1, 1), (17, .goto 4, 3), (20, .iconst 0, 1), (21, .ireturn, 1)]
set_option maxRecDepth 100000 in
theorem T7_cannotTell_ok : tabOK m7_cannotTell T7_cannotTell = true := by decide +kernel
def T7_holds : TT := [(0, .iload_n 1, 1), (1, .ifCond .lt 29, 3), (4, .iload_n 2, 1), (5, .ifCond .lt 25, 3), (8, .iload_n 2, 1), (9, .aload_n 0, 1), (10, .getfield 23, 3), (13, .if_icmp .gt 17, 3), (16, .iload_n 1, 1), (17, .aload_n 0, 1), (18, .getfield 23, 3), (21, .iload_n 2, 1), (22, .isub, 1), (23, .if_icmp .gt 7, 3), (26, .iconst 1, 1), (27, .goto 4, 3), (30, .iconst 0, 1), (31, .ireturn, 1)]
set_option maxRecDepth 100000 in
theorem T7_holds_ok : tabOK m7_holds T7_holds = true := by decide +kernel
def T7_become : TT := [(0, .aload_n 0, 1), (1, .iload_n 1, 1), (2, .putfield 15, 3), (5, .aload_n 0, 1), (6, .iload_n 2, 1), (7, .putfield 23, 3), (10, .aload_n 0, 1), (11, .getfield 9, 3), (14, .iconst 0, 1), (15, .invokestatic 26, 3), (18, .return_, 1)]
set_option maxRecDepth 100000 in
theorem T7_become_ok : tabOK m7_become T7_become = true := by decide +kernel
def T7_get : TT := [(0, .aload_n 0, 1), (1, .iload_n 1, 1), (2, .iconst 1, 1), (3, .invokevirtual 32, 3), (6, .ifCond .eq 12, 3), (9, .aload_n 0, 1), (10, .getfield 9, 3), (13, .iload_n 1, 1), (14, .iaload, 1), (15, .goto 4, 3), (18, .iconst 0, 1), (19, .ireturn, 1)]
set_option maxRecDepth 100000 in
theorem T7_get_ok : tabOK m7_get T7_get = true := by decide +kernel
def T7_put : TT := [(0, .aload_n 0, 1), (1, .iload_n 1, 1), (2, .iconst 1, 1), (3, .invokevirtual 32, 3), (6, .ifCond .eq 35, 3), (9, .aload_n 0, 1), (10, .getfield 9, 3), (13, .iload_n 1, 1), (14, .aload_n 0, 1), (15, .getfield 15, 3), (18, .ifCond .ne 8, 3), (21, .iload_n 2, 1), (22, .i2b, 1), (23, .goto 17, 3), (26, .aload_n 0, 1), (27, .getfield 15, 3), (30, .iconst 1, 1), (31, .if_icmp .ne 8, 3), (34, .iload_n 2, 1), (35, .i2s, 1), (36, .goto 4, 3), (39, .iload_n 2, 1), (40, .iastore, 1), (41, .return_, 1)]
set_option maxRecDepth 100000 in
theorem T7_put_ok : tabOK m7_put T7_put = true := by decide +kernel
def T8_init : TT := [(0, .aload_n 0, 1), (1, .invokespecial 1, 3), (4, .aload_n 0, 1), (5, .iload_n 1, 1), (6, .putfield 7, 3), (9, .aload_n 0, 1), (10, .iload_n 2, 1), (11, .putfield 13, 3), (14, .return_, 1)]
set_option maxRecDepth 100000 in
theorem T8_init_ok : tabOK m8_init T8_init = true := by decide +kernel
def T8_kind : TT := [(0, .iconst 0, 1), (1, .ireturn, 1)]
set_option maxRecDepth 100000 in
theorem T8_kind_ok : tabOK m8_kind T8_kind = true := by decide +kernel
def T8_together : TT := [(0, .iconst 1, 1), (1, .ireturn, 1)]
set_option maxRecDepth 100000 in
theorem T8_together_ok : tabOK m8_together T8_together = true := by decide +kernel
def T8_leftOf : TT := [(0, .iload_n 1, 1), (1, .ireturn, 1)]
set_option maxRecDepth 100000 in
theorem T8_leftOf_ok : tabOK m8_leftOf T8_leftOf = true := by decide +kernel
def T8_worthOf : TT := [(0, .aload_n 0, 1), (1, .getfield 7, 3), (4, .ireturn, 1)]
set_option maxRecDepth 100000 in
theorem T8_worthOf_ok : tabOK m8_worthOf T8_worthOf = true := by decide +kernel
def T9_init : TT := [(0, .aload_n 0, 1), (1, .iload_n 1, 1), (2, .iload_n 2, 1), (3, .invokespecial 1, 3), (6, .return_, 1)]
set_option maxRecDepth 100000 in
theorem T9_init_ok : tabOK m9_init T9_init = true := by decide +kernel
def T9_kind : TT := [(0, .iconst 3, 1), (1, .ireturn, 1)]
set_option maxRecDepth 100000 in
theorem T9_kind_ok : tabOK m9_kind T9_kind = true := by decide +kernel
def T9_together : TT := [(0, .iload_n 1, 1), (1, .aload_n 0, 1), (2, .getfield 7, 3), (5, .if_icmp .le 13, 3), (8, .aload_n 0, 1), (9, .iload_n 1, 1), (10, .invokespecial 13, 3), (13, .iconst 1, 1), (14, .iadd, 1), (15, .goto 8, 3), (18, .aload_n 0, 1), (19, .iload_n 1, 1), (20, .invokespecial 13, 3), (23, .ireturn, 1)]
set_option maxRecDepth 100000 in
theorem T9_together_ok : tabOK m9_together T9_together = true := by decide +kernel
def T10_init : TT := [(0, .aload_n 0, 1), (1, .invokespecial 3, 3), (4, .aload_n 0, 1), (5, .bipush 32, 2), (7, .newarray .int, 2), (9, .putfield 11, 3), (12, .aload_n 0, 1), (13, .aload_n 1, 1), (14, .putfield 15, 3), (17, .aload_n 0, 1), (18, .aload_n 2, 1), (19, .putfield 18, 3), (22, .return_, 1)]
set_option maxRecDepth 100000 in
theorem T10_init_ok : tabOK m10_init T10_init = true := by decide +kernel
def T10_value : TT := [(0, .iload_n 1, 1), (1, .iconst 0, 1), (2, .iconst 2, 1), (3, .invokestatic 21, 3), (6, .ifCond .eq 12, 3), (9, .aload_n 0, 1), (10, .getfield 18, 3), (13, .arraylength, 1), (14, .iconst 3, 1), (15, .if_icmp .ge 5, 3), (18, .iconst 0, 1), (19, .ireturn, 1), (20, .aload_n 0, 1), (21, .iconst 0, 1), (22, .putfield 25, 3), (25, .iload_n 1, 1), (26, .ifCond .ne 7, 3), (29, .iconst 0, 1), (30, .goto 11, 3), (33, .aload_n 0, 1), (34, .getfield 18, 3), (37, .iload_n 1, 1), (38, .iconst 1, 1), (39, .isub, 1), (40, .iaload, 1), (41, .istore_n 3, 1), (42, .iconst 0, 1), (43, .iload_n 3, 1), (44, .invokestatic 29, 3), (47, .istore 4, 2), (49, .iload 4, 2), (51, .aload_n 0, 1), (52, .getfield 18, 3), (55, .iload_n 1, 1), (56, .iaload, 1), (57, .if_icmp .ge 31, 3), (60, .iload 4, 2), (62, .aload_n 0, 1), (63, .getfield 15, 3), (66, .arraylength, 1), (67, .if_icmp .ge 21, 3), (70, .aload_n 0, 1), (71, .aload_n 0, 1), (72, .getfield 15, 3), (75, .iload 4, 2), (77, .iaload, 1), (78, .aload_n 2, 1), (79, .invokevirtual 35, 3), (82, .iinc 4 1, 3), (85, .goto (-36), 3), (88, .iconst 0, 1), (89, .iload_n 1, 1), (90, .iconst 2, 1), (91, .if_icmp .ne 8, 3), (94, .bipush 9, 2), (96, .goto 5, 3), (99, .bipush 99, 2), (101, .aload_n 0, 1), (102, .invokevirtual 39, 3), (105, .invokestatic 43, 3), (108, .invokestatic 29, 3), (111, .ireturn, 1)]
set_option maxRecDepth 100000 in
theorem T10_value_ok : tabOK m10_value T10_value = true := by decide +kernel
def T10_step : TT := [(0, .iconst (-1), 1), (1, .iload_n 1, 1), (2, .isub, 1), (3, .istore_n 3, 1), (4, .iload_n 1, 1), (5, .ifCond .lt 11, 3), (8, .aload_n 0, 1), (9, .iload_n 1, 1), (10, .invokevirtual 46, 3), (13, .goto 106, 3), (16, .iload_n 3, 1), (17, .bipush 6, 2), (19, .bipush 11, 2), (21, .invokestatic 21, 3), (24, .ifCond .eq 29, 3), (27, .aload_n 0, 1), (28, .iload_n 3, 1), (29, .bipush 6, 2), (31, .isub, 1), (32, .aload_n 2, 1), (33, .arraylength, 1), (34, .if_icmp .ge 12, 3), (37, .aload_n 2, 1), (38, .iload_n 3, 1), (39, .bipush 6, 2), (41, .isub, 1), (42, .iaload, 1), (43, .goto 4, 3), (46, .iconst 0, 1), (47, .invokevirtual 46, 3), (50, .goto 69, 3), (53, .iload_n 3, 1), (54, .iconst 5, 1), (55, .if_icmp .ne 22, 3), (58, .aload_n 0, 1), (59, .aload_n 0, 1), (60, .invokevirtual 39, 3), (63, .ifCond .ne 7, 3), (66, .iconst 1, 1), (67, .goto 4, 3), (70, .iconst 0, 1), (71, .invokevirtual 46, 3), (74, .goto 45, 3), (77, .iload_n 3, 1), (78, .bipush 23, 2), (80, .if_icmp .ne 15, 3), (83, .aload_n 0, 1), (84, .aload_n 0, 1), (85, .invokevirtual 39, 3), (88, .ineg, 1), (89, .invokevirtual 46, 3), (92, .goto 27, 3), (95, .aload_n 0, 1), (96, .invokevirtual 39, 3), (99, .istore 4, 2), (101, .aload_n 0, 1), (102, .invokevirtual 39, 3), (105, .istore 5, 2), (107, .aload_n 0, 1), (108, .iload_n 3, 1), (109, .iload 5, 2), (111, .iload 4, 2), (113, .invokestatic 50, 3), (116, .invokevirtual 46, 3), (119, .return_, 1)]
set_option maxRecDepth 100000 in
theorem T10_step_ok : tabOK m10_step T10_step = true := by decide +kernel
def T10_reckon : TT := [(0, .iload_n 0, 1), (1, .tableswitch 145 3 19 #[83, 97, 145, 145, 145, 145, 145, 145, 145, 145, 145, 145, 111, 115, 119, 123, 134], 83), (84, .iload_n 1, 1), (85, .ifCond .ne 7, 3), (88, .iload_n 2, 1), (89, .ifCond .eq 7, 3), (92, .iconst 1, 1), (93, .goto 4, 3), (96, .iconst 0, 1), (97, .ireturn, 1), (98, .iload_n 1, 1), (99, .ifCond .eq 11, 3), (102, .iload_n 2, 1), (103, .ifCond .eq 7, 3), (106, .iconst 1, 1), (107, .goto 4, 3), (110, .iconst 0, 1), (111, .ireturn, 1), (112, .iload_n 1, 1), (113, .iload_n 2, 1), (114, .iadd, 1), (115, .ireturn, 1), (116, .iload_n 1, 1), (117, .iload_n 2, 1), (118, .isub, 1), (119, .ireturn, 1), (120, .iload_n 1, 1), (121, .iload_n 2, 1), (122, .imul, 1), (123, .ireturn, 1), (124, .iload_n 1, 1), (125, .iload_n 2, 1), (126, .if_icmp .ge 7, 3), (129, .iconst 1, 1), (130, .goto 4, 3), (133, .iconst 0, 1), (134, .ireturn, 1), (135, .iload_n 1, 1), (136, .iload_n 2, 1), (137, .if_icmp .ne 7, 3), (140, .iconst 1, 1), (141, .goto 4, 3), (144, .iconst 0, 1), (145, .ireturn, 1), (146, .iconst 0, 1), (147, .ireturn, 1)]
set_option maxRecDepth 100000 in
theorem T10_reckon_ok : tabOK m10_reckon T10_reckon = true := by decide +kernel
def T10_push : TT := [(0, .aload_n 0, 1), (1, .getfield 25, 3), (4, .bipush 32, 2), (6, .if_icmp .ge 23, 3), (9, .aload_n 0, 1), (10, .getfield 11, 3), (13, .aload_n 0, 1), (14, .getfield 25, 3), (17, .iload_n 1, 1), (18, .iastore, 1), (19, .aload_n 0, 1), (20, .dup, 1), (21, .getfield 25, 3), (24, .iconst 1, 1), (25, .iadd, 1), (26, .putfield 25, 3), (29, .return_, 1)]
set_option maxRecDepth 100000 in
theorem T10_push_ok : tabOK m10_push T10_push = true := by decide +kernel
def T10_pop : TT := [(0, .aload_n 0, 1), (1, .getfield 25, 3), (4, .iconst 1, 1), (5, .if_icmp .ge 5, 3), (8, .iconst 0, 1), (9, .ireturn, 1), (10, .aload_n 0, 1), (11, .dup, 1), (12, .getfield 25, 3), (15, .iconst 1, 1), (16, .isub, 1), (17, .putfield 25, 3), (20, .aload_n 0, 1), (21, .getfield 11, 3), (24, .aload_n 0, 1), (25, .getfield 25, 3), (28, .iaload, 1), (29, .ireturn, 1)]
set_option maxRecDepth 100000 in
theorem T10_pop_ok : tabOK m10_pop T10_pop = true := by decide +kernel
end
section
/-! System.arraycopy over ints, clone and cast of an int[], at WPc -/
def inC (sp n : Int32) (len : Nat) : Bool := decide (0 ≤ sp.toInt) && (decide (0 ≤ n.toInt) && decide (sp.toInt + n.toInt ≤ (len : Int)))
theorem inC_of {sp n : Int32} {len : Nat} (h : inC sp n len = true) : (¬ sp < 0 ∧ ¬ n < 0) ∧ sp.toInt = (sp.toNatClampNeg : Int) ∧ n.toInt = (n.toNatClampNeg : Int) ∧ sp.toNatClampNeg + n.toNatClampNeg ≤ len := by
  unfold inC at h
  rw [Bool.and_eq_true, Bool.and_eq_true, decide_eq_true_iff, decide_eq_true_iff, decide_eq_true_iff] at h
  obtain ⟨a, b, c⟩ := h
  have e1 : sp.toInt = (sp.toNatClampNeg : Int) := by show sp.toInt = ((sp.toInt.toNat : Nat) : Int); omega
  have e2 : n.toInt = (n.toNatClampNeg : Int) := by show n.toInt = ((n.toInt.toNat : Nat) : Int); omega
  refine ⟨⟨?_, ?_⟩, e1, e2, by omega⟩
  · intro q; have := Int32.lt_iff_toInt_lt.mp q; simp at this; omega
  · intro q; have := Int32.lt_iff_toInt_lt.mp q; simp at this; omega
def cpI (I : Is) (a b sp dp n : Nat) : Is := fun c j => if c = b then va_cpy (I a) (I b) sp dp n j else I c j
section RULES6
variable {g : Gt} {y : Mth} {d rc rs pc : Nat} {lv : List (Nat × Value)} {st : List Value} {z : Zs} {I : Is} {Q : Option Value → Zs → Is → Prop}
def CpyOK (own : String) (idx : Nat) : Prop := Cond.methodLink own idx arraycopyName ∈ gw_tbl ∧ Cond.native arraycopyName ∈ gw_tbl ∧ Cond.static arraycopyName ∈ gw_tbl ∧ Cond.initialized "java/lang/System" ∈ gw_tbl
theorem r_acopy {idx a b : Nat} {sp dp n : Int32} (hd : decode y.2.1 pc = .ok (.invokestatic idx, 3)) (hc : CpyOK y.1.cls idx) (hta : zT z a = 100) (htb : zT z b = 100) (h1c : inC sp n (zL z a) = true) (h2c : inC dp n (zL z b) = true) (hcat : (st.map (fun v => v.category)).sum ≤ 8) (k : WPc g y (d + 1) rc rs (pc + 3) lv st z (cpI I a b sp.toNatClampNeg dp.toNatClampNeg n.toNatClampNeg) Q) : WPc g y (d + 1) rc rs pc lv (.int n :: .int dp :: .ref b :: .int sp :: .ref a :: st) z I Q := by
  intro p l e R s m args below meth c H locs cells slots ls C h1 h2 h3 h4 hX hW hS hg hl
  obtain ⟨hx, hb, hml, hr, hown, hts, hlk, hnm, hK, hG⟩ := id C
  obtain ⟨hc1, hc2, hc3, hc4⟩ := hc
  obtain ⟨⟨p1, p3⟩, e1, e3, p4⟩ := inC_of h1c
  obtain ⟨⟨p2, -⟩, e2, -, p5⟩ := inC_of h2c
  obtain ⟨h8a, hla⟩ := hW.inN (k := a) (by omega)
  obtain ⟨h8, hlt⟩ := hW.inN (k := b) (by omega)
  have hc0 : H[ad g a]? = some (vp_cell (gA g 0) (zL z a, .inl (I a))) := hW.2.2.2.1 (a - 8) (ad g a, .inl (gA g 0, zL z a, .inl (I a))) (by rw [wsO_get h8a hla, elm_int hta])
  have hc1' : H[ad g b]? = some (vp_cell (gA g 0) (zL z b, .inl (I b))) := hW.2.2.2.1 (b - 8) (ad g b, .inl (gA g 0, zL z b, .inl (I b))) (by rw [wsO_get h8 hlt, elm_int htb])
  obtain ⟨-, k0, hk0, cm0, hkk0⟩ := (hK.2 0 _ rfl).1 (zL z a) (fun j => .int (I a j))
  obtain ⟨-, k1, hk1, cm1, hkk1⟩ := (hK.2 0 _ rfl).1 (zL z b) (fun j => .int (I b j))
  have hnf : nativeFrameWords "java/lang/System" "arraycopy" 5 ≤ 20 := by decide +kernel
  intro T hT X
  obtain ⟨vm', X', step⟩ := X.arraycopy hx hown (hts _ hc1) (hts _ hc2) (hts _ hc3) (hts _ hc4) (src := ad g a) (dst := ad g b) (cs := vp_cell (gA g 0) (zL z a, .inl (I a))) (cd := vp_cell (gA g 0) (zL z b, .inl (I b))) (srcPos := sp) (destPos := dp) (n := n) (by rw [hT]; exact hc0) (by rw [hT]; exact hc1')
    (fun _ h => by cases h) (fun _ h => by cases h) (fun h => by cases h) (fun h => by cases h) hk0 hk1 hkk0 hkk1 (by simp [refKind]) p1 p2 p3
    (by rw [e1, e3]; show ¬ _ > ((arrV (gA g 0) (zL z a) (fun j => .int (I a j))).slots.size : Int); rw [arrV_size]; omega)
    (by rw [e2, e3]; show ¬ _ > ((arrV (gA g 0) (zL z b) (fun j => .int (I b j))).slots.size : Int); rw [arrV_size]; omega)
    (fun vm₁ _ i hi => by
      have e : (vp_cell (gA g 0) (zL z a, .inl (I a))).slots.getD (sp.toNatClampNeg + i) .null = .int (I a (sp.toNatClampNeg + i)) := by
        show (arrV (gA g 0) (zL z a) (fun j => .int (I a j))).slots.getD _ _ = _
        rw [Array.getD_eq_getD_getElem?, arrV_read _ _ (by omega)]
        rfl
      refine ⟨?_, ?_⟩
      · rw [e]; rfl
      · rw [e]; exact trivial)
    (g := F0 m pc ls ((.int n :: .int dp :: .ref b :: .int sp :: .ref a :: st : List Value).map (lf g))) rfl (by rw [hml]; exact hl.1) (rest := st.map (lf g)) rfl (by rw [hb]; exact hd) (by omega) (by show 2 * 0 + ((st.map (lf g)).map _).sum + (nativeFrameWords "java/lang/System" "arraycopy" 5 + 11) ≤ _; rw [cat_map]; omega)
  have ec : copied (vp_cell (gA g 0) (zL z a, .inl (I a))) (vp_cell (gA g 0) (zL z b, .inl (I b))) sp dp n = vp_cell (gA g 0) (zL z b, .inl (va_cpy (I a) (I b) sp.toNatClampNeg dp.toNatClampNeg n.toNatClampNeg)) := va_copied (fun z => .int z) (gA g 0) (gA g 0) (I a) (I b) p4
  rw [ec] at X' step
  have hl2 : ad g b < H.size := (Array.getElem?_eq_some_iff.mp hc1').1
  generalize hcell : vp_cell (gA g 0) (zL z b, .inl (va_cpy (I a) (I b) sp.toNatClampNeg dp.toNatClampNeg n.toNatClampNeg)) = nc at X' step
  have hheap : ((T.setVm vm').setCell (ad g b) nc).heap = H.setIfInBounds (ad g b) nc := by rw [← hT]; rfl
  have oq : ∀ q : Nat, q ≠ ad g b → (H.setIfInBounds (ad g b) nc)[q]? = H[q]? := fun q hq => by simp [Array.getElem?_setIfInBounds, Ne.symm hq]
  have sz : (H.setIfInBounds (ad g b) nc).size = H.size := by simp
  have hlow : ∀ q, q < g0 g → (H.setIfInBounds (ad g b) nc)[q]? = H[q]? := fun q hq => oq q (Nat.ne_of_lt (Nat.lt_of_lt_of_le hq (ad_ge h8)))
  obtain ⟨t, a1, b1⟩ := k p l e R s m args below meth c _ _ cells slots ls C h1 h2 h3 h4 (hG.2 s H _ (Nat.le_trans hg hS.1) hlow hX) (hW.set (k := b) (by omega) rfl rfl (fun _ _ => rfl) (fun h8 i hi => by funext j; unfold cpI; rw [if_neg (by omega)]) (fun c hc => elm_other (by funext j; unfold cpI; rw [if_neg hc])) (by
      rw [elm_int htb]
      show (H.setIfInBounds (ad g b) nc)[ad g b]? = some (vp_cell _ _)
      rw [show cpI I a b sp.toNatClampNeg dp.toNatClampNeg n.toNatClampNeg b = va_cpy (I a) (I b) sp.toNatClampNeg dp.toNatClampNeg n.toNatClampNeg from by funext j; unfold cpI; rw [if_pos rfl], hcell]
      simp [Array.getElem?_setIfInBounds, hl2]) sz oq) ⟨by rw [sz]; exact hS.1, fun q g1 g2 => by
      rw [oq q (fun e => g2 (by rw [e]; exact ad_ge h8))]
      exact hS.2.1 q g1 g2, fun q hq => by
      rcases List.mem_append.mp hq with h | h
      · exact hS.2.2 q h
      · obtain ⟨z, -, hz⟩ := List.mem_map.mp h
        rw [← hz]
        exact ad_ge h8⟩ hg hl _ hheap X'
  exact ⟨t, step t a1, b1⟩
/-- the new cell holds what cell a holds -/
def cpN (I : Is) (n a : Nat) : Is := fun b j => if b = n then I a j else I b j
def CloOK (own : String) (idx : Nat) : Prop := Cond.methodLink own idx ⟨"[I", "clone", "()Ljava/lang/Object;"⟩ ∈ gw_tbl ∧ Cond.sameMethod "[I" "java/lang/Object" "clone" "()Ljava/lang/Object;" ∈ gw_tbl ∧ Cond.native ⟨"java/lang/Object", "clone", "()Ljava/lang/Object;"⟩ ∈ gw_tbl ∧ Cond.instanceMethod ⟨"java/lang/Object", "clone", "()Ljava/lang/Object;"⟩ ∈ gw_tbl ∧ Cond.selects "[I" ⟨"[I", "clone", "()Ljava/lang/Object;"⟩ ⟨"java/lang/Object", "clone", "()Ljava/lang/Object;"⟩ ∈ gw_tbl
theorem r_clone {idx a rc' rs' : Nat} (hgc : GC g) (hd : decode y.2.1 pc = .ok (.invokevirtual idx, 3)) (hc : CloOK y.1.cls idx) (hta : zT z a = 100) (hrc : 1 + rc' ≤ rc) (hrs : zL z a + rs' ≤ rs) (hcat : (st.map (fun v => v.category)).sum ≤ 8) (k : WPc g y (d + 1) rc' rs' (pc + 3) lv (.ref (zN z) :: st) (zNew z 100 (zL z a)) (cpN I (zN z) a) Q) : WPc g y (d + 1) rc rs pc lv (.ref a :: st) z I Q := by
  intro p l e R s m args below meth c H locs cells slots ls C h1 h2 h3 h4 hX hW hS hg hl
  obtain ⟨hx, hb, hml, hr, hown, hts, hlk, hnm0, hK, hG⟩ := id C
  obtain ⟨hlink, hsame, hnat, hinst, hsel⟩ := hc
  obtain ⟨h8, hla⟩ := hW.inN (k := a) (by omega)
  have hc0 : H[ad g a]? = some (vp_cell (gA g 0) (zL z a, .inl (I a))) := hW.2.2.2.1 (a - 8) (ad g a, .inl (gA g 0, zL z a, .inl (I a))) (by rw [wsO_get h8 hla, elm_int hta])
  have hsz : (vp_cell (gA g 0) (zL z a, .inl (I a))).slots.size = zL z a := arrV_size _ _ _
  have hnm : s.vm.findClass "[I" = some (gA g 0) := (hK.2 0 _ rfl).2
  obtain ⟨c0, t0', f1, f2, f3⟩ := Cond.castable_spec (va_Nw.use (A := args) rfl (hgc.1 s H hX ("[I", "java/lang/Cloneable") (by decide +kernel)))
  cases hnm.symm.trans f1
  have hat := (hK.2 0 _ rfl).1
  intro T hT X
  obtain ⟨-, kA, hkA, comp, hkind⟩ := State.isArrayOf_alike X.warmed.alike (hat 0 (fun _ => .null))
  obtain ⟨-, kS, hkS, compS, hkindS⟩ := hat 0 (fun _ => .null)
  obtain ⟨vm', X', st'⟩ := X.cloneArray hx hown (hts _ hlink) (hts _ hsame) (hts _ hnat) (hts _ hinst) (hts _ hsel) (a := ad g a) (cell := vp_cell (gA g 0) (zL z a, .inl (I a))) (by rw [hT]; exact hc0) (fun k h => by cases h) (fun h => by cases h) hnm f2 f3
    (fun i v hv => by
      have hk' : T.vm.classes[gA g 0]? = some kA := hkA
      have hlt : i < zL z a := by have := (Array.getElem?_eq_some_iff.mp hv).1; rw [hsz] at this; exact this
      have e : (vp_cell (gA g 0) (zL z a, .inl (I a))).slots[i]? = some (.int (I a i)) := arrV_read _ _ hlt
      have ev : v = .int (I a i) := Option.some.inj (hv.symm.trans e)
      subst ev
      have hcl0 : (vp_cell (gA g 0) (zL z a, .inl (I a))).cls = gA g 0 := rfl
      rw [hcl0]
      simpa [State.fitsSlot, State.slotType?, hk', hkind] using (show fits .int (.int (I a i)) = true from rfl))
    (g := F0 m pc ls ((.ref a :: st : List Value).map (lf g))) rfl (by rw [hml]; exact hl.1) rfl (by rw [hb]; exact hd) (by omega) (by show 2 * 0 + ((st.map (lf g)).map _).sum + 14 ≤ _; rw [cat_map]; omega) (by omega) (by rw [hsz]; omega) (hloader := Vm.clonesLoader_of_array hkS hkindS)
  have hcellE : ({ cls := (vp_cell (gA g 0) (zL z a, .inl (I a))).cls, slots := (vp_cell (gA g 0) (zL z a, .inl (I a))).slots } : Cell) = vp_cell (gA g 0) (zL z a, .inl (I a)) := rfl
  rw [hcellE, hsz] at X'
  generalize hH1 : H.push (vp_cell (gA g 0) (zL z a, .inl (I a))) = H1
  have z1 : H1.size = H.size + 1 := by rw [← hH1, Array.size_push]
  have e1 : H1[H.size]? = some (vp_cell (gA g 0) (zL z a, .inl (I a))) := by rw [← hH1, Array.getElem?_push_size]
  have o1 : ∀ q : Nat, q < H.size → H1[q]? = H[q]? := fun q hq => by rw [← hH1, Array.getElem?_push, if_neg (Nat.ne_of_lt hq)]
  have hlow : ∀ q, q < g0 g → H1[q]? = H[q]? := fun q hq => o1 q (Nat.lt_of_lt_of_le hq (Nat.le_trans hg hS.1))
  have hWn : Wh g (zNew z 100 (zL z a)) (cpN I (zN z) a) H1 := by
    have hp := hW.push (t := 100) (len := zL z a) (H' := H.push (vp_cell (gA g 0) (zL z a, .inl (fun _ => 0)))) (Or.inr (Nat.le_refl _)) (by
      have ht : zT (zNew z 100 (zL z a)) (zN z) = 100 := by show up1 _ _ _ _ = _; unfold up1; exact if_pos rfl
      have hL : zL (zNew z 100 (zL z a)) (zN z) = zL z a := by show up1 _ _ _ _ = _; unfold up1; exact if_pos rfl
      rw [elm_int ht, hL]
      show (H.push _)[H.size]? = some (vp_cell _ _)
      rw [Array.getElem?_push_size]
      congr 2
      congr 1
      congr 1
      funext j
      unfold nI0
      rw [if_pos rfl]) (Array.size_push ..) (fun q hq => by rw [Array.getElem?_push, if_neg (Nat.ne_of_lt hq)])
    have hadn : ad g (zN z) = H.size := ad_new hW
    have ht : zT (zNew z 100 (zL z a)) (zN z) = 100 := by show up1 _ _ _ _ = _; unfold up1; exact if_pos rfl
    have hL : zL (zNew z 100 (zL z a)) (zN z) = zL z a := by show up1 _ _ _ _ = _; unfold up1; exact if_pos rfl
    refine hp.set (k := zN z) (by rw [ht]; omega) rfl rfl (fun _ _ => rfl) (fun h8 i hi => ?_) (fun b hb => ?_) ?_ (by rw [z1, Array.size_push]) (fun q hq => ?_)
    · funext j; unfold cpN nI0; rw [if_neg (by omega), if_neg (by omega)]
    · refine elm_other ?_
      funext j; unfold cpN nI0; rw [if_neg hb, if_neg hb]
    · rw [elm_int ht, hL, hadn]
      show H1[H.size]? = some (vp_cell _ _)
      rw [e1]
      congr 2
      congr 1
      congr 1
      funext j
      unfold cpN
      rw [if_pos rfl]
    · rw [hadn] at hq
      rw [← hH1, Array.getElem?_push, Array.getElem?_push, if_neg hq, if_neg hq]
  obtain ⟨t, b1, b2⟩ := k p l e R s m args below meth c H1 locs (cells + 1) (slots + zL z a) ls C h1 h2 (by omega) (by omega) (hG.2 s H H1 (Nat.le_trans hg hS.1) hlow hX) hWn ⟨Nat.le_trans hS.1 (by omega), fun q h1 h2 => (o1 q (Nat.lt_of_lt_of_le h1 hS.1)).trans (hS.2.1 q h1 h2), hS.2.2⟩ hg hl _ (by rw [← hH1, ← hT]; rfl) X'
  refine ⟨t, st' t ?_, b2⟩
  have ee : (Value.ref (zN z) :: st).map (lf g) = Value.ref T.heap.size :: st.map (lf g) := by show Value.ref (ad g (zN z)) :: _ = _; rw [ad_new hW, hT]
  rw [ee] at b1
  exact b1
theorem r_castI {idx a : Nat} (hd : decode y.2.1 pc = .ok (.checkcast idx, 3)) (hc : Cond.classLink y.1.cls idx "[I" ∈ gw_tbl) (hta : zT z a = 100) (k : WPc g y d rc rs (pc + 3) lv (.ref a :: st) z I Q) : WPc g y d rc rs pc lv (.ref a :: st) z I Q := by
  intro p l e R s m args below meth c H locs cells slots ls C h1 h2 h3 h4 hX hW hS hg hl
  obtain ⟨hx, hb, hml, hr, hown, hts, hlk, hnm0, hK, hG⟩ := id C
  obtain ⟨h8, hla⟩ := hW.inN (k := a) (by omega)
  exact va_castA (D := gD g) (x := (zL z a, .inl (I a))) hx hb hown (hts _ hc) hW.2.2.2.1 (a - 8) (by rw [wsO_get h8 hla, elm_int hta]) (hK.2 0 _ rfl).2 hd (k p l e R s m args below meth c H locs cells slots ls C h1 h2 h3 h4 hX hW hS hg hl)
end RULES6
end
section
/-! what holds outside our cells: the script, the three String constants, two statics, casts that fail; and its instructions, at WPc -/
def sx0 : String := "worth price * 2 ; fee 1 ; wage 1 ;"
def sx1 : String := "();+-*<="
def sx2 : String := "worth fee   wage  or    and   not   told  many  more  year  numberprice "
def slen : List Nat := [34, 8, 72]
def sbyt : List (List Int32) := [[119, 111, 114, 116, 104, 32, 112, 114, 105, 99, 101, 32, 42, 32, 50, 32, 59, 32, 102, 101, 101, 32, 49, 32, 59, 32, 119, 97, 103, 101, 32, 49, 32, 59], [40, 41, 59, 43, 45, 42, 60, 61], [119, 111, 114, 116, 104, 32, 102, 101, 101, 32, 32, 32, 119, 97, 103, 101, 32, 32, 111, 114, 32, 32, 32, 32, 97, 110, 100, 32, 32, 32, 110, 111, 116, 32, 32, 32, 116, 111, 108, 100, 32, 32, 109, 97, 110, 121, 32, 32, 109, 111, 114, 101, 32, 32, 121, 101, 97, 114, 32, 32, 110, 117, 109, 98, 101, 114, 112, 114, 105, 99, 101, 32]]
def NcL : List (String × String) := [("UnlikeCoins$Sort", "UnlikeCoins$Common"), ("UnlikeCoins$Sort", "UnlikeCoins$Scarce"), ("UnlikeCoins$Sort", "UnlikeCoins$Stamped"), ("UnlikeCoins$Sort", "UnlikeCoins$Gilt"), ("UnlikeCoins$Sort", "UnlikeCoins$Melting"), ("UnlikeCoins$Common", "UnlikeCoins$Scarce"), ("UnlikeCoins$Common", "UnlikeCoins$Stamped"), ("UnlikeCoins$Common", "UnlikeCoins$Gilt"), ("UnlikeCoins$Common", "UnlikeCoins$Melting"), ("UnlikeCoins$Scarce", "UnlikeCoins$Common"), ("UnlikeCoins$Scarce", "UnlikeCoins$Stamped"), ("UnlikeCoins$Scarce", "UnlikeCoins$Gilt"), ("UnlikeCoins$Scarce", "UnlikeCoins$Melting"), ("UnlikeCoins$Stamped", "UnlikeCoins$Scarce"), ("UnlikeCoins$Stamped", "UnlikeCoins$Gilt"), ("UnlikeCoins$Stamped", "UnlikeCoins$Melting"), ("UnlikeCoins$Gilt", "UnlikeCoins$Common"), ("UnlikeCoins$Gilt", "UnlikeCoins$Stamped"), ("UnlikeCoins$Gilt", "UnlikeCoins$Melting"), ("UnlikeCoins$Melting", "UnlikeCoins$Common"), ("UnlikeCoins$Melting", "UnlikeCoins$Scarce"), ("UnlikeCoins$Melting", "UnlikeCoins$Stamped"), ("UnlikeCoins$Melting", "UnlikeCoins$Gilt")]
def GS (g : Gt) : Prop := (ad g 0 < g0 g ∧ GC g) ∧ (∀ i, i < 3 → gL g (i + 4) = slen.getD i 0 ∧ ∀ j, j < slen.getD i 0 → gxs g (i + 4) j = (sbyt.getD i []).getD j 0) ∧ (∀ (s : State) (H : Heap), gX g s H → va_X (ad g 0) (gL g 0) (gxs g 0) s H ∧ vk_S 3 slen sbyt (fun i => ad g (i + 1)) (fun i => ad g (i + 4)) (Fa g) s H ∧ (vk_R RX11 63 sx0 (ad g 1) s ∧ vk_R RX5 106 sx1 (ad g 2) s ∧ vk_R RX5 117 sx2 (ad g 3) s) ∧ va_Z "java/lang/String" "COMPACT_STRINGS" "Z" (.int 1) (Fa g) s H ∧ ∀ q ∈ NcL, va_Nc q.1 q.2 s) ∧ ((∀ (s : State) (H : Heap), gX g s H → va_Z "jdk/internal/util/Preconditions" "SIOOBE_FORMATTER" "Ljava/util/function/BiFunction;" .null (Fa g) s H) ∨ (∀ (s : State) (H : Heap), gX g s H → va_Z "jdk/internal/util/Preconditions" "SIOOBE_FORMATTER" "Ljava/util/function/BiFunction;" (.ref (ad g 7)) (Fa g) s H))
theorem gXs {g : Gt} {s : State} {H : Heap} {locs : List Loc} (hG : GX g) (hX : gX g s H) (hS : va_S (Fa g) s.heap H locs) (hg : g0 g ≤ s.heap.size) : gX g s s.heap := hG.2 s H s.heap (Nat.le_trans hg hS.1) (fun q hq => (hS.2.1 q (Nat.lt_of_lt_of_le hq hg) (Nat.not_le.mpr hq)).symm) hX
section RULES7
variable {g : Gt} {y : Mth} {d rc rs pc : Nat} {lv : List (Nat × Value)} {st : List Value} {z : Zs} {I : Is} {Q : Option Value → Zs → Is → Prop}
theorem not_Fa {g : Gt} {b : Nat} (h : b < g0 g) : ¬ Fa g b := Nat.not_le.mpr h
theorem r_sald {i : Int32} (hs : GS g) (hd : decode y.2.1 pc = .ok (.iaload, 1)) (hi : inB i (zL z 0) = true) (k : WPc g y d rc rs (pc + 1) lv (.int (I 0 i.toNatClampNeg) :: st) z I Q) : WPc g y d rc rs pc lv (.int i :: .ref 0 :: st) z I Q := by
  intro p l e R s m args below meth c H locs cells slots ls C h1 h2 h3 h4 hX hW hS hg hl
  have hG := C.2.2.2.2.2.2.2.2.2
  obtain ⟨-, e1, e2⟩ := hW.2.2.2.2.2 0 (by omega)
  have hk := k p l e R s m args below meth c H locs cells slots ls C h1 h2 h3 h4 hX hW hS hg hl
  rw [e2] at hk
  rw [e1] at hi
  exact va_sld C.1 C.2.1 ((hs.2.2.1 s s.heap (gXs hG hX hS hg)).1) (Nat.lt_of_lt_of_le hs.1.1 hg) (not_Fa hs.1.1) hS (inB_vp hi) hd hk
theorem r_salen (hs : GS g) (hd : decode y.2.1 pc = .ok (.arraylength, 1)) (k : WPc g y d rc rs (pc + 1) lv (.int (Int32.ofNat (zL z 0)) :: st) z I Q) : WPc g y d rc rs pc lv (.ref 0 :: st) z I Q := by
  intro p l e R s m args below meth c H locs cells slots ls C h1 h2 h3 h4 hX hW hS hg hl
  have hG := C.2.2.2.2.2.2.2.2.2
  obtain ⟨-, e1, e2⟩ := hW.2.2.2.2.2 0 (by omega)
  have hk := k p l e R s m args below meth c H locs cells slots ls C h1 h2 h3 h4 hX hW hS hg hl
  rw [e1] at hk
  exact va_slen C.1 C.2.1 ((hs.2.2.1 s s.heap (gXs hG hX hS hg)).1) (Nat.lt_of_lt_of_le hs.1.1 hg) (not_Fa hs.1.1) hS hd hk
theorem r_bald {a : Nat} {i : Int32} (hs : GS g) (ha : a < 3) (hd : decode y.2.1 pc = .ok (.baload, 1)) (hi : inB i (zL z (a + 4)) = true) (k : WPc g y d rc rs (pc + 1) lv (.int (I (a + 4) i.toNatClampNeg) :: st) z I Q) : WPc g y d rc rs pc lv (.int i :: .ref (a + 4) :: st) z I Q := by
  intro p l e R s m args below meth c H locs cells slots ls C h1 h2 h3 h4 hX hW hS hg hl
  have hG := C.2.2.2.2.2.2.2.2.2
  obtain ⟨-, e1, e2⟩ := hW.2.2.2.2.2 (a + 4) (by omega)
  obtain ⟨f1, f2⟩ := hs.2.1 a ha
  have hk := k p l e R s m args below meth c H locs cells slots ls C h1 h2 h3 h4 hX hW hS hg hl
  rw [e1, f1] at hi
  have hin := inB_vp hi
  have hlt : i.toNatClampNeg < slen.getD a 0 := Nat.not_le.mp fun q => hin (Or.inr q)
  rw [e2, f2 _ hlt] at hk
  exact va_tb C.1 C.2.1 (((hs.2.2.1 s s.heap (gXs hG hX hS hg)).2.1).1 a ha).2.2.2 hS hin rfl hd hk
theorem r_balen {a : Nat} (hs : GS g) (ha : a < 3) (hd : decode y.2.1 pc = .ok (.arraylength, 1)) (k : WPc g y d rc rs (pc + 1) lv (.int (Int32.ofNat (zL z (a + 4))) :: st) z I Q) : WPc g y d rc rs pc lv (.ref (a + 4) :: st) z I Q := by
  intro p l e R s m args below meth c H locs cells slots ls C h1 h2 h3 h4 hX hW hS hg hl
  have hG := C.2.2.2.2.2.2.2.2.2
  obtain ⟨-, e1, e2⟩ := hW.2.2.2.2.2 (a + 4) (by omega)
  obtain ⟨f1, f2⟩ := hs.2.1 a ha
  have hk := k p l e R s m args below meth c H locs cells slots ls C h1 h2 h3 h4 hX hW hS hg hl
  rw [e1, f1] at hk
  exact va_tlen C.1 C.2.1 (((hs.2.2.1 s s.heap (gXs hG hX hS hg)).2.1).1 a ha).2.2.2 hS rfl hd hk
theorem r_sval {a idx : Nat} (hs : GS g) (ha : a < 3) (hd : decode y.2.1 pc = .ok (.getfield idx, 3)) (hl0 : Cond.fieldLink y.1.cls idx "java/lang/String" "value" "[B" ∈ gw_tbl) (k : WPc g y d rc rs (pc + 3) lv (.ref (a + 4) :: st) z I Q) : WPc g y d rc rs pc lv (.ref (a + 1) :: st) z I Q := by
  intro p l e R s m args below meth c H locs cells slots ls C h1 h2 h3 h4 hX hW hS hg hl
  have hG := C.2.2.2.2.2.2.2.2.2
  exact vk_getf C.1 C.2.1 (((hs.2.2.1 s s.heap (gXs hG hX hS hg)).2.1).1 a ha).2.2.1 hS C.2.2.2.2.1 (C.2.2.2.2.2.1 _ hl0) (fun _ h => h) hd (k p l e R s m args below meth c H locs cells slots ls C h1 h2 h3 h4 hX hW hS hg hl)
theorem r_scod {a idx : Nat} (hs : GS g) (ha : a < 3) (hd : decode y.2.1 pc = .ok (.getfield idx, 3)) (hl0 : Cond.fieldLink y.1.cls idx "java/lang/String" "coder" "B" ∈ gw_tbl) (k : WPc g y d rc rs (pc + 3) lv (.int 0 :: st) z I Q) : WPc g y d rc rs pc lv (.ref (a + 1) :: st) z I Q := by
  intro p l e R s m args below meth c H locs cells slots ls C h1 h2 h3 h4 hX hW hS hg hl
  have hG := C.2.2.2.2.2.2.2.2.2
  exact vk_getf C.1 C.2.1 (((hs.2.2.1 s s.heap (gXs hG hX hS hg)).2.1).1 a ha).2.1 hS C.2.2.2.2.1 (C.2.2.2.2.2.1 _ hl0) (fun _ h => h) hd (k p l e R s m args below meth c H locs cells slots ls C h1 h2 h3 h4 hX hW hS hg hl)
theorem r_gcs {idx : Nat} (hs : GS g) (hd : decode y.2.1 pc = .ok (.getstatic idx, 3)) (hl0 : Cond.fieldLink y.1.cls idx "java/lang/String" "COMPACT_STRINGS" "Z" ∈ gw_tbl) (k : WPc g y d rc rs (pc + 3) lv (.int 1 :: st) z I Q) : WPc g y d rc rs pc lv st z I Q := by
  intro p l e R s m args below meth c H locs cells slots ls C h1 h2 h3 h4 hX hW hS hg hl
  have hG := C.2.2.2.2.2.2.2.2.2
  exact va_gets C.1 C.2.1 (hs.2.2.1 s s.heap (gXs hG hX hS hg)).2.2.2.1 hS C.2.2.2.2.1 (C.2.2.2.2.2.1 _ hl0) (fun _ h => h) hd (k p l e R s m args below meth c H locs cells slots ls C h1 h2 h3 h4 hX hW hS hg hl)
theorem r_gfm {idx : Nat} (hs : GS g) (hd : decode y.2.1 pc = .ok (.getstatic idx, 3)) (hl0 : Cond.fieldLink y.1.cls idx "jdk/internal/util/Preconditions" "SIOOBE_FORMATTER" "Ljava/util/function/BiFunction;" ∈ gw_tbl) (k : WPc g y d rc rs (pc + 3) lv (.null :: st) z I Q) (k2 : WPc g y d rc rs (pc + 3) lv (.ref 7 :: st) z I Q) : WPc g y d rc rs pc lv st z I Q := by
  intro p l e R s m args below meth c H locs cells slots ls C h1 h2 h3 h4 hX hW hS hg hl
  have hG := C.2.2.2.2.2.2.2.2.2
  rcases hs.2.2.2 with h | h
  · exact va_gets C.1 C.2.1 (h s s.heap (gXs hG hX hS hg)) hS C.2.2.2.2.1 (C.2.2.2.2.2.1 _ hl0) (fun _ h => h) hd (k p l e R s m args below meth c H locs cells slots ls C h1 h2 h3 h4 hX hW hS hg hl)
  · exact va_gets C.1 C.2.1 (h s s.heap (gXs hG hX hS hg)) hS C.2.2.2.2.1 (C.2.2.2.2.2.1 _ hl0) (fun _ h => h) hd (k2 p l e R s m args below meth c H locs cells slots ls C h1 h2 h3 h4 hX hW hS hg hl)
theorem r_ldcS {idx a : Nat} {tx : String} (hs : ∀ (s : State) (H : Heap), gX g s H → vk_R y.1.cls idx tx (ad g a) s) (hd : decode y.2.1 pc = .ok (.ldc idx, 2)) (k : WPc g y d rc rs (pc + 2) lv (.ref a :: st) z I Q) : WPc g y d rc rs pc lv st z I Q := by
  intro p l e R s m args below meth c H locs cells slots ls C h1 h2 h3 h4 hX hW hS hg hl
  exact va_ldcS C.1 C.2.1 C.2.2.2.2.1 (hs s H hX) hd (k p l e R s m args below meth c H locs cells slots ls C h1 h2 h3 h4 hX hW hS hg hl)
def CalW (own : String) (idx : Nat) (y' : Mth) (n : Nat) : Prop := MthOK y' n ∧ Cond.methodLink own idx y'.1 ∈ gw_tbl ∧ Cond.instanceMethod y'.1 ∈ gw_tbl ∧ Cond.selects "java/lang/String" y'.1 y'.1 ∈ gw_tbl
/-- a virtual call on a String constant -/
theorem r_callW {idx n mc ms rc' rs' a : Nat} {y' : Mth} (hs : GS g) (ha : a < 3) (As : List Value) (hd : decode y.2.1 pc = .ok (.invokevirtual idx, 3)) (hc : CalW y.1.cls idx y' n) (hn : As.length = n) (hcat : (st.map (fun v => v.category)).sum ≤ 8) (hmc : mc + rc' ≤ rc) (hms : ms + rs' ≤ rs) (hM : WPm g y' d mc ms (.ref (a + 1) :: As) z I (fun v z' I' => WPc g y (d + 1) rc' rs' (pc + 3) lv (v.toList ++ st) z' I' Q)) : WPc g y (d + 1) rc rs pc lv (As.reverse ++ .ref (a + 1) :: st) z I Q := by
  intro p l e R s m args below meth c H locs cells slots ls C h1 h2 h3 h4 hX hW hS hg hl
  obtain ⟨hm, hlink, hinst, hsel⟩ := hc
  have hts := C.2.2.2.2.2.1
  have hG := C.2.2.2.2.2.2.2.2.2
  have hrec := vk_recv (hs.2.2.1 s s.heap (gXs hG hX hS hg)).2.1 ha hS
  exact runK (va_runV (C := "java/lang/String") (As := As.map (lf g)) (b := ad g (a + 1)) (n := n) (cfix C) (hM l) ⟨callB hm C h1 h2 hlink, hts _ hinst, hts _ hsel⟩ ⟨pm_blind, hrec, pm_at (As := .ref (a + 1) :: As) C hX hW⟩ rfl (by rw [List.length_map]; exact hn) hl.1 (stk As (.ref (a + 1) :: st)) (room_map hcat) hd ⟨by omega, by omega⟩) C h1 h2 h3 h4 hmc hms hX hS hg hl (fun v z' I' q => q)
end RULES7
end
section
/-! the walker: what is to be shown for a stretch of code, as a proposition that the kernel works out; and that it is enough -/
theorem WPm.mono {g : Gt} {y : Mth} {d rc rs : Nat} {args : List Value} {z : Zs} {I : Is} {Q Q' : Option Value → Zs → Is → Prop} (h : WPm g y d rc rs args z I Q) (hq : ∀ v z I, Q v z I → Q' v z I) : WPm g y d rc rs args z I Q' := fun l =>
  MetFree.mono (h l) (fun _ _ hp => hp) (fun _ _ _ _ _ hk => hk) (fun _ _ _ _ _ hQ => ⟨⟨hQ.1.1.elim fun v h1 => h1.elim fun z1 h2 => h2.elim fun I1 h3 => ⟨v, z1, I1, h3.1, hq _ _ _ h3.2.1, h3.2.2⟩, hQ.1.2⟩, hQ.2⟩)
abbrev FE : Type := Nat × Nat × List Nat × Nat
abbrev CE : Type := Nat × Nat × List (Nat × Mth) × Nat × Nat × Nat
abbrev KT : Type := List FE × List CE × List (Nat × Nat) × List (Nat × Value)
def fnd {α : Type} : List (Nat × α) → Nat → Option α
  | [], _ => none
  | (k, a) :: r, i => bif Nat.beq k i then some a else fnd r i
theorem fnd_mem {α : Type} : ∀ {l : List (Nat × α)} {i : Nat} {a : α}, fnd l i = some a → (i, a) ∈ l
  | [], _, _, h => by cases h
  | (j, w) :: r, i, v, h => by
    unfold fnd at h
    cases hb : Nat.beq j i with
    | true => rw [hb] at h; have e : j = i := Nat.eq_of_beq_eq_true hb; subst e; cases h; exact List.mem_cons_self
    | false => rw [hb] at h; exact List.mem_cons_of_mem _ (fnd_mem h)
def ckB (b : Bool) (X : Prop) : Prop := match b with
  | true => X
  | false => False
theorem ckB_of {b : Bool} {X : Prop} (h : ckB b X) : b = true ∧ X := by cases b with
  | true => exact ⟨rfl, h⟩
  | false => exact h.elim
def ckT (b : Bool) (X : Prop) : Prop := match b with
  | true => X
  | false => False
theorem ckT_of {b : Bool} {X : Prop} (h : ckT b X) : b = true ∧ X := by cases b with
  | true => exact ⟨rfl, h⟩
  | false => exact h.elim
theorem ckB_i {b : Bool} {X : Prop} (h : b = true) (x : X) : ckB b X := by subst h; exact x
def iteB (b : Bool) (X Y : Prop) : Prop := match b with
  | true => X
  | false => Y
theorem iteB_c {c : Prop} [Decidable c] {X Y : Prop} (h : iteB (decide c) X Y) : (c → X) ∧ (¬ c → Y) := by
  by_cases hc : c
  · rw [decide_eq_true hc] at h; exact ⟨fun _ => h, fun q => absurd hc q⟩
  · rw [decide_eq_false hc] at h; exact ⟨fun q => absurd q hc, fun _ => h⟩
theorem iteB_i {c : Prop} [Decidable c] {X Y : Prop} (hx : c → X) (hy : ¬ c → Y) : iteB (decide c) X Y := by
  by_cases hc : c
  · rw [decide_eq_true hc]; exact hx hc
  · rw [decide_eq_false hc]; exact hy hc
def tagB : List Nat → Nat → Bool
  | [], _ => false
  | [c], t => Nat.beq t c
  | c :: r, t => Nat.beq t c || tagB r t
theorem tagB_mem : ∀ {l : List Nat} {t : Nat}, tagB l t = true → t ∈ l
  | [], _, h => by cases h
  | [c], t, h => by have e : t = c := Nat.eq_of_beq_eq_true h; rw [e]; exact List.mem_cons_self
  | c :: b :: r, t, h => by
    have h' : (Nat.beq t c || tagB (b :: r) t) = true := h
    rw [Bool.or_eq_true] at h'
    rcases h' with h1 | h1
    · have e : t = c := Nat.eq_of_beq_eq_true h1; rw [e]; exact List.mem_cons_self
    · exact List.mem_cons_of_mem _ (tagB_mem h1)
def iarB (z : Zs) (a : Nat) : Bool := Nat.beq (zT z a) 100 || Nat.beq a 0
def narB (ty : FieldType) (x : Int32) : Bool := match ty with
  | .int => true
  | .boolean => decide (x = 0) || decide (x = 1)
  | .char => decide (x.toUInt32 % 65536 = x.toUInt32)
  | .byte => decide (x = 0)
  | _ => false
theorem narB_ok {ty : FieldType} {x : Int32} (h : narB ty x = true) : narrow ty (.int x) = .int x ∧ fits ty (.int x) = true := by
  unfold narB at h
  cases ty with
  | int => exact ⟨rfl, rfl⟩
  | boolean =>
    simp only [Bool.or_eq_true, decide_eq_true_iff] at h
    rcases h with rfl | rfl <;> exact ⟨by decide, by decide⟩
  | byte => simp only [decide_eq_true_iff] at h; subst h; exact ⟨by decide, by decide⟩
  | char =>
    simp only [decide_eq_true_iff] at h
    have hx : (x.toUInt32 % 65536).toInt32 = x := by rw [h]; rfl
    rw [← hx]
    exact ⟨pk_nc x, pk_fc x⟩
  | _ => simp at h
def rk (r : Option FieldType) : Nat := match r with
  | none => 0
  | some .long => 3
  | some (.object _) => 2
  | some (.array _) => 2
  | some _ => 1
def callK (g : Gt) (m : Mth) (d mc ms : Nat) (args : List Value) (z : Zs) (I : Is) (go : List Value → Zs → Is → Prop) : Prop := match rk m.2.2.2 with
  | 0 => WPv g m d mc ms args z I (fun z I => go [] z I)
  | 1 => WPi g m d mc ms args z I (fun x z I => go [.int x] z I)
  | 2 => WPr g m d mc ms args z I (fun o z I => oe o (go [.null] z I) (fun q => go [.ref q] z I))
  | _ => WPl g m d mc ms args z I (fun x z I => go [.long x] z I)
theorem callK_ok {g : Gt} {m : Mth} {d mc ms : Nat} {args : List Value} {z : Zs} {I : Is} {go : List Value → Zs → Is → Prop} {R : List Value → Zs → Is → Prop} (h : callK g m d mc ms args z I go) (hg : ∀ vs z I, go vs z I → R vs z I) : WPm g m d mc ms args z I (fun v z I => R v.toList z I) := by
  unfold callK at h
  split at h
  · exact h.mono (fun v z I q => by rw [q.1]; exact hg _ _ _ q.2)
  · exact h.mono (fun v z I q => by obtain ⟨x, rfl, hx⟩ := q; exact hg _ _ _ hx)
  · exact h.mono (fun v z I q => by
      obtain ⟨x, rfl, hx⟩ := q
      cases x with
      | none => exact hg _ _ _ hx
      | some q => exact hg _ _ _ hx)
  · exact h.mono (fun v z I q => by obtain ⟨x, rfl, hx⟩ := q; exact hg _ _ _ hx)
def dsp (l : List (Nat × Mth)) (t : Nat) (K : Mth → Prop) : Prop := match l with
  | [] => False
  | [(c, m)] => ckB (Nat.beq t c) (K m)
  | (c, m) :: r => iteB (Nat.beq t c) (K m) (dsp r t K)
theorem dsp_ok : ∀ {l : List (Nat × Mth)} {t : Nat} {K : Mth → Prop}, dsp l t K → ∃ m, (t, m) ∈ l ∧ K m
  | [], _, _, h => h.elim
  | [(c, m)], t, K, h => by
    obtain ⟨h1, h2⟩ := ckB_of h
    have e : t = c := Nat.eq_of_beq_eq_true h1
    exact ⟨m, by rw [e]; exact List.mem_cons_self, h2⟩
  | (c, m) :: b :: r, t, K, h => by
    have h' : iteB (Nat.beq t c) (K m) (dsp (b :: r) t K) := h
    unfold iteB at h'
    split at h'
    next hb => have e : t = c := Nat.eq_of_beq_eq_true hb; exact ⟨m, by rw [e]; exact List.mem_cons_self, h'⟩
    next hb => obtain ⟨m2, h1, h2⟩ := dsp_ok h'; exact ⟨m2, List.mem_cons_of_mem _ h1, h2⟩
def stoB (c t : Nat) : Bool := (Nat.beq t 1 && tagB [8, 0, 6, 9, 1, 3] c) || ((Nat.beq t 2 && Nat.beq c 4) || ((Nat.beq t 3 && Nat.beq c 10) || (Nat.beq t 4 && Nat.beq c 7)))
def rngB (t : Nat) : Bool := Nat.ble 101 t && Nat.ble t 104
def tswK (x : Int32) (go : Nat → Prop) (pc : Nat) (dflt : Int) : Int → List Int → Prop
  | _, [] => go ((pc : Int) + dflt).toNat
  | k, o :: r => iteB (decide (x = Int32.ofInt k)) (go ((pc : Int) + o).toNat) (tswK x go pc dflt (k + 1) r)
def lswK (x : Int32) (go : Nat → Prop) (pc : Nat) (dflt : Int) : List (Int × Int) → Prop
  | [] => ckT (decide (0 ≤ (pc : Int) + dflt)) (go ((pc : Int) + dflt).toNat)
  | (k, o) :: r => iteB (decide (x = Int32.ofInt k)) (ckT (decide (0 ≤ (pc : Int) + o)) (go ((pc : Int) + o).toNat)) (lswK x go pc dflt r)
def jmp (pc : Nat) (off : Int) (go : Nat → Prop) : Prop := ckT (decide (0 ≤ (pc : Int) + off)) (go ((pc : Int) + off).toNat)
/-- which array class an element class makes; which cells are of a class -/
def anwT (c : Nat) : Nat := match c with
  | 8 => 1
  | 4 => 2
  | 10 => 3
  | _ => 4
def insY (c : Nat) : List Nat := match c with
  | 0 => [0, 9]
  | 6 => [6, 1]
  | 9 => [9]
  | 1 => [1]
  | _ => [3]
/-- one instruction; go: what is to be shown behind it -/
def wst (g : Gt) (kt : KT) (y : Mth) (ini : Bool) (Q : Option Value → Zs → Is → Prop) (go : Nat → Nat → Nat → List (Nat × Value) → List Value → Zs → Is → Prop) (ins : Instr) (d rc rs pc : Nat) (lv : List (Nat × Value)) (st : List Value) (z : Zs) (I : Is) : Prop :=
  match ins, st with
  | .iconst n, st => go rc rs (pc + 1) lv (.int (Int32.ofInt n) :: st) z I
  | .bipush n, st => go rc rs (pc + 2) lv (.int (Int8.ofInt n).toInt32 :: st) z I
  | .sipush n, st => go rc rs (pc + 3) lv (.int (Int16.ofInt n).toInt32 :: st) z I
  | .lconst n, st => go rc rs (pc + 1) lv (.long (Int64.ofNat n.val) :: st) z I
  | .aconst_null, st => go rc rs (pc + 1) lv (.null :: st) z I
  | .iload_n n, st => match lk lv n.val with
    | some (.int x) => go rc rs (pc + 1) lv (.int x :: st) z I
    | _ => False
  | .iload n, st => match lk lv n with
    | some (.int x) => go rc rs (pc + 2) lv (.int x :: st) z I
    | _ => False
  | .lload_n n, st => match lk lv n.val with
    | some (.long x) => go rc rs (pc + 1) lv (.long x :: st) z I
    | _ => False
  | .lload n, st => match lk lv n with
    | some (.long x) => go rc rs (pc + 2) lv (.long x :: st) z I
    | _ => False
  | .aload_n n, st => match lk lv n.val with
    | some (.ref x) => go rc rs (pc + 1) lv (.ref x :: st) z I
    | some .null => go rc rs (pc + 1) lv (.null :: st) z I
    | _ => False
  | .aload n, st => match lk lv n with
    | some (.ref x) => go rc rs (pc + 2) lv (.ref x :: st) z I
    | some .null => go rc rs (pc + 2) lv (.null :: st) z I
    | _ => False
  | .istore_n n, .int x :: st => ckT (Nat.blt n.val y.2.2.1) (go rc rs (pc + 1) (lst lv n.val (.int x)) st z I)
  | .istore n, .int x :: st => ckT (Nat.blt n y.2.2.1) (go rc rs (pc + 2) (lst lv n (.int x)) st z I)
  | .lstore_n n, .long x :: st => ckT (Nat.blt (n.val + 1) y.2.2.1) (go rc rs (pc + 1) (lst2 lv n.val (.long x)) st z I)
  | .lstore n, .long x :: st => ckT (Nat.blt (n + 1) y.2.2.1) (go rc rs (pc + 2) (lst2 lv n (.long x)) st z I)
  | .astore_n n, .ref x :: st => ckT (Nat.blt n.val y.2.2.1) (go rc rs (pc + 1) (lst lv n.val (.ref x)) st z I)
  | .astore n, .ref x :: st => ckT (Nat.blt n y.2.2.1) (go rc rs (pc + 2) (lst lv n (.ref x)) st z I)
  | .astore_n n, .null :: st => ckT (Nat.blt n.val y.2.2.1) (go rc rs (pc + 1) (lst lv n.val .null) st z I)
  | .astore n, .null :: st => ckT (Nat.blt n y.2.2.1) (go rc rs (pc + 2) (lst lv n .null) st z I)
  | .iinc n a, st => match lk lv n with
    | some (.int x) => ckT (Nat.blt n y.2.2.1) (go rc rs (pc + 3) (lst lv n (.int (x + Int32.ofInt a))) st z I)
    | _ => False
  | .iadd, .int b :: .int a :: st => go rc rs (pc + 1) lv (.int (a + b) :: st) z I
  | .isub, .int b :: .int a :: st => go rc rs (pc + 1) lv (.int (a - b) :: st) z I
  | .imul, .int b :: .int a :: st => go rc rs (pc + 1) lv (.int (a * b) :: st) z I
  | .iand, .int b :: .int a :: st => go rc rs (pc + 1) lv (.int (a &&& b) :: st) z I
  | .ior, .int b :: .int a :: st => go rc rs (pc + 1) lv (.int (a ||| b) :: st) z I
  | .ishl, .int b :: .int a :: st => go rc rs (pc + 1) lv (.int (a <<< (b &&& 31)) :: st) z I
  | .ishr, .int b :: .int a :: st => go rc rs (pc + 1) lv (.int (a >>> (b &&& 31)) :: st) z I
  | .idiv, .int b :: .int a :: st => ckB (!decide (b = 0)) (go rc rs (pc + 1) lv (.int (a / b) :: st) z I)
  | .irem, .int b :: .int a :: st => ckB (!decide (b = 0)) (go rc rs (pc + 1) lv (.int (a - a / b * b) :: st) z I)
  | .ineg, .int a :: st => go rc rs (pc + 1) lv (.int (-a) :: st) z I
  | .ladd, .long b :: .long a :: st => go rc rs (pc + 1) lv (.long (a + b) :: st) z I
  | .lmul, .long b :: .long a :: st => go rc rs (pc + 1) lv (.long (a * b) :: st) z I
  | .ldiv, .long b :: .long a :: st => ckB (!decide (b = 0)) (go rc rs (pc + 1) lv (.long (a / b) :: st) z I)
  | .lrem, .long b :: .long a :: st => ckB (!decide (b = 0)) (go rc rs (pc + 1) lv (.long (a - a / b * b) :: st) z I)
  | .lcmp, .long b :: .long a :: st => go rc rs (pc + 1) lv (.int (lg_cmp a b) :: st) z I
  | .i2l, .int a :: st => go rc rs (pc + 1) lv (.long a.toInt64 :: st) z I
  | .l2i, .long a :: st => go rc rs (pc + 1) lv (.int a.toInt32 :: st) z I
  | .i2b, .int a :: st => go rc rs (pc + 1) lv (.int a.toInt8.toInt32 :: st) z I
  | .i2s, .int a :: st => go rc rs (pc + 1) lv (.int a.toInt16.toInt32 :: st) z I
  | .i2c, .int a :: st => go rc rs (pc + 1) lv (.int (a.toUInt32 % 65536).toInt32 :: st) z I
  | .dup, v :: st => ckT (Nat.beq v.category 1) (go rc rs (pc + 1) lv (v :: v :: st) z I)
  | .pop, v :: st => ckT (Nat.beq v.category 1) (go rc rs (pc + 1) lv st z I)
  | .dup2, v :: w :: st => ckT (Nat.beq v.category 1 && Nat.beq w.category 1) (go rc rs (pc + 1) lv (v :: w :: v :: w :: st) z I)
  | .goto o, st => jmp pc o (fun t => go rc rs t lv st z I)
  | .if_icmp .eq o, .int b :: .int a :: st => jmp pc o (fun t => iteB (decide (a = b)) (go rc rs t lv st z I) (go rc rs (pc + 3) lv st z I))
  | .if_icmp .ne o, .int b :: .int a :: st => jmp pc o (fun t => iteB (decide (a = b)) (go rc rs (pc + 3) lv st z I) (go rc rs t lv st z I))
  | .if_icmp .lt o, .int b :: .int a :: st => jmp pc o (fun t => iteB (decide (a < b)) (go rc rs t lv st z I) (go rc rs (pc + 3) lv st z I))
  | .if_icmp .le o, .int b :: .int a :: st => jmp pc o (fun t => iteB (decide (a ≤ b)) (go rc rs t lv st z I) (go rc rs (pc + 3) lv st z I))
  | .if_icmp .gt o, .int b :: .int a :: st => jmp pc o (fun t => iteB (decide (b < a)) (go rc rs t lv st z I) (go rc rs (pc + 3) lv st z I))
  | .if_icmp .ge o, .int b :: .int a :: st => jmp pc o (fun t => iteB (decide (b ≤ a)) (go rc rs t lv st z I) (go rc rs (pc + 3) lv st z I))
  | .ifCond .eq o, .int a :: st => jmp pc o (fun t => iteB (decide (a = 0)) (go rc rs t lv st z I) (go rc rs (pc + 3) lv st z I))
  | .ifCond .ne o, .int a :: st => jmp pc o (fun t => iteB (decide (a = 0)) (go rc rs (pc + 3) lv st z I) (go rc rs t lv st z I))
  | .ifCond .lt o, .int a :: st => jmp pc o (fun t => iteB (decide (a < 0)) (go rc rs t lv st z I) (go rc rs (pc + 3) lv st z I))
  | .ifCond .le o, .int a :: st => jmp pc o (fun t => iteB (decide (a ≤ 0)) (go rc rs t lv st z I) (go rc rs (pc + 3) lv st z I))
  | .ifCond .gt o, .int a :: st => jmp pc o (fun t => iteB (decide (0 < a)) (go rc rs t lv st z I) (go rc rs (pc + 3) lv st z I))
  | .ifCond .ge o, .int a :: st => jmp pc o (fun t => iteB (decide (0 ≤ a)) (go rc rs t lv st z I) (go rc rs (pc + 3) lv st z I))
  | .ifnull _, .ref _ :: st => go rc rs (pc + 3) lv st z I
  | .ifnull o, .null :: st => jmp pc o (fun t => go rc rs t lv st z I)
  | .ifnonnull o, .ref _ :: st => jmp pc o (fun t => go rc rs t lv st z I)
  | .ifnonnull _, .null :: st => go rc rs (pc + 3) lv st z I
  | .tableswitch dflt lo hi offs, .int x :: st => ckT (decide (-2147483648 ≤ lo ∧ hi < 2147483648) && (decide (lo + offs.toList.length = hi + 1) && (offs.toList.all (fun o => decide (0 ≤ (pc : Int) + o)) && decide (0 ≤ (pc : Int) + dflt)))) (tswK x (fun t => go rc rs t lv st z I) pc dflt lo offs.toList)
  | .lookupswitch dflt ps, .int x :: st => ckT ((ps.toList.zip (ps.toList.drop 1)).all (fun (a, next) => a.1 < next.1) && ps.toList.all (fun q => decide (-2147483648 ≤ q.1 ∧ q.1 < 2147483648))) (lswK x (fun t => go rc rs t lv st z I) pc dflt ps.toList)
  | .ldc i, st => match fnd kt.2.2.2 i with
    | some (.int x) => go rc rs (pc + 2) lv (.int x :: st) z I
    | some (.ref a) => go rc rs (pc + 2) lv (.ref a :: st) z I
    | _ => False
  | .ldc_w i, st => match fnd kt.2.2.2 i with
    | some (.int x) => go rc rs (pc + 3) lv (.int x :: st) z I
    | _ => False
  | .ldc2_w i, st => match fnd kt.2.2.2 i with
    | some (.long x) => go rc rs (pc + 3) lv (.long x :: st) z I
    | _ => False
  | .getfield i, .ref a :: st => match fnd kt.1 i with
    | some (j, [], _) => ckB (Nat.ble 1 a && Nat.ble a 3) (match j with
      | 0 => go rc rs (pc + 3) lv (.ref (a + 3) :: st) z I
      | 1 => go rc rs (pc + 3) lv (.int 0 :: st) z I
      | _ => False)
    | some (j, c :: tags, _) => ckB (tagB (c :: tags) (zT z a)) (match isR c j with
      | true => oe (zP z a j) (go rc rs (pc + 3) lv (.null :: st) z I) (fun q => go rc rs (pc + 3) lv (.ref q :: st) z I)
      | false => go rc rs (pc + 3) lv (.int (I a j) :: st) z I)
    | none => False
  | .getstatic i, st => match fnd kt.1 i with
    | some (2, [], _) => go rc rs (pc + 3) lv (.int 1 :: st) z I
    | some (3, [], _) => go rc rs (pc + 3) lv (.null :: st) z I ∧ go rc rs (pc + 3) lv (.ref 7 :: st) z I
    | _ => False
  | .putfield i, .int x :: .ref a :: st => match fnd kt.1 i with
    | some (j, c :: tags, fin) => ckB (tagB (c :: tags) (zT z a) && ((Nat.beq fin 0 || (Nat.beq fin 1 && ini)) && (narB (tyC c j) x && !isR c j))) (go rc rs (pc + 3) lv st z (up2 I a j x))
    | _ => False
  | .putfield i, .ref q :: .ref a :: st => match fnd kt.1 i with
    | some (j, c :: tags, fin) => ckB (tagB (c :: tags) (zT z a) && ((Nat.beq fin 0 || (Nat.beq fin 1 && ini)) && isR c j)) (go rc rs (pc + 3) lv st (zPut z a j (some q)) I)
    | _ => False
  | .iaload, .int i :: .ref a :: st => ckB (iarB z a) (ckB (inB i (zL z a)) (go rc rs (pc + 1) lv (.int (I a i.toNatClampNeg) :: st) z I))
  | .baload, .int i :: .ref a :: st => ckB (Nat.ble 4 a && Nat.ble a 6) (ckB (inB i (zL z a)) (go rc rs (pc + 1) lv (.int (I a i.toNatClampNeg) :: st) z I))
  | .iastore, .int x :: .int i :: .ref a :: st => ckB (Nat.beq (zT z a) 100) (ckB (inB i (zL z a)) (go rc rs (pc + 1) lv st z (up2 I a i.toNatClampNeg x)))
  | .arraylength, .ref a :: st => ckB (iarB z a || (rngB (zT z a) || (Nat.ble 4 a && Nat.ble a 6))) (go rc rs (pc + 1) lv (.int (Int32.ofNat (zL z a)) :: st) z I)
  | .aaload, .int i :: .ref a :: st => ckB (rngB (zT z a)) (ckB (inB i (zL z a)) (oe (zP z a i.toNatClampNeg) (go rc rs (pc + 1) lv (.null :: st) z I) (fun q => go rc rs (pc + 1) lv (.ref q :: st) z I)))
  | .aastore, .ref q :: .int i :: .ref a :: st => ckB (rngB (zT z a) && stoB (zT z q) (zT z a - 100)) (ckB (inB i (zL z a)) (go rc rs (pc + 1) lv st (zPut z a i.toNatClampNeg (some q)) I))
  | .aastore, .null :: .int i :: .ref a :: st => ckB (rngB (zT z a)) (ckB (inB i (zL z a)) (go rc rs (pc + 1) lv st (zPut z a i.toNatClampNeg none) I))
  | .new i, st => match fnd kt.2.2.1 i with
    | some c => ckB (Nat.blt c 13 && (Nat.ble 1 rc && Nat.ble (clN c) rs)) (go (rc - 1) (rs - clN c) (pc + 3) lv (.ref (zN z) :: st) (zNew z c 0) (nI0 I (zN z)))
    | none => False
  | .newarray .int, .int n :: st => ckB (Nat.ble 1 rc && (inB n 100001 && Nat.ble n.toNatClampNeg rs)) (go (rc - 1) (rs - n.toNatClampNeg) (pc + 2) lv (.ref (zN z) :: st) (zNew z 100 n.toNatClampNeg) (nI0 I (zN z)))
  | .anewarray i, .int n :: st => match fnd kt.2.2.1 i with
    | some c => ckB (tagB [8, 4, 10, 7] c) (ckB (Nat.ble 1 rc && (inB n 100001 && Nat.ble n.toNatClampNeg rs)) (go (rc - 1) (rs - n.toNatClampNeg) (pc + 3) lv (.ref (zN z) :: st) (zNew z (100 + anwT c) n.toNatClampNeg) (nI0 I (zN z))))
    | none => False
  | .instanceof i, .ref a :: st => match fnd kt.2.2.1 i with
    | some c => ckB (tagB [0, 6, 9, 1, 3] c) (iteB (tagB (insY c) (zT z a)) (go rc rs (pc + 3) lv (.int 1 :: st) z I) (ckB (tagB [8, 0, 6, 9, 1, 3] (zT z a)) (go rc rs (pc + 3) lv (.int 0 :: st) z I)))
    | none => False
  | .checkcast i, .ref a :: st => match fnd kt.2.2.1 i with
    | some 200 => ckB (Nat.beq (zT z a) 100) (go rc rs (pc + 3) lv (.ref a :: st) z I)
    | _ => False
  | .invokestatic i, st => match d, fnd kt.2.1 i with
    | d + 1, some (0, [(_, m)], n, mc, ms) => ckT (Nat.beq (st.take n).length n && (Nat.ble ((st.drop n).map (fun v => v.category)).sum 8 && (Nat.ble mc rc && Nat.ble ms rs))) (callK g m d mc ms (st.take n).reverse z I (fun vs z I => go (rc - mc) (rs - ms) (pc + 3) lv (vs ++ st.drop n) z I))
    | d + 1, some (1, [(_, m)], n, mc, ms) => ckT (Nat.beq (st.take n).length n && (Nat.ble ((st.drop n).map (fun v => v.category)).sum 8 && (Nat.ble mc rc && Nat.ble ms rs))) (callK g m d mc ms (st.take n).reverse z I (fun vs z I => go (rc - mc) (rs - ms) (pc + 3) lv (vs ++ st.drop n) z I))
    | _ + 1, some (7, _) => match st with
      | .int n :: .int dp :: .ref b :: .int sp :: .ref a :: st => ckB (Nat.beq (zT z a) 100 && (Nat.beq (zT z b) 100 && Nat.ble (st.map (fun v => v.category)).sum 8)) (ckB (inC sp n (zL z a)) (ckB (inC dp n (zL z b)) (go rc rs (pc + 3) lv st z (cpI I a b sp.toNatClampNeg dp.toNatClampNeg n.toNatClampNeg))))
      | _ => False
    | _, _ => False
  | .invokespecial i, st => match d, fnd kt.2.1 i with
    | d + 1, some (2, [(_, m)], n, mc, ms) => match st.drop n with
      | .ref a :: st2 => ckT (Nat.beq (st.take n).length n && (Nat.ble (st2.map (fun v => v.category)).sum 8 && (Nat.ble mc rc && Nat.ble ms rs))) (callK g m d mc ms (.ref a :: (st.take n).reverse) z I (fun vs z I => go (rc - mc) (rs - ms) (pc + 3) lv (vs ++ st2) z I))
      | _ => False
    | d + 1, some (3, [(_, m)], n, mc, ms) => match st.drop n with
      | .ref a :: st2 => ckT (Nat.beq (st.take n).length n && (Nat.ble (st2.map (fun v => v.category)).sum 8 && (Nat.ble mc rc && Nat.ble ms rs))) (callK g m d mc ms (.ref a :: (st.take n).reverse) z I (fun vs z I => go (rc - mc) (rs - ms) (pc + 3) lv (vs ++ st2) z I))
      | _ => False
    | d + 1, some (4, l, n, mc, ms) => match st.drop n with
      | .ref a :: st2 => ckT (Nat.beq (st.take n).length n && (Nat.ble (st2.map (fun v => v.category)).sum 8 && (Nat.ble mc rc && Nat.ble ms rs))) (dsp l (zT z a) (fun m => callK g m d mc ms (.ref a :: (st.take n).reverse) z I (fun vs z I => go (rc - mc) (rs - ms) (pc + 3) lv (vs ++ st2) z I)))
      | _ => False
    | _ + 1, some (6, _) => match st with
      | .ref _ :: st => ckT (Nat.ble (st.map (fun v => v.category)).sum 8) (go rc rs (pc + 3) lv st z I)
      | _ => False
    | _, _ => False
  | .invokevirtual i, st => match d, fnd kt.2.1 i with
    | d + 1, some (5, l, n, mc, ms) => match st.drop n with
      | .ref a :: st2 => ckT (Nat.beq (st.take n).length n && (Nat.ble (st2.map (fun v => v.category)).sum 8 && (Nat.ble mc rc && Nat.ble ms rs))) (dsp l (zT z a) (fun m => callK g m d mc ms (.ref a :: (st.take n).reverse) z I (fun vs z I => go (rc - mc) (rs - ms) (pc + 3) lv (vs ++ st2) z I)))
      | _ => False
    | d + 1, some (9, [(_, m)], n, mc, ms) => match st.drop n with
      | .ref a :: st2 => ckT (Nat.ble 1 a && Nat.ble a 3 && (Nat.beq (st.take n).length n && (Nat.ble (st2.map (fun v => v.category)).sum 8 && (Nat.ble mc rc && Nat.ble ms rs)))) (callK g m d mc ms (.ref a :: (st.take n).reverse) z I (fun vs z I => go (rc - mc) (rs - ms) (pc + 3) lv (vs ++ st2) z I))
      | _ => False
    | _ + 1, some (8, _) => match st with
      | .ref a :: st => ckB (Nat.beq (zT z a) 100 && (Nat.ble (st.map (fun v => v.category)).sum 8 && (Nat.ble 1 rc && Nat.ble (zL z a) rs))) (go (rc - 1) (rs - zL z a) (pc + 3) lv (.ref (zN z) :: st) (zNew z 100 (zL z a)) (cpN I (zN z) a))
      | _ => False
    | _, _ => False
  | .ireturn, [.int x] => match y.2.2.2 with
    | some ty => ckB (narB ty x) (Q (some (.int x)) z I)
    | none => False
  | .lreturn, [.long x] => match y.2.2.2 with
    | some .long => Q (some (.long x)) z I
    | _ => False
  | .areturn, [.ref q] => ckB (Nat.beq (rk y.2.2.2) 2) (Q (some (.ref q)) z I)
  | .areturn, [.null] => ckB (Nat.beq (rk y.2.2.2) 2) (Q (some .null) z I)
  | .return_, [] => ckB (Nat.beq (rk y.2.2.2) 0) (Q none z I)
  | _, _ => False
end
section
/-! the walker is enough -/
def FEok (own : String) (i j : Nat) (tags : List Nat) (fin : Nat) : Prop :=
  (tags = [] → (j = 0 → Cond.fieldLink own i "java/lang/String" "value" "[B" ∈ gw_tbl) ∧ (j = 1 → Cond.fieldLink own i "java/lang/String" "coder" "B" ∈ gw_tbl) ∧ (j = 2 → Cond.fieldLink own i "java/lang/String" "COMPACT_STRINGS" "Z" ∈ gw_tbl) ∧ (j = 3 → Cond.fieldLink own i "jdk/internal/util/Preconditions" "SIOOBE_FORMATTER" "Ljava/util/function/BiFunction;" ∈ gw_tbl)) ∧
  ∀ c ∈ tags, FldOK own i c j ∧ isR c j = isR (tags.headD 0) j ∧ tyC c j = tyC (tags.headD 0) j ∧ (fin = 0 → ∃ C T, ClsF c C T ∧ (T j).2.2.2 = false) ∧ (fin = 1 → ∃ C T, ClsF c C T ∧ (T j).2.2.2 = true ∧ (T j).1 = own)
def CEok (own : String) (i k : Nat) (l : List (Nat × Mth)) (n : Nat) : Prop :=
  (k = 0 → ∀ q ∈ l, CalS own i q.2 n) ∧ (k = 1 → ∀ q ∈ l, (∃ host, NstOK own i q.2 n host) ∧ Cond.static q.2.1 ∈ gw_tbl) ∧ (k = 2 → ∀ q ∈ l, CalI own i q.2 n) ∧ (k = 3 → ∀ q ∈ l, (∃ host, NstOK own i q.2 n host) ∧ Cond.instanceMethod q.2.1 ∈ gw_tbl ∧ q.2.1.name = "<init>" ∧ q.2.2.2.2 = none) ∧ (k = 4 → ∀ q ∈ l, CalP own i q.2 n q.1 ∨ ∃ x, CalQ own i x q.2 n q.1) ∧ (k = 5 → ∀ q ∈ l, CalV own i q.2 n q.1 ∨ ∃ x, CalU own i x q.2 n q.1) ∧ (k = 6 → ObjOK own i) ∧ (k = 7 → CpyOK own i) ∧ (k = 8 → CloOK own i) ∧ (k = 9 → ∀ q ∈ l, CalW own i q.2 n)
def NEok (own : String) (i c : Nat) : Prop := (c = 200 → Cond.classLink own i "[I" ∈ gw_tbl) ∧ (c ≠ 200 → ∃ C T, ClsF c C T ∧ Cond.classLink own i C ∈ gw_tbl)
def LEok (g : Gt) (own : String) (i : Nat) (v : Value) : Prop := match v with
  | .int x => Cond.constant own i x ∈ gw_tbl
  | .long x => Cond.constantLong own i x ∈ gw_tbl
  | .ref a => ∃ tx, ∀ (s : State) (H : Heap), gX g s H → vk_R own i tx (ad g a) s
  | _ => False
def KTok (g : Gt) (own : String) (kt : KT) : Prop := (∀ e ∈ kt.1, FEok own e.1 e.2.1 e.2.2.1 e.2.2.2) ∧ (∀ e ∈ kt.2.1, CEok own e.1 e.2.1 e.2.2.1 e.2.2.2.1) ∧ (∀ e ∈ kt.2.2.1, NEok own e.1 e.2) ∧ ∀ e ∈ kt.2.2.2, LEok g own e.1 e.2
/-- what the tables say of the classes at large -/
def AllOK : Prop := (∀ c C T, ClsF c C T → Cond.instantiable C (clN c) ∈ gw_tbl ∧ Cond.initialized C ∈ gw_tbl ∧ DefOK c) ∧ (∀ c t, stoB c t = true → StoOK c t ∧ ∃ ce C T, ClsF ce C T ∧ C = tyR t) ∧ Cond.arrayClass .int ∈ gw_tbl ∧ (∀ c C T, ClsF c C T → tyR (anwT c) = C ∨ ¬ (c = 8 ∨ c = 4 ∨ c = 10 ∨ c = 7)) ∧ (∀ c nm T, ClsF c nm T → (c = 0 ∨ c = 6 ∨ c = 9 ∨ c = 1 ∨ c = 3) → ∀ t, (tagB (insY c) t = true → ∃ C T, ClsF t C T ∧ (C = nm ∨ (C, nm) ∈ CaL)) ∧ (tagB (insY c) t = false → tagB [8, 0, 6, 9, 1, 3] t = true → ∃ C T, ClsF t C T ∧ ((C, nm) ∈ NcL ∨ ¬ (c = 0 ∨ c = 6 ∨ c = 9 ∨ c = 1 ∨ c = 3))))
theorem inB_nI {n : Int32} (h : inB n 100001 = true) : n = Int32.ofNat n.toNatClampNeg ∧ n.toNatClampNeg ≤ 100000 := by
  obtain ⟨j, hj, rfl⟩ := vp_in_of (inB_vp h) (by omega)
  have e : (nI j).toNatClampNeg = j := nI_clamp (by omega)
  rw [e]
  exact ⟨rfl, by omega⟩
theorem Int32.ofInt_of {x : Int32} {k : Int} (h : x.toInt = k) : x = Int32.ofInt k := by rw [← h]; exact (Int32.ofInt_toInt x).symm
theorem jmp_of {pc : Nat} {off : Int} {go : Nat → Prop} (h : jmp pc off go) : ∃ t : Nat, (pc : Int) + off = (t : Int) ∧ go t := by
  obtain ⟨h1, h2⟩ := ckT_of h
  have := of_decide_eq_true h1
  exact ⟨_, by omega, h2⟩
theorem tswK_get {x : Int32} {go : Nat → Prop} {pc : Nat} {dflt : Int} : ∀ {l : List Int} {k : Int}, -2147483648 ≤ k → k + l.length ≤ 2147483648 → tswK x go pc dflt k l → (∀ (i : Nat) (off : Int) (tgt : Nat), l[i]? = some off → (pc : Int) + off = (tgt : Int) → x.toInt = k + i → go tgt) ∧ ((x.toInt < k ∨ k + l.length ≤ x.toInt) → go ((pc : Int) + dflt).toNat)
  | [], k, _, _, h => ⟨fun i off _ h2 _ _ => by simp at h2, fun _ => h⟩
  | o :: r, k, hk, hk2, h => by
    simp only [List.length_cons] at hk2
    obtain ⟨h1, h2⟩ := iteB_c h
    have hki : (Int32.ofInt k).toInt = k := Int32.toInt_ofInt_of_le (by simpa using hk) (by simp; omega)
    refine ⟨fun i off tgt hi ht hx => ?_, fun hx => ?_⟩
    · cases i with
      | zero =>
        simp at hi
        subst hi
        have h3 := h1 (Int32.ofInt_of (by simpa using hx))
        rw [ht] at h3
        exact h3
      | succ i =>
        have hne : ¬ x = Int32.ofInt k := fun e => by rw [e, hki] at hx; push_cast at hx; omega
        exact (tswK_get (k := k + 1) (by omega) (by omega) (h2 hne)).1 i off tgt (by simpa using hi) ht (by rw [hx]; push_cast; omega)
    · simp only [List.length_cons] at hx
      have hne : ¬ x = Int32.ofInt k := fun e => by rw [e, hki] at hx; push_cast at hx; omega
      exact (tswK_get (k := k + 1) (by omega) (by omega) (h2 hne)).2 (by push_cast at hx; omega)

theorem lswK_get {x : Int32} {go : Nat → Prop} {pc : Nat} {dflt : Int} : ∀ {l : List (Int × Int)}, (∀ q ∈ l, -2147483648 ≤ q.1 ∧ q.1 < 2147483648) → lswK x go pc dflt l → ∃ (off : Int) (tgt : Nat), Op.lookupswitch.offset l dflt x.toInt = off ∧ (pc : Int) + off = (tgt : Int) ∧ go tgt
  | [], _, h => by
    obtain ⟨h1, h2⟩ := ckT_of h
    have := of_decide_eq_true h1
    exact ⟨dflt, _, rfl, by omega, h2⟩
  | (k, o) :: r, hr, h => by
    have hk := hr (k, o) List.mem_cons_self
    have hki : (Int32.ofInt k).toInt = k := Int32.toInt_ofInt_of_le (by simpa using hk.1) (by simpa using hk.2)
    obtain ⟨hA, hB⟩ := iteB_c h
    by_cases hx : x = Int32.ofInt k
    · obtain ⟨h1, h2⟩ := ckT_of (hA hx)
      have := of_decide_eq_true h1
      refine ⟨o, _, ?_, by omega, h2⟩
      have : x.toInt = k := by rw [hx, hki]
      simp [Op.lookupswitch.offset, this]
    · obtain ⟨off, tgt, e1, e2, e3⟩ := lswK_get (fun q hq => hr q (List.mem_cons_of_mem _ hq)) (hB hx)
      refine ⟨off, tgt, ?_, e2, e3⟩
      rw [lv_osw hx hki]
      exact e1
theorem oe_map {o : Option Nat} {A A' : Prop} {B B' : Nat → Prop} (h : oe o A B) (ha : A → A') (hb : ∀ q, B q → B' q) : oe o A' B' := by
  cases o with
  | none => exact ha h
  | some q => exact hb q h
theorem rk_ref {r : Option FieldType} (h : rk r = 2) : ∃ ty, r = some ty ∧ ((∃ n, ty = .object n) ∨ ∃ t, ty = .array t) := by
  cases r with
  | none => simp [rk] at h
  | some ty => cases ty <;> simp [rk] at h <;> first | exact ⟨_, rfl, Or.inl ⟨_, rfl⟩⟩ | exact ⟨_, rfl, Or.inr ⟨_, rfl⟩⟩
theorem rk_void {r : Option FieldType} (h : rk r = 0) : r = none := by
  cases r with
  | none => rfl
  | some ty => cases ty <;> simp [rk] at h
section WST
variable {g : Gt} {kt : KT} {y : Mth} {ini : Bool} {d rc rs pc : Nat} {lv : List (Nat × Value)} {st : List Value} {z : Zs} {I : Is} {Q : Option Value → Zs → Is → Prop} {go : Nat → Nat → Nat → List (Nat × Value) → List Value → Zs → Is → Prop}
theorem finOK {i j c : Nat} {tags : List Nat} {fin : Nat} {t : Nat} (he : FEok y.1.cls i j (c :: tags) fin) (hini : ini = true → y.1.name = "<init>") (ht : t ∈ c :: tags) (hf : (Nat.beq fin 0 || (Nat.beq fin 1 && ini)) = true) : FinOK y t j := by
  obtain ⟨-, -, -, h0, h1⟩ := he.2 t ht
  rw [Bool.or_eq_true, Bool.and_eq_true] at hf
  rcases hf with h | ⟨h, hi⟩
  · obtain ⟨C, T, a, b⟩ := h0 (Nat.eq_of_beq_eq_true h)
    exact ⟨C, T, a, Or.inl b⟩
  · obtain ⟨C, T, a, b, e⟩ := h1 (Nat.eq_of_beq_eq_true h)
    exact ⟨C, T, a, Or.inr ⟨b, hini hi, e⟩⟩
theorem rngB_of {t : Nat} (h : rngB t = true) : ∃ u, t = 100 + u ∧ 1 ≤ u ∧ u ≤ 4 := by
  unfold rngB at h
  rw [Bool.and_eq_true] at h
  have h1 := Nat.le_of_ble_eq_true h.1
  have h2 := Nat.le_of_ble_eq_true h.2
  exact ⟨t - 100, by omega, by omega, by omega⟩
theorem call_st {n : Nat} {st : List Value} : st = (st.take n).reverse.reverse ++ st.drop n := by rw [List.reverse_reverse, List.take_append_drop]
theorem call_st2 {n a : Nat} {st st2 : List Value} (h : st.drop n = .ref a :: st2) : st = (st.take n).reverse.reverse ++ .ref a :: st2 := by rw [List.reverse_reverse, ← h, List.take_append_drop]
set_option maxHeartbeats 4000000 in
set_option maxRecDepth 100000 in
theorem wst_ok {ins : Instr} {len : Nat} (hA : AllOK) (hs : GS g) (hkt : KTok g y.1.cls kt) (hini : ini = true → y.1.name = "<init>") (hgo : ∀ rc rs pc lv st z I, go rc rs pc lv st z I → WPc g y d rc rs pc lv st z I Q) (hd : decode y.2.1 pc = .ok (ins, len)) (hlen : len = ilen ins len) (h : wst g kt y ini Q go ins d rc rs pc lv st z I) : WPc g y d rc rs pc lv st z I Q := by
  unfold wst at h
  split at h
  · exact r_iconst (by rw [hd, hlen]; rfl) (hgo _ _ _ _ _ _ _ h)
  · exact r_bipush (by rw [hd, hlen]; rfl) (hgo _ _ _ _ _ _ _ h)
  · exact r_sipush (by rw [hd, hlen]; rfl) (hgo _ _ _ _ _ _ _ h)
  · exact r_lconst (by rw [hd, hlen]; rfl) (hgo _ _ _ _ _ _ _ h)
  · exact r_null (by rw [hd, hlen]; rfl) (hgo _ _ _ _ _ _ _ h)
  · split at h
    · exact r_iload_n (by rw [hd, hlen]; rfl) (by assumption) (hgo _ _ _ _ _ _ _ h)
    · exact h.elim
  · split at h
    · exact r_iload (by rw [hd, hlen]; rfl) (by assumption) (hgo _ _ _ _ _ _ _ h)
    · exact h.elim
  · split at h
    · exact r_lload_n (by rw [hd, hlen]; rfl) (by assumption) (hgo _ _ _ _ _ _ _ h)
    · exact h.elim
  · split at h
    · exact r_lload (by rw [hd, hlen]; rfl) (by assumption) (hgo _ _ _ _ _ _ _ h)
    · exact h.elim
  · split at h
    · exact r_aload_n (by rw [hd, hlen]; rfl) (by assumption) (hgo _ _ _ _ _ _ _ h)
    · exact r_aload_nN (by rw [hd, hlen]; rfl) (by assumption) (hgo _ _ _ _ _ _ _ h)
    · exact h.elim
  · split at h
    · exact r_aload (by rw [hd, hlen]; rfl) (by assumption) (hgo _ _ _ _ _ _ _ h)
    · exact r_aloadN (by rw [hd, hlen]; rfl) (by assumption) (hgo _ _ _ _ _ _ _ h)
    · exact h.elim
  · exact r_istore_n (by rw [hd, hlen]; rfl) (Nat.blt_eq.mp (ckT_of h).1) (hgo _ _ _ _ _ _ _ (ckT_of h).2)
  · exact r_istore (by rw [hd, hlen]; rfl) (Nat.blt_eq.mp (ckT_of h).1) (hgo _ _ _ _ _ _ _ (ckT_of h).2)
  · exact r_lstore_n (by rw [hd, hlen]; rfl) (Nat.blt_eq.mp (ckT_of h).1) (hgo _ _ _ _ _ _ _ (ckT_of h).2)
  · exact r_lstore (by rw [hd, hlen]; rfl) (Nat.blt_eq.mp (ckT_of h).1) (hgo _ _ _ _ _ _ _ (ckT_of h).2)
  · exact r_astore_n (by rw [hd, hlen]; rfl) (Nat.blt_eq.mp (ckT_of h).1) (hgo _ _ _ _ _ _ _ (ckT_of h).2)
  · exact r_astore (by rw [hd, hlen]; rfl) (Nat.blt_eq.mp (ckT_of h).1) (hgo _ _ _ _ _ _ _ (ckT_of h).2)
  · exact r_astore_nN (by rw [hd, hlen]; rfl) (Nat.blt_eq.mp (ckT_of h).1) (hgo _ _ _ _ _ _ _ (ckT_of h).2)
  · exact r_astoreN (by rw [hd, hlen]; rfl) (Nat.blt_eq.mp (ckT_of h).1) (hgo _ _ _ _ _ _ _ (ckT_of h).2)
  · split at h
    · exact r_iinc (by rw [hd, hlen]; rfl) (by assumption) (Nat.blt_eq.mp (ckT_of h).1) (hgo _ _ _ _ _ _ _ (ckT_of h).2)
    · exact h.elim
  · exact r_iadd (by rw [hd, hlen]; rfl) (hgo _ _ _ _ _ _ _ h)
  · exact r_isub (by rw [hd, hlen]; rfl) (hgo _ _ _ _ _ _ _ h)
  · exact r_imul (by rw [hd, hlen]; rfl) (hgo _ _ _ _ _ _ _ h)
  · exact r_iand (by rw [hd, hlen]; rfl) (hgo _ _ _ _ _ _ _ h)
  · exact r_ior (by rw [hd, hlen]; rfl) (hgo _ _ _ _ _ _ _ h)
  · exact r_ishl (by rw [hd, hlen]; rfl) (hgo _ _ _ _ _ _ _ h)
  · exact r_ishr (by rw [hd, hlen]; rfl) (hgo _ _ _ _ _ _ _ h)
  · exact r_idiv (by rw [hd, hlen]; rfl) (by simpa using (ckB_of h).1) (hgo _ _ _ _ _ _ _ (ckB_of h).2)
  · exact r_irem (by rw [hd, hlen]; rfl) (by simpa using (ckB_of h).1) (hgo _ _ _ _ _ _ _ (ckB_of h).2)
  · exact r_ineg (by rw [hd, hlen]; rfl) (hgo _ _ _ _ _ _ _ h)
  · exact r_ladd (by rw [hd, hlen]; rfl) (hgo _ _ _ _ _ _ _ h)
  · exact r_lmul (by rw [hd, hlen]; rfl) (hgo _ _ _ _ _ _ _ h)
  · exact r_ldiv (by rw [hd, hlen]; rfl) (by simpa using (ckB_of h).1) (hgo _ _ _ _ _ _ _ (ckB_of h).2)
  · exact r_lrem (by rw [hd, hlen]; rfl) (by simpa using (ckB_of h).1) (hgo _ _ _ _ _ _ _ (ckB_of h).2)
  · exact r_lcmp (by rw [hd, hlen]; rfl) (hgo _ _ _ _ _ _ _ h)
  · exact r_i2l (by rw [hd, hlen]; rfl) (hgo _ _ _ _ _ _ _ h)
  · exact r_l2i (by rw [hd, hlen]; rfl) (hgo _ _ _ _ _ _ _ h)
  · exact r_i2b (by rw [hd, hlen]; rfl) (hgo _ _ _ _ _ _ _ h)
  · exact r_i2s (by rw [hd, hlen]; rfl) (hgo _ _ _ _ _ _ _ h)
  · exact r_i2c (by rw [hd, hlen]; rfl) (hgo _ _ _ _ _ _ _ h)
  · exact r_dup (by rw [hd, hlen]; rfl) (Nat.eq_of_beq_eq_true (ckT_of h).1) (hgo _ _ _ _ _ _ _ (ckT_of h).2)
  · exact r_pop (by rw [hd, hlen]; rfl) (Nat.eq_of_beq_eq_true (ckT_of h).1) (hgo _ _ _ _ _ _ _ (ckT_of h).2)
  · have h1 := (ckT_of h).1
    rw [Bool.and_eq_true] at h1
    exact r_dup2 (by rw [hd, hlen]; rfl) (Nat.eq_of_beq_eq_true h1.1) (Nat.eq_of_beq_eq_true h1.2) (hgo _ _ _ _ _ _ _ (ckT_of h).2)
  · obtain ⟨t, h1, h2⟩ := jmp_of h
    exact r_goto (by rw [hd, hlen]; rfl) h1 (hgo _ _ _ _ _ _ _ h2)
  · obtain ⟨t, ht, hb⟩ := jmp_of h
    obtain ⟨kt, kf⟩ := iteB_c hb
    exact r_icmp_eq (by rw [hd, hlen]; rfl) ht (fun q => hgo _ _ _ _ _ _ _ (kt q)) (fun q => hgo _ _ _ _ _ _ _ (kf q))
  · obtain ⟨t, ht, hb⟩ := jmp_of h
    obtain ⟨kt, kf⟩ := iteB_c hb
    exact r_icmp_ne (by rw [hd, hlen]; rfl) ht (fun q => hgo _ _ _ _ _ _ _ (kf q)) (fun q => hgo _ _ _ _ _ _ _ (kt q))
  · obtain ⟨t, ht, hb⟩ := jmp_of h
    obtain ⟨kt, kf⟩ := iteB_c hb
    exact r_icmp_lt (by rw [hd, hlen]; rfl) ht (fun q => hgo _ _ _ _ _ _ _ (kt q)) (fun q => hgo _ _ _ _ _ _ _ (kf q))
  · obtain ⟨t, ht, hb⟩ := jmp_of h
    obtain ⟨kt, kf⟩ := iteB_c hb
    exact r_icmp_le (by rw [hd, hlen]; rfl) ht (fun q => hgo _ _ _ _ _ _ _ (kt q)) (fun q => hgo _ _ _ _ _ _ _ (kf q))
  · obtain ⟨t, ht, hb⟩ := jmp_of h
    obtain ⟨kt, kf⟩ := iteB_c hb
    exact r_icmp_gt (by rw [hd, hlen]; rfl) ht (fun q => hgo _ _ _ _ _ _ _ (kt q)) (fun q => hgo _ _ _ _ _ _ _ (kf q))
  · obtain ⟨t, ht, hb⟩ := jmp_of h
    obtain ⟨kt, kf⟩ := iteB_c hb
    exact r_icmp_ge (by rw [hd, hlen]; rfl) ht (fun q => hgo _ _ _ _ _ _ _ (kt q)) (fun q => hgo _ _ _ _ _ _ _ (kf q))
  · obtain ⟨t, ht, hb⟩ := jmp_of h
    obtain ⟨kt, kf⟩ := iteB_c hb
    exact r_if_eq (by rw [hd, hlen]; rfl) ht (fun q => hgo _ _ _ _ _ _ _ (kt q)) (fun q => hgo _ _ _ _ _ _ _ (kf q))
  · obtain ⟨t, ht, hb⟩ := jmp_of h
    obtain ⟨kt, kf⟩ := iteB_c hb
    exact r_if_ne (by rw [hd, hlen]; rfl) ht (fun q => hgo _ _ _ _ _ _ _ (kf q)) (fun q => hgo _ _ _ _ _ _ _ (kt q))
  · obtain ⟨t, ht, hb⟩ := jmp_of h
    obtain ⟨kt, kf⟩ := iteB_c hb
    exact r_if_lt (by rw [hd, hlen]; rfl) ht (fun q => hgo _ _ _ _ _ _ _ (kt q)) (fun q => hgo _ _ _ _ _ _ _ (kf q))
  · obtain ⟨t, ht, hb⟩ := jmp_of h
    obtain ⟨kt, kf⟩ := iteB_c hb
    exact r_if_le (by rw [hd, hlen]; rfl) ht (fun q => hgo _ _ _ _ _ _ _ (kt q)) (fun q => hgo _ _ _ _ _ _ _ (kf q))
  · obtain ⟨t, ht, hb⟩ := jmp_of h
    obtain ⟨kt, kf⟩ := iteB_c hb
    exact r_if_gt (by rw [hd, hlen]; rfl) ht (fun q => hgo _ _ _ _ _ _ _ (kt q)) (fun q => hgo _ _ _ _ _ _ _ (kf q))
  · obtain ⟨t, ht, hb⟩ := jmp_of h
    obtain ⟨kt, kf⟩ := iteB_c hb
    exact r_if_ge (by rw [hd, hlen]; rfl) ht (fun q => hgo _ _ _ _ _ _ _ (kt q)) (fun q => hgo _ _ _ _ _ _ _ (kf q))
  · exact r_ifnull (tgt := 0) (by rw [hd, hlen]; rfl) (hgo _ _ _ _ _ _ _ h)
  · obtain ⟨t, h1, h2⟩ := jmp_of h
    exact r_ifnullN (a := 0) (by rw [hd, hlen]; rfl) h1 (hgo _ _ _ _ _ _ _ h2)
  · obtain ⟨t, h1, h2⟩ := jmp_of h
    exact r_ifnonnull (by rw [hd, hlen]; rfl) h1 (hgo _ _ _ _ _ _ _ h2)
  · exact r_ifnonnullN (a := 0) (tgt := 0) (by rw [hd, hlen]; rfl) (hgo _ _ _ _ _ _ _ h)
  · next dflt lo hi offs x st0 =>
    obtain ⟨h1, h2⟩ := ckT_of h
    rw [Bool.and_eq_true, Bool.and_eq_true, Bool.and_eq_true] at h1
    have e0 := of_decide_eq_true h1.1
    have e1 := of_decide_eq_true h1.2.1
    have e2 := List.all_eq_true.mp h1.2.2.1
    have e3 := of_decide_eq_true h1.2.2.2
    have e4 : lo + offs.size = hi + 1 := by rw [← e1]; simp
    obtain ⟨k1, k2⟩ := tswK_get e0.1 (by omega) h2
    exact r_tsw hd e4 (fun i off tgt ho ht hx => hgo _ _ _ _ _ _ _ (k1 i off tgt (by simpa using ho) ht hx)) ((pc : Int) + dflt).toNat (by omega) (fun q => hgo _ _ _ _ _ _ _ (k2 (by rcases q with q | q <;> omega))) (fun i off ho => of_decide_eq_true (e2 off (by have := List.mem_of_getElem? (l := offs.toList) (i := i) (by simpa using ho); exact this)))
  · obtain ⟨h1, h2⟩ := ckT_of h
    rw [Bool.and_eq_true] at h1
    obtain ⟨off, tgt, e1, e2, e3⟩ := lswK_get (fun q hq => of_decide_eq_true (List.all_eq_true.mp h1.2 q hq)) h2
    exact r_lsw hd h1.1 e1 e2 (hgo _ _ _ _ _ _ _ e3)
  · split at h
    · next hf => exact r_ldc (by rw [hd, hlen]; rfl) (hkt.2.2.2 _ (fnd_mem hf)) (hgo _ _ _ _ _ _ _ h)
    · next hf => obtain ⟨tx, ht⟩ := hkt.2.2.2 _ (fnd_mem hf); exact r_ldcS ht (by rw [hd, hlen]; rfl) (hgo _ _ _ _ _ _ _ h)
    · exact h.elim
  · split at h
    · next hf => exact r_ldcw (by rw [hd, hlen]; rfl) (hkt.2.2.2 _ (fnd_mem hf)) (hgo _ _ _ _ _ _ _ h)
    · exact h.elim
  · split at h
    · next hf => exact r_ldc2 (by rw [hd, hlen]; rfl) (hkt.2.2.2 _ (fnd_mem hf)) (hgo _ _ _ _ _ _ _ h)
    · exact h.elim
  · -- getfield
    next i a st0 =>
    split at h
    · next hf =>
      obtain ⟨h1, h2⟩ := ckB_of h
      rw [Bool.and_eq_true] at h1
      have a1 := Nat.le_of_ble_eq_true h1.1
      have a2 := Nat.le_of_ble_eq_true h1.2
      have he := (hkt.1 _ (fnd_mem hf)).1 rfl
      split at h2
      · obtain ⟨b, rfl⟩ : ∃ b, a = b + 1 := ⟨a - 1, (Nat.sub_add_cancel a1).symm⟩
        exact r_sval hs (by omega) (by rw [hd, hlen]; rfl) (he.1 rfl) (hgo _ _ _ _ _ _ _ h2)
      · obtain ⟨b, rfl⟩ : ∃ b, a = b + 1 := ⟨a - 1, (Nat.sub_add_cancel a1).symm⟩
        exact r_scod hs (by omega) (by rw [hd, hlen]; rfl) (he.2.1 rfl) (hgo _ _ _ _ _ _ _ h2)
      · exact h2.elim
    · next hf =>
      obtain ⟨h1, h2⟩ := ckB_of h
      have hm := tagB_mem h1
      obtain ⟨hF, hR, -⟩ := (hkt.1 _ (fnd_mem hf)).2 _ hm
      split at h2
      · next hr => exact r_getR (by rw [hd, hlen]; rfl) hF (by rw [hR]; exact hr) rfl (oe_map h2 (fun q => hgo _ _ _ _ _ _ _ q) (fun _ q => hgo _ _ _ _ _ _ _ q))
      · next hr => exact r_getI (by rw [hd, hlen]; rfl) hF (by rw [hR]; exact hr) rfl (hgo _ _ _ _ _ _ _ h2)
    · exact h.elim
  · -- getstatic
    split at h
    · next hf => exact r_gcs hs (by rw [hd, hlen]; rfl) (((hkt.1 _ (fnd_mem hf)).1 rfl).2.2.1 rfl) (hgo _ _ _ _ _ _ _ h)
    · next hf => exact r_gfm hs (by rw [hd, hlen]; rfl) (((hkt.1 _ (fnd_mem hf)).1 rfl).2.2.2 rfl) (hgo _ _ _ _ _ _ _ h.1) (hgo _ _ _ _ _ _ _ h.2)
    · exact h.elim
  · -- putfield int
    split at h
    · next hf =>
      obtain ⟨h1, h2⟩ := ckB_of h
      rw [Bool.and_eq_true, Bool.and_eq_true, Bool.and_eq_true] at h1
      obtain ⟨b1, b2, b3, b4⟩ := h1
      have hm := tagB_mem b1
      have he := hkt.1 _ (fnd_mem hf)
      obtain ⟨hF, hR, hT, -⟩ := he.2 _ hm
      have hn := narB_ok b3
      exact r_putI (by rw [hd, hlen]; rfl) hF (finOK he hini hm b2) (by rw [hR]; simpa using b4) rfl (by rw [hT]; exact hn.1) (by rw [hT]; exact hn.2) (hgo _ _ _ _ _ _ _ h2)
    · exact h.elim
  · -- putfield ref
    split at h
    · next hf =>
      obtain ⟨h1, h2⟩ := ckB_of h
      rw [Bool.and_eq_true, Bool.and_eq_true] at h1
      obtain ⟨b1, b2, b3⟩ := h1
      have hm := tagB_mem b1
      have he := hkt.1 _ (fnd_mem hf)
      obtain ⟨hF, hR, -⟩ := he.2 _ hm
      exact r_putR (by rw [hd, hlen]; rfl) hF (finOK he hini hm b2) (by rw [hR]; exact b3) rfl (hgo _ _ _ _ _ _ _ h2)
    · exact h.elim
  · -- iaload
    obtain ⟨h1, h2⟩ := ckB_of h
    obtain ⟨h3, h4⟩ := ckB_of h2
    unfold iarB at h1
    rw [Bool.or_eq_true] at h1
    rcases h1 with h1 | h1
    · exact r_iald (by rw [hd, hlen]; rfl) (Nat.eq_of_beq_eq_true h1) h3 (hgo _ _ _ _ _ _ _ h4)
    · have e := Nat.eq_of_beq_eq_true h1
      subst e
      exact r_sald hs (by rw [hd, hlen]; rfl) h3 (hgo _ _ _ _ _ _ _ h4)
  · -- baload
    next i a st0 =>
    obtain ⟨h1, h2⟩ := ckB_of h
    obtain ⟨h3, h4⟩ := ckB_of h2
    rw [Bool.and_eq_true] at h1
    have a1 := Nat.le_of_ble_eq_true h1.1
    have a2 := Nat.le_of_ble_eq_true h1.2
    obtain ⟨b, rfl⟩ : ∃ b, a = b + 4 := ⟨a - 4, (Nat.sub_add_cancel a1).symm⟩
    exact r_bald hs (by omega) (by rw [hd, hlen]; rfl) h3 (hgo _ _ _ _ _ _ _ h4)
  · -- iastore
    obtain ⟨h1, h2⟩ := ckB_of h
    obtain ⟨h3, h4⟩ := ckB_of h2
    exact r_iast (by rw [hd, hlen]; rfl) (Nat.eq_of_beq_eq_true h1) h3 (hgo _ _ _ _ _ _ _ h4)
  · -- arraylength
    next a st0 =>
    obtain ⟨h1, h2⟩ := ckB_of h
    unfold iarB at h1
    rw [Bool.or_eq_true, Bool.or_eq_true, Bool.or_eq_true, Bool.and_eq_true] at h1
    rcases h1 with (h1 | h1) | h1 | ⟨h1, h3⟩
    · exact r_alenI (by rw [hd, hlen]; rfl) (Nat.eq_of_beq_eq_true h1) (hgo _ _ _ _ _ _ _ h2)
    · have e := Nat.eq_of_beq_eq_true h1
      subst e
      exact r_salen hs (by rw [hd, hlen]; rfl) (hgo _ _ _ _ _ _ _ h2)
    · obtain ⟨u, e1, e2, e3⟩ := rngB_of h1
      exact r_alenR (by rw [hd, hlen]; rfl) e1 e2 e3 (hgo _ _ _ _ _ _ _ h2)
    · have a1 := Nat.le_of_ble_eq_true h1
      have a2 := Nat.le_of_ble_eq_true h3
      obtain ⟨b, rfl⟩ : ∃ b, a = b + 4 := ⟨a - 4, (Nat.sub_add_cancel a1).symm⟩
      exact r_balen hs (by omega) (by rw [hd, hlen]; rfl) (hgo _ _ _ _ _ _ _ h2)
  · -- aaload
    obtain ⟨h1, h2⟩ := ckB_of h
    obtain ⟨h3, h4⟩ := ckB_of h2
    obtain ⟨u, e1, e2, e3⟩ := rngB_of h1
    exact r_aald (by rw [hd, hlen]; rfl) e1 e2 e3 h3 (oe_map h4 (fun q => hgo _ _ _ _ _ _ _ q) (fun _ q => hgo _ _ _ _ _ _ _ q))
  · -- aastore
    obtain ⟨h1, h2⟩ := ckB_of h
    obtain ⟨h3, h4⟩ := ckB_of h2
    rw [Bool.and_eq_true] at h1
    obtain ⟨u, e1, e2, e3⟩ := rngB_of h1.1
    have hst := h1.2
    rw [e1, show 100 + u - 100 = u by omega] at hst
    obtain ⟨s1, s2⟩ := hA.2.1 _ _ hst
    exact r_aast hs.1.2 (by rw [hd, hlen]; rfl) e1 e2 e3 h3 rfl s1 s2 (hgo _ _ _ _ _ _ _ h4)
  · -- aastore null
    obtain ⟨h1, h2⟩ := ckB_of h
    obtain ⟨h3, h4⟩ := ckB_of h2
    obtain ⟨u, e1, e2, e3⟩ := rngB_of h1
    exact r_aastN (by rw [hd, hlen]; rfl) e1 e2 e3 h3 (hgo _ _ _ _ _ _ _ h4)
  · -- new
    split at h
    · next c hf =>
      obtain ⟨h1, h2⟩ := ckB_of h
      rw [Bool.and_eq_true, Bool.and_eq_true] at h1
      have a0 := Nat.blt_eq.mp h1.1
      have a1 := Nat.le_of_ble_eq_true h1.2.1
      have a2 := Nat.le_of_ble_eq_true h1.2.2
      have hne := hkt.2.2.1 _ (fnd_mem hf)
      obtain ⟨C, T, hC, hl⟩ := hne.2 (by show c ≠ 200; omega)
      have hC : ClsF c C T := hC
      obtain ⟨i1, i2, i3⟩ := hA.1 c C T hC
      exact r_new (by rw [hd, hlen]; rfl) ⟨C, T, hC, hl, i1, i2, i3⟩ (by omega) (by omega) (hgo _ _ _ _ _ _ _ h2)
    · exact h.elim
  · -- newarray
    obtain ⟨h1, h2⟩ := ckB_of h
    rw [Bool.and_eq_true, Bool.and_eq_true] at h1
    have a1 := Nat.le_of_ble_eq_true h1.1
    obtain ⟨e1, e2⟩ := inB_nI h1.2.1
    have a2 := Nat.le_of_ble_eq_true h1.2.2
    exact r_newI (by rw [hd, hlen]; rfl) e1 e2 (by omega) (by omega) hA.2.2.1 (hgo _ _ _ _ _ _ _ h2)
  · -- anewarray
    split at h
    · next c hf =>
      obtain ⟨h0, h⟩ := ckB_of h
      obtain ⟨h1, h2⟩ := ckB_of h
      rw [Bool.and_eq_true, Bool.and_eq_true] at h1
      have a1 := Nat.le_of_ble_eq_true h1.1
      obtain ⟨e1, e2⟩ := inB_nI h1.2.1
      have a2 := Nat.le_of_ble_eq_true h1.2.2
      have hm := tagB_mem h0
      have hc : c = 8 ∨ c = 4 ∨ c = 10 ∨ c = 7 := by simpa using hm
      obtain ⟨C, T, hC, hl⟩ := (hkt.2.2.1 _ (fnd_mem hf)).2 (by show c ≠ 200; omega)
      have hC : ClsF c C T := hC
      have hC2 : tyR (anwT c) = C := (hA.2.2.2.1 c C T hC).resolve_right (fun q => q hc)
      have ht : 1 ≤ anwT c ∧ anwT c ≤ 4 := by rcases hc with rfl | rfl | rfl | rfl <;> decide
      exact r_newR (t := anwT c) hs.1.2 (by rw [hd, hlen]; rfl) ⟨by rw [hC2]; exact hl, ht.1, ht.2⟩ e1 e2 (by omega) (by omega) (hgo _ _ _ _ _ _ _ h2)
    · exact h.elim
  · -- instanceof
    next i a st0 =>
    split at h
    · next c hf =>
      obtain ⟨h0, h⟩ := ckB_of h
      have hm := tagB_mem h0
      have hc : c = 0 ∨ c = 6 ∨ c = 9 ∨ c = 1 ∨ c = 3 := by simpa using hm
      obtain ⟨C, T, hC, hl⟩ := (hkt.2.2.1 _ (fnd_mem hf)).2 (by show c ≠ 200; omega)
      have hC : ClsF c C T := hC
      obtain ⟨hy, hn⟩ := hA.2.2.2.2 c C T hC hc (zT z a)
      unfold iteB at h
      split at h
      · next hb => exact r_instY hs.1.2 (by rw [hd, hlen]; rfl) rfl hl (hy hb) (hgo _ _ _ _ _ _ _ h)
      · next hb =>
        obtain ⟨h1, h2⟩ := ckB_of h
        obtain ⟨C2, T2, hC2, hor⟩ := hn hb h1
        have hmem : (C2, C) ∈ NcL := hor.resolve_right (fun q => q hc)
        exact r_instN (by rw [hd, hlen]; rfl) rfl hl hC2 (fun s H hX => (hs.2.2.1 s H hX).2.2.2.2 _ hmem) (hgo _ _ _ _ _ _ _ h2)
    · exact h.elim
  · -- checkcast
    split at h
    · next hf =>
      obtain ⟨h1, h2⟩ := ckB_of h
      exact r_castI (by rw [hd, hlen]; rfl) ((hkt.2.2.1 _ (fnd_mem hf)).1 rfl) (Nat.eq_of_beq_eq_true h1) (hgo _ _ _ _ _ _ _ h2)
    · exact h.elim
  · -- invokestatic
    split at h
    · next d0 m n mc ms hf =>
      obtain ⟨h1, h2⟩ := ckT_of h
      rw [Bool.and_eq_true, Bool.and_eq_true, Bool.and_eq_true] at h1
      obtain ⟨b1, b2, b3, b4⟩ := h1
      have hc := (hkt.2.1 _ (fnd_mem hf)).1 rfl _ List.mem_cons_self
      rw [call_st (n := n) (st := st)]
      exact r_callS _ (by rw [hd, hlen]; rfl) hc (by rw [List.length_reverse]; exact Nat.eq_of_beq_eq_true b1) (Nat.le_of_ble_eq_true b2) (by have := Nat.le_of_ble_eq_true b3; omega) (by have := Nat.le_of_ble_eq_true b4; omega) (callK_ok h2 (fun vs z I q => hgo _ _ _ _ _ _ _ q))
    · next d0 m n mc ms hf =>
      obtain ⟨h1, h2⟩ := ckT_of h
      rw [Bool.and_eq_true, Bool.and_eq_true, Bool.and_eq_true] at h1
      obtain ⟨b1, b2, b3, b4⟩ := h1
      obtain ⟨⟨host, hc⟩, hstat⟩ := (hkt.2.1 _ (fnd_mem hf)).2.1 rfl _ List.mem_cons_self
      rw [call_st (n := n) (st := st)]
      exact r_callSN hs.1.2 _ (by rw [hd, hlen]; rfl) hc hstat (by rw [List.length_reverse]; exact Nat.eq_of_beq_eq_true b1) (Nat.le_of_ble_eq_true b2) (by have := Nat.le_of_ble_eq_true b3; omega) (by have := Nat.le_of_ble_eq_true b4; omega) (callK_ok h2 (fun vs z I q => hgo _ _ _ _ _ _ _ q))
    · next hf =>
      split at h
      · obtain ⟨h1, h2⟩ := ckB_of h
        obtain ⟨h3, h4⟩ := ckB_of h2
        obtain ⟨h5, h6⟩ := ckB_of h4
        rw [Bool.and_eq_true, Bool.and_eq_true] at h1
        exact r_acopy (by rw [hd, hlen]; rfl) ((hkt.2.1 _ (fnd_mem hf)).2.2.2.2.2.2.2.1 rfl) (Nat.eq_of_beq_eq_true h1.1) (Nat.eq_of_beq_eq_true h1.2.1) h3 h5 (Nat.le_of_ble_eq_true h1.2.2) (hgo _ _ _ _ _ _ _ h6)
      · exact h.elim
    · exact h.elim
  · -- invokespecial
    split at h
    · next d0 m n mc ms hf =>
      split at h
      · next hst =>
        obtain ⟨h1, h2⟩ := ckT_of h
        rw [Bool.and_eq_true, Bool.and_eq_true, Bool.and_eq_true] at h1
        obtain ⟨b1, b2, b3, b4⟩ := h1
        have hc := (hkt.2.1 _ (fnd_mem hf)).2.2.1 rfl _ List.mem_cons_self
        rw [call_st2 hst]
        exact r_callI _ (by rw [hd, hlen]; rfl) hc (by rw [List.length_reverse]; exact Nat.eq_of_beq_eq_true b1) (Nat.le_of_ble_eq_true b2) (by have := Nat.le_of_ble_eq_true b3; omega) (by have := Nat.le_of_ble_eq_true b4; omega) (callK_ok h2 (fun vs z I q => hgo _ _ _ _ _ _ _ q))
      · exact h.elim
    · next d0 m n mc ms hf =>
      split at h
      · next hst =>
        obtain ⟨h1, h2⟩ := ckT_of h
        rw [Bool.and_eq_true, Bool.and_eq_true, Bool.and_eq_true] at h1
        obtain ⟨b1, b2, b3, b4⟩ := h1
        obtain ⟨⟨host, hc⟩, hin, hnm, hrn⟩ := (hkt.2.1 _ (fnd_mem hf)).2.2.2.1 rfl _ List.mem_cons_self
        rw [call_st2 hst]
        exact r_callIN hs.1.2 _ (by rw [hd, hlen]; rfl) hc hin hnm hrn (by rw [List.length_reverse]; exact Nat.eq_of_beq_eq_true b1) (Nat.le_of_ble_eq_true b2) (by have := Nat.le_of_ble_eq_true b3; omega) (by have := Nat.le_of_ble_eq_true b4; omega) (callK_ok h2 (fun vs z I q => hgo _ _ _ _ _ _ _ q))
      · exact h.elim
    · next d0 l n mc ms hf =>
      split at h
      · next hst =>
        obtain ⟨h1, h2⟩ := ckT_of h
        rw [Bool.and_eq_true, Bool.and_eq_true, Bool.and_eq_true] at h1
        obtain ⟨b1, b2, b3, b4⟩ := h1
        obtain ⟨m, hm, h3⟩ := dsp_ok h2
        rw [call_st2 hst]
        rcases (hkt.2.1 _ (fnd_mem hf)).2.2.2.2.1 rfl _ hm with hc | ⟨x, hc⟩
        · exact r_callP _ (by rw [hd, hlen]; rfl) hc rfl (by rw [List.length_reverse]; exact Nat.eq_of_beq_eq_true b1) (Nat.le_of_ble_eq_true b2) (by have := Nat.le_of_ble_eq_true b3; omega) (by have := Nat.le_of_ble_eq_true b4; omega) (callK_ok h3 (fun vs z I q => hgo _ _ _ _ _ _ _ q))
        · exact r_callQ _ (by rw [hd, hlen]; rfl) hc rfl (by rw [List.length_reverse]; exact Nat.eq_of_beq_eq_true b1) (Nat.le_of_ble_eq_true b2) (by have := Nat.le_of_ble_eq_true b3; omega) (by have := Nat.le_of_ble_eq_true b4; omega) (callK_ok h3 (fun vs z I q => hgo _ _ _ _ _ _ _ q))
      · exact h.elim
    · next hf =>
      split at h
      · obtain ⟨h1, h2⟩ := ckB_of h
        exact r_objInit (by rw [hd, hlen]; rfl) ((hkt.2.1 _ (fnd_mem hf)).2.2.2.2.2.2.1 rfl) (Nat.le_of_ble_eq_true h1) (hgo _ _ _ _ _ _ _ h2)
      · exact h.elim
    · exact h.elim
  · -- invokevirtual
    split at h
    · next d0 l n mc ms hf =>
      split at h
      · next hst =>
        obtain ⟨h1, h2⟩ := ckT_of h
        rw [Bool.and_eq_true, Bool.and_eq_true, Bool.and_eq_true] at h1
        obtain ⟨b1, b2, b3, b4⟩ := h1
        obtain ⟨m, hm, h3⟩ := dsp_ok h2
        rw [call_st2 hst]
        rcases (hkt.2.1 _ (fnd_mem hf)).2.2.2.2.2.1 rfl _ hm with hc | ⟨x, hc⟩
        · exact r_callV _ (by rw [hd, hlen]; rfl) hc rfl (by rw [List.length_reverse]; exact Nat.eq_of_beq_eq_true b1) (Nat.le_of_ble_eq_true b2) (by have := Nat.le_of_ble_eq_true b3; omega) (by have := Nat.le_of_ble_eq_true b4; omega) (callK_ok h3 (fun vs z I q => hgo _ _ _ _ _ _ _ q))
        · exact r_callU _ (by rw [hd, hlen]; rfl) hc rfl (by rw [List.length_reverse]; exact Nat.eq_of_beq_eq_true b1) (Nat.le_of_ble_eq_true b2) (by have := Nat.le_of_ble_eq_true b3; omega) (by have := Nat.le_of_ble_eq_true b4; omega) (callK_ok h3 (fun vs z I q => hgo _ _ _ _ _ _ _ q))
      · exact h.elim
    · next d0 m n mc ms hf =>
      split at h
      · next a st2 hst =>
        obtain ⟨h1, h2⟩ := ckT_of h
        rw [Bool.and_eq_true, Bool.and_eq_true, Bool.and_eq_true, Bool.and_eq_true, Bool.and_eq_true] at h1
        obtain ⟨⟨c1, c2⟩, b1, b2, b3, b4⟩ := h1
        have a1 := Nat.le_of_ble_eq_true c1
        have a2 := Nat.le_of_ble_eq_true c2
        obtain ⟨b, rfl⟩ : ∃ b, a = b + 1 := ⟨a - 1, (Nat.sub_add_cancel a1).symm⟩
        have hc := (hkt.2.1 _ (fnd_mem hf)).2.2.2.2.2.2.2.2.2 rfl _ List.mem_cons_self
        rw [call_st2 hst]
        exact r_callW hs (by omega) _ (by rw [hd, hlen]; rfl) hc (by rw [List.length_reverse]; exact Nat.eq_of_beq_eq_true b1) (Nat.le_of_ble_eq_true b2) (by have := Nat.le_of_ble_eq_true b3; omega) (by have := Nat.le_of_ble_eq_true b4; omega) (callK_ok h2 (fun vs z I q => hgo _ _ _ _ _ _ _ q))
      · exact h.elim
    · next hf =>
      split at h
      · obtain ⟨h1, h2⟩ := ckB_of h
        rw [Bool.and_eq_true, Bool.and_eq_true, Bool.and_eq_true] at h1
        obtain ⟨b1, b2, b3, b4⟩ := h1
        exact r_clone hs.1.2 (by rw [hd, hlen]; rfl) ((hkt.2.1 _ (fnd_mem hf)).2.2.2.2.2.2.2.2.1 rfl) (Nat.eq_of_beq_eq_true b1) (by have := Nat.le_of_ble_eq_true b3; omega) (by have := Nat.le_of_ble_eq_true b4; omega) (Nat.le_of_ble_eq_true b2) (hgo _ _ _ _ _ _ _ h2)
      · exact h.elim
    · exact h.elim
  · -- ireturn
    split at h
    · next ty hty =>
      obtain ⟨h1, h2⟩ := ckB_of h
      exact r_iret (by rw [hd, hlen]; rfl) hty (narB_ok h1).1 h2
    · exact h.elim
  · -- lreturn
    split at h
    · next hty => exact r_lret (by rw [hd, hlen]; rfl) hty h
    · exact h.elim
  · -- areturn
    next q =>
    obtain ⟨h1, h2⟩ := ckB_of h
    obtain ⟨ty, e1, e2⟩ := rk_ref (Nat.eq_of_beq_eq_true h1)
    exact r_aret (o := some q) (by rw [hd, hlen]; rfl) e1 e2 h2
  · obtain ⟨h1, h2⟩ := ckB_of h
    obtain ⟨ty, e1, e2⟩ := rk_ref (Nat.eq_of_beq_eq_true h1)
    exact r_aret (o := none) (by rw [hd, hlen]; rfl) e1 e2 h2
  · obtain ⟨h1, h2⟩ := ckB_of h
    exact r_vret (by rw [hd, hlen]; rfl) (rk_void (Nat.eq_of_beq_eq_true h1)) h2
  · exact h.elim
end WST
end
section
/-! the walker over many instructions; it stops at the cuts -/
def pick (ks : List Nat) (lv : List (Nat × Value)) : List (Nat × Value) := match ks with
  | [] => []
  | k :: r => match lk lv k with
    | some v => (k, v) :: pick r lv
    | none => pick r lv
theorem pick_sub : ∀ {ks : List Nat} {lv : List (Nat × Value)}, ∀ q ∈ pick ks lv, q ∈ lv
  | [], _, q, h => by cases h
  | k :: r, lv, q, h => by
    unfold pick at h
    split at h
    next v hv =>
      rcases List.mem_cons.mp h with h1 | h1
      · rw [h1]; exact lk_mem hv
      · exact pick_sub q h1
    next => exact pick_sub q h
def wr (g : Gt) (kt : KT) (y : Mth) (ini : Bool) (T : TT) (cuts : List (Nat × List Nat)) (Q : Option Value → Zs → Is → Prop) (d : Nat) : Nat → Nat → Nat → Nat → List (Nat × Value) → List Value → Zs → Is → Prop
  | 0, rc, rs, pc, lv, st, z, I => WPc g y d rc rs pc lv st z I Q
  | K + 1, rc, rs, pc, lv, st, z, I => match fnd T pc with
    | some (ins, _) => wst g kt y ini Q (fun rc rs pc lv st z I => match fnd cuts pc with
      | some ks => WPc g y d rc rs pc (pick ks lv) st z I Q
      | none => wr g kt y ini T cuts Q d K rc rs pc lv st z I) ins d rc rs pc lv st z I
    | none => False
theorem wr_ok {g : Gt} {kt : KT} {y : Mth} {ini : Bool} {T : TT} {cuts : List (Nat × List Nat)} {Q : Option Value → Zs → Is → Prop} {d : Nat} (hA : AllOK) (hs : GS g) (hkt : KTok g y.1.cls kt) (hini : ini = true → y.1.name = "<init>") (hT : tabOK y T = true) : ∀ (K rc rs pc : Nat) (lv : List (Nat × Value)) (st : List Value) (z : Zs) (I : Is), wr g kt y ini T cuts Q d K rc rs pc lv st z I → WPc g y d rc rs pc lv st z I Q
  | 0, _, _, _, _, _, _, _, h => h
  | K + 1, rc, rs, pc, lv, st, z, I, h => by
    unfold wr at h
    split at h
    next ins len hf =>
      have hm := List.all_eq_true.mp hT _ (fnd_mem hf)
      rw [Bool.and_eq_true] at hm
      have hd : decode y.2.1 pc = .ok (ins, len) := of_decide_eq_true hm.1
      have hl : len = ilen ins len := Nat.eq_of_beq_eq_true hm.2
      refine wst_ok hA hs hkt hini (fun rc rs pc lv st z I hgo => ?_) hd hl h
      split at hgo
      next ks _ => exact r_sub pick_sub hgo
      next => exact wr_ok hA hs hkt hini hT K rc rs pc lv st z I hgo
    next => exact h.elim
theorem wcut {g : Gt} {y : Mth} {d rc rs pc : Nat} {lv lv2 : List (Nat × Value)} {st : List Value} {z : Zs} {I : Is} {Q : Option Value → Zs → Is → Prop} (ks : List Nat) (e : pick ks lv = lv2) (h : WPc g y d rc rs pc lv2 st z I Q) : WPc g y d rc rs pc lv st z I Q := r_sub (fun q hq => pick_sub q (by rw [e]; exact hq)) h
end
section
/-! the classes, by the tables -/
set_option maxRecDepth 20000 in
theorem cx0 : ∀ k, k < 2 → u_lay RX0 TX0 k ∈ gw_tbl := (lt_s (lt_s lt_0 (gw_mem (i := 500) (by decide +kernel) (by decide +kernel))) (gw_mem (i := 502) (by decide +kernel) (by decide +kernel)))
theorem cw0 : ∀ w ∈ u_ws RX0 TX0 2, w ∈ gw_tbl := fun w hw => by
  obtain ⟨k, hk, rfl⟩ := List.mem_map.mp hw
  exact cx0 k (List.mem_range.mp hk)
theorem cf0 : ClsF 0 RX0 TX0 := ⟨rfl, cw0, tyX0_ok, nmX0, by decide⟩
set_option maxRecDepth 20000 in
theorem cx1 : ∀ k, k < 2 → u_lay RX1 TX1 k ∈ gw_tbl := (lt_s (lt_s lt_0 (gw_mem (i := 529) (by decide +kernel) (by decide +kernel))) (gw_mem (i := 530) (by decide +kernel) (by decide +kernel)))
theorem cw1 : ∀ w ∈ u_ws RX1 TX1 2, w ∈ gw_tbl := fun w hw => by
  obtain ⟨k, hk, rfl⟩ := List.mem_map.mp hw
  exact cx1 k (List.mem_range.mp hk)
theorem cf1 : ClsF 1 RX1 TX1 := ⟨rfl, cw1, tyX1_ok, nmX1, by decide⟩
set_option maxRecDepth 20000 in
theorem cx2 : ∀ k, k < 6 → u_lay RX2 TX2 k ∈ gw_tbl := (lt_s (lt_s (lt_s (lt_s (lt_s (lt_s lt_0 (gw_mem (i := 106) (by decide +kernel) (by decide +kernel))) (gw_mem (i := 108) (by decide +kernel) (by decide +kernel))) (gw_mem (i := 110) (by decide +kernel) (by decide +kernel))) (gw_mem (i := 112) (by decide +kernel) (by decide +kernel))) (gw_mem (i := 114) (by decide +kernel) (by decide +kernel))) (gw_mem (i := 116) (by decide +kernel) (by decide +kernel)))
theorem cw2 : ∀ w ∈ u_ws RX2 TX2 6, w ∈ gw_tbl := fun w hw => by
  obtain ⟨k, hk, rfl⟩ := List.mem_map.mp hw
  exact cx2 k (List.mem_range.mp hk)
theorem cf2 : ClsF 2 RX2 TX2 := ⟨rfl, cw2, tyX2_ok, nmX2, by decide⟩
set_option maxRecDepth 20000 in
theorem cx3 : ∀ k, k < 2 → u_lay RX3 TX3 k ∈ gw_tbl := (lt_s (lt_s lt_0 (gw_mem (i := 538) (by decide +kernel) (by decide +kernel))) (gw_mem (i := 539) (by decide +kernel) (by decide +kernel)))
theorem cw3 : ∀ w ∈ u_ws RX3 TX3 2, w ∈ gw_tbl := fun w hw => by
  obtain ⟨k, hk, rfl⟩ := List.mem_map.mp hw
  exact cx3 k (List.mem_range.mp hk)
theorem cf3 : ClsF 3 RX3 TX3 := ⟨rfl, cw3, tyX3_ok, nmX3, by decide⟩
set_option maxRecDepth 20000 in
theorem cx4 : ∀ k, k < 3 → u_lay RX4 TX4 k ∈ gw_tbl := (lt_s (lt_s (lt_s lt_0 (gw_mem (i := 42) (by decide +kernel) (by decide +kernel))) (gw_mem (i := 44) (by decide +kernel) (by decide +kernel))) (gw_mem (i := 46) (by decide +kernel) (by decide +kernel)))
theorem cw4 : ∀ w ∈ u_ws RX4 TX4 3, w ∈ gw_tbl := fun w hw => by
  obtain ⟨k, hk, rfl⟩ := List.mem_map.mp hw
  exact cx4 k (List.mem_range.mp hk)
theorem cf4 : ClsF 4 RX4 TX4 := ⟨rfl, cw4, tyX4_ok, nmX4, by decide⟩
set_option maxRecDepth 20000 in
theorem cx5 : ∀ k, k < 10 → u_lay RX5 TX5 k ∈ gw_tbl := (lt_s (lt_s (lt_s (lt_s (lt_s (lt_s (lt_s (lt_s (lt_s (lt_s lt_0 (gw_mem (i := 70) (by decide +kernel) (by decide +kernel))) (gw_mem (i := 72) (by decide +kernel) (by decide +kernel))) (gw_mem (i := 74) (by decide +kernel) (by decide +kernel))) (gw_mem (i := 76) (by decide +kernel) (by decide +kernel))) (gw_mem (i := 78) (by decide +kernel) (by decide +kernel))) (gw_mem (i := 80) (by decide +kernel) (by decide +kernel))) (gw_mem (i := 82) (by decide +kernel) (by decide +kernel))) (gw_mem (i := 84) (by decide +kernel) (by decide +kernel))) (gw_mem (i := 86) (by decide +kernel) (by decide +kernel))) (gw_mem (i := 88) (by decide +kernel) (by decide +kernel)))
theorem cw5 : ∀ w ∈ u_ws RX5 TX5 10, w ∈ gw_tbl := fun w hw => by
  obtain ⟨k, hk, rfl⟩ := List.mem_map.mp hw
  exact cx5 k (List.mem_range.mp hk)
theorem cf5 : ClsF 5 RX5 TX5 := ⟨rfl, cw5, tyX5_ok, nmX5, by decide⟩
set_option maxRecDepth 20000 in
theorem cx6 : ∀ k, k < 2 → u_lay RX6 TX6 k ∈ gw_tbl := (lt_s (lt_s lt_0 (gw_mem (i := 511) (by decide +kernel) (by decide +kernel))) (gw_mem (i := 512) (by decide +kernel) (by decide +kernel)))
theorem cw6 : ∀ w ∈ u_ws RX6 TX6 2, w ∈ gw_tbl := fun w hw => by
  obtain ⟨k, hk, rfl⟩ := List.mem_map.mp hw
  exact cx6 k (List.mem_range.mp hk)
theorem cf6 : ClsF 6 RX6 TX6 := ⟨rfl, cw6, tyX6_ok, nmX6, by decide⟩
set_option maxRecDepth 20000 in
theorem cx7 : ∀ k, k < 3 → u_lay RX7 TX7 k ∈ gw_tbl := (lt_s (lt_s (lt_s lt_0 (gw_mem (i := 130) (by decide +kernel) (by decide +kernel))) (gw_mem (i := 132) (by decide +kernel) (by decide +kernel))) (gw_mem (i := 134) (by decide +kernel) (by decide +kernel)))
theorem cw7 : ∀ w ∈ u_ws RX7 TX7 3, w ∈ gw_tbl := fun w hw => by
  obtain ⟨k, hk, rfl⟩ := List.mem_map.mp hw
  exact cx7 k (List.mem_range.mp hk)
theorem cf7 : ClsF 7 RX7 TX7 := ⟨rfl, cw7, tyX7_ok, nmX7, by decide⟩
set_option maxRecDepth 20000 in
theorem cx8 : ∀ k, k < 2 → u_lay RX8 TX8 k ∈ gw_tbl := (lt_s (lt_s lt_0 (gw_mem (i := 543) (by decide +kernel) (by decide +kernel))) (gw_mem (i := 544) (by decide +kernel) (by decide +kernel)))
theorem cw8 : ∀ w ∈ u_ws RX8 TX8 2, w ∈ gw_tbl := fun w hw => by
  obtain ⟨k, hk, rfl⟩ := List.mem_map.mp hw
  exact cx8 k (List.mem_range.mp hk)
theorem cf8 : ClsF 8 RX8 TX8 := ⟨rfl, cw8, tyX8_ok, nmX8, by decide⟩
set_option maxRecDepth 20000 in
theorem cx9 : ∀ k, k < 2 → u_lay RX9 TX9 k ∈ gw_tbl := (lt_s (lt_s lt_0 (gw_mem (i := 520) (by decide +kernel) (by decide +kernel))) (gw_mem (i := 521) (by decide +kernel) (by decide +kernel)))
theorem cw9 : ∀ w ∈ u_ws RX9 TX9 2, w ∈ gw_tbl := fun w hw => by
  obtain ⟨k, hk, rfl⟩ := List.mem_map.mp hw
  exact cx9 k (List.mem_range.mp hk)
theorem cf9 : ClsF 9 RX9 TX9 := ⟨rfl, cw9, tyX9_ok, nmX9, by decide⟩
set_option maxRecDepth 20000 in
theorem cx10 : ∀ k, k < 4 → u_lay RX10 TX10 k ∈ gw_tbl := (lt_s (lt_s (lt_s (lt_s lt_0 (gw_mem (i := 348) (by decide +kernel) (by decide +kernel))) (gw_mem (i := 350) (by decide +kernel) (by decide +kernel))) (gw_mem (i := 352) (by decide +kernel) (by decide +kernel))) (gw_mem (i := 354) (by decide +kernel) (by decide +kernel)))
theorem cw10 : ∀ w ∈ u_ws RX10 TX10 4, w ∈ gw_tbl := fun w hw => by
  obtain ⟨k, hk, rfl⟩ := List.mem_map.mp hw
  exact cx10 k (List.mem_range.mp hk)
theorem cf10 : ClsF 10 RX10 TX10 := ⟨rfl, cw10, tyX10_ok, nmX10, by decide⟩
set_option maxRecDepth 20000 in
theorem cx11 : ∀ k, k < 15 → u_lay RX11 TX11 k ∈ gw_tbl := (lt_s (lt_s (lt_s (lt_s (lt_s (lt_s (lt_s (lt_s (lt_s (lt_s (lt_s (lt_s (lt_s (lt_s (lt_s lt_0 (gw_mem (i := 377) (by decide +kernel) (by decide +kernel))) (gw_mem (i := 379) (by decide +kernel) (by decide +kernel))) (gw_mem (i := 381) (by decide +kernel) (by decide +kernel))) (gw_mem (i := 383) (by decide +kernel) (by decide +kernel))) (gw_mem (i := 385) (by decide +kernel) (by decide +kernel))) (gw_mem (i := 387) (by decide +kernel) (by decide +kernel))) (gw_mem (i := 389) (by decide +kernel) (by decide +kernel))) (gw_mem (i := 391) (by decide +kernel) (by decide +kernel))) (gw_mem (i := 393) (by decide +kernel) (by decide +kernel))) (gw_mem (i := 395) (by decide +kernel) (by decide +kernel))) (gw_mem (i := 397) (by decide +kernel) (by decide +kernel))) (gw_mem (i := 399) (by decide +kernel) (by decide +kernel))) (gw_mem (i := 401) (by decide +kernel) (by decide +kernel))) (gw_mem (i := 403) (by decide +kernel) (by decide +kernel))) (gw_mem (i := 405) (by decide +kernel) (by decide +kernel)))
theorem cw11 : ∀ w ∈ u_ws RX11 TX11 15, w ∈ gw_tbl := fun w hw => by
  obtain ⟨k, hk, rfl⟩ := List.mem_map.mp hw
  exact cx11 k (List.mem_range.mp hk)
theorem cf11 : ClsF 11 RX11 TX11 := ⟨rfl, cw11, tyX11_ok, nmX11, by decide⟩
set_option maxRecDepth 20000 in
theorem cx12 : ∀ k, k < 40 → u_lay RX12 TX12 k ∈ gw_tbl := (lt_s (lt_s (lt_s (lt_s (lt_s (lt_s (lt_s (lt_s (lt_s (lt_s (lt_s (lt_s (lt_s (lt_s (lt_s (lt_s (lt_s (lt_s (lt_s (lt_s (lt_s (lt_s (lt_s (lt_s (lt_s (lt_s (lt_s (lt_s (lt_s (lt_s (lt_s (lt_s (lt_s (lt_s (lt_s (lt_s (lt_s (lt_s (lt_s (lt_s lt_0 (gw_mem (i := 998) (by decide +kernel) (by decide +kernel))) (gw_mem (i := 1000) (by decide +kernel) (by decide +kernel))) (gw_mem (i := 1002) (by decide +kernel) (by decide +kernel))) (gw_mem (i := 1004) (by decide +kernel) (by decide +kernel))) (gw_mem (i := 1006) (by decide +kernel) (by decide +kernel))) (gw_mem (i := 1008) (by decide +kernel) (by decide +kernel))) (gw_mem (i := 1010) (by decide +kernel) (by decide +kernel))) (gw_mem (i := 1012) (by decide +kernel) (by decide +kernel))) (gw_mem (i := 1014) (by decide +kernel) (by decide +kernel))) (gw_mem (i := 1016) (by decide +kernel) (by decide +kernel))) (gw_mem (i := 1018) (by decide +kernel) (by decide +kernel))) (gw_mem (i := 1020) (by decide +kernel) (by decide +kernel))) (gw_mem (i := 1022) (by decide +kernel) (by decide +kernel))) (gw_mem (i := 1024) (by decide +kernel) (by decide +kernel))) (gw_mem (i := 1026) (by decide +kernel) (by decide +kernel))) (gw_mem (i := 1028) (by decide +kernel) (by decide +kernel))) (gw_mem (i := 1030) (by decide +kernel) (by decide +kernel))) (gw_mem (i := 1032) (by decide +kernel) (by decide +kernel))) (gw_mem (i := 1034) (by decide +kernel) (by decide +kernel))) (gw_mem (i := 1036) (by decide +kernel) (by decide +kernel))) (gw_mem (i := 1038) (by decide +kernel) (by decide +kernel))) (gw_mem (i := 1040) (by decide +kernel) (by decide +kernel))) (gw_mem (i := 1042) (by decide +kernel) (by decide +kernel))) (gw_mem (i := 1044) (by decide +kernel) (by decide +kernel))) (gw_mem (i := 1046) (by decide +kernel) (by decide +kernel))) (gw_mem (i := 1048) (by decide +kernel) (by decide +kernel))) (gw_mem (i := 1050) (by decide +kernel) (by decide +kernel))) (gw_mem (i := 1052) (by decide +kernel) (by decide +kernel))) (gw_mem (i := 1054) (by decide +kernel) (by decide +kernel))) (gw_mem (i := 1056) (by decide +kernel) (by decide +kernel))) (gw_mem (i := 1058) (by decide +kernel) (by decide +kernel))) (gw_mem (i := 1060) (by decide +kernel) (by decide +kernel))) (gw_mem (i := 1062) (by decide +kernel) (by decide +kernel))) (gw_mem (i := 1064) (by decide +kernel) (by decide +kernel))) (gw_mem (i := 1066) (by decide +kernel) (by decide +kernel))) (gw_mem (i := 1068) (by decide +kernel) (by decide +kernel))) (gw_mem (i := 1070) (by decide +kernel) (by decide +kernel))) (gw_mem (i := 1072) (by decide +kernel) (by decide +kernel))) (gw_mem (i := 1074) (by decide +kernel) (by decide +kernel))) (gw_mem (i := 1076) (by decide +kernel) (by decide +kernel)))
theorem cw12 : ∀ w ∈ u_ws RX12 TX12 40, w ∈ gw_tbl := fun w hw => by
  obtain ⟨k, hk, rfl⟩ := List.mem_map.mp hw
  exact cx12 k (List.mem_range.mp hk)
theorem cf12 : ClsF 12 RX12 TX12 := ⟨rfl, cw12, tyX12_ok, nmX12, by decide⟩
theorem clsF_cases {c : Nat} {C : String} {T : u_T} (h : ClsF c C T) {P : Nat → String → u_T → Prop} (h0 : P 0 RX0 TX0) (h1 : P 1 RX1 TX1) (h2 : P 2 RX2 TX2) (h3 : P 3 RX3 TX3) (h4 : P 4 RX4 TX4) (h5 : P 5 RX5 TX5) (h6 : P 6 RX6 TX6) (h7 : P 7 RX7 TX7) (h8 : P 8 RX8 TX8) (h9 : P 9 RX9 TX9) (h10 : P 10 RX10 TX10) (h11 : P 11 RX11 TX11) (h12 : P 12 RX12 TX12) : P c C T := by
  have hc := h.2.2.2.2
  have hc2 : c = 0 ∨ c = 1 ∨ c = 2 ∨ c = 3 ∨ c = 4 ∨ c = 5 ∨ c = 6 ∨ c = 7 ∨ c = 8 ∨ c = 9 ∨ c = 10 ∨ c = 11 ∨ c = 12 := by omega
  rcases hc2 with rfl | rfl | rfl | rfl | rfl | rfl | rfl | rfl | rfl | rfl | rfl | rfl | rfl
  · obtain ⟨e1, e2⟩ := h.uniq cf0; rw [e1, e2]; exact h0
  · obtain ⟨e1, e2⟩ := h.uniq cf1; rw [e1, e2]; exact h1
  · obtain ⟨e1, e2⟩ := h.uniq cf2; rw [e1, e2]; exact h2
  · obtain ⟨e1, e2⟩ := h.uniq cf3; rw [e1, e2]; exact h3
  · obtain ⟨e1, e2⟩ := h.uniq cf4; rw [e1, e2]; exact h4
  · obtain ⟨e1, e2⟩ := h.uniq cf5; rw [e1, e2]; exact h5
  · obtain ⟨e1, e2⟩ := h.uniq cf6; rw [e1, e2]; exact h6
  · obtain ⟨e1, e2⟩ := h.uniq cf7; rw [e1, e2]; exact h7
  · obtain ⟨e1, e2⟩ := h.uniq cf8; rw [e1, e2]; exact h8
  · obtain ⟨e1, e2⟩ := h.uniq cf9; rw [e1, e2]; exact h9
  · obtain ⟨e1, e2⟩ := h.uniq cf10; rw [e1, e2]; exact h10
  · obtain ⟨e1, e2⟩ := h.uniq cf11; rw [e1, e2]; exact h11
  · obtain ⟨e1, e2⟩ := h.uniq cf12; rw [e1, e2]; exact h12
theorem allok1 : ∀ c C T, ClsF c C T → Cond.instantiable C (clN c) ∈ gw_tbl ∧ Cond.initialized C ∈ gw_tbl ∧ DefOK c := fun c C T h => clsF_cases h (P := fun c C _ => Cond.instantiable C (clN c) ∈ gw_tbl ∧ Cond.initialized C ∈ gw_tbl ∧ DefOK c) ⟨gw_mem (i := 482) (by decide +kernel) (by decide +kernel), gw_mem (i := 17) (by decide +kernel) (by decide +kernel), by unfold DefOK; decide +kernel⟩ ⟨gw_mem (i := 524) (by decide +kernel) (by decide +kernel), gw_mem (i := 20) (by decide +kernel) (by decide +kernel), by unfold DefOK; decide +kernel⟩ ⟨gw_mem (i := 92) (by decide +kernel) (by decide +kernel), gw_mem (i := 4) (by decide +kernel) (by decide +kernel), by unfold DefOK; decide +kernel⟩ ⟨gw_mem (i := 533) (by decide +kernel) (by decide +kernel), gw_mem (i := 21) (by decide +kernel) (by decide +kernel), by unfold DefOK; decide +kernel⟩ ⟨gw_mem (i := 34) (by decide +kernel) (by decide +kernel), gw_mem (i := 2) (by decide +kernel) (by decide +kernel), by unfold DefOK; decide +kernel⟩ ⟨gw_mem (i := 55) (by decide +kernel) (by decide +kernel), gw_mem (i := 3) (by decide +kernel) (by decide +kernel), by unfold DefOK; decide +kernel⟩ ⟨gw_mem (i := 506) (by decide +kernel) (by decide +kernel), gw_mem (i := 18) (by decide +kernel) (by decide +kernel), by unfold DefOK; decide +kernel⟩ ⟨gw_mem (i := 119) (by decide +kernel) (by decide +kernel), gw_mem (i := 5) (by decide +kernel) (by decide +kernel), by unfold DefOK; decide +kernel⟩ ⟨gw_mem (i := 541) (by decide +kernel) (by decide +kernel), gw_mem (i := 16) (by decide +kernel) (by decide +kernel), by unfold DefOK; decide +kernel⟩ ⟨gw_mem (i := 515) (by decide +kernel) (by decide +kernel), gw_mem (i := 19) (by decide +kernel) (by decide +kernel), by unfold DefOK; decide +kernel⟩ ⟨gw_mem (i := 325) (by decide +kernel) (by decide +kernel), gw_mem (i := 12) (by decide +kernel) (by decide +kernel), by unfold DefOK; decide +kernel⟩ ⟨gw_mem (i := 23) (by decide +kernel) (by decide +kernel), gw_mem (i := 1) (by decide +kernel) (by decide +kernel), by unfold DefOK; decide +kernel⟩ ⟨gw_mem (i := 906) (by decide +kernel) (by decide +kernel), gw_mem (i := 15) (by decide +kernel) (by decide +kernel), by unfold DefOK; decide +kernel⟩
theorem allok3 : ∀ c t, stoB c t = true → StoOK c t ∧ ∃ ce C T, ClsF ce C T ∧ C = tyR t := by
  intro c t h
  unfold stoB at h
  rw [Bool.or_eq_true, Bool.or_eq_true, Bool.or_eq_true, Bool.and_eq_true, Bool.and_eq_true, Bool.and_eq_true, Bool.and_eq_true] at h
  rcases h with ⟨h1, h2⟩ | ⟨h1, h2⟩ | ⟨h1, h2⟩ | ⟨h1, h2⟩
  · have e := Nat.eq_of_beq_eq_true h1; subst e
    have hm := tagB_mem h2
    refine ⟨?_, 8, RX8, TX8, cf8, rfl⟩
    have hc : c = 8 ∨ c = 0 ∨ c = 6 ∨ c = 9 ∨ c = 1 ∨ c = 3 := by simpa using hm
    rcases hc with rfl | rfl | rfl | rfl | rfl | rfl
    · exact ⟨RX8, TX8, cf8, Or.inl rfl⟩
    · exact ⟨RX0, TX0, cf0, Or.inr (by decide +kernel)⟩
    · exact ⟨RX6, TX6, cf6, Or.inr (by decide +kernel)⟩
    · exact ⟨RX9, TX9, cf9, Or.inr (by decide +kernel)⟩
    · exact ⟨RX1, TX1, cf1, Or.inr (by decide +kernel)⟩
    · exact ⟨RX3, TX3, cf3, Or.inr (by decide +kernel)⟩
  · have e := Nat.eq_of_beq_eq_true h1; have e2 := Nat.eq_of_beq_eq_true h2; subst e; subst e2; exact ⟨⟨RX4, TX4, cf4, Or.inl rfl⟩, 4, RX4, TX4, cf4, rfl⟩
  · have e := Nat.eq_of_beq_eq_true h1; have e2 := Nat.eq_of_beq_eq_true h2; subst e; subst e2; exact ⟨⟨RX10, TX10, cf10, Or.inl rfl⟩, 10, RX10, TX10, cf10, rfl⟩
  · have e := Nat.eq_of_beq_eq_true h1; have e2 := Nat.eq_of_beq_eq_true h2; subst e; subst e2; exact ⟨⟨RX7, TX7, cf7, Or.inl rfl⟩, 7, RX7, TX7, cf7, rfl⟩
theorem allok5 : ∀ c C T, ClsF c C T → tyR (anwT c) = C ∨ ¬ (c = 8 ∨ c = 4 ∨ c = 10 ∨ c = 7) := fun c C T h => clsF_cases h (P := fun c C _ => tyR (anwT c) = C ∨ ¬ (c = 8 ∨ c = 4 ∨ c = 10 ∨ c = 7)) (Or.inr (by decide)) (Or.inr (by decide)) (Or.inr (by decide)) (Or.inr (by decide)) (Or.inl rfl) (Or.inr (by decide)) (Or.inr (by decide)) (Or.inl rfl) (Or.inl rfl) (Or.inr (by decide)) (Or.inl rfl) (Or.inr (by decide)) (Or.inr (by decide))
theorem ak6_0 : ∀ t, (tagB (insY 0) t = true → ∃ C T, ClsF t C T ∧ (C = RX0 ∨ (C, RX0) ∈ CaL)) ∧ (tagB (insY 0) t = false → tagB [8, 0, 6, 9, 1, 3] t = true → ∃ C T, ClsF t C T ∧ ((C, RX0) ∈ NcL ∨ ¬ (0 = 0 ∨ 0 = 6 ∨ 0 = 9 ∨ 0 = 1 ∨ 0 = 3))) := (fun t => ⟨fun h => by
    have hm := tagB_mem h
    have hc : t = 0 ∨ t = 9 := by simpa [insY] using hm
    rcases hc with rfl | rfl
    · exact ⟨RX0, TX0, cf0, Or.inl rfl⟩
    · exact ⟨RX9, TX9, cf9, Or.inr (by decide +kernel)⟩
    , fun h1 h2 => by
    have hm := tagB_mem h2
    have hc : t = 8 ∨ t = 0 ∨ t = 6 ∨ t = 9 ∨ t = 1 ∨ t = 3 := by simpa using hm
    rcases hc with rfl | rfl | rfl | rfl | rfl | rfl
    · exact ⟨RX8, TX8, cf8, Or.inl (by decide +kernel)⟩
    · exact absurd h1 (by decide)
    · exact ⟨RX6, TX6, cf6, Or.inl (by decide +kernel)⟩
    · exact absurd h1 (by decide)
    · exact ⟨RX1, TX1, cf1, Or.inl (by decide +kernel)⟩
    · exact ⟨RX3, TX3, cf3, Or.inl (by decide +kernel)⟩
    ⟩)
theorem ak6_6 : ∀ t, (tagB (insY 6) t = true → ∃ C T, ClsF t C T ∧ (C = RX6 ∨ (C, RX6) ∈ CaL)) ∧ (tagB (insY 6) t = false → tagB [8, 0, 6, 9, 1, 3] t = true → ∃ C T, ClsF t C T ∧ ((C, RX6) ∈ NcL ∨ ¬ (6 = 0 ∨ 6 = 6 ∨ 6 = 9 ∨ 6 = 1 ∨ 6 = 3))) := (fun t => ⟨fun h => by
    have hm := tagB_mem h
    have hc : t = 6 ∨ t = 1 := by simpa [insY] using hm
    rcases hc with rfl | rfl
    · exact ⟨RX6, TX6, cf6, Or.inl rfl⟩
    · exact ⟨RX1, TX1, cf1, Or.inr (by decide +kernel)⟩
    , fun h1 h2 => by
    have hm := tagB_mem h2
    have hc : t = 8 ∨ t = 0 ∨ t = 6 ∨ t = 9 ∨ t = 1 ∨ t = 3 := by simpa using hm
    rcases hc with rfl | rfl | rfl | rfl | rfl | rfl
    · exact ⟨RX8, TX8, cf8, Or.inl (by decide +kernel)⟩
    · exact ⟨RX0, TX0, cf0, Or.inl (by decide +kernel)⟩
    · exact absurd h1 (by decide)
    · exact ⟨RX9, TX9, cf9, Or.inl (by decide +kernel)⟩
    · exact absurd h1 (by decide)
    · exact ⟨RX3, TX3, cf3, Or.inl (by decide +kernel)⟩
    ⟩)
theorem ak6_9 : ∀ t, (tagB (insY 9) t = true → ∃ C T, ClsF t C T ∧ (C = RX9 ∨ (C, RX9) ∈ CaL)) ∧ (tagB (insY 9) t = false → tagB [8, 0, 6, 9, 1, 3] t = true → ∃ C T, ClsF t C T ∧ ((C, RX9) ∈ NcL ∨ ¬ (9 = 0 ∨ 9 = 6 ∨ 9 = 9 ∨ 9 = 1 ∨ 9 = 3))) := (fun t => ⟨fun h => by
    have hm := tagB_mem h
    have hc : t = 9 := by simpa [insY] using hm
    subst hc
    · exact ⟨RX9, TX9, cf9, Or.inl rfl⟩
    , fun h1 h2 => by
    have hm := tagB_mem h2
    have hc : t = 8 ∨ t = 0 ∨ t = 6 ∨ t = 9 ∨ t = 1 ∨ t = 3 := by simpa using hm
    rcases hc with rfl | rfl | rfl | rfl | rfl | rfl
    · exact ⟨RX8, TX8, cf8, Or.inl (by decide +kernel)⟩
    · exact ⟨RX0, TX0, cf0, Or.inl (by decide +kernel)⟩
    · exact ⟨RX6, TX6, cf6, Or.inl (by decide +kernel)⟩
    · exact absurd h1 (by decide)
    · exact ⟨RX1, TX1, cf1, Or.inl (by decide +kernel)⟩
    · exact ⟨RX3, TX3, cf3, Or.inl (by decide +kernel)⟩
    ⟩)
theorem ak6_1 : ∀ t, (tagB (insY 1) t = true → ∃ C T, ClsF t C T ∧ (C = RX1 ∨ (C, RX1) ∈ CaL)) ∧ (tagB (insY 1) t = false → tagB [8, 0, 6, 9, 1, 3] t = true → ∃ C T, ClsF t C T ∧ ((C, RX1) ∈ NcL ∨ ¬ (1 = 0 ∨ 1 = 6 ∨ 1 = 9 ∨ 1 = 1 ∨ 1 = 3))) := (fun t => ⟨fun h => by
    have hm := tagB_mem h
    have hc : t = 1 := by simpa [insY] using hm
    subst hc
    · exact ⟨RX1, TX1, cf1, Or.inl rfl⟩
    , fun h1 h2 => by
    have hm := tagB_mem h2
    have hc : t = 8 ∨ t = 0 ∨ t = 6 ∨ t = 9 ∨ t = 1 ∨ t = 3 := by simpa using hm
    rcases hc with rfl | rfl | rfl | rfl | rfl | rfl
    · exact ⟨RX8, TX8, cf8, Or.inl (by decide +kernel)⟩
    · exact ⟨RX0, TX0, cf0, Or.inl (by decide +kernel)⟩
    · exact ⟨RX6, TX6, cf6, Or.inl (by decide +kernel)⟩
    · exact ⟨RX9, TX9, cf9, Or.inl (by decide +kernel)⟩
    · exact absurd h1 (by decide)
    · exact ⟨RX3, TX3, cf3, Or.inl (by decide +kernel)⟩
    ⟩)
theorem ak6_3 : ∀ t, (tagB (insY 3) t = true → ∃ C T, ClsF t C T ∧ (C = RX3 ∨ (C, RX3) ∈ CaL)) ∧ (tagB (insY 3) t = false → tagB [8, 0, 6, 9, 1, 3] t = true → ∃ C T, ClsF t C T ∧ ((C, RX3) ∈ NcL ∨ ¬ (3 = 0 ∨ 3 = 6 ∨ 3 = 9 ∨ 3 = 1 ∨ 3 = 3))) := (fun t => ⟨fun h => by
    have hm := tagB_mem h
    have hc : t = 3 := by simpa [insY] using hm
    subst hc
    · exact ⟨RX3, TX3, cf3, Or.inl rfl⟩
    , fun h1 h2 => by
    have hm := tagB_mem h2
    have hc : t = 8 ∨ t = 0 ∨ t = 6 ∨ t = 9 ∨ t = 1 ∨ t = 3 := by simpa using hm
    rcases hc with rfl | rfl | rfl | rfl | rfl | rfl
    · exact ⟨RX8, TX8, cf8, Or.inl (by decide +kernel)⟩
    · exact ⟨RX0, TX0, cf0, Or.inl (by decide +kernel)⟩
    · exact ⟨RX6, TX6, cf6, Or.inl (by decide +kernel)⟩
    · exact ⟨RX9, TX9, cf9, Or.inl (by decide +kernel)⟩
    · exact ⟨RX1, TX1, cf1, Or.inl (by decide +kernel)⟩
    · exact absurd h1 (by decide)
    ⟩)
/-- what the tables say of the classes at large (the walker asks the last part of the five alone that an instanceof names) -/
theorem allok : AllOK := ⟨allok1, allok3, gw_mem (i := 49) (by decide +kernel) (by decide +kernel), allok5, fun c nm T h hc => by
  rcases hc with rfl | rfl | rfl | rfl | rfl
  · obtain ⟨e1, -⟩ := h.uniq cf0; rw [e1]; exact ak6_0
  · obtain ⟨e1, -⟩ := h.uniq cf6; rw [e1]; exact ak6_6
  · obtain ⟨e1, -⟩ := h.uniq cf9; rw [e1]; exact ak6_9
  · obtain ⟨e1, -⟩ := h.uniq cf1; rw [e1]; exact ak6_1
  · obtain ⟨e1, -⟩ := h.uniq cf3; rw [e1]; exact ak6_3⟩
end
section
theorem fc {α : Type} {P : α → Prop} {a : α} {l : List α} (h : P a) (hl : ∀ e ∈ l, P e) : ∀ e ∈ a :: l, P e := fun e he => (List.mem_cons.mp he).elim (fun q => q ▸ h) (hl e)
theorem fcn {α : Type} {P : α → Prop} : ∀ e ∈ ([] : List α), P e := fun _ h => absurd h List.not_mem_nil
theorem FEok.mk {own : String} {i j c fin : Nat} {tags : List Nat} (h : ∀ q ∈ c :: tags, FldOK own i q j ∧ isR q j = isR c j ∧ tyC q j = tyC c j ∧ (fin = 0 → ∃ C T, ClsF q C T ∧ (T j).2.2.2 = false) ∧ (fin = 1 → ∃ C T, ClsF q C T ∧ (T j).2.2.2 = true ∧ (T j).1 = own)) : FEok own i j (c :: tags) fin := ⟨fun e => absurd e (List.cons_ne_nil _ _), h⟩
theorem CEok.k0 {own : String} {i n : Nat} {l : List (Nat × Mth)} (h : ∀ q ∈ l, CalS own i q.2 n) : CEok own i 0 l n := ⟨fun _ => h, fun e => absurd e (by decide), fun e => absurd e (by decide), fun e => absurd e (by decide), fun e => absurd e (by decide), fun e => absurd e (by decide), fun e => absurd e (by decide), fun e => absurd e (by decide), fun e => absurd e (by decide), fun e => absurd e (by decide)⟩
theorem CEok.k1 {own : String} {i n : Nat} {l : List (Nat × Mth)} (h : ∀ q ∈ l, (∃ host, NstOK own i q.2 n host) ∧ Cond.static q.2.1 ∈ gw_tbl) : CEok own i 1 l n := ⟨fun e => absurd e (by decide), fun _ => h, fun e => absurd e (by decide), fun e => absurd e (by decide), fun e => absurd e (by decide), fun e => absurd e (by decide), fun e => absurd e (by decide), fun e => absurd e (by decide), fun e => absurd e (by decide), fun e => absurd e (by decide)⟩
theorem CEok.k2 {own : String} {i n : Nat} {l : List (Nat × Mth)} (h : ∀ q ∈ l, CalI own i q.2 n) : CEok own i 2 l n := ⟨fun e => absurd e (by decide), fun e => absurd e (by decide), fun _ => h, fun e => absurd e (by decide), fun e => absurd e (by decide), fun e => absurd e (by decide), fun e => absurd e (by decide), fun e => absurd e (by decide), fun e => absurd e (by decide), fun e => absurd e (by decide)⟩
theorem CEok.k3 {own : String} {i n : Nat} {l : List (Nat × Mth)} (h : ∀ q ∈ l, (∃ host, NstOK own i q.2 n host) ∧ Cond.instanceMethod q.2.1 ∈ gw_tbl ∧ q.2.1.name = "<init>" ∧ q.2.2.2.2 = none) : CEok own i 3 l n := ⟨fun e => absurd e (by decide), fun e => absurd e (by decide), fun e => absurd e (by decide), fun _ => h, fun e => absurd e (by decide), fun e => absurd e (by decide), fun e => absurd e (by decide), fun e => absurd e (by decide), fun e => absurd e (by decide), fun e => absurd e (by decide)⟩
theorem CEok.k4 {own : String} {i n : Nat} {l : List (Nat × Mth)} (h : ∀ q ∈ l, CalP own i q.2 n q.1 ∨ ∃ x, CalQ own i x q.2 n q.1) : CEok own i 4 l n := ⟨fun e => absurd e (by decide), fun e => absurd e (by decide), fun e => absurd e (by decide), fun e => absurd e (by decide), fun _ => h, fun e => absurd e (by decide), fun e => absurd e (by decide), fun e => absurd e (by decide), fun e => absurd e (by decide), fun e => absurd e (by decide)⟩
theorem CEok.k5 {own : String} {i n : Nat} {l : List (Nat × Mth)} (h : ∀ q ∈ l, CalV own i q.2 n q.1 ∨ ∃ x, CalU own i x q.2 n q.1) : CEok own i 5 l n := ⟨fun e => absurd e (by decide), fun e => absurd e (by decide), fun e => absurd e (by decide), fun e => absurd e (by decide), fun e => absurd e (by decide), fun _ => h, fun e => absurd e (by decide), fun e => absurd e (by decide), fun e => absurd e (by decide), fun e => absurd e (by decide)⟩
theorem CEok.k6 {own : String} {i n : Nat} {l : List (Nat × Mth)} (h : ObjOK own i) : CEok own i 6 l n := ⟨fun e => absurd e (by decide), fun e => absurd e (by decide), fun e => absurd e (by decide), fun e => absurd e (by decide), fun e => absurd e (by decide), fun e => absurd e (by decide), fun _ => h, fun e => absurd e (by decide), fun e => absurd e (by decide), fun e => absurd e (by decide)⟩
theorem CEok.k7 {own : String} {i n : Nat} {l : List (Nat × Mth)} (h : CpyOK own i) : CEok own i 7 l n := ⟨fun e => absurd e (by decide), fun e => absurd e (by decide), fun e => absurd e (by decide), fun e => absurd e (by decide), fun e => absurd e (by decide), fun e => absurd e (by decide), fun e => absurd e (by decide), fun _ => h, fun e => absurd e (by decide), fun e => absurd e (by decide)⟩
theorem CEok.k8 {own : String} {i n : Nat} {l : List (Nat × Mth)} (h : CloOK own i) : CEok own i 8 l n := ⟨fun e => absurd e (by decide), fun e => absurd e (by decide), fun e => absurd e (by decide), fun e => absurd e (by decide), fun e => absurd e (by decide), fun e => absurd e (by decide), fun e => absurd e (by decide), fun e => absurd e (by decide), fun _ => h, fun e => absurd e (by decide)⟩
theorem CEok.k9 {own : String} {i n : Nat} {l : List (Nat × Mth)} (h : ∀ q ∈ l, CalW own i q.2 n) : CEok own i 9 l n := ⟨fun e => absurd e (by decide), fun e => absurd e (by decide), fun e => absurd e (by decide), fun e => absurd e (by decide), fun e => absurd e (by decide), fun e => absurd e (by decide), fun e => absurd e (by decide), fun e => absurd e (by decide), fun e => absurd e (by decide), fun _ => h⟩
/-! the links of UnlikeCoins$Common, by the tables -/
theorem ce0_0 : CEok RX0 1 2 [(0, m8_init)] 2 := (CEok.k2 (fc ⟨mo_m8_init, wd_486, wd_487, rfl, rfl⟩ fcn))
theorem ce0_1 : CEok RX0 7 4 [(0, m8_together), (9, m8_together)] 1 := (CEok.k4 (fc (Or.inl ⟨mo_m8_together, wd_665, wd_659, wd_661, wd_504, by decide +kernel, _, _, cf0⟩) (fc (Or.inl ⟨mo_m8_together, wd_665, wd_659, wd_661, wd_504, by decide +kernel, _, _, cf9⟩) fcn)))
def kf0 : List FE := []
def kc0 : List CE := [(1, 2, [(0, m8_init)], 2, 0, 0), (7, 4, [(0, m8_together), (9, m8_together)], 1, 0, 0)]
def kn0 : List (Nat × Nat) := []
def kl0 : List (Nat × Value) := []
def kt0 : KT := (kf0, kc0, kn0, kl0)
set_option maxRecDepth 50000 in
theorem kf0_ok : ∀ e ∈ kf0, FEok RX0 e.1 e.2.1 e.2.2.1 e.2.2.2 := fcn
set_option maxRecDepth 50000 in
theorem kc0_ok : ∀ e ∈ kc0, CEok RX0 e.1 e.2.1 e.2.2.1 e.2.2.2.1 := (fc (P := fun e : CE => CEok RX0 e.1 e.2.1 e.2.2.1 e.2.2.2.1) ce0_0 (fc (P := fun e : CE => CEok RX0 e.1 e.2.1 e.2.2.1 e.2.2.2.1) ce0_1 fcn))
theorem kn0_ok : ∀ e ∈ kn0, NEok RX0 e.1 e.2 := fcn
theorem kt0_ok {g : Gt} (hs : GS g) : KTok g RX0 kt0 := ⟨kf0_ok, kc0_ok, kn0_ok, fcn⟩
/-! the links of UnlikeCoins$Gilt, by the tables -/
theorem fe1_0 : FEok RX1 20 1 [1] 2 := (FEok.mk (fc ⟨⟨RX1, TX1, "UnlikeCoins$Gilt", cf1, by decide, wd_495, Or.inr (wd_496)⟩, rfl, rfl, fun e => absurd e (by decide), fun e => absurd e (by decide)⟩ fcn))
theorem ce1_0 : CEok RX1 1 2 [(0, m6_init)] 2 := (CEok.k2 (fc ⟨mo_m6_init, wd_528, wd_508, rfl, rfl⟩ fcn))
theorem ce1_1 : CEok RX1 17 4 [(1, m6_worthOf)] 1 := (CEok.k4 (fc (Or.inl ⟨mo_m6_worthOf, wd_630, wd_631, wd_1380, wd_531, by decide +kernel, _, _, cf1⟩) fcn))
theorem ce1_2 : CEok RX1 7 4 [(1, m8_leftOf)] 1 := (CEok.k4 (fc (Or.inr ⟨⟨"UnlikeCoins$Scarce", "leftOf", "(I)I"⟩, mo_m8_leftOf, wd_779, wd_772, wd_780, wd_531, wd_513, ⟨by decide +kernel, rfl, rfl⟩, _, _, cf1⟩) fcn))
theorem ce1_3 : CEok RX1 11 0 [(0, mJ9_max_7cf53)] 2 := (CEok.k0 (fc ⟨mo_mJ9_max_7cf53, wd_782, wd_241⟩ fcn))
def kf1 : List FE := [(20, 1, [1], 2)]
def kc1 : List CE := [(1, 2, [(0, m6_init)], 2, 0, 0), (17, 4, [(1, m6_worthOf)], 1, 0, 0), (7, 4, [(1, m8_leftOf)], 1, 0, 0), (11, 0, [(0, mJ9_max_7cf53)], 2, 0, 0)]
def kn1 : List (Nat × Nat) := []
def kl1 : List (Nat × Value) := []
def kt1 : KT := (kf1, kc1, kn1, kl1)
set_option maxRecDepth 50000 in
theorem kf1_ok : ∀ e ∈ kf1, FEok RX1 e.1 e.2.1 e.2.2.1 e.2.2.2 := (fc (P := fun e : FE => FEok RX1 e.1 e.2.1 e.2.2.1 e.2.2.2) fe1_0 fcn)
set_option maxRecDepth 50000 in
theorem kc1_ok : ∀ e ∈ kc1, CEok RX1 e.1 e.2.1 e.2.2.1 e.2.2.2.1 := (fc (P := fun e : CE => CEok RX1 e.1 e.2.1 e.2.2.1 e.2.2.2.1) ce1_0 (fc (P := fun e : CE => CEok RX1 e.1 e.2.1 e.2.2.1 e.2.2.2.1) ce1_1 (fc (P := fun e : CE => CEok RX1 e.1 e.2.1 e.2.2.1 e.2.2.2.1) ce1_2 (fc (P := fun e : CE => CEok RX1 e.1 e.2.1 e.2.2.1 e.2.2.2.1) ce1_3 fcn))))
theorem kn1_ok : ∀ e ∈ kn1, NEok RX1 e.1 e.2 := fcn
theorem kt1_ok {g : Gt} (hs : GS g) : KTok g RX1 kt1 := ⟨kf1_ok, kc1_ok, kn1_ok, fcn⟩
/-! the links of UnlikeCoins$Image, by the tables -/
theorem fe2_0 : FEok RX2 11 0 [2] 1 := (FEok.mk (fc ⟨⟨RX2, TX2, "UnlikeCoins$Image", cf2, by decide, wd_99, Or.inl rfl⟩, rfl, rfl, fun e => absurd e (by decide), fun _ => ⟨_, _, cf2, rfl, rfl⟩⟩ fcn))
theorem ce2_0 : CEok RX2 3 6 [] 0 := (CEok.k6 ⟨wd_96, wd_28, wd_29⟩)
theorem ce2_1 : CEok RX2 17 3 [(0, m4_init)] 0 := (CEok.k3 (fc ⟨⟨"UnlikeCoins", mo_m4_init, by decide +kernel⟩, wd_36, rfl, rfl⟩ fcn))
theorem ne2_0 : NEok RX2 9 4 := ⟨fun e => absurd e (by decide), fun _ => ⟨_, _, cf4, wd_97⟩⟩
def kf2 : List FE := [(11, 0, [2], 1)]
def kc2 : List CE := [(3, 6, [], 0, 0, 0), (17, 3, [(0, m4_init)], 0, 3, 18)]
def kn2 : List (Nat × Nat) := [(9, 4)]
def kl2 : List (Nat × Value) := []
def kt2 : KT := (kf2, kc2, kn2, kl2)
set_option maxRecDepth 50000 in
theorem kf2_ok : ∀ e ∈ kf2, FEok RX2 e.1 e.2.1 e.2.2.1 e.2.2.2 := (fc (P := fun e : FE => FEok RX2 e.1 e.2.1 e.2.2.1 e.2.2.2) fe2_0 fcn)
set_option maxRecDepth 50000 in
theorem kc2_ok : ∀ e ∈ kc2, CEok RX2 e.1 e.2.1 e.2.2.1 e.2.2.2.1 := (fc (P := fun e : CE => CEok RX2 e.1 e.2.1 e.2.2.1 e.2.2.2.1) ce2_0 (fc (P := fun e : CE => CEok RX2 e.1 e.2.1 e.2.2.1 e.2.2.2.1) ce2_1 fcn))
theorem kn2_ok : ∀ e ∈ kn2, NEok RX2 e.1 e.2 := (fc (P := fun e : Nat × Nat => NEok RX2 e.1 e.2) ne2_0 fcn)
theorem kt2_ok {g : Gt} (hs : GS g) : KTok g RX2 kt2 := ⟨kf2_ok, kc2_ok, kn2_ok, fcn⟩
/-! the links of UnlikeCoins$Melting, by the tables -/
theorem fe3_0 : FEok RX3 14 1 [3] 2 := (FEok.mk (fc ⟨⟨RX3, TX3, "UnlikeCoins$Melting", cf3, by decide, wd_497, Or.inr (wd_498)⟩, rfl, rfl, fun e => absurd e (by decide), fun e => absurd e (by decide)⟩ fcn))
theorem ce3_0 : CEok RX3 1 2 [(0, m8_init)] 2 := (CEok.k2 (fc ⟨mo_m8_init, wd_537, wd_487, rfl, rfl⟩ fcn))
theorem ce3_1 : CEok RX3 7 4 [(3, m8_together)] 1 := (CEok.k4 (fc (Or.inl ⟨mo_m8_together, wd_670, wd_659, wd_661, wd_540, by decide +kernel, _, _, cf3⟩) fcn))
theorem ce3_2 : CEok RX3 11 4 [(3, m8_leftOf)] 1 := (CEok.k4 (fc (Or.inl ⟨mo_m8_leftOf, wd_786, wd_772, wd_774, wd_540, by decide +kernel, _, _, cf3⟩) fcn))
def kf3 : List FE := [(14, 1, [3], 2)]
def kc3 : List CE := [(1, 2, [(0, m8_init)], 2, 0, 0), (7, 4, [(3, m8_together)], 1, 0, 0), (11, 4, [(3, m8_leftOf)], 1, 0, 0)]
def kn3 : List (Nat × Nat) := []
def kl3 : List (Nat × Value) := []
def kt3 : KT := (kf3, kc3, kn3, kl3)
set_option maxRecDepth 50000 in
theorem kf3_ok : ∀ e ∈ kf3, FEok RX3 e.1 e.2.1 e.2.2.1 e.2.2.2 := (fc (P := fun e : FE => FEok RX3 e.1 e.2.1 e.2.2.1 e.2.2.2) fe3_0 fcn)
set_option maxRecDepth 50000 in
theorem kc3_ok : ∀ e ∈ kc3, CEok RX3 e.1 e.2.1 e.2.2.1 e.2.2.2.1 := (fc (P := fun e : CE => CEok RX3 e.1 e.2.1 e.2.2.1 e.2.2.2.1) ce3_0 (fc (P := fun e : CE => CEok RX3 e.1 e.2.1 e.2.2.1 e.2.2.2.1) ce3_1 (fc (P := fun e : CE => CEok RX3 e.1 e.2.1 e.2.2.1 e.2.2.2.1) ce3_2 fcn)))
theorem kn3_ok : ∀ e ∈ kn3, NEok RX3 e.1 e.2 := fcn
theorem kt3_ok {g : Gt} (hs : GS g) : KTok g RX3 kt3 := ⟨kf3_ok, kc3_ok, kn3_ok, fcn⟩
/-! the links of UnlikeCoins$Purse, by the tables -/
theorem fe4_0 : FEok RX4 9 0 [4] 1 := (FEok.mk (fc ⟨⟨RX4, TX4, "UnlikeCoins$Purse", cf4, by decide, wd_39, Or.inl rfl⟩, rfl, rfl, fun e => absurd e (by decide), fun _ => ⟨_, _, cf4, rfl, rfl⟩⟩ fcn))
theorem fe4_1 : FEok RX4 15 1 [4] 1 := (FEok.mk (fc ⟨⟨RX4, TX4, "UnlikeCoins$Purse", cf4, by decide, wd_40, Or.inl rfl⟩, rfl, rfl, fun e => absurd e (by decide), fun _ => ⟨_, _, cf4, rfl, rfl⟩⟩ fcn))
theorem fe4_2 : FEok RX4 18 2 [4] 1 := (FEok.mk (fc ⟨⟨RX4, TX4, "UnlikeCoins$Purse", cf4, by decide, wd_41, Or.inl rfl⟩, rfl, rfl, fun e => absurd e (by decide), fun _ => ⟨_, _, cf4, rfl, rfl⟩⟩ fcn))
theorem ce4_0 : CEok RX4 3 6 [] 0 := (CEok.k6 ⟨wd_38, wd_28, wd_29⟩)
theorem ce4_1 : CEok RX4 37 0 [(0, mJ7_fill_53178)] 2 := (CEok.k0 (fc ⟨mo_mJ7_fill_53178, wd_582, wd_583⟩ fcn))
theorem ce4_2 : CEok RX4 21 1 [(0, m11_within)] 3 := (CEok.k1 (fc ⟨⟨"UnlikeCoins", mo_m11_within, by decide +kernel⟩, wd_205⟩ fcn))
theorem ce4_3 : CEok RX4 43 5 [(8, m8_worthOf), (0, m8_worthOf), (6, m6_worthOf), (9, m8_worthOf), (1, m1_worthOf), (3, m8_worthOf)] 1 := (CEok.k5 (fc (Or.inl ⟨mo_m8_worthOf, wd_622, wd_623, _, _, cf8, rfl, wd_624⟩) (fc (Or.inr ⟨yX8_worthOf, mo_m8_worthOf, wd_622, wd_623, _, _, "UnlikeCoins$Sort", m8_worthOf.2.1, m8_worthOf.2.2.1, m8_worthOf.2.2.2, cf0, wd_625, wd_623, wd_637, wd_626, ⟨by decide +kernel, by decide +kernel⟩, by decide +kernel⟩) (fc (Or.inr ⟨yX8_worthOf, mo_m6_worthOf, wd_622, wd_631, _, _, "UnlikeCoins$Sort", m8_worthOf.2.1, m8_worthOf.2.2.1, m8_worthOf.2.2.2, cf6, wd_625, wd_623, wd_637, wd_635, ⟨by decide +kernel, by decide +kernel⟩, by decide +kernel⟩) (fc (Or.inr ⟨yX8_worthOf, mo_m8_worthOf, wd_622, wd_623, _, _, "UnlikeCoins$Sort", m8_worthOf.2.1, m8_worthOf.2.2.1, m8_worthOf.2.2.2, cf9, wd_625, wd_623, wd_637, wd_636, ⟨by decide +kernel, by decide +kernel⟩, by decide +kernel⟩) (fc (Or.inr ⟨yX8_worthOf, mo_m1_worthOf, wd_622, wd_628, _, _, "UnlikeCoins$Sort", m8_worthOf.2.1, m8_worthOf.2.2.1, m8_worthOf.2.2.2, cf1, wd_625, wd_623, wd_637, wd_627, ⟨by decide +kernel, by decide +kernel⟩, by decide +kernel⟩) (fc (Or.inr ⟨yX8_worthOf, mo_m8_worthOf, wd_622, wd_623, _, _, "UnlikeCoins$Sort", m8_worthOf.2.1, m8_worthOf.2.2.1, m8_worthOf.2.2.2, cf3, wd_625, wd_623, wd_637, wd_634, ⟨by decide +kernel, by decide +kernel⟩, by decide +kernel⟩) fcn)))))))
theorem ce4_4 : CEok RX4 31 7 [] 5 := (CEok.k7 ⟨wd_653, wd_339, wd_338, wd_14⟩)
theorem ce4_5 : CEok RX4 49 5 [(8, m8_together), (0, m0_together), (6, m8_together), (9, m9_together), (1, m8_together), (3, m3_together)] 1 := (CEok.k5 (fc (Or.inl ⟨mo_m8_together, wd_658, wd_659, _, _, cf8, rfl, wd_660⟩) (fc (Or.inr ⟨yX8_together, mo_m0_together, wd_658, wd_663, _, _, "UnlikeCoins$Sort", m8_together.2.1, m8_together.2.2.1, m8_together.2.2.2, cf0, wd_661, wd_659, wd_676, wd_662, ⟨by decide +kernel, by decide +kernel⟩, by decide +kernel⟩) (fc (Or.inr ⟨yX8_together, mo_m8_together, wd_658, wd_659, _, _, "UnlikeCoins$Sort", m8_together.2.1, m8_together.2.2.1, m8_together.2.2.2, cf6, wd_661, wd_659, wd_676, wd_671, ⟨by decide +kernel, by decide +kernel⟩, by decide +kernel⟩) (fc (Or.inr ⟨yX8_together, mo_m9_together, wd_658, wd_673, _, _, "UnlikeCoins$Sort", m8_together.2.1, m8_together.2.2.1, m8_together.2.2.2, cf9, wd_661, wd_659, wd_676, wd_672, ⟨by decide +kernel, by decide +kernel⟩, by decide +kernel⟩) (fc (Or.inr ⟨yX8_together, mo_m8_together, wd_658, wd_659, _, _, "UnlikeCoins$Sort", m8_together.2.1, m8_together.2.2.1, m8_together.2.2.2, cf1, wd_661, wd_659, wd_676, wd_666, ⟨by decide +kernel, by decide +kernel⟩, by decide +kernel⟩) (fc (Or.inr ⟨yX8_together, mo_m3_together, wd_658, wd_668, _, _, "UnlikeCoins$Sort", m8_together.2.1, m8_together.2.2.1, m8_together.2.2.2, cf3, wd_661, wd_659, wd_676, wd_667, ⟨by decide +kernel, by decide +kernel⟩, by decide +kernel⟩) fcn)))))))
theorem ce4_6 : CEok RX4 52 5 [(4, m4_mostPlentiful)] 0 := (CEok.k5 (fc (Or.inl ⟨mo_m4_mostPlentiful, wd_677, wd_679, _, _, cf4, rfl, gw_sel (q := (yX4_mostPlentiful, 3)) (i := 21) (by decide +kernel) (by decide +kernel)⟩) fcn))
theorem ce4_7 : CEok RX4 25 0 [(0, mJ9_min_7cf53)] 2 := (CEok.k0 (fc ⟨mo_mJ9_min_7cf53, wd_705, wd_244⟩ fcn))
def kf4 : List FE := [(9, 0, [4], 1), (15, 1, [4], 1), (18, 2, [4], 1)]
def kc4 : List CE := [(3, 6, [], 0, 0, 0), (37, 0, [(0, mJ7_fill_53178)], 2, 0, 0), (21, 1, [(0, m11_within)], 3, 0, 0), (43, 5, [(8, m8_worthOf), (0, m8_worthOf), (6, m6_worthOf), (9, m8_worthOf), (1, m1_worthOf), (3, m8_worthOf)], 1, 0, 0), (31, 7, [], 5, 0, 0), (49, 5, [(8, m8_together), (0, m0_together), (6, m8_together), (9, m9_together), (1, m8_together), (3, m3_together)], 1, 0, 0), (52, 5, [(4, m4_mostPlentiful)], 0, 0, 0), (25, 0, [(0, mJ9_min_7cf53)], 2, 0, 0)]
def kn4 : List (Nat × Nat) := []
def kl4 : List (Nat × Value) := []
def kt4 : KT := (kf4, kc4, kn4, kl4)
set_option maxRecDepth 50000 in
theorem kf4_ok : ∀ e ∈ kf4, FEok RX4 e.1 e.2.1 e.2.2.1 e.2.2.2 := (fc (P := fun e : FE => FEok RX4 e.1 e.2.1 e.2.2.1 e.2.2.2) fe4_0 (fc (P := fun e : FE => FEok RX4 e.1 e.2.1 e.2.2.1 e.2.2.2) fe4_1 (fc (P := fun e : FE => FEok RX4 e.1 e.2.1 e.2.2.1 e.2.2.2) fe4_2 fcn)))
set_option maxRecDepth 50000 in
theorem kc4_ok : ∀ e ∈ kc4, CEok RX4 e.1 e.2.1 e.2.2.1 e.2.2.2.1 := (fc (P := fun e : CE => CEok RX4 e.1 e.2.1 e.2.2.1 e.2.2.2.1) ce4_0 (fc (P := fun e : CE => CEok RX4 e.1 e.2.1 e.2.2.1 e.2.2.2.1) ce4_1 (fc (P := fun e : CE => CEok RX4 e.1 e.2.1 e.2.2.1 e.2.2.2.1) ce4_2 (fc (P := fun e : CE => CEok RX4 e.1 e.2.1 e.2.2.1 e.2.2.2.1) ce4_3 (fc (P := fun e : CE => CEok RX4 e.1 e.2.1 e.2.2.1 e.2.2.2.1) ce4_4 (fc (P := fun e : CE => CEok RX4 e.1 e.2.1 e.2.2.1 e.2.2.2.1) ce4_5 (fc (P := fun e : CE => CEok RX4 e.1 e.2.1 e.2.2.1 e.2.2.2.1) ce4_6 (fc (P := fun e : CE => CEok RX4 e.1 e.2.1 e.2.2.1 e.2.2.2.1) ce4_7 fcn))))))))
theorem kn4_ok : ∀ e ∈ kn4, NEok RX4 e.1 e.2 := fcn
theorem kt4_ok {g : Gt} (hs : GS g) : KTok g RX4 kt4 := ⟨kf4_ok, kc4_ok, kn4_ok, fcn⟩
/-! the links of UnlikeCoins$Reader, by the tables -/
theorem fe5_0 : FEok RX5 9 0 [5] 1 := (FEok.mk (fc ⟨⟨RX5, TX5, "UnlikeCoins$Reader", cf5, by decide, wd_60, Or.inl rfl⟩, rfl, rfl, fun e => absurd e (by decide), fun _ => ⟨_, _, cf5, rfl, rfl⟩⟩ fcn))
theorem fe5_1 : FEok RX5 15 1 [5] 1 := (FEok.mk (fc ⟨⟨RX5, TX5, "UnlikeCoins$Reader", cf5, by decide, wd_61, Or.inl rfl⟩, rfl, rfl, fun e => absurd e (by decide), fun _ => ⟨_, _, cf5, rfl, rfl⟩⟩ fcn))
theorem fe5_2 : FEok RX5 18 2 [5] 1 := (FEok.mk (fc ⟨⟨RX5, TX5, "UnlikeCoins$Reader", cf5, by decide, wd_62, Or.inl rfl⟩, rfl, rfl, fun e => absurd e (by decide), fun _ => ⟨_, _, cf5, rfl, rfl⟩⟩ fcn))
theorem fe5_3 : FEok RX5 21 3 [5] 0 := (FEok.mk (fc ⟨⟨RX5, TX5, "UnlikeCoins$Reader", cf5, by decide, wd_63, Or.inl rfl⟩, rfl, rfl, fun _ => ⟨_, _, cf5, rfl⟩, fun e => absurd e (by decide)⟩ fcn))
theorem fe5_4 : FEok RX5 25 4 [5] 0 := (FEok.mk (fc ⟨⟨RX5, TX5, "UnlikeCoins$Reader", cf5, by decide, wd_64, Or.inl rfl⟩, rfl, rfl, fun _ => ⟨_, _, cf5, rfl⟩, fun e => absurd e (by decide)⟩ fcn))
theorem fe5_5 : FEok RX5 42 5 [5] 0 := (FEok.mk (fc ⟨⟨RX5, TX5, "UnlikeCoins$Reader", cf5, by decide, wd_65, Or.inl rfl⟩, rfl, rfl, fun _ => ⟨_, _, cf5, rfl⟩, fun e => absurd e (by decide)⟩ fcn))
theorem fe5_6 : FEok RX5 59 6 [5] 0 := (FEok.mk (fc ⟨⟨RX5, TX5, "UnlikeCoins$Reader", cf5, by decide, wd_66, Or.inl rfl⟩, rfl, rfl, fun _ => ⟨_, _, cf5, rfl⟩, fun e => absurd e (by decide)⟩ fcn))
theorem fe5_7 : FEok RX5 88 7 [5] 0 := (FEok.mk (fc ⟨⟨RX5, TX5, "UnlikeCoins$Reader", cf5, by decide, wd_67, Or.inl rfl⟩, rfl, rfl, fun _ => ⟨_, _, cf5, rfl⟩, fun e => absurd e (by decide)⟩ fcn))
theorem fe5_8 : FEok RX5 45 8 [5] 0 := (FEok.mk (fc ⟨⟨RX5, TX5, "UnlikeCoins$Reader", cf5, by decide, wd_68, Or.inl rfl⟩, rfl, rfl, fun _ => ⟨_, _, cf5, rfl⟩, fun e => absurd e (by decide)⟩ fcn))
theorem fe5_9 : FEok RX5 30 9 [5] 0 := (FEok.mk (fc ⟨⟨RX5, TX5, "UnlikeCoins$Reader", cf5, by decide, wd_69, Or.inl rfl⟩, rfl, rfl, fun _ => ⟨_, _, cf5, rfl⟩, fun e => absurd e (by decide)⟩ fcn))
theorem ce5_0 : CEok RX5 3 6 [] 0 := (CEok.k6 ⟨wd_59, wd_28, wd_29⟩)
theorem ce5_1 : CEok RX5 48 5 [(5, m5_advance)] 0 := (CEok.k5 (fc (Or.inl ⟨mo_m5_advance, wd_194, wd_196, _, _, cf5, rfl, gw_sel (q := (yX5_advance, 10)) (i := 0) (by decide +kernel) (by decide +kernel)⟩) fcn))
theorem ce5_2 : CEok RX5 91 0 [(0, m5_isBlank)] 1 := (CEok.k0 (fc ⟨mo_m5_isBlank, wd_198, wd_199⟩ fcn))
theorem ce5_3 : CEok RX5 94 0 [(0, m5_isLetter)] 1 := (CEok.k0 (fc ⟨mo_m5_isLetter, wd_201, wd_202⟩ fcn))
theorem ce5_4 : CEok RX5 84 1 [(0, m11_within)] 3 := (CEok.k1 (fc ⟨⟨"UnlikeCoins", mo_m11_within, by decide +kernel⟩, wd_205⟩ fcn))
theorem ce5_5 : CEok RX5 97 5 [(5, m5_readWord)] 0 := (CEok.k5 (fc (Or.inl ⟨mo_m5_readWord, wd_207, wd_209, _, _, cf5, rfl, gw_sel (q := (yX5_readWord, 10)) (i := 1) (by decide +kernel) (by decide +kernel)⟩) fcn))
theorem ce5_6 : CEok RX5 114 5 [(5, m5_isWord)] 1 := (CEok.k5 (fc (Or.inl ⟨mo_m5_isWord, wd_211, wd_213, _, _, cf5, rfl, gw_sel (q := (yX5_isWord, 10)) (i := 2) (by decide +kernel) (by decide +kernel)⟩) fcn))
theorem ce5_7 : CEok RX5 119 9 [(0, mJ0_charAt_5068e)] 1 := (CEok.k9 (fc ⟨mo_mJ0_charAt_5068e, wd_216, wd_149, wd_150⟩ fcn))
theorem ce5_8 : CEok RX5 100 0 [(0, m5_isDigit)] 1 := (CEok.k0 (fc ⟨mo_m5_isDigit, wd_217, wd_218⟩ fcn))
theorem ce5_9 : CEok RX5 103 5 [(5, m5_readNumber)] 0 := (CEok.k5 (fc (Or.inl ⟨mo_m5_readNumber, wd_220, wd_222, _, _, cf5, rfl, gw_sel (q := (yX5_readNumber, 10)) (i := 3) (by decide +kernel) (by decide +kernel)⟩) fcn))
theorem ce5_10 : CEok RX5 108 9 [(0, mJ0_indexOf_0f7a4)] 1 := (CEok.k9 (fc ⟨mo_mJ0_indexOf_0f7a4, wd_225, wd_226, wd_227⟩ fcn))
theorem ce5_11 : CEok RX5 51 5 [(5, m5_readToken)] 1 := (CEok.k5 (fc (Or.inl ⟨mo_m5_readToken, wd_284, wd_286, _, _, cf5, rfl, gw_sel (q := (yX5_readToken, 10)) (i := 4) (by decide +kernel) (by decide +kernel)⟩) fcn))
theorem ce5_12 : CEok RX5 55 5 [(5, m5_readEither)] 0 := (CEok.k5 (fc (Or.inl ⟨mo_m5_readEither, wd_288, wd_290, _, _, cf5, rfl, gw_sel (q := (yX5_readEither, 10)) (i := 5) (by decide +kernel) (by decide +kernel)⟩) fcn))
theorem ce5_13 : CEok RX5 62 5 [(5, m5_readBoth)] 0 := (CEok.k5 (fc (Or.inl ⟨mo_m5_readBoth, wd_292, wd_294, _, _, cf5, rfl, gw_sel (q := (yX5_readBoth, 10)) (i := 6) (by decide +kernel) (by decide +kernel)⟩) fcn))
theorem ce5_14 : CEok RX5 69 5 [(5, m5_readDenied)] 0 := (CEok.k5 (fc (Or.inl ⟨mo_m5_readDenied, wd_296, wd_298, _, _, cf5, rfl, gw_sel (q := (yX5_readDenied, 10)) (i := 7) (by decide +kernel) (by decide +kernel)⟩) fcn))
theorem ce5_15 : CEok RX5 72 5 [(5, m5_readCompared)] 0 := (CEok.k5 (fc (Or.inl ⟨mo_m5_readCompared, wd_300, wd_302, _, _, cf5, rfl, gw_sel (q := (yX5_readCompared, 10)) (i := 8) (by decide +kernel) (by decide +kernel)⟩) fcn))
theorem ce5_16 : CEok RX5 75 5 [(5, m5_readSum)] 0 := (CEok.k5 (fc (Or.inl ⟨mo_m5_readSum, wd_304, wd_306, _, _, cf5, rfl, gw_sel (q := (yX5_readSum, 10)) (i := 9) (by decide +kernel) (by decide +kernel)⟩) fcn))
theorem ce5_17 : CEok RX5 78 5 [(5, m5_readTerm)] 0 := (CEok.k5 (fc (Or.inl ⟨mo_m5_readTerm, wd_308, wd_310, _, _, cf5, rfl, gw_sel (q := (yX5_readTerm, 10)) (i := 10) (by decide +kernel) (by decide +kernel)⟩) fcn))
theorem ce5_18 : CEok RX5 81 5 [(5, m5_readOne)] 0 := (CEok.k5 (fc (Or.inl ⟨mo_m5_readOne, wd_312, wd_314, _, _, cf5, rfl, gw_sel (q := (yX5_readOne, 10)) (i := 11) (by decide +kernel) (by decide +kernel)⟩) fcn))
theorem ce5_19 : CEok RX5 65 5 [(5, m5_emit)] 1 := (CEok.k5 (fc (Or.inl ⟨mo_m5_emit, wd_316, wd_318, _, _, cf5, rfl, gw_sel (q := (yX5_emit, 10)) (i := 12) (by decide +kernel) (by decide +kernel)⟩) fcn))
theorem ce5_20 : CEok RX5 33 0 [(0, mJ7_copyOf_59c91)] 2 := (CEok.k0 (fc ⟨mo_mJ7_copyOf_59c91, wd_326, wd_327⟩ fcn))
theorem ce5_21 : CEok RX5 39 2 [(0, m10_init)] 2 := (CEok.k2 (fc ⟨mo_m10_init, wd_340, wd_341, rfl, rfl⟩ fcn))
theorem ne5_0 : NEok RX5 28 10 := ⟨fun e => absurd e (by decide), fun _ => ⟨_, _, cf10, wd_324⟩⟩
def kf5 : List FE := [(9, 0, [5], 1), (15, 1, [5], 1), (18, 2, [5], 1), (21, 3, [5], 0), (25, 4, [5], 0), (42, 5, [5], 0), (59, 6, [5], 0), (88, 7, [5], 0), (45, 8, [5], 0), (30, 9, [5], 0)]
def kc5 : List CE := [(3, 6, [], 0, 0, 0), (48, 5, [(5, m5_advance)], 0, 0, 0), (91, 0, [(0, m5_isBlank)], 1, 0, 0), (94, 0, [(0, m5_isLetter)], 1, 0, 0), (84, 1, [(0, m11_within)], 3, 0, 0), (97, 5, [(5, m5_readWord)], 0, 0, 0), (114, 5, [(5, m5_isWord)], 1, 0, 0), (119, 9, [(0, mJ0_charAt_5068e)], 1, 0, 0), (100, 0, [(0, m5_isDigit)], 1, 0, 0), (103, 5, [(5, m5_readNumber)], 0, 0, 0), (108, 9, [(0, mJ0_indexOf_0f7a4)], 1, 0, 0), (51, 5, [(5, m5_readToken)], 1, 0, 0), (55, 5, [(5, m5_readEither)], 0, 0, 0), (62, 5, [(5, m5_readBoth)], 0, 0, 0), (69, 5, [(5, m5_readDenied)], 0, 0, 0), (72, 5, [(5, m5_readCompared)], 0, 0, 0), (75, 5, [(5, m5_readSum)], 0, 0, 0), (78, 5, [(5, m5_readTerm)], 0, 0, 0), (81, 5, [(5, m5_readOne)], 0, 0, 0), (65, 5, [(5, m5_emit)], 1, 0, 0), (33, 0, [(0, mJ7_copyOf_59c91)], 2, 1, 160), (39, 2, [(0, m10_init)], 2, 1, 32)]
def kn5 : List (Nat × Nat) := [(28, 10)]
def kl5 : List (Nat × Value) := [(117, .ref 3), (106, .ref 2)]
def kt5 : KT := (kf5, kc5, kn5, kl5)
set_option maxRecDepth 50000 in
theorem kf5_ok : ∀ e ∈ kf5, FEok RX5 e.1 e.2.1 e.2.2.1 e.2.2.2 := (fc (P := fun e : FE => FEok RX5 e.1 e.2.1 e.2.2.1 e.2.2.2) fe5_0 (fc (P := fun e : FE => FEok RX5 e.1 e.2.1 e.2.2.1 e.2.2.2) fe5_1 (fc (P := fun e : FE => FEok RX5 e.1 e.2.1 e.2.2.1 e.2.2.2) fe5_2 (fc (P := fun e : FE => FEok RX5 e.1 e.2.1 e.2.2.1 e.2.2.2) fe5_3 (fc (P := fun e : FE => FEok RX5 e.1 e.2.1 e.2.2.1 e.2.2.2) fe5_4 (fc (P := fun e : FE => FEok RX5 e.1 e.2.1 e.2.2.1 e.2.2.2) fe5_5 (fc (P := fun e : FE => FEok RX5 e.1 e.2.1 e.2.2.1 e.2.2.2) fe5_6 (fc (P := fun e : FE => FEok RX5 e.1 e.2.1 e.2.2.1 e.2.2.2) fe5_7 (fc (P := fun e : FE => FEok RX5 e.1 e.2.1 e.2.2.1 e.2.2.2) fe5_8 (fc (P := fun e : FE => FEok RX5 e.1 e.2.1 e.2.2.1 e.2.2.2) fe5_9 fcn))))))))))
set_option maxRecDepth 50000 in
theorem kc5_ok : ∀ e ∈ kc5, CEok RX5 e.1 e.2.1 e.2.2.1 e.2.2.2.1 := (fc (P := fun e : CE => CEok RX5 e.1 e.2.1 e.2.2.1 e.2.2.2.1) ce5_0 (fc (P := fun e : CE => CEok RX5 e.1 e.2.1 e.2.2.1 e.2.2.2.1) ce5_1 (fc (P := fun e : CE => CEok RX5 e.1 e.2.1 e.2.2.1 e.2.2.2.1) ce5_2 (fc (P := fun e : CE => CEok RX5 e.1 e.2.1 e.2.2.1 e.2.2.2.1) ce5_3 (fc (P := fun e : CE => CEok RX5 e.1 e.2.1 e.2.2.1 e.2.2.2.1) ce5_4 (fc (P := fun e : CE => CEok RX5 e.1 e.2.1 e.2.2.1 e.2.2.2.1) ce5_5 (fc (P := fun e : CE => CEok RX5 e.1 e.2.1 e.2.2.1 e.2.2.2.1) ce5_6 (fc (P := fun e : CE => CEok RX5 e.1 e.2.1 e.2.2.1 e.2.2.2.1) ce5_7 (fc (P := fun e : CE => CEok RX5 e.1 e.2.1 e.2.2.1 e.2.2.2.1) ce5_8 (fc (P := fun e : CE => CEok RX5 e.1 e.2.1 e.2.2.1 e.2.2.2.1) ce5_9 (fc (P := fun e : CE => CEok RX5 e.1 e.2.1 e.2.2.1 e.2.2.2.1) ce5_10 (fc (P := fun e : CE => CEok RX5 e.1 e.2.1 e.2.2.1 e.2.2.2.1) ce5_11 (fc (P := fun e : CE => CEok RX5 e.1 e.2.1 e.2.2.1 e.2.2.2.1) ce5_12 (fc (P := fun e : CE => CEok RX5 e.1 e.2.1 e.2.2.1 e.2.2.2.1) ce5_13 (fc (P := fun e : CE => CEok RX5 e.1 e.2.1 e.2.2.1 e.2.2.2.1) ce5_14 (fc (P := fun e : CE => CEok RX5 e.1 e.2.1 e.2.2.1 e.2.2.2.1) ce5_15 (fc (P := fun e : CE => CEok RX5 e.1 e.2.1 e.2.2.1 e.2.2.2.1) ce5_16 (fc (P := fun e : CE => CEok RX5 e.1 e.2.1 e.2.2.1 e.2.2.2.1) ce5_17 (fc (P := fun e : CE => CEok RX5 e.1 e.2.1 e.2.2.1 e.2.2.2.1) ce5_18 (fc (P := fun e : CE => CEok RX5 e.1 e.2.1 e.2.2.1 e.2.2.2.1) ce5_19 (fc (P := fun e : CE => CEok RX5 e.1 e.2.1 e.2.2.1 e.2.2.2.1) ce5_20 (fc (P := fun e : CE => CEok RX5 e.1 e.2.1 e.2.2.1 e.2.2.2.1) ce5_21 fcn))))))))))))))))))))))
theorem kn5_ok : ∀ e ∈ kn5, NEok RX5 e.1 e.2 := (fc (P := fun e : Nat × Nat => NEok RX5 e.1 e.2) ne5_0 fcn)
theorem kt5_ok {g : Gt} (hs : GS g) : KTok g RX5 kt5 := ⟨kf5_ok, kc5_ok, kn5_ok, (fc (P := fun e : Nat × Value => LEok g RX5 e.1 e.2) ⟨sx2, fun s H hX => (hs.2.2.1 s H hX).2.2.1.2.2⟩ (fc (P := fun e : Nat × Value => LEok g RX5 e.1 e.2) ⟨sx1, fun s H hX => (hs.2.2.1 s H hX).2.2.1.2.1⟩ fcn))⟩
/-! the links of UnlikeCoins$Scarce, by the tables -/
theorem ce6_0 : CEok RX6 1 2 [(0, m8_init)] 2 := (CEok.k2 (fc ⟨mo_m8_init, wd_510, wd_487, rfl, rfl⟩ fcn))
theorem ce6_1 : CEok RX6 7 4 [(6, m8_worthOf), (1, m8_worthOf)] 1 := (CEok.k4 (fc (Or.inl ⟨mo_m8_worthOf, wd_633, wd_623, wd_625, wd_513, by decide +kernel, _, _, cf6⟩) (fc (Or.inl ⟨mo_m8_worthOf, wd_633, wd_623, wd_625, wd_513, by decide +kernel, _, _, cf1⟩) fcn)))
def kf6 : List FE := []
def kc6 : List CE := [(1, 2, [(0, m8_init)], 2, 0, 0), (7, 4, [(6, m8_worthOf), (1, m8_worthOf)], 1, 0, 0)]
def kn6 : List (Nat × Nat) := []
def kl6 : List (Nat × Value) := []
def kt6 : KT := (kf6, kc6, kn6, kl6)
set_option maxRecDepth 50000 in
theorem kf6_ok : ∀ e ∈ kf6, FEok RX6 e.1 e.2.1 e.2.2.1 e.2.2.2 := fcn
set_option maxRecDepth 50000 in
theorem kc6_ok : ∀ e ∈ kc6, CEok RX6 e.1 e.2.1 e.2.2.1 e.2.2.2.1 := (fc (P := fun e : CE => CEok RX6 e.1 e.2.1 e.2.2.1 e.2.2.2.1) ce6_0 (fc (P := fun e : CE => CEok RX6 e.1 e.2.1 e.2.2.1 e.2.2.2.1) ce6_1 fcn))
theorem kn6_ok : ∀ e ∈ kn6, NEok RX6 e.1 e.2 := fcn
theorem kt6_ok {g : Gt} (hs : GS g) : KTok g RX6 kt6 := ⟨kf6_ok, kc6_ok, kn6_ok, fcn⟩
/-! the links of UnlikeCoins$Sheet, by the tables -/
theorem fe7_0 : FEok RX7 9 0 [7] 1 := (FEok.mk (fc ⟨⟨RX7, TX7, "UnlikeCoins$Sheet", cf7, by decide, wd_124, Or.inl rfl⟩, rfl, rfl, fun e => absurd e (by decide), fun _ => ⟨_, _, cf7, rfl, rfl⟩⟩ fcn))
theorem fe7_1 : FEok RX7 15 1 [7] 0 := (FEok.mk (fc ⟨⟨RX7, TX7, "UnlikeCoins$Sheet", cf7, by decide, wd_126, Or.inl rfl⟩, rfl, rfl, fun _ => ⟨_, _, cf7, rfl⟩, fun e => absurd e (by decide)⟩ fcn))
theorem fe7_2 : FEok RX7 23 2 [7] 0 := (FEok.mk (fc ⟨⟨RX7, TX7, "UnlikeCoins$Sheet", cf7, by decide, wd_128, Or.inl rfl⟩, rfl, rfl, fun _ => ⟨_, _, cf7, rfl⟩, fun e => absurd e (by decide)⟩ fcn))
theorem ce7_0 : CEok RX7 3 6 [] 0 := (CEok.k6 ⟨wd_123, wd_28, wd_29⟩)
theorem ce7_1 : CEok RX7 19 5 [(7, m7_isMissing)] 0 := (CEok.k5 (fc (Or.inl ⟨mo_m7_isMissing, wd_802, wd_803, _, _, cf7, rfl, wd_804⟩) fcn))
theorem ce7_2 : CEok RX7 32 5 [(7, m7_holds)] 2 := (CEok.k5 (fc (Or.inl ⟨mo_m7_holds, wd_815, wd_816, _, _, cf7, rfl, wd_817⟩) fcn))
theorem ce7_3 : CEok RX7 26 0 [(0, mJ7_fill_53178)] 2 := (CEok.k0 (fc ⟨mo_mJ7_fill_53178, wd_839, wd_583⟩ fcn))
def kf7 : List FE := [(9, 0, [7], 1), (15, 1, [7], 0), (23, 2, [7], 0)]
def kc7 : List CE := [(3, 6, [], 0, 0, 0), (19, 5, [(7, m7_isMissing)], 0, 0, 0), (32, 5, [(7, m7_holds)], 2, 0, 0), (26, 0, [(0, mJ7_fill_53178)], 2, 0, 0)]
def kn7 : List (Nat × Nat) := []
def kl7 : List (Nat × Value) := []
def kt7 : KT := (kf7, kc7, kn7, kl7)
set_option maxRecDepth 50000 in
theorem kf7_ok : ∀ e ∈ kf7, FEok RX7 e.1 e.2.1 e.2.2.1 e.2.2.2 := (fc (P := fun e : FE => FEok RX7 e.1 e.2.1 e.2.2.1 e.2.2.2) fe7_0 (fc (P := fun e : FE => FEok RX7 e.1 e.2.1 e.2.2.1 e.2.2.2) fe7_1 (fc (P := fun e : FE => FEok RX7 e.1 e.2.1 e.2.2.1 e.2.2.2) fe7_2 fcn)))
set_option maxRecDepth 50000 in
theorem kc7_ok : ∀ e ∈ kc7, CEok RX7 e.1 e.2.1 e.2.2.1 e.2.2.2.1 := (fc (P := fun e : CE => CEok RX7 e.1 e.2.1 e.2.2.1 e.2.2.2.1) ce7_0 (fc (P := fun e : CE => CEok RX7 e.1 e.2.1 e.2.2.1 e.2.2.2.1) ce7_1 (fc (P := fun e : CE => CEok RX7 e.1 e.2.1 e.2.2.1 e.2.2.2.1) ce7_2 (fc (P := fun e : CE => CEok RX7 e.1 e.2.1 e.2.2.1 e.2.2.2.1) ce7_3 fcn))))
theorem kn7_ok : ∀ e ∈ kn7, NEok RX7 e.1 e.2 := fcn
theorem kt7_ok {g : Gt} (hs : GS g) : KTok g RX7 kt7 := ⟨kf7_ok, kc7_ok, kn7_ok, fcn⟩
/-! the links of UnlikeCoins$Sort, by the tables -/
theorem fe8_0 : FEok RX8 7 0 [8, 0, 6, 9, 1, 3] 1 := (FEok.mk (fc ⟨⟨RX8, TX8, "UnlikeCoins$Sort", cf8, by decide, wd_490, Or.inl rfl⟩, rfl, rfl, fun e => absurd e (by decide), fun _ => ⟨_, _, cf8, rfl, rfl⟩⟩ (fc ⟨⟨RX0, TX0, "UnlikeCoins$Sort", cf0, by decide, wd_490, Or.inl rfl⟩, rfl, rfl, fun e => absurd e (by decide), fun _ => ⟨_, _, cf0, rfl, rfl⟩⟩ (fc ⟨⟨RX6, TX6, "UnlikeCoins$Sort", cf6, by decide, wd_490, Or.inl rfl⟩, rfl, rfl, fun e => absurd e (by decide), fun _ => ⟨_, _, cf6, rfl, rfl⟩⟩ (fc ⟨⟨RX9, TX9, "UnlikeCoins$Sort", cf9, by decide, wd_490, Or.inl rfl⟩, rfl, rfl, fun e => absurd e (by decide), fun _ => ⟨_, _, cf9, rfl, rfl⟩⟩ (fc ⟨⟨RX1, TX1, "UnlikeCoins$Sort", cf1, by decide, wd_490, Or.inl rfl⟩, rfl, rfl, fun e => absurd e (by decide), fun _ => ⟨_, _, cf1, rfl, rfl⟩⟩ (fc ⟨⟨RX3, TX3, "UnlikeCoins$Sort", cf3, by decide, wd_490, Or.inl rfl⟩, rfl, rfl, fun e => absurd e (by decide), fun _ => ⟨_, _, cf3, rfl, rfl⟩⟩ fcn)))))))
theorem fe8_1 : FEok RX8 13 1 [8, 0, 6, 9, 1, 3] 1 := (FEok.mk (fc ⟨⟨RX8, TX8, "UnlikeCoins$Sort", cf8, by decide, wd_492, Or.inl rfl⟩, rfl, rfl, fun e => absurd e (by decide), fun _ => ⟨_, _, cf8, rfl, rfl⟩⟩ (fc ⟨⟨RX0, TX0, "UnlikeCoins$Sort", cf0, by decide, wd_492, Or.inl rfl⟩, rfl, rfl, fun e => absurd e (by decide), fun _ => ⟨_, _, cf0, rfl, rfl⟩⟩ (fc ⟨⟨RX6, TX6, "UnlikeCoins$Sort", cf6, by decide, wd_492, Or.inl rfl⟩, rfl, rfl, fun e => absurd e (by decide), fun _ => ⟨_, _, cf6, rfl, rfl⟩⟩ (fc ⟨⟨RX9, TX9, "UnlikeCoins$Sort", cf9, by decide, wd_492, Or.inl rfl⟩, rfl, rfl, fun e => absurd e (by decide), fun _ => ⟨_, _, cf9, rfl, rfl⟩⟩ (fc ⟨⟨RX1, TX1, "UnlikeCoins$Sort", cf1, by decide, wd_492, Or.inl rfl⟩, rfl, rfl, fun e => absurd e (by decide), fun _ => ⟨_, _, cf1, rfl, rfl⟩⟩ (fc ⟨⟨RX3, TX3, "UnlikeCoins$Sort", cf3, by decide, wd_492, Or.inl rfl⟩, rfl, rfl, fun e => absurd e (by decide), fun _ => ⟨_, _, cf3, rfl, rfl⟩⟩ fcn)))))))
theorem ce8_0 : CEok RX8 1 6 [] 0 := (CEok.k6 ⟨wd_489, wd_28, wd_29⟩)
def kf8 : List FE := [(7, 0, [8, 0, 6, 9, 1, 3], 1), (13, 1, [8, 0, 6, 9, 1, 3], 1)]
def kc8 : List CE := [(1, 6, [], 0, 0, 0)]
def kn8 : List (Nat × Nat) := []
def kl8 : List (Nat × Value) := []
def kt8 : KT := (kf8, kc8, kn8, kl8)
set_option maxRecDepth 50000 in
theorem kf8_ok : ∀ e ∈ kf8, FEok RX8 e.1 e.2.1 e.2.2.1 e.2.2.2 := (fc (P := fun e : FE => FEok RX8 e.1 e.2.1 e.2.2.1 e.2.2.2) fe8_0 (fc (P := fun e : FE => FEok RX8 e.1 e.2.1 e.2.2.1 e.2.2.2) fe8_1 fcn))
set_option maxRecDepth 50000 in
theorem kc8_ok : ∀ e ∈ kc8, CEok RX8 e.1 e.2.1 e.2.2.1 e.2.2.2.1 := (fc (P := fun e : CE => CEok RX8 e.1 e.2.1 e.2.2.1 e.2.2.2.1) ce8_0 fcn)
theorem kn8_ok : ∀ e ∈ kn8, NEok RX8 e.1 e.2 := fcn
theorem kt8_ok {g : Gt} (hs : GS g) : KTok g RX8 kt8 := ⟨kf8_ok, kc8_ok, kn8_ok, fcn⟩
/-! the links of UnlikeCoins$Stamped, by the tables -/
theorem fe9_0 : FEok RX9 7 1 [9] 2 := (FEok.mk (fc ⟨⟨RX9, TX9, "UnlikeCoins$Stamped", cf9, by decide, wd_493, Or.inr (wd_494)⟩, rfl, rfl, fun e => absurd e (by decide), fun e => absurd e (by decide)⟩ fcn))
theorem ce9_0 : CEok RX9 1 2 [(0, m0_init)] 2 := (CEok.k2 (fc ⟨mo_m0_init, wd_519, wd_484, rfl, rfl⟩ fcn))
theorem ce9_1 : CEok RX9 13 4 [(9, m0_together)] 1 := (CEok.k4 (fc (Or.inl ⟨mo_m0_together, wd_675, wd_663, wd_1381, wd_522, by decide +kernel, _, _, cf9⟩) fcn))
def kf9 : List FE := [(7, 1, [9], 2)]
def kc9 : List CE := [(1, 2, [(0, m0_init)], 2, 0, 0), (13, 4, [(9, m0_together)], 1, 0, 0)]
def kn9 : List (Nat × Nat) := []
def kl9 : List (Nat × Value) := []
def kt9 : KT := (kf9, kc9, kn9, kl9)
set_option maxRecDepth 50000 in
theorem kf9_ok : ∀ e ∈ kf9, FEok RX9 e.1 e.2.1 e.2.2.1 e.2.2.2 := (fc (P := fun e : FE => FEok RX9 e.1 e.2.1 e.2.2.1 e.2.2.2) fe9_0 fcn)
set_option maxRecDepth 50000 in
theorem kc9_ok : ∀ e ∈ kc9, CEok RX9 e.1 e.2.1 e.2.2.1 e.2.2.2.1 := (fc (P := fun e : CE => CEok RX9 e.1 e.2.1 e.2.2.1 e.2.2.2.1) ce9_0 (fc (P := fun e : CE => CEok RX9 e.1 e.2.1 e.2.2.1 e.2.2.2.1) ce9_1 fcn))
theorem kn9_ok : ∀ e ∈ kn9, NEok RX9 e.1 e.2 := fcn
theorem kt9_ok {g : Gt} (hs : GS g) : KTok g RX9 kt9 := ⟨kf9_ok, kc9_ok, kn9_ok, fcn⟩
/-! the links of UnlikeCoins$Text, by the tables -/
theorem fe10_0 : FEok RX10 15 0 [10] 1 := (FEok.mk (fc ⟨⟨RX10, TX10, "UnlikeCoins$Text", cf10, by decide, wd_344, Or.inl rfl⟩, rfl, rfl, fun e => absurd e (by decide), fun _ => ⟨_, _, cf10, rfl, rfl⟩⟩ fcn))
theorem fe10_1 : FEok RX10 18 1 [10] 1 := (FEok.mk (fc ⟨⟨RX10, TX10, "UnlikeCoins$Text", cf10, by decide, wd_345, Or.inl rfl⟩, rfl, rfl, fun e => absurd e (by decide), fun _ => ⟨_, _, cf10, rfl, rfl⟩⟩ fcn))
theorem fe10_2 : FEok RX10 11 2 [10] 1 := (FEok.mk (fc ⟨⟨RX10, TX10, "UnlikeCoins$Text", cf10, by decide, wd_346, Or.inl rfl⟩, rfl, rfl, fun e => absurd e (by decide), fun _ => ⟨_, _, cf10, rfl, rfl⟩⟩ fcn))
theorem fe10_3 : FEok RX10 25 3 [10] 0 := (FEok.mk (fc ⟨⟨RX10, TX10, "UnlikeCoins$Text", cf10, by decide, wd_347, Or.inl rfl⟩, rfl, rfl, fun _ => ⟨_, _, cf10, rfl⟩, fun e => absurd e (by decide)⟩ fcn))
theorem ce10_0 : CEok RX10 3 6 [] 0 := (CEok.k6 ⟨wd_343, wd_28, wd_29⟩)
theorem ce10_1 : CEok RX10 21 1 [(0, m11_within)] 3 := (CEok.k1 (fc ⟨⟨"UnlikeCoins", mo_m11_within, by decide +kernel⟩, wd_205⟩ fcn))
theorem ce10_2 : CEok RX10 29 0 [(0, mJ9_max_7cf53)] 2 := (CEok.k0 (fc ⟨mo_mJ9_max_7cf53, wd_457, wd_241⟩ fcn))
theorem ce10_3 : CEok RX10 35 5 [(10, m10_step)] 2 := (CEok.k5 (fc (Or.inl ⟨mo_m10_step, wd_458, wd_460, _, _, cf10, rfl, gw_sel (q := (yX10_step, 4)) (i := 15) (by decide +kernel) (by decide +kernel)⟩) fcn))
theorem ce10_4 : CEok RX10 46 5 [(10, m10_push)] 1 := (CEok.k5 (fc (Or.inl ⟨mo_m10_push, wd_462, wd_464, _, _, cf10, rfl, gw_sel (q := (yX10_push, 4)) (i := 16) (by decide +kernel) (by decide +kernel)⟩) fcn))
theorem ce10_5 : CEok RX10 39 5 [(10, m10_pop)] 0 := (CEok.k5 (fc (Or.inl ⟨mo_m10_pop, wd_466, wd_468, _, _, cf10, rfl, gw_sel (q := (yX10_pop, 4)) (i := 17) (by decide +kernel) (by decide +kernel)⟩) fcn))
theorem ce10_6 : CEok RX10 50 0 [(0, m10_reckon)] 3 := (CEok.k0 (fc ⟨mo_m10_reckon, wd_470, wd_471⟩ fcn))
theorem ce10_7 : CEok RX10 43 0 [(0, mJ9_min_7cf53)] 2 := (CEok.k0 (fc ⟨mo_mJ9_min_7cf53, wd_473, wd_244⟩ fcn))
def kf10 : List FE := [(15, 0, [10], 1), (18, 1, [10], 1), (11, 2, [10], 1), (25, 3, [10], 0)]
def kc10 : List CE := [(3, 6, [], 0, 0, 0), (21, 1, [(0, m11_within)], 3, 0, 0), (29, 0, [(0, mJ9_max_7cf53)], 2, 0, 0), (35, 5, [(10, m10_step)], 2, 0, 0), (46, 5, [(10, m10_push)], 1, 0, 0), (39, 5, [(10, m10_pop)], 0, 0, 0), (50, 0, [(0, m10_reckon)], 3, 0, 0), (43, 0, [(0, mJ9_min_7cf53)], 2, 0, 0)]
def kn10 : List (Nat × Nat) := []
def kl10 : List (Nat × Value) := []
def kt10 : KT := (kf10, kc10, kn10, kl10)
set_option maxRecDepth 50000 in
theorem kf10_ok : ∀ e ∈ kf10, FEok RX10 e.1 e.2.1 e.2.2.1 e.2.2.2 := (fc (P := fun e : FE => FEok RX10 e.1 e.2.1 e.2.2.1 e.2.2.2) fe10_0 (fc (P := fun e : FE => FEok RX10 e.1 e.2.1 e.2.2.1 e.2.2.2) fe10_1 (fc (P := fun e : FE => FEok RX10 e.1 e.2.1 e.2.2.1 e.2.2.2) fe10_2 (fc (P := fun e : FE => FEok RX10 e.1 e.2.1 e.2.2.1 e.2.2.2) fe10_3 fcn))))
set_option maxRecDepth 50000 in
theorem kc10_ok : ∀ e ∈ kc10, CEok RX10 e.1 e.2.1 e.2.2.1 e.2.2.2.1 := (fc (P := fun e : CE => CEok RX10 e.1 e.2.1 e.2.2.1 e.2.2.2.1) ce10_0 (fc (P := fun e : CE => CEok RX10 e.1 e.2.1 e.2.2.1 e.2.2.2.1) ce10_1 (fc (P := fun e : CE => CEok RX10 e.1 e.2.1 e.2.2.1 e.2.2.2.1) ce10_2 (fc (P := fun e : CE => CEok RX10 e.1 e.2.1 e.2.2.1 e.2.2.2.1) ce10_3 (fc (P := fun e : CE => CEok RX10 e.1 e.2.1 e.2.2.1 e.2.2.2.1) ce10_4 (fc (P := fun e : CE => CEok RX10 e.1 e.2.1 e.2.2.1 e.2.2.2.1) ce10_5 (fc (P := fun e : CE => CEok RX10 e.1 e.2.1 e.2.2.1 e.2.2.2.1) ce10_6 (fc (P := fun e : CE => CEok RX10 e.1 e.2.1 e.2.2.1 e.2.2.2.1) ce10_7 fcn))))))))
theorem kn10_ok : ∀ e ∈ kn10, NEok RX10 e.1 e.2 := fcn
theorem kt10_ok {g : Gt} (hs : GS g) : KTok g RX10 kt10 := ⟨kf10_ok, kc10_ok, kn10_ok, fcn⟩
/-! the links of UnlikeCoinsLaw, by the tables -/
theorem ceL_0 : CEok RL 9 2 [(0, m11_init)] 0 := (CEok.k2 (fc ⟨mo_m11_init, wd_24, wd_25, rfl, rfl⟩ fcn))
theorem ceL_1 : CEok RL 13 5 [(11, m11_count)] 1 := (CEok.k5 (fc (Or.inl ⟨mo_m11_count, wd_408, wd_409, _, _, cf11, rfl, wd_410⟩) fcn))
theorem ceL_2 : CEok RL 18 5 [(11, m11_feed)] 6 := (CEok.k5 (fc (Or.inl ⟨mo_m11_feed, wd_416, wd_417, _, _, cf11, rfl, wd_418⟩) fcn))
theorem ceL_3 : CEok RL 23 5 [(11, m11_text)] 0 := (CEok.k5 (fc (Or.inl ⟨mo_m11_text, wd_428, wd_429, _, _, cf11, rfl, wd_430⟩) fcn))
theorem ceL_4 : CEok RL 28 5 [(11, m11_force)] 1 := (CEok.k5 (fc (Or.inl ⟨mo_m11_force, wd_436, wd_437, _, _, cf11, rfl, wd_438⟩) fcn))
theorem ceL_5 : CEok RL 32 5 [(11, m11_asks)] 4 := (CEok.k5 (fc (Or.inl ⟨mo_m11_asks, wd_440, wd_441, _, _, cf11, rfl, wd_442⟩) fcn))
theorem ceL_6 : CEok RL 37 5 [(11, m11_sort)] 3 := (CEok.k5 (fc (Or.inl ⟨mo_m11_sort, wd_474, wd_475, _, _, cf11, rfl, wd_476⟩) fcn))
theorem ceL_7 : CEok RL 42 5 [(11, m11_told)] 2 := (CEok.k5 (fc (Or.inl ⟨mo_m11_told, wd_546, wd_547, _, _, cf11, rfl, wd_548⟩) fcn))
theorem ceL_8 : CEok RL 47 5 [(11, m11_purse)] 0 := (CEok.k5 (fc (Or.inl ⟨mo_m11_purse, wd_574, wd_575, _, _, cf11, rfl, wd_576⟩) fcn))
theorem ceL_9 : CEok RL 51 5 [(11, m11_set)] 3 := (CEok.k5 (fc (Or.inl ⟨mo_m11_set, wd_585, wd_586, _, _, cf11, rfl, wd_587⟩) fcn))
theorem ceL_10 : CEok RL 55 5 [(11, m11_of)] 2 := (CEok.k5 (fc (Or.inl ⟨mo_m11_of, wd_602, wd_603, _, _, cf11, rfl, wd_604⟩) fcn))
theorem ceL_11 : CEok RL 59 5 [(11, m11_all)] 2 := (CEok.k5 (fc (Or.inl ⟨mo_m11_all, wd_606, wd_607, _, _, cf11, rfl, wd_608⟩) fcn))
theorem ceL_12 : CEok RL 63 5 [(11, m11_often)] 3 := (CEok.k5 (fc (Or.inl ⟨mo_m11_often, wd_638, wd_639, _, _, cf11, rfl, wd_640⟩) fcn))
theorem ceL_13 : CEok RL 67 5 [(11, m11_buy)] 2 := (CEok.k5 (fc (Or.inl ⟨mo_m11_buy, wd_685, wd_686, _, _, cf11, rfl, wd_687⟩) fcn))
theorem ceL_14 : CEok RL 71 5 [(11, m11_two)] 4 := (CEok.k5 (fc (Or.inl ⟨mo_m11_two, wd_689, wd_690, _, _, cf11, rfl, wd_691⟩) fcn))
theorem ceL_15 : CEok RL 75 5 [(11, m11_price)] 1 := (CEok.k5 (fc (Or.inl ⟨mo_m11_price, wd_693, wd_694, _, _, cf11, rfl, wd_695⟩) fcn))
theorem ceL_16 : CEok RL 79 5 [(11, m11_idle)] 2 := (CEok.k5 (fc (Or.inl ⟨mo_m11_idle, wd_706, wd_707, _, _, cf11, rfl, wd_708⟩) fcn))
theorem ceL_17 : CEok RL 83 5 [(11, m11_dearest)] 2 := (CEok.k5 (fc (Or.inl ⟨mo_m11_dearest, wd_710, wd_711, _, _, cf11, rfl, wd_712⟩) fcn))
theorem ceL_18 : CEok RL 87 5 [(11, m11_swap)] 3 := (CEok.k5 (fc (Or.inl ⟨mo_m11_swap, wd_714, wd_715, _, _, cf11, rfl, wd_716⟩) fcn))
theorem ceL_19 : CEok RL 91 5 [(11, m11_best)] 4 := (CEok.k5 (fc (Or.inl ⟨mo_m11_best, wd_729, wd_730, _, _, cf11, rfl, wd_731⟩) fcn))
theorem ceL_20 : CEok RL 95 5 [(11, m11_lacks)] 2 := (CEok.k5 (fc (Or.inl ⟨mo_m11_lacks, wd_737, wd_738, _, _, cf11, rfl, wd_739⟩) fcn))
theorem ceL_21 : CEok RL 99 5 [(11, m11_thief)] 3 := (CEok.k5 (fc (Or.inl ⟨mo_m11_thief, wd_741, wd_742, _, _, cf11, rfl, wd_743⟩) fcn))
theorem ceL_22 : CEok RL 103 5 [(11, m11_rob)] 1 := (CEok.k5 (fc (Or.inl ⟨mo_m11_rob, wd_745, wd_746, _, _, cf11, rfl, wd_747⟩) fcn))
theorem ceL_23 : CEok RL 107 5 [(11, m11_wage)] 4 := (CEok.k5 (fc (Or.inl ⟨mo_m11_wage, wd_749, wd_750, _, _, cf11, rfl, wd_751⟩) fcn))
theorem ceL_24 : CEok RL 111 5 [(11, m11_strike)] 2 := (CEok.k5 (fc (Or.inl ⟨mo_m11_strike, wd_758, wd_759, _, _, cf11, rfl, wd_760⟩) fcn))
theorem ceL_25 : CEok RL 115 5 [(11, m11_pass)] 0 := (CEok.k5 (fc (Or.inl ⟨mo_m11_pass, wd_762, wd_763, _, _, cf11, rfl, wd_764⟩) fcn))
theorem ceL_26 : CEok RL 119 5 [(11, m11_judge)] 2 := (CEok.k5 (fc (Or.inl ⟨mo_m11_judge, wd_790, wd_791, _, _, cf11, rfl, wd_792⟩) fcn))
theorem ceL_27 : CEok RL 123 5 [(11, m11_whose)] 1 := (CEok.k5 (fc (Or.inl ⟨mo_m11_whose, wd_819, wd_820, _, _, cf11, rfl, wd_821⟩) fcn))
theorem ceL_28 : CEok RL 127 5 [(11, m11_was)] 2 := (CEok.k5 (fc (Or.inl ⟨mo_m11_was, wd_823, wd_824, _, _, cf11, rfl, wd_825⟩) fcn))
theorem ceL_29 : CEok RL 131 5 [(11, m11_film)] 3 := (CEok.k5 (fc (Or.inl ⟨mo_m11_film, wd_831, wd_832, _, _, cf11, rfl, wd_833⟩) fcn))
theorem ceL_30 : CEok RL 135 5 [(11, m11_laws)] 3 := (CEok.k5 (fc (Or.inl ⟨mo_m11_laws, wd_844, wd_845, _, _, cf11, rfl, wd_846⟩) fcn))
theorem ceL_31 : CEok RL 139 5 [(11, m11_drawn)] 2 := (CEok.k5 (fc (Or.inl ⟨mo_m11_drawn, wd_849, wd_850, _, _, cf11, rfl, wd_851⟩) fcn))
theorem ceL_32 : CEok RL 143 5 [(11, m11_mean)] 4 := (CEok.k5 (fc (Or.inl ⟨mo_m11_mean, wd_863, wd_864, _, _, cf11, rfl, wd_865⟩) fcn))
theorem ceL_33 : CEok RL 148 5 [(11, m11_image)] 0 := (CEok.k5 (fc (Or.inl ⟨mo_m11_image, wd_871, wd_872, _, _, cf11, rfl, wd_873⟩) fcn))
theorem ceL_34 : CEok RL 152 5 [(11, m11_back)] 0 := (CEok.k5 (fc (Or.inl ⟨mo_m11_back, wd_875, wd_876, _, _, cf11, rfl, wd_877⟩) fcn))
theorem ceL_35 : CEok RL 156 5 [(11, m11_sheet)] 3 := (CEok.k5 (fc (Or.inl ⟨mo_m11_sheet, wd_879, wd_880, _, _, cf11, rfl, wd_881⟩) fcn))
theorem ceL_36 : CEok RL 160 5 [(11, m11_cell)] 3 := (CEok.k5 (fc (Or.inl ⟨mo_m11_cell, wd_883, wd_884, _, _, cf11, rfl, wd_885⟩) fcn))
theorem ceL_37 : CEok RL 164 5 [(11, m11_copy)] 5 := (CEok.k5 (fc (Or.inl ⟨mo_m11_copy, wd_888, wd_889, _, _, cf11, rfl, wd_890⟩) fcn))
theorem ceL_38 : CEok RL 169 5 [(11, m11_coinsBy)] 4 := (CEok.k5 (fc (Or.inl ⟨mo_m11_coinsBy, wd_893, wd_894, _, _, cf11, rfl, wd_895⟩) fcn))
theorem ceL_39 : CEok RL 173 5 [(11, m11_taken)] 2 := (CEok.k5 (fc (Or.inl ⟨mo_m11_taken, wd_898, wd_899, _, _, cf11, rfl, wd_900⟩) fcn))
theorem ceL_40 : CEok RL 12 2 [(0, m12_init)] 0 := (CEok.k2 (fc ⟨mo_m12_init, wd_907, wd_908, rfl, rfl⟩ fcn))
theorem ceL_41 : CEok RL 17 5 [(12, m12_count)] 1 := (CEok.k5 (fc (Or.inl ⟨mo_m12_count, wd_1079, wd_1080, _, _, cf12, rfl, wd_1081⟩) fcn))
theorem ceL_42 : CEok RL 22 5 [(12, m12_feed)] 6 := (CEok.k5 (fc (Or.inl ⟨mo_m12_feed, wd_1083, wd_1084, _, _, cf12, rfl, wd_1085⟩) fcn))
theorem ceL_43 : CEok RL 27 5 [(12, m12_text)] 0 := (CEok.k5 (fc (Or.inl ⟨mo_m12_text, wd_1090, wd_912, _, _, cf12, rfl, wd_913⟩) fcn))
theorem ceL_44 : CEok RL 31 5 [(12, m12_force)] 1 := (CEok.k5 (fc (Or.inl ⟨mo_m12_force, wd_1091, wd_1092, _, _, cf12, rfl, wd_1093⟩) fcn))
theorem ceL_45 : CEok RL 36 5 [(12, m12_asks)] 4 := (CEok.k5 (fc (Or.inl ⟨mo_m12_asks, wd_1095, wd_1096, _, _, cf12, rfl, wd_1097⟩) fcn))
theorem ceL_46 : CEok RL 41 5 [(12, m12_sort)] 3 := (CEok.k5 (fc (Or.inl ⟨mo_m12_sort, wd_1113, wd_1114, _, _, cf12, rfl, wd_1115⟩) fcn))
theorem ceL_47 : CEok RL 46 5 [(12, m12_told)] 2 := (CEok.k5 (fc (Or.inl ⟨mo_m12_told, wd_1117, wd_1118, _, _, cf12, rfl, wd_1119⟩) fcn))
theorem ceL_48 : CEok RL 50 5 [(12, m12_purse)] 0 := (CEok.k5 (fc (Or.inl ⟨mo_m12_purse, wd_1125, wd_1126, _, _, cf12, rfl, wd_1127⟩) fcn))
theorem ceL_49 : CEok RL 54 5 [(12, m12_set)] 3 := (CEok.k5 (fc (Or.inl ⟨mo_m12_set, wd_1129, wd_1130, _, _, cf12, rfl, wd_1131⟩) fcn))
theorem ceL_50 : CEok RL 58 5 [(12, m12_of)] 2 := (CEok.k5 (fc (Or.inl ⟨mo_m12_of, wd_1137, wd_1138, _, _, cf12, rfl, wd_1139⟩) fcn))
theorem ceL_51 : CEok RL 62 5 [(12, m12_all)] 2 := (CEok.k5 (fc (Or.inl ⟨mo_m12_all, wd_1141, wd_1142, _, _, cf12, rfl, wd_1143⟩) fcn))
theorem ceL_52 : CEok RL 66 5 [(12, m12_often)] 3 := (CEok.k5 (fc (Or.inl ⟨mo_m12_often, wd_1149, wd_1150, _, _, cf12, rfl, wd_1151⟩) fcn))
theorem ceL_53 : CEok RL 70 5 [(12, m12_buy)] 2 := (CEok.k5 (fc (Or.inl ⟨mo_m12_buy, wd_1188, wd_1189, _, _, cf12, rfl, wd_1190⟩) fcn))
theorem ceL_54 : CEok RL 74 5 [(12, m12_two_)] 4 := (CEok.k5 (fc (Or.inl ⟨mo_m12_two_, wd_1196, wd_1197, _, _, cf12, rfl, wd_1198⟩) fcn))
theorem ceL_55 : CEok RL 78 5 [(12, m12_price)] 1 := (CEok.k5 (fc (Or.inl ⟨mo_m12_price, wd_1204, wd_1205, _, _, cf12, rfl, wd_1206⟩) fcn))
theorem ceL_56 : CEok RL 82 5 [(12, m12_idle)] 2 := (CEok.k5 (fc (Or.inl ⟨mo_m12_idle, wd_1212, wd_1213, _, _, cf12, rfl, wd_1214⟩) fcn))
theorem ceL_57 : CEok RL 86 5 [(12, m12_dearest)] 2 := (CEok.k5 (fc (Or.inl ⟨mo_m12_dearest, wd_1216, wd_1217, _, _, cf12, rfl, wd_1218⟩) fcn))
theorem ceL_58 : CEok RL 90 5 [(12, m12_swap)] 3 := (CEok.k5 (fc (Or.inl ⟨mo_m12_swap, wd_1220, wd_1221, _, _, cf12, rfl, wd_1222⟩) fcn))
theorem ceL_59 : CEok RL 94 5 [(12, m12_best)] 4 := (CEok.k5 (fc (Or.inl ⟨mo_m12_best, wd_1240, wd_1241, _, _, cf12, rfl, wd_1242⟩) fcn))
theorem ceL_60 : CEok RL 98 5 [(12, m12_lacks)] 2 := (CEok.k5 (fc (Or.inl ⟨mo_m12_lacks, wd_1244, wd_1245, _, _, cf12, rfl, wd_1246⟩) fcn))
theorem ceL_61 : CEok RL 102 5 [(12, m12_thief)] 3 := (CEok.k5 (fc (Or.inl ⟨mo_m12_thief, wd_1252, wd_1253, _, _, cf12, rfl, wd_1254⟩) fcn))
theorem ceL_62 : CEok RL 106 5 [(12, m12_rob)] 1 := (CEok.k5 (fc (Or.inl ⟨mo_m12_rob, wd_1256, wd_1257, _, _, cf12, rfl, wd_1258⟩) fcn))
theorem ceL_63 : CEok RL 110 5 [(12, m12_wage)] 4 := (CEok.k5 (fc (Or.inl ⟨mo_m12_wage, wd_1260, wd_1261, _, _, cf12, rfl, wd_1262⟩) fcn))
theorem ceL_64 : CEok RL 114 5 [(12, m12_strike)] 2 := (CEok.k5 (fc (Or.inl ⟨mo_m12_strike, wd_1276, wd_1277, _, _, cf12, rfl, wd_1278⟩) fcn))
theorem ceL_65 : CEok RL 118 5 [(12, m12_pass)] 0 := (CEok.k5 (fc (Or.inl ⟨mo_m12_pass, wd_1280, wd_1281, _, _, cf12, rfl, wd_1282⟩) fcn))
theorem ceL_66 : CEok RL 122 5 [(12, m12_judge)] 2 := (CEok.k5 (fc (Or.inl ⟨mo_m12_judge, wd_1288, wd_1289, _, _, cf12, rfl, wd_1290⟩) fcn))
theorem ceL_67 : CEok RL 126 5 [(12, m12_whose)] 1 := (CEok.k5 (fc (Or.inl ⟨mo_m12_whose, wd_1304, wd_1305, _, _, cf12, rfl, wd_1306⟩) fcn))
theorem ceL_68 : CEok RL 130 5 [(12, m12_was)] 2 := (CEok.k5 (fc (Or.inl ⟨mo_m12_was, wd_1308, wd_1309, _, _, cf12, rfl, wd_1310⟩) fcn))
theorem ceL_69 : CEok RL 134 5 [(12, m12_film)] 3 := (CEok.k5 (fc (Or.inl ⟨mo_m12_film, wd_1312, wd_1313, _, _, cf12, rfl, wd_1314⟩) fcn))
theorem ceL_70 : CEok RL 138 5 [(12, m12_laws)] 3 := (CEok.k5 (fc (Or.inl ⟨mo_m12_laws, wd_1316, wd_1317, _, _, cf12, rfl, wd_1318⟩) fcn))
theorem ceL_71 : CEok RL 142 5 [(12, m12_drawn)] 2 := (CEok.k5 (fc (Or.inl ⟨mo_m12_drawn, wd_1321, wd_1322, _, _, cf12, rfl, wd_1323⟩) fcn))
theorem ceL_72 : CEok RL 147 5 [(12, m12_mean)] 4 := (CEok.k5 (fc (Or.inl ⟨mo_m12_mean, wd_1336, wd_1337, _, _, cf12, rfl, wd_1338⟩) fcn))
theorem ceL_73 : CEok RL 151 5 [(12, m12_image)] 0 := (CEok.k5 (fc (Or.inl ⟨mo_m12_image, wd_1344, wd_1345, _, _, cf12, rfl, wd_1346⟩) fcn))
theorem ceL_74 : CEok RL 155 5 [(12, m12_back)] 0 := (CEok.k5 (fc (Or.inl ⟨mo_m12_back, wd_1348, wd_1349, _, _, cf12, rfl, wd_1350⟩) fcn))
theorem ceL_75 : CEok RL 159 5 [(12, m12_sheet)] 3 := (CEok.k5 (fc (Or.inl ⟨mo_m12_sheet, wd_1352, wd_1353, _, _, cf12, rfl, wd_1354⟩) fcn))
theorem ceL_76 : CEok RL 163 5 [(12, m12_cell)] 3 := (CEok.k5 (fc (Or.inl ⟨mo_m12_cell, wd_1356, wd_1357, _, _, cf12, rfl, wd_1358⟩) fcn))
theorem ceL_77 : CEok RL 168 5 [(12, m12_copy)] 5 := (CEok.k5 (fc (Or.inl ⟨mo_m12_copy, wd_1360, wd_1361, _, _, cf12, rfl, wd_1362⟩) fcn))
theorem ceL_78 : CEok RL 172 5 [(12, m12_coinsBy)] 4 := (CEok.k5 (fc (Or.inl ⟨mo_m12_coinsBy, wd_1364, wd_1365, _, _, cf12, rfl, wd_1366⟩) fcn))
theorem ceL_79 : CEok RL 176 5 [(12, m12_taken)] 2 := (CEok.k5 (fc (Or.inl ⟨mo_m12_taken, wd_1369, wd_1370, _, _, cf12, rfl, wd_1371⟩) fcn))
theorem neL_0 : NEok RL 7 11 := ⟨fun e => absurd e (by decide), fun _ => ⟨_, _, cf11, wd_22⟩⟩
theorem neL_1 : NEok RL 10 12 := ⟨fun e => absurd e (by decide), fun _ => ⟨_, _, cf12, wd_905⟩⟩
def kfL : List FE := []
def kcL : List CE := [(9, 2, [(0, m11_init)], 0, 92, 1261), (13, 5, [(11, m11_count)], 1, 0, 0), (18, 5, [(11, m11_feed)], 6, 0, 0), (23, 5, [(11, m11_text)], 0, 4, 356), (28, 5, [(11, m11_force)], 1, 0, 0), (32, 5, [(11, m11_asks)], 4, 0, 0), (37, 5, [(11, m11_sort)], 3, 1, 2), (42, 5, [(11, m11_told)], 2, 0, 0), (47, 5, [(11, m11_purse)], 0, 0, 0), (51, 5, [(11, m11_set)], 3, 0, 0), (55, 5, [(11, m11_of)], 2, 0, 0), (59, 5, [(11, m11_all)], 2, 0, 0), (63, 5, [(11, m11_often)], 3, 0, 0), (67, 5, [(11, m11_buy)], 2, 0, 0), (71, 5, [(11, m11_two)], 4, 0, 0), (75, 5, [(11, m11_price)], 1, 0, 0), (79, 5, [(11, m11_idle)], 2, 0, 0), (83, 5, [(11, m11_dearest)], 2, 0, 0), (87, 5, [(11, m11_swap)], 3, 0, 0), (91, 5, [(11, m11_best)], 4, 0, 0), (95, 5, [(11, m11_lacks)], 2, 0, 0), (99, 5, [(11, m11_thief)], 3, 0, 0), (103, 5, [(11, m11_rob)], 1, 0, 0), (107, 5, [(11, m11_wage)], 4, 0, 0), (111, 5, [(11, m11_strike)], 2, 0, 0), (115, 5, [(11, m11_pass)], 0, 0, 0), (119, 5, [(11, m11_judge)], 2, 0, 0), (123, 5, [(11, m11_whose)], 1, 0, 0), (127, 5, [(11, m11_was)], 2, 0, 0), (131, 5, [(11, m11_film)], 3, 0, 0), (135, 5, [(11, m11_laws)], 3, 0, 0), (139, 5, [(11, m11_drawn)], 2, 0, 0), (143, 5, [(11, m11_mean)], 4, 0, 0), (148, 5, [(11, m11_image)], 0, 0, 0), (152, 5, [(11, m11_back)], 0, 0, 0), (156, 5, [(11, m11_sheet)], 3, 0, 0), (160, 5, [(11, m11_cell)], 3, 0, 0), (164, 5, [(11, m11_copy)], 5, 0, 0), (169, 5, [(11, m11_coinsBy)], 4, 0, 0), (173, 5, [(11, m11_taken)], 2, 0, 0), (12, 2, [(0, m12_init)], 0, 22, 2224), (17, 5, [(12, m12_count)], 1, 0, 0), (22, 5, [(12, m12_feed)], 6, 0, 0), (27, 5, [(12, m12_text)], 0, 0, 0), (31, 5, [(12, m12_force)], 1, 0, 0), (36, 5, [(12, m12_asks)], 4, 0, 0), (41, 5, [(12, m12_sort)], 3, 0, 0), (46, 5, [(12, m12_told)], 2, 0, 0), (50, 5, [(12, m12_purse)], 0, 0, 0), (54, 5, [(12, m12_set)], 3, 0, 0), (58, 5, [(12, m12_of)], 2, 0, 0), (62, 5, [(12, m12_all)], 2, 0, 0), (66, 5, [(12, m12_often)], 3, 0, 0), (70, 5, [(12, m12_buy)], 2, 0, 0), (74, 5, [(12, m12_two_)], 4, 0, 0), (78, 5, [(12, m12_price)], 1, 0, 0), (82, 5, [(12, m12_idle)], 2, 0, 0), (86, 5, [(12, m12_dearest)], 2, 0, 0), (90, 5, [(12, m12_swap)], 3, 0, 0), (94, 5, [(12, m12_best)], 4, 0, 0), (98, 5, [(12, m12_lacks)], 2, 0, 0), (102, 5, [(12, m12_thief)], 3, 0, 0), (106, 5, [(12, m12_rob)], 1, 0, 0), (110, 5, [(12, m12_wage)], 4, 0, 0), (114, 5, [(12, m12_strike)], 2, 0, 0), (118, 5, [(12, m12_pass)], 0, 0, 0), (122, 5, [(12, m12_judge)], 2, 0, 0), (126, 5, [(12, m12_whose)], 1, 0, 0), (130, 5, [(12, m12_was)], 2, 0, 0), (134, 5, [(12, m12_film)], 3, 0, 0), (138, 5, [(12, m12_laws)], 3, 0, 0), (142, 5, [(12, m12_drawn)], 2, 0, 0), (147, 5, [(12, m12_mean)], 4, 0, 0), (151, 5, [(12, m12_image)], 0, 0, 0), (155, 5, [(12, m12_back)], 0, 0, 0), (159, 5, [(12, m12_sheet)], 3, 0, 0), (163, 5, [(12, m12_cell)], 3, 0, 0), (168, 5, [(12, m12_copy)], 5, 0, 0), (172, 5, [(12, m12_coinsBy)], 4, 0, 0), (176, 5, [(12, m12_taken)], 2, 0, 0)]
def knL : List (Nat × Nat) := [(7, 11), (10, 12)]
def klL : List (Nat × Value) := []
def ktL : KT := (kfL, kcL, knL, klL)
set_option maxRecDepth 50000 in
theorem kfL_ok : ∀ e ∈ kfL, FEok RL e.1 e.2.1 e.2.2.1 e.2.2.2 := fcn
set_option maxRecDepth 50000 in
theorem kcL_ok : ∀ e ∈ kcL, CEok RL e.1 e.2.1 e.2.2.1 e.2.2.2.1 := (fc (P := fun e : CE => CEok RL e.1 e.2.1 e.2.2.1 e.2.2.2.1) ceL_0 (fc (P := fun e : CE => CEok RL e.1 e.2.1 e.2.2.1 e.2.2.2.1) ceL_1 (fc (P := fun e : CE => CEok RL e.1 e.2.1 e.2.2.1 e.2.2.2.1) ceL_2 (fc (P := fun e : CE => CEok RL e.1 e.2.1 e.2.2.1 e.2.2.2.1) ceL_3 (fc (P := fun e : CE => CEok RL e.1 e.2.1 e.2.2.1 e.2.2.2.1) ceL_4 (fc (P := fun e : CE => CEok RL e.1 e.2.1 e.2.2.1 e.2.2.2.1) ceL_5 (fc (P := fun e : CE => CEok RL e.1 e.2.1 e.2.2.1 e.2.2.2.1) ceL_6 (fc (P := fun e : CE => CEok RL e.1 e.2.1 e.2.2.1 e.2.2.2.1) ceL_7 (fc (P := fun e : CE => CEok RL e.1 e.2.1 e.2.2.1 e.2.2.2.1) ceL_8 (fc (P := fun e : CE => CEok RL e.1 e.2.1 e.2.2.1 e.2.2.2.1) ceL_9 (fc (P := fun e : CE => CEok RL e.1 e.2.1 e.2.2.1 e.2.2.2.1) ceL_10 (fc (P := fun e : CE => CEok RL e.1 e.2.1 e.2.2.1 e.2.2.2.1) ceL_11 (fc (P := fun e : CE => CEok RL e.1 e.2.1 e.2.2.1 e.2.2.2.1) ceL_12 (fc (P := fun e : CE => CEok RL e.1 e.2.1 e.2.2.1 e.2.2.2.1) ceL_13 (fc (P := fun e : CE => CEok RL e.1 e.2.1 e.2.2.1 e.2.2.2.1) ceL_14 (fc (P := fun e : CE => CEok RL e.1 e.2.1 e.2.2.1 e.2.2.2.1) ceL_15 (fc (P := fun e : CE => CEok RL e.1 e.2.1 e.2.2.1 e.2.2.2.1) ceL_16 (fc (P := fun e : CE => CEok RL e.1 e.2.1 e.2.2.1 e.2.2.2.1) ceL_17 (fc (P := fun e : CE => CEok RL e.1 e.2.1 e.2.2.1 e.2.2.2.1) ceL_18 (fc (P := fun e : CE => CEok RL e.1 e.2.1 e.2.2.1 e.2.2.2.1) ceL_19 (fc (P := fun e : CE => CEok RL e.1 e.2.1 e.2.2.1 e.2.2.2.1) ceL_20 (fc (P := fun e : CE => CEok RL e.1 e.2.1 e.2.2.1 e.2.2.2.1) ceL_21 (fc (P := fun e : CE => CEok RL e.1 e.2.1 e.2.2.1 e.2.2.2.1) ceL_22 (fc (P := fun e : CE => CEok RL e.1 e.2.1 e.2.2.1 e.2.2.2.1) ceL_23 (fc (P := fun e : CE => CEok RL e.1 e.2.1 e.2.2.1 e.2.2.2.1) ceL_24 (fc (P := fun e : CE => CEok RL e.1 e.2.1 e.2.2.1 e.2.2.2.1) ceL_25 (fc (P := fun e : CE => CEok RL e.1 e.2.1 e.2.2.1 e.2.2.2.1) ceL_26 (fc (P := fun e : CE => CEok RL e.1 e.2.1 e.2.2.1 e.2.2.2.1) ceL_27 (fc (P := fun e : CE => CEok RL e.1 e.2.1 e.2.2.1 e.2.2.2.1) ceL_28 (fc (P := fun e : CE => CEok RL e.1 e.2.1 e.2.2.1 e.2.2.2.1) ceL_29 (fc (P := fun e : CE => CEok RL e.1 e.2.1 e.2.2.1 e.2.2.2.1) ceL_30 (fc (P := fun e : CE => CEok RL e.1 e.2.1 e.2.2.1 e.2.2.2.1) ceL_31 (fc (P := fun e : CE => CEok RL e.1 e.2.1 e.2.2.1 e.2.2.2.1) ceL_32 (fc (P := fun e : CE => CEok RL e.1 e.2.1 e.2.2.1 e.2.2.2.1) ceL_33 (fc (P := fun e : CE => CEok RL e.1 e.2.1 e.2.2.1 e.2.2.2.1) ceL_34 (fc (P := fun e : CE => CEok RL e.1 e.2.1 e.2.2.1 e.2.2.2.1) ceL_35 (fc (P := fun e : CE => CEok RL e.1 e.2.1 e.2.2.1 e.2.2.2.1) ceL_36 (fc (P := fun e : CE => CEok RL e.1 e.2.1 e.2.2.1 e.2.2.2.1) ceL_37 (fc (P := fun e : CE => CEok RL e.1 e.2.1 e.2.2.1 e.2.2.2.1) ceL_38 (fc (P := fun e : CE => CEok RL e.1 e.2.1 e.2.2.1 e.2.2.2.1) ceL_39 (fc (P := fun e : CE => CEok RL e.1 e.2.1 e.2.2.1 e.2.2.2.1) ceL_40 (fc (P := fun e : CE => CEok RL e.1 e.2.1 e.2.2.1 e.2.2.2.1) ceL_41 (fc (P := fun e : CE => CEok RL e.1 e.2.1 e.2.2.1 e.2.2.2.1) ceL_42 (fc (P := fun e : CE => CEok RL e.1 e.2.1 e.2.2.1 e.2.2.2.1) ceL_43 (fc (P := fun e : CE => CEok RL e.1 e.2.1 e.2.2.1 e.2.2.2.1) ceL_44 (fc (P := fun e : CE => CEok RL e.1 e.2.1 e.2.2.1 e.2.2.2.1) ceL_45 (fc (P := fun e : CE => CEok RL e.1 e.2.1 e.2.2.1 e.2.2.2.1) ceL_46 (fc (P := fun e : CE => CEok RL e.1 e.2.1 e.2.2.1 e.2.2.2.1) ceL_47 (fc (P := fun e : CE => CEok RL e.1 e.2.1 e.2.2.1 e.2.2.2.1) ceL_48 (fc (P := fun e : CE => CEok RL e.1 e.2.1 e.2.2.1 e.2.2.2.1) ceL_49 (fc (P := fun e : CE => CEok RL e.1 e.2.1 e.2.2.1 e.2.2.2.1) ceL_50 (fc (P := fun e : CE => CEok RL e.1 e.2.1 e.2.2.1 e.2.2.2.1) ceL_51 (fc (P := fun e : CE => CEok RL e.1 e.2.1 e.2.2.1 e.2.2.2.1) ceL_52 (fc (P := fun e : CE => CEok RL e.1 e.2.1 e.2.2.1 e.2.2.2.1) ceL_53 (fc (P := fun e : CE => CEok RL e.1 e.2.1 e.2.2.1 e.2.2.2.1) ceL_54 (fc (P := fun e : CE => CEok RL e.1 e.2.1 e.2.2.1 e.2.2.2.1) ceL_55 (fc (P := fun e : CE => CEok RL e.1 e.2.1 e.2.2.1 e.2.2.2.1) ceL_56 (fc (P := fun e : CE => CEok RL e.1 e.2.1 e.2.2.1 e.2.2.2.1) ceL_57 (fc (P := fun e : CE => CEok RL e.1 e.2.1 e.2.2.1 e.2.2.2.1) ceL_58 (fc (P := fun e : CE => CEok RL e.1 e.2.1 e.2.2.1 e.2.2.2.1) ceL_59 (fc (P := fun e : CE => CEok RL e.1 e.2.1 e.2.2.1 e.2.2.2.1) ceL_60 (fc (P := fun e : CE => CEok RL e.1 e.2.1 e.2.2.1 e.2.2.2.1) ceL_61 (fc (P := fun e : CE => CEok RL e.1 e.2.1 e.2.2.1 e.2.2.2.1) ceL_62 (fc (P := fun e : CE => CEok RL e.1 e.2.1 e.2.2.1 e.2.2.2.1) ceL_63 (fc (P := fun e : CE => CEok RL e.1 e.2.1 e.2.2.1 e.2.2.2.1) ceL_64 (fc (P := fun e : CE => CEok RL e.1 e.2.1 e.2.2.1 e.2.2.2.1) ceL_65 (fc (P := fun e : CE => CEok RL e.1 e.2.1 e.2.2.1 e.2.2.2.1) ceL_66 (fc (P := fun e : CE => CEok RL e.1 e.2.1 e.2.2.1 e.2.2.2.1) ceL_67 (fc (P := fun e : CE => CEok RL e.1 e.2.1 e.2.2.1 e.2.2.2.1) ceL_68 (fc (P := fun e : CE => CEok RL e.1 e.2.1 e.2.2.1 e.2.2.2.1) ceL_69 (fc (P := fun e : CE => CEok RL e.1 e.2.1 e.2.2.1 e.2.2.2.1) ceL_70 (fc (P := fun e : CE => CEok RL e.1 e.2.1 e.2.2.1 e.2.2.2.1) ceL_71 (fc (P := fun e : CE => CEok RL e.1 e.2.1 e.2.2.1 e.2.2.2.1) ceL_72 (fc (P := fun e : CE => CEok RL e.1 e.2.1 e.2.2.1 e.2.2.2.1) ceL_73 (fc (P := fun e : CE => CEok RL e.1 e.2.1 e.2.2.1 e.2.2.2.1) ceL_74 (fc (P := fun e : CE => CEok RL e.1 e.2.1 e.2.2.1 e.2.2.2.1) ceL_75 (fc (P := fun e : CE => CEok RL e.1 e.2.1 e.2.2.1 e.2.2.2.1) ceL_76 (fc (P := fun e : CE => CEok RL e.1 e.2.1 e.2.2.1 e.2.2.2.1) ceL_77 (fc (P := fun e : CE => CEok RL e.1 e.2.1 e.2.2.1 e.2.2.2.1) ceL_78 (fc (P := fun e : CE => CEok RL e.1 e.2.1 e.2.2.1 e.2.2.2.1) ceL_79 fcn))))))))))))))))))))))))))))))))))))))))))))))))))))))))))))))))))))))))))))))))
theorem knL_ok : ∀ e ∈ knL, NEok RL e.1 e.2 := (fc (P := fun e : Nat × Nat => NEok RL e.1 e.2) neL_0 (fc (P := fun e : Nat × Nat => NEok RL e.1 e.2) neL_1 fcn))
theorem ktL_ok {g : Gt} (hs : GS g) : KTok g RL ktL := ⟨kfL_ok, kcL_ok, knL_ok, fcn⟩
/-! the links of java/lang/String, by the tables -/
theorem feJ0_0 : FEok RJ0 38 2 [] 0 := ⟨fun _ => ⟨fun e => absurd e (by decide), fun e => absurd e (by decide), fun _ => wd_146, fun e => absurd e (by decide)⟩, fun _ h => absurd h List.not_mem_nil⟩
theorem feJ0_1 : FEok RJ0 1053 3 [] 0 := ⟨fun _ => ⟨fun e => absurd e (by decide), fun e => absurd e (by decide), fun e => absurd e (by decide), fun _ => wd_162⟩, fun _ h => absurd h List.not_mem_nil⟩
theorem feJ0_2 : FEok RJ0 9 0 [] 0 := ⟨fun _ => ⟨fun _ => wd_1389, fun e => absurd e (by decide), fun e => absurd e (by decide), fun e => absurd e (by decide)⟩, fun _ h => absurd h List.not_mem_nil⟩
theorem feJ0_3 : FEok RJ0 15 1 [] 0 := ⟨fun _ => ⟨fun e => absurd e (by decide), fun _ => wd_1390, fun e => absurd e (by decide), fun e => absurd e (by decide)⟩, fun _ h => absurd h List.not_mem_nil⟩
theorem ceJ0_0 : CEok RJ0 335 9 [(0, mJ0_coder_7d493)] 0 := (CEok.k9 (fc ⟨mo_mJ0_coder_7d493, wd_142, wd_143, wd_144⟩ fcn))
theorem ceJ0_1 : CEok RJ0 492 9 [(0, mJ0_isLatin1_aae02)] 0 := (CEok.k9 (fc ⟨mo_mJ0_isLatin1_aae02, wd_152, wd_153, wd_154⟩ fcn))
theorem ceJ0_2 : CEok RJ0 495 0 [(0, mJ1_charAt_3b067)] 2 := (CEok.k0 (fc ⟨mo_mJ1_charAt_3b067, wd_156, wd_157⟩ fcn))
theorem ceJ0_3 : CEok RJ0 1059 0 [(0, mJ3_checkIndex_8e157)] 3 := (CEok.k0 (fc ⟨mo_mJ3_checkIndex_8e157, wd_164, wd_165⟩ fcn))
theorem ceJ0_4 : CEok RJ0 633 9 [(0, mJ0_indexOf_7cf53)] 2 := (CEok.k9 (fc ⟨mo_mJ0_indexOf_7cf53, wd_229, wd_230, wd_231⟩ fcn))
theorem ceJ0_5 : CEok RJ0 505 9 [(0, mJ0_length_8abf5)] 0 := (CEok.k9 (fc ⟨mo_mJ0_length_8abf5, wd_233, wd_139, wd_140⟩ fcn))
theorem ceJ0_6 : CEok RJ0 637 0 [(0, mJ1_indexOf_4cfef)] 4 := (CEok.k0 (fc ⟨mo_mJ1_indexOf_4cfef, wd_234, wd_235⟩ fcn))
theorem ceJ0_7 : CEok RJ0 1062 0 [(0, mJ3_checkFromToIndex_8c36e)] 4 := (CEok.k0 (fc ⟨mo_mJ3_checkFromToIndex_8c36e, wd_264, wd_265⟩ fcn))
def kfJ0 : List FE := [(38, 2, [], 0), (1053, 3, [], 0), (9, 0, [], 0), (15, 1, [], 0)]
def kcJ0 : List CE := [(335, 9, [(0, mJ0_coder_7d493)], 0, 0, 0), (492, 9, [(0, mJ0_isLatin1_aae02)], 0, 0, 0), (495, 0, [(0, mJ1_charAt_3b067)], 2, 0, 0), (1059, 0, [(0, mJ3_checkIndex_8e157)], 3, 0, 0), (633, 9, [(0, mJ0_indexOf_7cf53)], 2, 0, 0), (505, 9, [(0, mJ0_length_8abf5)], 0, 0, 0), (637, 0, [(0, mJ1_indexOf_4cfef)], 4, 0, 0), (1062, 0, [(0, mJ3_checkFromToIndex_8c36e)], 4, 0, 0)]
def knJ0 : List (Nat × Nat) := []
def klJ0 : List (Nat × Value) := []
def ktJ0 : KT := (kfJ0, kcJ0, knJ0, klJ0)
set_option maxRecDepth 50000 in
theorem kfJ0_ok : ∀ e ∈ kfJ0, FEok RJ0 e.1 e.2.1 e.2.2.1 e.2.2.2 := (fc (P := fun e : FE => FEok RJ0 e.1 e.2.1 e.2.2.1 e.2.2.2) feJ0_0 (fc (P := fun e : FE => FEok RJ0 e.1 e.2.1 e.2.2.1 e.2.2.2) feJ0_1 (fc (P := fun e : FE => FEok RJ0 e.1 e.2.1 e.2.2.1 e.2.2.2) feJ0_2 (fc (P := fun e : FE => FEok RJ0 e.1 e.2.1 e.2.2.1 e.2.2.2) feJ0_3 fcn))))
set_option maxRecDepth 50000 in
theorem kcJ0_ok : ∀ e ∈ kcJ0, CEok RJ0 e.1 e.2.1 e.2.2.1 e.2.2.2.1 := (fc (P := fun e : CE => CEok RJ0 e.1 e.2.1 e.2.2.1 e.2.2.2.1) ceJ0_0 (fc (P := fun e : CE => CEok RJ0 e.1 e.2.1 e.2.2.1 e.2.2.2.1) ceJ0_1 (fc (P := fun e : CE => CEok RJ0 e.1 e.2.1 e.2.2.1 e.2.2.2.1) ceJ0_2 (fc (P := fun e : CE => CEok RJ0 e.1 e.2.1 e.2.2.1 e.2.2.2.1) ceJ0_3 (fc (P := fun e : CE => CEok RJ0 e.1 e.2.1 e.2.2.1 e.2.2.2.1) ceJ0_4 (fc (P := fun e : CE => CEok RJ0 e.1 e.2.1 e.2.2.1 e.2.2.2.1) ceJ0_5 (fc (P := fun e : CE => CEok RJ0 e.1 e.2.1 e.2.2.1 e.2.2.2.1) ceJ0_6 (fc (P := fun e : CE => CEok RJ0 e.1 e.2.1 e.2.2.1 e.2.2.2.1) ceJ0_7 fcn))))))))
theorem knJ0_ok : ∀ e ∈ knJ0, NEok RJ0 e.1 e.2 := fcn
theorem ktJ0_ok {g : Gt} (hs : GS g) : KTok g RJ0 ktJ0 := ⟨kfJ0_ok, kcJ0_ok, knJ0_ok, fcn⟩
/-! the links of java/lang/StringLatin1, by the tables -/
theorem ceJ1_0 : CEok RJ1 9 0 [(0, mJ0_checkIndex_df160)] 2 := (CEok.k0 (fc ⟨mo_mJ0_checkIndex_df160, wd_159, wd_160⟩ fcn))
theorem ceJ1_1 : CEok RJ1 88 0 [(0, mJ1_canEncode_9a6ad)] 1 := (CEok.k0 (fc ⟨mo_mJ1_canEncode_9a6ad, wd_237, wd_238⟩ fcn))
theorem ceJ1_2 : CEok RJ1 92 0 [(0, mJ9_max_7cf53)] 2 := (CEok.k0 (fc ⟨mo_mJ9_max_7cf53, wd_240, wd_241⟩ fcn))
theorem ceJ1_3 : CEok RJ1 38 0 [(0, mJ9_min_7cf53)] 2 := (CEok.k0 (fc ⟨mo_mJ9_min_7cf53, wd_243, wd_244⟩ fcn))
theorem ceJ1_4 : CEok RJ1 95 0 [(0, mJ1_indexOfChar_4cfef)] 4 := (CEok.k0 (fc ⟨mo_mJ1_indexOfChar_4cfef, wd_246, wd_247⟩ fcn))
def kfJ1 : List FE := []
def kcJ1 : List CE := [(9, 0, [(0, mJ0_checkIndex_df160)], 2, 0, 0), (88, 0, [(0, mJ1_canEncode_9a6ad)], 1, 0, 0), (92, 0, [(0, mJ9_max_7cf53)], 2, 0, 0), (38, 0, [(0, mJ9_min_7cf53)], 2, 0, 0), (95, 0, [(0, mJ1_indexOfChar_4cfef)], 4, 0, 0)]
def knJ1 : List (Nat × Nat) := []
def klJ1 : List (Nat × Value) := []
def ktJ1 : KT := (kfJ1, kcJ1, knJ1, klJ1)
set_option maxRecDepth 50000 in
theorem kfJ1_ok : ∀ e ∈ kfJ1, FEok RJ1 e.1 e.2.1 e.2.2.1 e.2.2.2 := fcn
set_option maxRecDepth 50000 in
theorem kcJ1_ok : ∀ e ∈ kcJ1, CEok RJ1 e.1 e.2.1 e.2.2.1 e.2.2.2.1 := (fc (P := fun e : CE => CEok RJ1 e.1 e.2.1 e.2.2.1 e.2.2.2.1) ceJ1_0 (fc (P := fun e : CE => CEok RJ1 e.1 e.2.1 e.2.2.1 e.2.2.2.1) ceJ1_1 (fc (P := fun e : CE => CEok RJ1 e.1 e.2.1 e.2.2.1 e.2.2.2.1) ceJ1_2 (fc (P := fun e : CE => CEok RJ1 e.1 e.2.1 e.2.2.1 e.2.2.2.1) ceJ1_3 (fc (P := fun e : CE => CEok RJ1 e.1 e.2.1 e.2.2.1 e.2.2.2.1) ceJ1_4 fcn)))))
theorem knJ1_ok : ∀ e ∈ knJ1, NEok RJ1 e.1 e.2 := fcn
theorem ktJ1_ok {g : Gt} (hs : GS g) : KTok g RJ1 ktJ1 := ⟨kfJ1_ok, kcJ1_ok, knJ1_ok, fcn⟩
/-! the links of jdk/internal/util/Preconditions, by the tables -/
def kfJ3 : List FE := []
def kcJ3 : List CE := []
def knJ3 : List (Nat × Nat) := []
def klJ3 : List (Nat × Value) := []
def ktJ3 : KT := (kfJ3, kcJ3, knJ3, klJ3)
set_option maxRecDepth 50000 in
theorem kfJ3_ok : ∀ e ∈ kfJ3, FEok RJ3 e.1 e.2.1 e.2.2.1 e.2.2.2 := fcn
set_option maxRecDepth 50000 in
theorem kcJ3_ok : ∀ e ∈ kcJ3, CEok RJ3 e.1 e.2.1 e.2.2.1 e.2.2.2.1 := fcn
theorem knJ3_ok : ∀ e ∈ knJ3, NEok RJ3 e.1 e.2 := fcn
theorem ktJ3_ok {g : Gt} (hs : GS g) : KTok g RJ3 ktJ3 := ⟨kfJ3_ok, kcJ3_ok, knJ3_ok, fcn⟩
/-! the links of java/util/Arrays, by the tables -/
theorem ceJ7_0 : CEok RJ7 316 8 [] 0 := (CEok.k8 ⟨wd_329, wd_330, wd_331, wd_332, wd_333⟩)
theorem ceJ7_1 : CEok RJ7 304 0 [(0, mJ9_min_7cf53)] 2 := (CEok.k0 (fc ⟨mo_mJ9_min_7cf53, wd_336, wd_244⟩ fcn))
theorem ceJ7_2 : CEok RJ7 150 7 [] 5 := (CEok.k7 ⟨wd_337, wd_339, wd_338, wd_14⟩)
theorem neJ7_0 : NEok RJ7 317 200 := ⟨fun _ => wd_335, fun e => absurd rfl e⟩
def kfJ7 : List FE := []
def kcJ7 : List CE := [(316, 8, [], 0, 0, 0), (304, 0, [(0, mJ9_min_7cf53)], 2, 0, 0), (150, 7, [], 5, 0, 0)]
def knJ7 : List (Nat × Nat) := [(317, 200)]
def klJ7 : List (Nat × Value) := []
def ktJ7 : KT := (kfJ7, kcJ7, knJ7, klJ7)
set_option maxRecDepth 50000 in
theorem kfJ7_ok : ∀ e ∈ kfJ7, FEok RJ7 e.1 e.2.1 e.2.2.1 e.2.2.2 := fcn
set_option maxRecDepth 50000 in
theorem kcJ7_ok : ∀ e ∈ kcJ7, CEok RJ7 e.1 e.2.1 e.2.2.1 e.2.2.2.1 := (fc (P := fun e : CE => CEok RJ7 e.1 e.2.1 e.2.2.1 e.2.2.2.1) ceJ7_0 (fc (P := fun e : CE => CEok RJ7 e.1 e.2.1 e.2.2.1 e.2.2.2.1) ceJ7_1 (fc (P := fun e : CE => CEok RJ7 e.1 e.2.1 e.2.2.1 e.2.2.2.1) ceJ7_2 fcn)))
theorem knJ7_ok : ∀ e ∈ knJ7, NEok RJ7 e.1 e.2 := (fc (P := fun e : Nat × Nat => NEok RJ7 e.1 e.2) neJ7_0 fcn)
theorem ktJ7_ok {g : Gt} (hs : GS g) : KTok g RJ7 ktJ7 := ⟨kfJ7_ok, kcJ7_ok, knJ7_ok, fcn⟩
end
section
/-! the links of UnlikeCoins, by the tables -/
theorem fe11_0 : FEok RX11 249 0 [2] 2 := (FEok.mk (fc ⟨⟨RX2, TX2, "UnlikeCoins$Image", cf2, by decide, wd_100, Or.inl rfl⟩, rfl, rfl, fun e => absurd e (by decide), fun e => absurd e (by decide)⟩ fcn))
theorem fe11_1 : FEok RX11 250 1 [2] 0 := (FEok.mk (fc ⟨⟨RX2, TX2, "UnlikeCoins$Image", cf2, by decide, wd_101, Or.inl rfl⟩, rfl, rfl, fun _ => ⟨_, _, cf2, rfl⟩, fun e => absurd e (by decide)⟩ fcn))
theorem fe11_2 : FEok RX11 251 2 [2] 0 := (FEok.mk (fc ⟨⟨RX2, TX2, "UnlikeCoins$Image", cf2, by decide, wd_102, Or.inl rfl⟩, rfl, rfl, fun _ => ⟨_, _, cf2, rfl⟩, fun e => absurd e (by decide)⟩ fcn))
theorem fe11_3 : FEok RX11 252 3 [2] 0 := (FEok.mk (fc ⟨⟨RX2, TX2, "UnlikeCoins$Image", cf2, by decide, wd_103, Or.inl rfl⟩, rfl, rfl, fun _ => ⟨_, _, cf2, rfl⟩, fun e => absurd e (by decide)⟩ fcn))
theorem fe11_4 : FEok RX11 253 4 [2] 0 := (FEok.mk (fc ⟨⟨RX2, TX2, "UnlikeCoins$Image", cf2, by decide, wd_104, Or.inl rfl⟩, rfl, rfl, fun _ => ⟨_, _, cf2, rfl⟩, fun e => absurd e (by decide)⟩ fcn))
theorem fe11_5 : FEok RX11 254 5 [2] 0 := (FEok.mk (fc ⟨⟨RX2, TX2, "UnlikeCoins$Image", cf2, by decide, wd_105, Or.inl rfl⟩, rfl, rfl, fun _ => ⟨_, _, cf2, rfl⟩, fun e => absurd e (by decide)⟩ fcn))
theorem fe11_6 : FEok RX11 265 0 [7] 2 := (FEok.mk (fc ⟨⟨RX7, TX7, "UnlikeCoins$Sheet", cf7, by decide, wd_125, Or.inl rfl⟩, rfl, rfl, fun e => absurd e (by decide), fun e => absurd e (by decide)⟩ fcn))
theorem fe11_7 : FEok RX11 262 1 [7] 0 := (FEok.mk (fc ⟨⟨RX7, TX7, "UnlikeCoins$Sheet", cf7, by decide, wd_127, Or.inl rfl⟩, rfl, rfl, fun _ => ⟨_, _, cf7, rfl⟩, fun e => absurd e (by decide)⟩ fcn))
theorem fe11_8 : FEok RX11 312 2 [7] 0 := (FEok.mk (fc ⟨⟨RX7, TX7, "UnlikeCoins$Sheet", cf7, by decide, wd_129, Or.inl rfl⟩, rfl, rfl, fun _ => ⟨_, _, cf7, rfl⟩, fun e => absurd e (by decide)⟩ fcn))
theorem fe11_9 : FEok RX11 11 0 [11] 1 := (FEok.mk (fc ⟨⟨RX11, TX11, "UnlikeCoins", cf11, by decide, wd_362, Or.inl rfl⟩, rfl, rfl, fun e => absurd e (by decide), fun _ => ⟨_, _, cf11, rfl, rfl⟩⟩ fcn))
theorem fe11_10 : FEok RX11 17 1 [11] 1 := (FEok.mk (fc ⟨⟨RX11, TX11, "UnlikeCoins", cf11, by decide, wd_363, Or.inl rfl⟩, rfl, rfl, fun e => absurd e (by decide), fun _ => ⟨_, _, cf11, rfl, rfl⟩⟩ fcn))
theorem fe11_11 : FEok RX11 21 2 [11] 1 := (FEok.mk (fc ⟨⟨RX11, TX11, "UnlikeCoins", cf11, by decide, wd_364, Or.inl rfl⟩, rfl, rfl, fun e => absurd e (by decide), fun _ => ⟨_, _, cf11, rfl, rfl⟩⟩ fcn))
theorem fe11_12 : FEok RX11 25 3 [11] 1 := (FEok.mk (fc ⟨⟨RX11, TX11, "UnlikeCoins", cf11, by decide, wd_365, Or.inl rfl⟩, rfl, rfl, fun e => absurd e (by decide), fun _ => ⟨_, _, cf11, rfl, rfl⟩⟩ fcn))
theorem fe11_13 : FEok RX11 29 4 [11] 1 := (FEok.mk (fc ⟨⟨RX11, TX11, "UnlikeCoins", cf11, by decide, wd_366, Or.inl rfl⟩, rfl, rfl, fun e => absurd e (by decide), fun _ => ⟨_, _, cf11, rfl, rfl⟩⟩ fcn))
theorem fe11_14 : FEok RX11 34 5 [11] 1 := (FEok.mk (fc ⟨⟨RX11, TX11, "UnlikeCoins", cf11, by decide, wd_367, Or.inl rfl⟩, rfl, rfl, fun e => absurd e (by decide), fun _ => ⟨_, _, cf11, rfl, rfl⟩⟩ fcn))
theorem fe11_15 : FEok RX11 40 6 [11] 1 := (FEok.mk (fc ⟨⟨RX11, TX11, "UnlikeCoins", cf11, by decide, wd_368, Or.inl rfl⟩, rfl, rfl, fun e => absurd e (by decide), fun _ => ⟨_, _, cf11, rfl, rfl⟩⟩ fcn))
theorem fe11_16 : FEok RX11 47 7 [11] 1 := (FEok.mk (fc ⟨⟨RX11, TX11, "UnlikeCoins", cf11, by decide, wd_369, Or.inl rfl⟩, rfl, rfl, fun e => absurd e (by decide), fun _ => ⟨_, _, cf11, rfl, rfl⟩⟩ fcn))
theorem fe11_17 : FEok RX11 54 8 [11] 1 := (FEok.mk (fc ⟨⟨RX11, TX11, "UnlikeCoins", cf11, by decide, wd_370, Or.inl rfl⟩, rfl, rfl, fun e => absurd e (by decide), fun _ => ⟨_, _, cf11, rfl, rfl⟩⟩ fcn))
theorem fe11_18 : FEok RX11 58 9 [11] 1 := (FEok.mk (fc ⟨⟨RX11, TX11, "UnlikeCoins", cf11, by decide, wd_371, Or.inl rfl⟩, rfl, rfl, fun e => absurd e (by decide), fun _ => ⟨_, _, cf11, rfl, rfl⟩⟩ fcn))
theorem fe11_19 : FEok RX11 94 10 [11] 0 := (FEok.mk (fc ⟨⟨RX11, TX11, "UnlikeCoins", cf11, by decide, wd_372, Or.inl rfl⟩, rfl, rfl, fun _ => ⟨_, _, cf11, rfl⟩, fun e => absurd e (by decide)⟩ fcn))
theorem fe11_20 : FEok RX11 97 11 [11] 0 := (FEok.mk (fc ⟨⟨RX11, TX11, "UnlikeCoins", cf11, by decide, wd_373, Or.inl rfl⟩, rfl, rfl, fun _ => ⟨_, _, cf11, rfl⟩, fun e => absurd e (by decide)⟩ fcn))
theorem fe11_21 : FEok RX11 87 12 [11] 0 := (FEok.mk (fc ⟨⟨RX11, TX11, "UnlikeCoins", cf11, by decide, wd_374, Or.inl rfl⟩, rfl, rfl, fun _ => ⟨_, _, cf11, rfl⟩, fun e => absurd e (by decide)⟩ fcn))
theorem fe11_22 : FEok RX11 100 13 [11] 0 := (FEok.mk (fc ⟨⟨RX11, TX11, "UnlikeCoins", cf11, by decide, wd_375, Or.inl rfl⟩, rfl, rfl, fun _ => ⟨_, _, cf11, rfl⟩, fun e => absurd e (by decide)⟩ fcn))
theorem fe11_23 : FEok RX11 103 14 [11] 0 := (FEok.mk (fc ⟨⟨RX11, TX11, "UnlikeCoins", cf11, by decide, wd_376, Or.inl rfl⟩, rfl, rfl, fun _ => ⟨_, _, cf11, rfl⟩, fun e => absurd e (by decide)⟩ fcn))
theorem fe11_24 : FEok RX11 142 0 [8, 0, 6, 9, 1, 3] 2 := (FEok.mk (fc ⟨⟨RX8, TX8, "UnlikeCoins$Sort", cf8, by decide, wd_491, Or.inl rfl⟩, rfl, rfl, fun e => absurd e (by decide), fun e => absurd e (by decide)⟩ (fc ⟨⟨RX0, TX0, "UnlikeCoins$Sort", cf0, by decide, wd_491, Or.inl rfl⟩, rfl, rfl, fun e => absurd e (by decide), fun e => absurd e (by decide)⟩ (fc ⟨⟨RX6, TX6, "UnlikeCoins$Sort", cf6, by decide, wd_491, Or.inl rfl⟩, rfl, rfl, fun e => absurd e (by decide), fun e => absurd e (by decide)⟩ (fc ⟨⟨RX9, TX9, "UnlikeCoins$Sort", cf9, by decide, wd_491, Or.inl rfl⟩, rfl, rfl, fun e => absurd e (by decide), fun e => absurd e (by decide)⟩ (fc ⟨⟨RX1, TX1, "UnlikeCoins$Sort", cf1, by decide, wd_491, Or.inl rfl⟩, rfl, rfl, fun e => absurd e (by decide), fun e => absurd e (by decide)⟩ (fc ⟨⟨RX3, TX3, "UnlikeCoins$Sort", cf3, by decide, wd_491, Or.inl rfl⟩, rfl, rfl, fun e => absurd e (by decide), fun e => absurd e (by decide)⟩ fcn)))))))
theorem fe11_25 : FEok RX11 145 1 [8, 0, 6, 9, 1, 3] 2 := (FEok.mk (fc ⟨⟨RX8, TX8, "UnlikeCoins$Sort", cf8, by decide, wd_499, Or.inl rfl⟩, rfl, rfl, fun e => absurd e (by decide), fun e => absurd e (by decide)⟩ (fc ⟨⟨RX0, TX0, "UnlikeCoins$Sort", cf0, by decide, wd_499, Or.inl rfl⟩, rfl, rfl, fun e => absurd e (by decide), fun e => absurd e (by decide)⟩ (fc ⟨⟨RX6, TX6, "UnlikeCoins$Sort", cf6, by decide, wd_499, Or.inl rfl⟩, rfl, rfl, fun e => absurd e (by decide), fun e => absurd e (by decide)⟩ (fc ⟨⟨RX9, TX9, "UnlikeCoins$Sort", cf9, by decide, wd_499, Or.inl rfl⟩, rfl, rfl, fun e => absurd e (by decide), fun e => absurd e (by decide)⟩ (fc ⟨⟨RX1, TX1, "UnlikeCoins$Sort", cf1, by decide, wd_499, Or.inl rfl⟩, rfl, rfl, fun e => absurd e (by decide), fun e => absurd e (by decide)⟩ (fc ⟨⟨RX3, TX3, "UnlikeCoins$Sort", cf3, by decide, wd_499, Or.inl rfl⟩, rfl, rfl, fun e => absurd e (by decide), fun e => absurd e (by decide)⟩ fcn)))))))
theorem ce11_0 : CEok RX11 1 6 [] 0 := (CEok.k6 ⟨wd_27, wd_28, wd_29⟩)
theorem ce11_1 : CEok RX11 24 3 [(0, m4_init)] 0 := (CEok.k3 (fc ⟨⟨"UnlikeCoins", mo_m4_init, by decide +kernel⟩, wd_36, rfl, rfl⟩ fcn))
theorem ce11_2 : CEok RX11 46 3 [(0, m5_init)] 0 := (CEok.k3 (fc ⟨⟨"UnlikeCoins", mo_m5_init, by decide +kernel⟩, wd_57, rfl, rfl⟩ fcn))
theorem ce11_3 : CEok RX11 53 2 [(0, m2_init)] 0 := (CEok.k2 (fc ⟨mo_m2_init, wd_93, wd_94, rfl, rfl⟩ fcn))
theorem ce11_4 : CEok RX11 62 3 [(0, m7_init)] 0 := (CEok.k3 (fc ⟨⟨"UnlikeCoins", mo_m7_init, by decide +kernel⟩, wd_121, rfl, rfl⟩ fcn))
theorem ce11_5 : CEok RX11 65 9 [(0, mJ0_length_8abf5)] 0 := (CEok.k9 (fc ⟨mo_mJ0_length_8abf5, wd_138, wd_139, wd_140⟩ fcn))
theorem ce11_6 : CEok RX11 71 9 [(0, mJ0_charAt_5068e)] 1 := (CEok.k9 (fc ⟨mo_mJ0_charAt_5068e, wd_148, wd_149, wd_150⟩ fcn))
theorem ce11_7 : CEok RX11 75 5 [(5, m5_put)] 1 := (CEok.k5 (fc (Or.inl ⟨mo_m5_put, wd_186, wd_187, _, _, cf5, rfl, wd_188⟩) fcn))
theorem ce11_8 : CEok RX11 79 5 [(5, m5_readText)] 0 := (CEok.k5 (fc (Or.inl ⟨mo_m5_readText, wd_190, wd_191, _, _, cf5, rfl, wd_192⟩) fcn))
theorem ce11_9 : CEok RX11 83 5 [(5, m5_textRead)] 0 := (CEok.k5 (fc (Or.inl ⟨mo_m5_textRead, wd_320, wd_321, _, _, cf5, rfl, wd_322⟩) fcn))
theorem ce11_10 : CEok RX11 91 5 [(5, m5_clear)] 0 := (CEok.k5 (fc (Or.inl ⟨mo_m5_clear, wd_358, wd_359, _, _, cf5, rfl, wd_360⟩) fcn))
theorem ce11_11 : CEok RX11 106 5 [(5, m5_size)] 0 := (CEok.k5 (fc (Or.inl ⟨mo_m5_size, wd_412, wd_413, _, _, cf5, rfl, wd_414⟩) fcn))
theorem ce11_12 : CEok RX11 109 0 [(0, m11_within)] 3 := (CEok.k0 (fc ⟨mo_m11_within, wd_420, wd_205⟩ fcn))
theorem ce11_13 : CEok RX11 113 0 [(0, m11_isByte)] 1 := (CEok.k0 (fc ⟨mo_m11_isByte, wd_421, wd_422⟩ fcn))
theorem ce11_14 : CEok RX11 117 5 [(5, m5_hasRoom)] 1 := (CEok.k5 (fc (Or.inl ⟨mo_m5_hasRoom, wd_424, wd_425, _, _, cf5, rfl, wd_426⟩) fcn))
theorem ce11_15 : CEok RX11 120 5 [(5, m5_place)] 0 := (CEok.k5 (fc (Or.inl ⟨mo_m5_place, wd_432, wd_433, _, _, cf5, rfl, wd_434⟩) fcn))
theorem ce11_16 : CEok RX11 123 5 [(11, m11_nameAll)] 5 := (CEok.k5 (fc (Or.inl ⟨mo_m11_nameAll, wd_444, wd_446, _, _, cf11, rfl, gw_sel (q := (yX11_nameAll, 15)) (i := 13) (by decide +kernel) (by decide +kernel)⟩) fcn))
theorem ce11_17 : CEok RX11 127 5 [(11, m11_says)] 2 := (CEok.k5 (fc (Or.inl ⟨mo_m11_says, wd_448, wd_450, _, _, cf11, rfl, gw_sel (q := (yX11_says, 15)) (i := 14) (by decide +kernel) (by decide +kernel)⟩) fcn))
theorem ce11_18 : CEok RX11 302 5 [(10, m10_value)] 2 := (CEok.k5 (fc (Or.inl ⟨mo_m10_value, wd_452, wd_453, _, _, cf10, rfl, wd_454⟩) fcn))
theorem ce11_19 : CEok RX11 131 0 [(0, m11_newSort)] 3 := (CEok.k0 (fc ⟨mo_m11_newSort, wd_478, wd_479⟩ fcn))
theorem ce11_20 : CEok RX11 287 2 [(0, m0_init)] 2 := (CEok.k2 (fc ⟨mo_m0_init, wd_483, wd_484, rfl, rfl⟩ fcn))
theorem ce11_21 : CEok RX11 291 2 [(0, m6_init)] 2 := (CEok.k2 (fc ⟨mo_m6_init, wd_507, wd_508, rfl, rfl⟩ fcn))
theorem ce11_22 : CEok RX11 294 2 [(0, m9_init)] 2 := (CEok.k2 (fc ⟨mo_m9_init, wd_516, wd_517, rfl, rfl⟩ fcn))
theorem ce11_23 : CEok RX11 297 2 [(0, m1_init)] 2 := (CEok.k2 (fc ⟨mo_m1_init, wd_525, wd_526, rfl, rfl⟩ fcn))
theorem ce11_24 : CEok RX11 300 2 [(0, m3_init)] 2 := (CEok.k2 (fc ⟨mo_m3_init, wd_534, wd_535, rfl, rfl⟩ fcn))
theorem ce11_25 : CEok RX11 301 2 [(0, m8_init)] 2 := (CEok.k2 (fc ⟨mo_m8_init, wd_542, wd_487, rfl, rfl⟩ fcn))
theorem ce11_26 : CEok RX11 135 5 [(11, m11_sortAt)] 1 := (CEok.k5 (fc (Or.inl ⟨mo_m11_sortAt, wd_550, wd_552, _, _, cf11, rfl, gw_sel (q := (yX11_sortAt, 15)) (i := 18) (by decide +kernel) (by decide +kernel)⟩) fcn))
theorem ce11_27 : CEok RX11 139 5 [(8, m8_kind), (0, m0_kind), (6, m6_kind), (9, m9_kind), (1, m1_kind), (3, m3_kind)] 0 := (CEok.k5 (fc (Or.inl ⟨mo_m8_kind, wd_554, wd_555, _, _, cf8, rfl, wd_556⟩) (fc (Or.inr ⟨yX8_kind, mo_m0_kind, wd_554, wd_559, _, _, "UnlikeCoins$Sort", m8_kind.2.1, m8_kind.2.2.1, m8_kind.2.2.2, cf0, wd_557, wd_555, wd_573, wd_558, ⟨by decide +kernel, by decide +kernel⟩, by decide +kernel⟩) (fc (Or.inr ⟨yX8_kind, mo_m6_kind, wd_554, wd_568, _, _, "UnlikeCoins$Sort", m8_kind.2.1, m8_kind.2.2.1, m8_kind.2.2.2, cf6, wd_557, wd_555, wd_573, wd_567, ⟨by decide +kernel, by decide +kernel⟩, by decide +kernel⟩) (fc (Or.inr ⟨yX8_kind, mo_m9_kind, wd_554, wd_571, _, _, "UnlikeCoins$Sort", m8_kind.2.1, m8_kind.2.2.1, m8_kind.2.2.2, cf9, wd_557, wd_555, wd_573, wd_570, ⟨by decide +kernel, by decide +kernel⟩, by decide +kernel⟩) (fc (Or.inr ⟨yX8_kind, mo_m1_kind, wd_554, wd_562, _, _, "UnlikeCoins$Sort", m8_kind.2.1, m8_kind.2.2.1, m8_kind.2.2.2, cf1, wd_557, wd_555, wd_573, wd_561, ⟨by decide +kernel, by decide +kernel⟩, by decide +kernel⟩) (fc (Or.inr ⟨yX8_kind, mo_m3_kind, wd_554, wd_565, _, _, "UnlikeCoins$Sort", m8_kind.2.1, m8_kind.2.2.1, m8_kind.2.2.2, cf3, wd_557, wd_555, wd_573, wd_564, ⟨by decide +kernel, by decide +kernel⟩, by decide +kernel⟩) fcn)))))))
theorem ce11_28 : CEok RX11 148 5 [(4, m4_clear)] 0 := (CEok.k5 (fc (Or.inl ⟨mo_m4_clear, wd_578, wd_579, _, _, cf4, rfl, wd_580⟩) fcn))
theorem ce11_29 : CEok RX11 149 5 [(11, m11_purseAt)] 1 := (CEok.k5 (fc (Or.inl ⟨mo_m11_purseAt, wd_589, wd_591, _, _, cf11, rfl, gw_sel (q := (yX11_purseAt, 15)) (i := 19) (by decide +kernel) (by decide +kernel)⟩) fcn))
theorem ce11_30 : CEok RX11 153 5 [(4, m4_many)] 1 := (CEok.k5 (fc (Or.inl ⟨mo_m4_many, wd_593, wd_594, _, _, cf4, rfl, wd_595⟩) fcn))
theorem ce11_31 : CEok RX11 157 5 [(4, m4_put)] 2 := (CEok.k5 (fc (Or.inl ⟨mo_m4_put, wd_598, wd_599, _, _, cf4, rfl, wd_600⟩) fcn))
theorem ce11_32 : CEok RX11 160 5 [(4, m4_coins)] 0 := (CEok.k5 (fc (Or.inl ⟨mo_m4_coins, wd_610, wd_611, _, _, cf4, rfl, wd_612⟩) fcn))
theorem ce11_33 : CEok RX11 163 5 [(4, m4_sortBits)] 0 := (CEok.k5 (fc (Or.inl ⟨mo_m4_sortBits, wd_614, wd_615, _, _, cf4, rfl, wd_616⟩) fcn))
theorem ce11_34 : CEok RX11 166 5 [(4, m4_worth)] 1 := (CEok.k5 (fc (Or.inl ⟨mo_m4_worth, wd_618, wd_619, _, _, cf4, rfl, wd_620⟩) fcn))
theorem ce11_35 : CEok RX11 170 0 [(0, m11_isPrice)] 1 := (CEok.k0 (fc ⟨mo_m11_isPrice, wd_642, wd_643⟩ fcn))
theorem ce11_36 : CEok RX11 173 5 [(11, m11_timesAt)] 2 := (CEok.k5 (fc (Or.inl ⟨mo_m11_timesAt, wd_645, wd_647, _, _, cf11, rfl, gw_sel (q := (yX11_timesAt, 15)) (i := 20) (by decide +kernel) (by decide +kernel)⟩) fcn))
theorem ce11_37 : CEok RX11 184 5 [(4, m4_become)] 1 := (CEok.k5 (fc (Or.inl ⟨mo_m4_become, wd_649, wd_650, _, _, cf4, rfl, wd_651⟩) fcn))
theorem ce11_38 : CEok RX11 180 5 [(4, m4_lay)] 2 := (CEok.k5 (fc (Or.inl ⟨mo_m4_lay, wd_654, wd_655, _, _, cf4, rfl, wd_656⟩) fcn))
theorem ce11_39 : CEok RX11 177 5 [(11, m11_worthAt)] 2 := (CEok.k5 (fc (Or.inl ⟨mo_m11_worthAt, wd_681, wd_683, _, _, cf11, rfl, gw_sel (q := (yX11_worthAt, 15)) (i := 22) (by decide +kernel) (by decide +kernel)⟩) fcn))
theorem ce11_40 : CEok RX11 188 5 [(11, m11_timesOfAll)] 2 := (CEok.k5 (fc (Or.inl ⟨mo_m11_timesOfAll, wd_697, wd_699, _, _, cf11, rfl, gw_sel (q := (yX11_timesOfAll, 15)) (i := 23) (by decide +kernel) (by decide +kernel)⟩) fcn))
theorem ce11_41 : CEok RX11 198 5 [(4, m4_grow)] 2 := (CEok.k5 (fc (Or.inl ⟨mo_m4_grow, wd_701, wd_702, _, _, cf4, rfl, wd_703⟩) fcn))
theorem ce11_42 : CEok RX11 191 0 [(0, m11_canSwap)] 4 := (CEok.k0 (fc ⟨mo_m11_canSwap, wd_718, wd_719⟩ fcn))
theorem ce11_43 : CEok RX11 195 5 [(4, m4_lose)] 1 := (CEok.k5 (fc (Or.inl ⟨mo_m4_lose, wd_721, wd_722, _, _, cf4, rfl, wd_723⟩) fcn))
theorem ce11_44 : CEok RX11 201 5 [(11, m11_feeFor)] 2 := (CEok.k5 (fc (Or.inl ⟨mo_m11_feeFor, wd_725, wd_727, _, _, cf11, rfl, gw_sel (q := (yX11_feeFor, 15)) (i := 24) (by decide +kernel) (by decide +kernel)⟩) fcn))
theorem ce11_45 : CEok RX11 204 5 [(11, m11_timesWith)] 4 := (CEok.k5 (fc (Or.inl ⟨mo_m11_timesWith, wd_733, wd_735, _, _, cf11, rfl, gw_sel (q := (yX11_timesWith, 15)) (i := 25) (by decide +kernel) (by decide +kernel)⟩) fcn))
theorem ce11_46 : CEok RX11 208 5 [(11, m11_tryWage)] 3 := (CEok.k5 (fc (Or.inl ⟨mo_m11_tryWage, wd_753, wd_755, _, _, cf11, rfl, gw_sel (q := (yX11_tryWage, 15)) (i := 26) (by decide +kernel) (by decide +kernel)⟩) fcn))
theorem ce11_47 : CEok RX11 306 0 [(0, mJ9_max_7cf53)] 2 := (CEok.k0 (fc ⟨mo_mJ9_max_7cf53, wd_757, wd_241⟩ fcn))
theorem ce11_48 : CEok RX11 212 0 [(0, mJ9_min_7cf53)] 2 := (CEok.k0 (fc ⟨mo_mJ9_min_7cf53, wd_766, wd_244⟩ fcn))
theorem ce11_49 : CEok RX11 217 5 [(11, m11_passFor)] 1 := (CEok.k5 (fc (Or.inl ⟨mo_m11_passFor, wd_767, wd_769, _, _, cf11, rfl, gw_sel (q := (yX11_passFor, 15)) (i := 27) (by decide +kernel) (by decide +kernel)⟩) fcn))
theorem ce11_50 : CEok RX11 309 5 [(8, m8_leftOf), (0, m8_leftOf), (6, m8_leftOf), (9, m8_leftOf), (1, m1_leftOf), (3, m3_leftOf)] 1 := (CEok.k5 (fc (Or.inl ⟨mo_m8_leftOf, wd_771, wd_772, _, _, cf8, rfl, wd_773⟩) (fc (Or.inr ⟨yX8_leftOf, mo_m8_leftOf, wd_771, wd_772, _, _, "UnlikeCoins$Sort", m8_leftOf.2.1, m8_leftOf.2.2.1, m8_leftOf.2.2.2, cf0, wd_774, wd_772, wd_789, wd_775, ⟨by decide +kernel, by decide +kernel⟩, by decide +kernel⟩) (fc (Or.inr ⟨yX8_leftOf, mo_m8_leftOf, wd_771, wd_772, _, _, "UnlikeCoins$Sort", m8_leftOf.2.1, m8_leftOf.2.2.1, m8_leftOf.2.2.2, cf6, wd_774, wd_772, wd_789, wd_787, ⟨by decide +kernel, by decide +kernel⟩, by decide +kernel⟩) (fc (Or.inr ⟨yX8_leftOf, mo_m8_leftOf, wd_771, wd_772, _, _, "UnlikeCoins$Sort", m8_leftOf.2.1, m8_leftOf.2.2.1, m8_leftOf.2.2.2, cf9, wd_774, wd_772, wd_789, wd_788, ⟨by decide +kernel, by decide +kernel⟩, by decide +kernel⟩) (fc (Or.inr ⟨yX8_leftOf, mo_m1_leftOf, wd_771, wd_777, _, _, "UnlikeCoins$Sort", m8_leftOf.2.1, m8_leftOf.2.2.1, m8_leftOf.2.2.2, cf1, wd_774, wd_772, wd_789, wd_776, ⟨by decide +kernel, by decide +kernel⟩, by decide +kernel⟩) (fc (Or.inr ⟨yX8_leftOf, mo_m3_leftOf, wd_771, wd_784, _, _, "UnlikeCoins$Sort", m8_leftOf.2.1, m8_leftOf.2.2.1, m8_leftOf.2.2.2, cf3, wd_774, wd_772, wd_789, wd_783, ⟨by decide +kernel, by decide +kernel⟩, by decide +kernel⟩) fcn)))))))
theorem ce11_51 : CEok RX11 220 5 [(11, m11_sheetAt)] 1 := (CEok.k5 (fc (Or.inl ⟨mo_m11_sheetAt, wd_794, wd_796, _, _, cf11, rfl, gw_sel (q := (yX11_sheetAt, 15)) (i := 28) (by decide +kernel) (by decide +kernel)⟩) fcn))
theorem ce11_52 : CEok RX11 224 5 [(7, m7_cannotTell)] 0 := (CEok.k5 (fc (Or.inl ⟨mo_m7_cannotTell, wd_798, wd_799, _, _, cf7, rfl, wd_800⟩) fcn))
theorem ce11_53 : CEok RX11 227 5 [(7, m7_isMissing)] 0 := (CEok.k5 (fc (Or.inl ⟨mo_m7_isMissing, wd_806, wd_803, _, _, cf7, rfl, wd_804⟩) fcn))
theorem ce11_54 : CEok RX11 230 5 [(11, m11_firstOther)] 2 := (CEok.k5 (fc (Or.inl ⟨mo_m11_firstOther, wd_807, wd_809, _, _, cf11, rfl, gw_sel (q := (yX11_firstOther, 15)) (i := 29) (by decide +kernel) (by decide +kernel)⟩) fcn))
theorem ce11_55 : CEok RX11 274 5 [(7, m7_get)] 1 := (CEok.k5 (fc (Or.inl ⟨mo_m7_get, wd_811, wd_812, _, _, cf7, rfl, wd_813⟩) fcn))
theorem ce11_56 : CEok RX11 234 5 [(11, m11_tryPurse)] 1 := (CEok.k5 (fc (Or.inl ⟨mo_m11_tryPurse, wd_827, wd_829, _, _, cf11, rfl, gw_sel (q := (yX11_tryPurse, 15)) (i := 30) (by decide +kernel) (by decide +kernel)⟩) fcn))
theorem ce11_57 : CEok RX11 237 5 [(7, m7_become)] 2 := (CEok.k5 (fc (Or.inl ⟨mo_m7_become, wd_835, wd_836, _, _, cf7, rfl, wd_837⟩) fcn))
theorem ce11_58 : CEok RX11 239 5 [(7, m7_put)] 2 := (CEok.k5 (fc (Or.inl ⟨mo_m7_put, wd_840, wd_841, _, _, cf7, rfl, wd_842⟩) fcn))
theorem ce11_59 : CEok RX11 241 5 [(11, m11_drawnBy)] 2 := (CEok.k5 (fc (Or.inl ⟨mo_m11_drawnBy, wd_853, wd_855, _, _, cf11, rfl, gw_sel (q := (yX11_drawnBy, 15)) (i := 31) (by decide +kernel) (by decide +kernel)⟩) fcn))
theorem ce11_60 : CEok RX11 318 0 [(0, m11_lotBehind)] 1 := (CEok.k0 (fc ⟨mo_m11_lotBehind, wd_857, wd_858⟩ fcn))
theorem ce11_61 : CEok RX11 246 0 [(0, m11_commonDivisor)] 2 := (CEok.k0 (fc ⟨mo_m11_commonDivisor, wd_868, wd_869⟩ fcn))
theorem ce11_62 : CEok RX11 258 5 [(7, m7_holds)] 2 := (CEok.k5 (fc (Or.inl ⟨mo_m7_holds, wd_887, wd_816, _, _, cf7, rfl, wd_817⟩) fcn))
theorem ce11_63 : CEok RX11 268 7 [] 5 := (CEok.k7 ⟨wd_892, wd_339, wd_338, wd_14⟩)
theorem ce11_64 : CEok RX11 277 5 [(11, m11_set)] 3 := (CEok.k5 (fc (Or.inl ⟨mo_m11_set, wd_897, wd_586, _, _, cf11, rfl, wd_587⟩) fcn))
theorem ce11_65 : CEok RX11 281 0 [(0, m11_isOfKind)] 2 := (CEok.k0 (fc ⟨mo_m11_isOfKind, wd_902, wd_903⟩ fcn))
theorem ne11_0 : NEok RX11 9 8 := ⟨fun e => absurd e (by decide), fun _ => ⟨_, _, cf8, wd_30⟩⟩
theorem ne11_1 : NEok RX11 15 4 := ⟨fun e => absurd e (by decide), fun _ => ⟨_, _, cf4, wd_32⟩⟩
theorem ne11_2 : NEok RX11 32 10 := ⟨fun e => absurd e (by decide), fun _ => ⟨_, _, cf10, wd_50⟩⟩
theorem ne11_3 : NEok RX11 38 7 := ⟨fun e => absurd e (by decide), fun _ => ⟨_, _, cf7, wd_52⟩⟩
theorem ne11_4 : NEok RX11 44 5 := ⟨fun e => absurd e (by decide), fun _ => ⟨_, _, cf5, wd_54⟩⟩
theorem ne11_5 : NEok RX11 51 2 := ⟨fun e => absurd e (by decide), fun _ => ⟨_, _, cf2, wd_91⟩⟩
theorem ne11_6 : NEok RX11 285 0 := ⟨fun e => absurd e (by decide), fun _ => ⟨_, _, cf0, wd_481⟩⟩
theorem ne11_7 : NEok RX11 289 6 := ⟨fun e => absurd e (by decide), fun _ => ⟨_, _, cf6, wd_505⟩⟩
theorem ne11_8 : NEok RX11 292 9 := ⟨fun e => absurd e (by decide), fun _ => ⟨_, _, cf9, wd_514⟩⟩
theorem ne11_9 : NEok RX11 295 1 := ⟨fun e => absurd e (by decide), fun _ => ⟨_, _, cf1, wd_523⟩⟩
theorem ne11_10 : NEok RX11 298 3 := ⟨fun e => absurd e (by decide), fun _ => ⟨_, _, cf3, wd_532⟩⟩
def kf11 : List FE := [(249, 0, [2], 2), (250, 1, [2], 0), (251, 2, [2], 0), (252, 3, [2], 0), (253, 4, [2], 0), (254, 5, [2], 0), (265, 0, [7], 2), (262, 1, [7], 0), (312, 2, [7], 0), (11, 0, [11], 1), (17, 1, [11], 1), (21, 2, [11], 1), (25, 3, [11], 1), (29, 4, [11], 1), (34, 5, [11], 1), (40, 6, [11], 1), (47, 7, [11], 1), (54, 8, [11], 1), (58, 9, [11], 1), (94, 10, [11], 0), (97, 11, [11], 0), (87, 12, [11], 0), (100, 13, [11], 0), (103, 14, [11], 0), (142, 0, [8, 0, 6, 9, 1, 3], 2), (145, 1, [8, 0, 6, 9, 1, 3], 2)]
def kc11 : List CE := [(1, 6, [], 0, 0, 0), (24, 3, [(0, m4_init)], 0, 3, 18), (46, 3, [(0, m5_init)], 0, 3, 323), (53, 2, [(0, m2_init)], 0, 21, 110), (62, 3, [(0, m7_init)], 0, 1, 40), (65, 9, [(0, mJ0_length_8abf5)], 0, 0, 0), (71, 9, [(0, mJ0_charAt_5068e)], 1, 0, 0), (75, 5, [(5, m5_put)], 1, 0, 0), (79, 5, [(5, m5_readText)], 0, 0, 0), (83, 5, [(5, m5_textRead)], 0, 4, 356), (91, 5, [(5, m5_clear)], 0, 0, 0), (106, 5, [(5, m5_size)], 0, 0, 0), (109, 0, [(0, m11_within)], 3, 0, 0), (113, 0, [(0, m11_isByte)], 1, 0, 0), (117, 5, [(5, m5_hasRoom)], 1, 0, 0), (120, 5, [(5, m5_place)], 0, 0, 0), (123, 5, [(11, m11_nameAll)], 5, 0, 0), (127, 5, [(11, m11_says)], 2, 0, 0), (302, 5, [(10, m10_value)], 2, 0, 0), (131, 0, [(0, m11_newSort)], 3, 1, 2), (287, 2, [(0, m0_init)], 2, 0, 0), (291, 2, [(0, m6_init)], 2, 0, 0), (294, 2, [(0, m9_init)], 2, 0, 0), (297, 2, [(0, m1_init)], 2, 0, 0), (300, 2, [(0, m3_init)], 2, 0, 0), (301, 2, [(0, m8_init)], 2, 0, 0), (135, 5, [(11, m11_sortAt)], 1, 0, 0), (139, 5, [(8, m8_kind), (0, m0_kind), (6, m6_kind), (9, m9_kind), (1, m1_kind), (3, m3_kind)], 0, 0, 0), (148, 5, [(4, m4_clear)], 0, 0, 0), (149, 5, [(11, m11_purseAt)], 1, 0, 0), (153, 5, [(4, m4_many)], 1, 0, 0), (157, 5, [(4, m4_put)], 2, 0, 0), (160, 5, [(4, m4_coins)], 0, 0, 0), (163, 5, [(4, m4_sortBits)], 0, 0, 0), (166, 5, [(4, m4_worth)], 1, 0, 0), (170, 0, [(0, m11_isPrice)], 1, 0, 0), (173, 5, [(11, m11_timesAt)], 2, 0, 0), (184, 5, [(4, m4_become)], 1, 0, 0), (180, 5, [(4, m4_lay)], 2, 0, 0), (177, 5, [(11, m11_worthAt)], 2, 0, 0), (188, 5, [(11, m11_timesOfAll)], 2, 0, 0), (198, 5, [(4, m4_grow)], 2, 0, 0), (191, 0, [(0, m11_canSwap)], 4, 0, 0), (195, 5, [(4, m4_lose)], 1, 0, 0), (201, 5, [(11, m11_feeFor)], 2, 0, 0), (204, 5, [(11, m11_timesWith)], 4, 0, 0), (208, 5, [(11, m11_tryWage)], 3, 0, 0), (306, 0, [(0, mJ9_max_7cf53)], 2, 0, 0), (212, 0, [(0, mJ9_min_7cf53)], 2, 0, 0), (217, 5, [(11, m11_passFor)], 1, 0, 0), (309, 5, [(8, m8_leftOf), (0, m8_leftOf), (6, m8_leftOf), (9, m8_leftOf), (1, m1_leftOf), (3, m3_leftOf)], 1, 0, 0), (220, 5, [(11, m11_sheetAt)], 1, 0, 0), (224, 5, [(7, m7_cannotTell)], 0, 0, 0), (227, 5, [(7, m7_isMissing)], 0, 0, 0), (230, 5, [(11, m11_firstOther)], 2, 0, 0), (274, 5, [(7, m7_get)], 1, 0, 0), (234, 5, [(11, m11_tryPurse)], 1, 0, 0), (237, 5, [(7, m7_become)], 2, 0, 0), (239, 5, [(7, m7_put)], 2, 0, 0), (241, 5, [(11, m11_drawnBy)], 2, 0, 0), (318, 0, [(0, m11_lotBehind)], 1, 0, 0), (246, 0, [(0, m11_commonDivisor)], 2, 0, 0), (258, 5, [(7, m7_holds)], 2, 0, 0), (268, 7, [], 5, 0, 0), (277, 5, [(11, m11_set)], 3, 0, 0), (281, 0, [(0, m11_isOfKind)], 2, 0, 0)]
def kn11 : List (Nat × Nat) := [(9, 8), (15, 4), (32, 10), (38, 7), (44, 5), (51, 2), (285, 0), (289, 6), (292, 9), (295, 1), (298, 3)]
def kl11 : List (Nat × Value) := [(63, .ref 1), (240, .int (99999)), (314, .long (48271)), (316, .long (2147483647)), (322, .long (6)), (244, .long (-4611686018427387904))]
def kt11 : KT := (kf11, kc11, kn11, kl11)
set_option maxRecDepth 50000 in
theorem kf11_ok : ∀ e ∈ kf11, FEok RX11 e.1 e.2.1 e.2.2.1 e.2.2.2 := (fc (P := fun e : FE => FEok RX11 e.1 e.2.1 e.2.2.1 e.2.2.2) fe11_0 (fc (P := fun e : FE => FEok RX11 e.1 e.2.1 e.2.2.1 e.2.2.2) fe11_1 (fc (P := fun e : FE => FEok RX11 e.1 e.2.1 e.2.2.1 e.2.2.2) fe11_2 (fc (P := fun e : FE => FEok RX11 e.1 e.2.1 e.2.2.1 e.2.2.2) fe11_3 (fc (P := fun e : FE => FEok RX11 e.1 e.2.1 e.2.2.1 e.2.2.2) fe11_4 (fc (P := fun e : FE => FEok RX11 e.1 e.2.1 e.2.2.1 e.2.2.2) fe11_5 (fc (P := fun e : FE => FEok RX11 e.1 e.2.1 e.2.2.1 e.2.2.2) fe11_6 (fc (P := fun e : FE => FEok RX11 e.1 e.2.1 e.2.2.1 e.2.2.2) fe11_7 (fc (P := fun e : FE => FEok RX11 e.1 e.2.1 e.2.2.1 e.2.2.2) fe11_8 (fc (P := fun e : FE => FEok RX11 e.1 e.2.1 e.2.2.1 e.2.2.2) fe11_9 (fc (P := fun e : FE => FEok RX11 e.1 e.2.1 e.2.2.1 e.2.2.2) fe11_10 (fc (P := fun e : FE => FEok RX11 e.1 e.2.1 e.2.2.1 e.2.2.2) fe11_11 (fc (P := fun e : FE => FEok RX11 e.1 e.2.1 e.2.2.1 e.2.2.2) fe11_12 (fc (P := fun e : FE => FEok RX11 e.1 e.2.1 e.2.2.1 e.2.2.2) fe11_13 (fc (P := fun e : FE => FEok RX11 e.1 e.2.1 e.2.2.1 e.2.2.2) fe11_14 (fc (P := fun e : FE => FEok RX11 e.1 e.2.1 e.2.2.1 e.2.2.2) fe11_15 (fc (P := fun e : FE => FEok RX11 e.1 e.2.1 e.2.2.1 e.2.2.2) fe11_16 (fc (P := fun e : FE => FEok RX11 e.1 e.2.1 e.2.2.1 e.2.2.2) fe11_17 (fc (P := fun e : FE => FEok RX11 e.1 e.2.1 e.2.2.1 e.2.2.2) fe11_18 (fc (P := fun e : FE => FEok RX11 e.1 e.2.1 e.2.2.1 e.2.2.2) fe11_19 (fc (P := fun e : FE => FEok RX11 e.1 e.2.1 e.2.2.1 e.2.2.2) fe11_20 (fc (P := fun e : FE => FEok RX11 e.1 e.2.1 e.2.2.1 e.2.2.2) fe11_21 (fc (P := fun e : FE => FEok RX11 e.1 e.2.1 e.2.2.1 e.2.2.2) fe11_22 (fc (P := fun e : FE => FEok RX11 e.1 e.2.1 e.2.2.1 e.2.2.2) fe11_23 (fc (P := fun e : FE => FEok RX11 e.1 e.2.1 e.2.2.1 e.2.2.2) fe11_24 (fc (P := fun e : FE => FEok RX11 e.1 e.2.1 e.2.2.1 e.2.2.2) fe11_25 fcn))))))))))))))))))))))))))
set_option maxRecDepth 50000 in
theorem kc11_ok : ∀ e ∈ kc11, CEok RX11 e.1 e.2.1 e.2.2.1 e.2.2.2.1 := (fc (P := fun e : CE => CEok RX11 e.1 e.2.1 e.2.2.1 e.2.2.2.1) ce11_0 (fc (P := fun e : CE => CEok RX11 e.1 e.2.1 e.2.2.1 e.2.2.2.1) ce11_1 (fc (P := fun e : CE => CEok RX11 e.1 e.2.1 e.2.2.1 e.2.2.2.1) ce11_2 (fc (P := fun e : CE => CEok RX11 e.1 e.2.1 e.2.2.1 e.2.2.2.1) ce11_3 (fc (P := fun e : CE => CEok RX11 e.1 e.2.1 e.2.2.1 e.2.2.2.1) ce11_4 (fc (P := fun e : CE => CEok RX11 e.1 e.2.1 e.2.2.1 e.2.2.2.1) ce11_5 (fc (P := fun e : CE => CEok RX11 e.1 e.2.1 e.2.2.1 e.2.2.2.1) ce11_6 (fc (P := fun e : CE => CEok RX11 e.1 e.2.1 e.2.2.1 e.2.2.2.1) ce11_7 (fc (P := fun e : CE => CEok RX11 e.1 e.2.1 e.2.2.1 e.2.2.2.1) ce11_8 (fc (P := fun e : CE => CEok RX11 e.1 e.2.1 e.2.2.1 e.2.2.2.1) ce11_9 (fc (P := fun e : CE => CEok RX11 e.1 e.2.1 e.2.2.1 e.2.2.2.1) ce11_10 (fc (P := fun e : CE => CEok RX11 e.1 e.2.1 e.2.2.1 e.2.2.2.1) ce11_11 (fc (P := fun e : CE => CEok RX11 e.1 e.2.1 e.2.2.1 e.2.2.2.1) ce11_12 (fc (P := fun e : CE => CEok RX11 e.1 e.2.1 e.2.2.1 e.2.2.2.1) ce11_13 (fc (P := fun e : CE => CEok RX11 e.1 e.2.1 e.2.2.1 e.2.2.2.1) ce11_14 (fc (P := fun e : CE => CEok RX11 e.1 e.2.1 e.2.2.1 e.2.2.2.1) ce11_15 (fc (P := fun e : CE => CEok RX11 e.1 e.2.1 e.2.2.1 e.2.2.2.1) ce11_16 (fc (P := fun e : CE => CEok RX11 e.1 e.2.1 e.2.2.1 e.2.2.2.1) ce11_17 (fc (P := fun e : CE => CEok RX11 e.1 e.2.1 e.2.2.1 e.2.2.2.1) ce11_18 (fc (P := fun e : CE => CEok RX11 e.1 e.2.1 e.2.2.1 e.2.2.2.1) ce11_19 (fc (P := fun e : CE => CEok RX11 e.1 e.2.1 e.2.2.1 e.2.2.2.1) ce11_20 (fc (P := fun e : CE => CEok RX11 e.1 e.2.1 e.2.2.1 e.2.2.2.1) ce11_21 (fc (P := fun e : CE => CEok RX11 e.1 e.2.1 e.2.2.1 e.2.2.2.1) ce11_22 (fc (P := fun e : CE => CEok RX11 e.1 e.2.1 e.2.2.1 e.2.2.2.1) ce11_23 (fc (P := fun e : CE => CEok RX11 e.1 e.2.1 e.2.2.1 e.2.2.2.1) ce11_24 (fc (P := fun e : CE => CEok RX11 e.1 e.2.1 e.2.2.1 e.2.2.2.1) ce11_25 (fc (P := fun e : CE => CEok RX11 e.1 e.2.1 e.2.2.1 e.2.2.2.1) ce11_26 (fc (P := fun e : CE => CEok RX11 e.1 e.2.1 e.2.2.1 e.2.2.2.1) ce11_27 (fc (P := fun e : CE => CEok RX11 e.1 e.2.1 e.2.2.1 e.2.2.2.1) ce11_28 (fc (P := fun e : CE => CEok RX11 e.1 e.2.1 e.2.2.1 e.2.2.2.1) ce11_29 (fc (P := fun e : CE => CEok RX11 e.1 e.2.1 e.2.2.1 e.2.2.2.1) ce11_30 (fc (P := fun e : CE => CEok RX11 e.1 e.2.1 e.2.2.1 e.2.2.2.1) ce11_31 (fc (P := fun e : CE => CEok RX11 e.1 e.2.1 e.2.2.1 e.2.2.2.1) ce11_32 (fc (P := fun e : CE => CEok RX11 e.1 e.2.1 e.2.2.1 e.2.2.2.1) ce11_33 (fc (P := fun e : CE => CEok RX11 e.1 e.2.1 e.2.2.1 e.2.2.2.1) ce11_34 (fc (P := fun e : CE => CEok RX11 e.1 e.2.1 e.2.2.1 e.2.2.2.1) ce11_35 (fc (P := fun e : CE => CEok RX11 e.1 e.2.1 e.2.2.1 e.2.2.2.1) ce11_36 (fc (P := fun e : CE => CEok RX11 e.1 e.2.1 e.2.2.1 e.2.2.2.1) ce11_37 (fc (P := fun e : CE => CEok RX11 e.1 e.2.1 e.2.2.1 e.2.2.2.1) ce11_38 (fc (P := fun e : CE => CEok RX11 e.1 e.2.1 e.2.2.1 e.2.2.2.1) ce11_39 (fc (P := fun e : CE => CEok RX11 e.1 e.2.1 e.2.2.1 e.2.2.2.1) ce11_40 (fc (P := fun e : CE => CEok RX11 e.1 e.2.1 e.2.2.1 e.2.2.2.1) ce11_41 (fc (P := fun e : CE => CEok RX11 e.1 e.2.1 e.2.2.1 e.2.2.2.1) ce11_42 (fc (P := fun e : CE => CEok RX11 e.1 e.2.1 e.2.2.1 e.2.2.2.1) ce11_43 (fc (P := fun e : CE => CEok RX11 e.1 e.2.1 e.2.2.1 e.2.2.2.1) ce11_44 (fc (P := fun e : CE => CEok RX11 e.1 e.2.1 e.2.2.1 e.2.2.2.1) ce11_45 (fc (P := fun e : CE => CEok RX11 e.1 e.2.1 e.2.2.1 e.2.2.2.1) ce11_46 (fc (P := fun e : CE => CEok RX11 e.1 e.2.1 e.2.2.1 e.2.2.2.1) ce11_47 (fc (P := fun e : CE => CEok RX11 e.1 e.2.1 e.2.2.1 e.2.2.2.1) ce11_48 (fc (P := fun e : CE => CEok RX11 e.1 e.2.1 e.2.2.1 e.2.2.2.1) ce11_49 (fc (P := fun e : CE => CEok RX11 e.1 e.2.1 e.2.2.1 e.2.2.2.1) ce11_50 (fc (P := fun e : CE => CEok RX11 e.1 e.2.1 e.2.2.1 e.2.2.2.1) ce11_51 (fc (P := fun e : CE => CEok RX11 e.1 e.2.1 e.2.2.1 e.2.2.2.1) ce11_52 (fc (P := fun e : CE => CEok RX11 e.1 e.2.1 e.2.2.1 e.2.2.2.1) ce11_53 (fc (P := fun e : CE => CEok RX11 e.1 e.2.1 e.2.2.1 e.2.2.2.1) ce11_54 (fc (P := fun e : CE => CEok RX11 e.1 e.2.1 e.2.2.1 e.2.2.2.1) ce11_55 (fc (P := fun e : CE => CEok RX11 e.1 e.2.1 e.2.2.1 e.2.2.2.1) ce11_56 (fc (P := fun e : CE => CEok RX11 e.1 e.2.1 e.2.2.1 e.2.2.2.1) ce11_57 (fc (P := fun e : CE => CEok RX11 e.1 e.2.1 e.2.2.1 e.2.2.2.1) ce11_58 (fc (P := fun e : CE => CEok RX11 e.1 e.2.1 e.2.2.1 e.2.2.2.1) ce11_59 (fc (P := fun e : CE => CEok RX11 e.1 e.2.1 e.2.2.1 e.2.2.2.1) ce11_60 (fc (P := fun e : CE => CEok RX11 e.1 e.2.1 e.2.2.1 e.2.2.2.1) ce11_61 (fc (P := fun e : CE => CEok RX11 e.1 e.2.1 e.2.2.1 e.2.2.2.1) ce11_62 (fc (P := fun e : CE => CEok RX11 e.1 e.2.1 e.2.2.1 e.2.2.2.1) ce11_63 (fc (P := fun e : CE => CEok RX11 e.1 e.2.1 e.2.2.1 e.2.2.2.1) ce11_64 (fc (P := fun e : CE => CEok RX11 e.1 e.2.1 e.2.2.1 e.2.2.2.1) ce11_65 fcn))))))))))))))))))))))))))))))))))))))))))))))))))))))))))))))))))
theorem kn11_ok : ∀ e ∈ kn11, NEok RX11 e.1 e.2 := (fc (P := fun e : Nat × Nat => NEok RX11 e.1 e.2) ne11_0 (fc (P := fun e : Nat × Nat => NEok RX11 e.1 e.2) ne11_1 (fc (P := fun e : Nat × Nat => NEok RX11 e.1 e.2) ne11_2 (fc (P := fun e : Nat × Nat => NEok RX11 e.1 e.2) ne11_3 (fc (P := fun e : Nat × Nat => NEok RX11 e.1 e.2) ne11_4 (fc (P := fun e : Nat × Nat => NEok RX11 e.1 e.2) ne11_5 (fc (P := fun e : Nat × Nat => NEok RX11 e.1 e.2) ne11_6 (fc (P := fun e : Nat × Nat => NEok RX11 e.1 e.2) ne11_7 (fc (P := fun e : Nat × Nat => NEok RX11 e.1 e.2) ne11_8 (fc (P := fun e : Nat × Nat => NEok RX11 e.1 e.2) ne11_9 (fc (P := fun e : Nat × Nat => NEok RX11 e.1 e.2) ne11_10 fcn)))))))))))
theorem kt11_ok {g : Gt} (hs : GS g) : KTok g RX11 kt11 := ⟨kf11_ok, kc11_ok, kn11_ok, (fc (P := fun e : Nat × Value => LEok g RX11 e.1 e.2) ⟨sx0, fun s H hX => (hs.2.2.1 s H hX).2.2.1.1⟩ (fc (P := fun e : Nat × Value => LEok g RX11 e.1 e.2) (wd_848) (fc (P := fun e : Nat × Value => LEok g RX11 e.1 e.2) (wd_860) (fc (P := fun e : Nat × Value => LEok g RX11 e.1 e.2) (wd_861) (fc (P := fun e : Nat × Value => LEok g RX11 e.1 e.2) (wd_862) (fc (P := fun e : Nat × Value => LEok g RX11 e.1 e.2) (wd_867) fcn))))))⟩
end
section
/-! the links of UnlikeCoinsModel, by the tables -/
theorem fe12_0 : FEok RX12 84 0 [12] 0 := (FEok.mk (fc ⟨⟨RX12, TX12, "UnlikeCoinsModel", cf12, by decide, wd_958, Or.inl rfl⟩, rfl, rfl, fun _ => ⟨_, _, cf12, rfl⟩, fun e => absurd e (by decide)⟩ fcn))
theorem fe12_1 : FEok RX12 7 1 [12] 1 := (FEok.mk (fc ⟨⟨RX12, TX12, "UnlikeCoinsModel", cf12, by decide, wd_959, Or.inl rfl⟩, rfl, rfl, fun e => absurd e (by decide), fun _ => ⟨_, _, cf12, rfl, rfl⟩⟩ fcn))
theorem fe12_2 : FEok RX12 13 2 [12] 1 := (FEok.mk (fc ⟨⟨RX12, TX12, "UnlikeCoinsModel", cf12, by decide, wd_960, Or.inl rfl⟩, rfl, rfl, fun e => absurd e (by decide), fun _ => ⟨_, _, cf12, rfl, rfl⟩⟩ fcn))
theorem fe12_3 : FEok RX12 16 3 [12] 1 := (FEok.mk (fc ⟨⟨RX12, TX12, "UnlikeCoinsModel", cf12, by decide, wd_961, Or.inl rfl⟩, rfl, rfl, fun e => absurd e (by decide), fun _ => ⟨_, _, cf12, rfl, rfl⟩⟩ fcn))
theorem fe12_4 : FEok RX12 91 4 [12] 0 := (FEok.mk (fc ⟨⟨RX12, TX12, "UnlikeCoinsModel", cf12, by decide, wd_962, Or.inl rfl⟩, rfl, rfl, fun _ => ⟨_, _, cf12, rfl⟩, fun e => absurd e (by decide)⟩ fcn))
theorem fe12_5 : FEok RX12 19 5 [12] 1 := (FEok.mk (fc ⟨⟨RX12, TX12, "UnlikeCoinsModel", cf12, by decide, wd_963, Or.inl rfl⟩, rfl, rfl, fun e => absurd e (by decide), fun _ => ⟨_, _, cf12, rfl, rfl⟩⟩ fcn))
theorem fe12_6 : FEok RX12 94 6 [12] 0 := (FEok.mk (fc ⟨⟨RX12, TX12, "UnlikeCoinsModel", cf12, by decide, wd_964, Or.inl rfl⟩, rfl, rfl, fun _ => ⟨_, _, cf12, rfl⟩, fun e => absurd e (by decide)⟩ fcn))
theorem fe12_7 : FEok RX12 22 7 [12] 1 := (FEok.mk (fc ⟨⟨RX12, TX12, "UnlikeCoinsModel", cf12, by decide, wd_965, Or.inl rfl⟩, rfl, rfl, fun e => absurd e (by decide), fun _ => ⟨_, _, cf12, rfl, rfl⟩⟩ fcn))
theorem fe12_8 : FEok RX12 76 8 [12] 0 := (FEok.mk (fc ⟨⟨RX12, TX12, "UnlikeCoinsModel", cf12, by decide, wd_966, Or.inl rfl⟩, rfl, rfl, fun _ => ⟨_, _, cf12, rfl⟩, fun e => absurd e (by decide)⟩ fcn))
theorem fe12_9 : FEok RX12 25 9 [12] 1 := (FEok.mk (fc ⟨⟨RX12, TX12, "UnlikeCoinsModel", cf12, by decide, wd_967, Or.inl rfl⟩, rfl, rfl, fun e => absurd e (by decide), fun _ => ⟨_, _, cf12, rfl, rfl⟩⟩ fcn))
theorem fe12_10 : FEok RX12 28 10 [12] 1 := (FEok.mk (fc ⟨⟨RX12, TX12, "UnlikeCoinsModel", cf12, by decide, wd_968, Or.inl rfl⟩, rfl, rfl, fun e => absurd e (by decide), fun _ => ⟨_, _, cf12, rfl, rfl⟩⟩ fcn))
theorem fe12_11 : FEok RX12 97 11 [12] 0 := (FEok.mk (fc ⟨⟨RX12, TX12, "UnlikeCoinsModel", cf12, by decide, wd_969, Or.inl rfl⟩, rfl, rfl, fun _ => ⟨_, _, cf12, rfl⟩, fun e => absurd e (by decide)⟩ fcn))
theorem fe12_12 : FEok RX12 100 12 [12] 0 := (FEok.mk (fc ⟨⟨RX12, TX12, "UnlikeCoinsModel", cf12, by decide, wd_970, Or.inl rfl⟩, rfl, rfl, fun _ => ⟨_, _, cf12, rfl⟩, fun e => absurd e (by decide)⟩ fcn))
theorem fe12_13 : FEok RX12 284 13 [12] 0 := (FEok.mk (fc ⟨⟨RX12, TX12, "UnlikeCoinsModel", cf12, by decide, wd_971, Or.inl rfl⟩, rfl, rfl, fun _ => ⟨_, _, cf12, rfl⟩, fun e => absurd e (by decide)⟩ fcn))
theorem fe12_14 : FEok RX12 288 14 [12] 0 := (FEok.mk (fc ⟨⟨RX12, TX12, "UnlikeCoinsModel", cf12, by decide, wd_972, Or.inl rfl⟩, rfl, rfl, fun _ => ⟨_, _, cf12, rfl⟩, fun e => absurd e (by decide)⟩ fcn))
theorem fe12_15 : FEok RX12 291 15 [12] 0 := (FEok.mk (fc ⟨⟨RX12, TX12, "UnlikeCoinsModel", cf12, by decide, wd_973, Or.inl rfl⟩, rfl, rfl, fun _ => ⟨_, _, cf12, rfl⟩, fun e => absurd e (by decide)⟩ fcn))
theorem fe12_16 : FEok RX12 294 16 [12] 0 := (FEok.mk (fc ⟨⟨RX12, TX12, "UnlikeCoinsModel", cf12, by decide, wd_974, Or.inl rfl⟩, rfl, rfl, fun _ => ⟨_, _, cf12, rfl⟩, fun e => absurd e (by decide)⟩ fcn))
theorem fe12_17 : FEok RX12 297 17 [12] 0 := (FEok.mk (fc ⟨⟨RX12, TX12, "UnlikeCoinsModel", cf12, by decide, wd_975, Or.inl rfl⟩, rfl, rfl, fun _ => ⟨_, _, cf12, rfl⟩, fun e => absurd e (by decide)⟩ fcn))
theorem fe12_18 : FEok RX12 31 18 [12] 1 := (FEok.mk (fc ⟨⟨RX12, TX12, "UnlikeCoinsModel", cf12, by decide, wd_976, Or.inl rfl⟩, rfl, rfl, fun e => absurd e (by decide), fun _ => ⟨_, _, cf12, rfl, rfl⟩⟩ fcn))
theorem fe12_19 : FEok RX12 34 19 [12] 1 := (FEok.mk (fc ⟨⟨RX12, TX12, "UnlikeCoinsModel", cf12, by decide, wd_977, Or.inl rfl⟩, rfl, rfl, fun e => absurd e (by decide), fun _ => ⟨_, _, cf12, rfl, rfl⟩⟩ fcn))
theorem fe12_20 : FEok RX12 37 20 [12] 1 := (FEok.mk (fc ⟨⟨RX12, TX12, "UnlikeCoinsModel", cf12, by decide, wd_978, Or.inl rfl⟩, rfl, rfl, fun e => absurd e (by decide), fun _ => ⟨_, _, cf12, rfl, rfl⟩⟩ fcn))
theorem fe12_21 : FEok RX12 40 21 [12] 1 := (FEok.mk (fc ⟨⟨RX12, TX12, "UnlikeCoinsModel", cf12, by decide, wd_979, Or.inl rfl⟩, rfl, rfl, fun e => absurd e (by decide), fun _ => ⟨_, _, cf12, rfl, rfl⟩⟩ fcn))
theorem fe12_22 : FEok RX12 43 22 [12] 1 := (FEok.mk (fc ⟨⟨RX12, TX12, "UnlikeCoinsModel", cf12, by decide, wd_980, Or.inl rfl⟩, rfl, rfl, fun e => absurd e (by decide), fun _ => ⟨_, _, cf12, rfl, rfl⟩⟩ fcn))
theorem fe12_23 : FEok RX12 107 23 [12] 0 := (FEok.mk (fc ⟨⟨RX12, TX12, "UnlikeCoinsModel", cf12, by decide, wd_981, Or.inl rfl⟩, rfl, rfl, fun _ => ⟨_, _, cf12, rfl⟩, fun e => absurd e (by decide)⟩ fcn))
theorem fe12_24 : FEok RX12 110 24 [12] 0 := (FEok.mk (fc ⟨⟨RX12, TX12, "UnlikeCoinsModel", cf12, by decide, wd_982, Or.inl rfl⟩, rfl, rfl, fun _ => ⟨_, _, cf12, rfl⟩, fun e => absurd e (by decide)⟩ fcn))
theorem fe12_25 : FEok RX12 113 25 [12] 0 := (FEok.mk (fc ⟨⟨RX12, TX12, "UnlikeCoinsModel", cf12, by decide, wd_983, Or.inl rfl⟩, rfl, rfl, fun _ => ⟨_, _, cf12, rfl⟩, fun e => absurd e (by decide)⟩ fcn))
theorem fe12_26 : FEok RX12 116 26 [12] 0 := (FEok.mk (fc ⟨⟨RX12, TX12, "UnlikeCoinsModel", cf12, by decide, wd_984, Or.inl rfl⟩, rfl, rfl, fun _ => ⟨_, _, cf12, rfl⟩, fun e => absurd e (by decide)⟩ fcn))
theorem fe12_27 : FEok RX12 46 27 [12] 1 := (FEok.mk (fc ⟨⟨RX12, TX12, "UnlikeCoinsModel", cf12, by decide, wd_985, Or.inl rfl⟩, rfl, rfl, fun e => absurd e (by decide), fun _ => ⟨_, _, cf12, rfl, rfl⟩⟩ fcn))
theorem fe12_28 : FEok RX12 49 28 [12] 1 := (FEok.mk (fc ⟨⟨RX12, TX12, "UnlikeCoinsModel", cf12, by decide, wd_986, Or.inl rfl⟩, rfl, rfl, fun e => absurd e (by decide), fun _ => ⟨_, _, cf12, rfl, rfl⟩⟩ fcn))
theorem fe12_29 : FEok RX12 126 29 [12] 0 := (FEok.mk (fc ⟨⟨RX12, TX12, "UnlikeCoinsModel", cf12, by decide, wd_987, Or.inl rfl⟩, rfl, rfl, fun _ => ⟨_, _, cf12, rfl⟩, fun e => absurd e (by decide)⟩ fcn))
theorem fe12_30 : FEok RX12 133 30 [12] 0 := (FEok.mk (fc ⟨⟨RX12, TX12, "UnlikeCoinsModel", cf12, by decide, wd_988, Or.inl rfl⟩, rfl, rfl, fun _ => ⟨_, _, cf12, rfl⟩, fun e => absurd e (by decide)⟩ fcn))
theorem fe12_31 : FEok RX12 123 31 [12] 0 := (FEok.mk (fc ⟨⟨RX12, TX12, "UnlikeCoinsModel", cf12, by decide, wd_989, Or.inl rfl⟩, rfl, rfl, fun _ => ⟨_, _, cf12, rfl⟩, fun e => absurd e (by decide)⟩ fcn))
theorem fe12_32 : FEok RX12 52 32 [12] 1 := (FEok.mk (fc ⟨⟨RX12, TX12, "UnlikeCoinsModel", cf12, by decide, wd_990, Or.inl rfl⟩, rfl, rfl, fun e => absurd e (by decide), fun _ => ⟨_, _, cf12, rfl, rfl⟩⟩ fcn))
theorem fe12_33 : FEok RX12 55 33 [12] 1 := (FEok.mk (fc ⟨⟨RX12, TX12, "UnlikeCoinsModel", cf12, by decide, wd_991, Or.inl rfl⟩, rfl, rfl, fun e => absurd e (by decide), fun _ => ⟨_, _, cf12, rfl, rfl⟩⟩ fcn))
theorem fe12_34 : FEok RX12 58 34 [12] 1 := (FEok.mk (fc ⟨⟨RX12, TX12, "UnlikeCoinsModel", cf12, by decide, wd_992, Or.inl rfl⟩, rfl, rfl, fun e => absurd e (by decide), fun _ => ⟨_, _, cf12, rfl, rfl⟩⟩ fcn))
theorem fe12_35 : FEok RX12 61 35 [12] 1 := (FEok.mk (fc ⟨⟨RX12, TX12, "UnlikeCoinsModel", cf12, by decide, wd_993, Or.inl rfl⟩, rfl, rfl, fun e => absurd e (by decide), fun _ => ⟨_, _, cf12, rfl, rfl⟩⟩ fcn))
theorem fe12_36 : FEok RX12 64 36 [12] 1 := (FEok.mk (fc ⟨⟨RX12, TX12, "UnlikeCoinsModel", cf12, by decide, wd_994, Or.inl rfl⟩, rfl, rfl, fun e => absurd e (by decide), fun _ => ⟨_, _, cf12, rfl, rfl⟩⟩ fcn))
theorem fe12_37 : FEok RX12 67 37 [12] 1 := (FEok.mk (fc ⟨⟨RX12, TX12, "UnlikeCoinsModel", cf12, by decide, wd_995, Or.inl rfl⟩, rfl, rfl, fun e => absurd e (by decide), fun _ => ⟨_, _, cf12, rfl, rfl⟩⟩ fcn))
theorem fe12_38 : FEok RX12 70 38 [12] 1 := (FEok.mk (fc ⟨⟨RX12, TX12, "UnlikeCoinsModel", cf12, by decide, wd_996, Or.inl rfl⟩, rfl, rfl, fun e => absurd e (by decide), fun _ => ⟨_, _, cf12, rfl, rfl⟩⟩ fcn))
theorem fe12_39 : FEok RX12 73 39 [12] 1 := (FEok.mk (fc ⟨⟨RX12, TX12, "UnlikeCoinsModel", cf12, by decide, wd_997, Or.inl rfl⟩, rfl, rfl, fun e => absurd e (by decide), fun _ => ⟨_, _, cf12, rfl, rfl⟩⟩ fcn))
theorem ce12_0 : CEok RX12 1 6 [] 0 := (CEok.k6 ⟨wd_910, wd_28, wd_29⟩)
theorem ce12_1 : CEok RX12 80 5 [(12, m12_text)] 0 := (CEok.k5 (fc (Or.inl ⟨mo_m12_text, wd_911, wd_912, _, _, cf12, rfl, wd_913⟩) fcn))
theorem ce12_2 : CEok RX12 146 5 [(12, m12_next)] 0 := (CEok.k5 (fc (Or.inl ⟨mo_m12_next, wd_915, wd_917, _, _, cf12, rfl, gw_sel (q := (yX12_next, 40)) (i := 32) (by decide +kernel) (by decide +kernel)⟩) fcn))
theorem ce12_3 : CEok RX12 87 0 [(0, m12_in)] 3 := (CEok.k0 (fc ⟨mo_m12_in, wd_919, wd_920⟩ fcn))
theorem ce12_4 : CEok RX12 119 5 [(12, m12_wordFrom)] 2 := (CEok.k5 (fc (Or.inl ⟨mo_m12_wordFrom, wd_922, wd_924, _, _, cf12, rfl, gw_sel (q := (yX12_wordFrom, 40)) (i := 33) (by decide +kernel) (by decide +kernel)⟩) fcn))
theorem ce12_5 : CEok RX12 159 5 [(12, m12_eRead)] 0 := (CEok.k5 (fc (Or.inl ⟨mo_m12_eRead, wd_926, wd_928, _, _, cf12, rfl, gw_sel (q := (yX12_eRead, 40)) (i := 34) (by decide +kernel) (by decide +kernel)⟩) fcn))
theorem ce12_6 : CEok RX12 136 5 [(12, m12_puts)] 1 := (CEok.k5 (fc (Or.inl ⟨mo_m12_puts, wd_931, wd_933, _, _, cf12, rfl, gw_sel (q := (yX12_puts, 40)) (i := 35) (by decide +kernel) (by decide +kernel)⟩) fcn))
theorem ce12_7 : CEok RX12 143 5 [(12, m12_unwinds)] 1 := (CEok.k5 (fc (Or.inl ⟨mo_m12_unwinds, wd_935, wd_937, _, _, cf12, rfl, gw_sel (q := (yX12_unwinds, 40)) (i := 36) (by decide +kernel) (by decide +kernel)⟩) fcn))
theorem ce12_8 : CEok RX12 129 0 [(0, m12_rank)] 1 := (CEok.k0 (fc ⟨mo_m12_rank, wd_939, wd_940⟩ fcn))
theorem ce12_9 : CEok RX12 150 5 [(12, m12_opensOne)] 1 := (CEok.k5 (fc (Or.inl ⟨mo_m12_opensOne, wd_942, wd_944, _, _, cf12, rfl, gw_sel (q := (yX12_opensOne, 40)) (i := 37) (by decide +kernel) (by decide +kernel)⟩) fcn))
theorem ce12_10 : CEok RX12 140 5 [(12, m12_holds)] 1 := (CEok.k5 (fc (Or.inl ⟨mo_m12_holds, wd_946, wd_948, _, _, cf12, rfl, gw_sel (q := (yX12_holds, 40)) (i := 38) (by decide +kernel) (by decide +kernel)⟩) fcn))
theorem ce12_11 : CEok RX12 153 5 [(12, m12_signOf)] 0 := (CEok.k5 (fc (Or.inl ⟨mo_m12_signOf, wd_950, wd_952, _, _, cf12, rfl, gw_sel (q := (yX12_signOf, 40)) (i := 39) (by decide +kernel) (by decide +kernel)⟩) fcn))
theorem ce12_12 : CEok RX12 156 5 [(12, m12_between)] 1 := (CEok.k5 (fc (Or.inl ⟨mo_m12_between, wd_954, wd_956, _, _, cf12, rfl, gw_sel (q := (yX12_between, 40)) (i := 40) (by decide +kernel) (by decide +kernel)⟩) fcn))
theorem ce12_13 : CEok RX12 103 0 [(0, m12_isByte)] 1 := (CEok.k0 (fc ⟨mo_m12_isByte, wd_1087, wd_1088⟩ fcn))
theorem ce12_14 : CEok RX12 173 5 [(12, m12_asksOf)] 6 := (CEok.k5 (fc (Or.inl ⟨mo_m12_asksOf, wd_1099, wd_1101, _, _, cf12, rfl, gw_sel (q := (yX12_asksOf, 40)) (i := 41) (by decide +kernel) (by decide +kernel)⟩) fcn))
theorem ce12_15 : CEok RX12 167 5 [(12, m12_says)] 1 := (CEok.k5 (fc (Or.inl ⟨mo_m12_says, wd_1103, wd_1105, _, _, cf12, rfl, gw_sel (q := (yX12_says, 40)) (i := 42) (by decide +kernel) (by decide +kernel)⟩) fcn))
theorem ce12_16 : CEok RX12 163 0 [(0, m12_two)] 3 := (CEok.k0 (fc ⟨mo_m12_two, wd_1107, wd_1108⟩ fcn))
theorem ce12_17 : CEok RX12 170 0 [(0, m12_within)] 3 := (CEok.k0 (fc ⟨mo_m12_within, wd_1110, wd_1111⟩ fcn))
theorem ce12_18 : CEok RX12 177 5 [(12, m12_isSort)] 1 := (CEok.k5 (fc (Or.inl ⟨mo_m12_isSort, wd_1121, wd_1123, _, _, cf12, rfl, gw_sel (q := (yX12_isSort, 40)) (i := 43) (by decide +kernel) (by decide +kernel)⟩) fcn))
theorem ce12_19 : CEok RX12 180 5 [(12, m12_isPurse)] 1 := (CEok.k5 (fc (Or.inl ⟨mo_m12_isPurse, wd_1133, wd_1135, _, _, cf12, rfl, gw_sel (q := (yX12_isPurse, 40)) (i := 44) (by decide +kernel) (by decide +kernel)⟩) fcn))
theorem ce12_20 : CEok RX12 183 5 [(12, m12_coinWorth)] 2 := (CEok.k5 (fc (Or.inl ⟨mo_m12_coinWorth, wd_1145, wd_1147, _, _, cf12, rfl, gw_sel (q := (yX12_coinWorth, 40)) (i := 45) (by decide +kernel) (by decide +kernel)⟩) fcn))
theorem ce12_21 : CEok RX12 201 0 [(0, m12_isPrice)] 1 := (CEok.k0 (fc ⟨mo_m12_isPrice, wd_1153, wd_1154⟩ fcn))
theorem ce12_22 : CEok RX12 204 5 [(12, m12_oftenOf)] 2 := (CEok.k5 (fc (Or.inl ⟨mo_m12_oftenOf, wd_1156, wd_1158, _, _, cf12, rfl, gw_sel (q := (yX12_oftenOf, 40)) (i := 46) (by decide +kernel) (by decide +kernel)⟩) fcn))
theorem ce12_23 : CEok RX12 195 5 [(12, m12_thinksOf)] 1 := (CEok.k5 (fc (Or.inl ⟨mo_m12_thinksOf, wd_1160, wd_1162, _, _, cf12, rfl, gw_sel (q := (yX12_thinksOf, 40)) (i := 47) (by decide +kernel) (by decide +kernel)⟩) fcn))
theorem ce12_24 : CEok RX12 198 5 [(12, m12_oftenNow)] 1 := (CEok.k5 (fc (Or.inl ⟨mo_m12_oftenNow, wd_1164, wd_1166, _, _, cf12, rfl, gw_sel (q := (yX12_oftenNow, 40)) (i := 48) (by decide +kernel) (by decide +kernel)⟩) fcn))
theorem ce12_25 : CEok RX12 192 5 [(12, m12_lays)] 1 := (CEok.k5 (fc (Or.inl ⟨mo_m12_lays, wd_1168, wd_1170, _, _, cf12, rfl, gw_sel (q := (yX12_lays, 40)) (i := 49) (by decide +kernel) (by decide +kernel)⟩) fcn))
theorem ce12_26 : CEok RX12 189 5 [(12, m12_nextLaid)] 0 := (CEok.k5 (fc (Or.inl ⟨mo_m12_nextLaid, wd_1172, wd_1174, _, _, cf12, rfl, gw_sel (q := (yX12_nextLaid, 40)) (i := 50) (by decide +kernel) (by decide +kernel)⟩) fcn))
theorem ce12_27 : CEok RX12 186 5 [(12, m12_together)] 2 := (CEok.k5 (fc (Or.inl ⟨mo_m12_together, wd_1176, wd_1178, _, _, cf12, rfl, gw_sel (q := (yX12_together, 40)) (i := 51) (by decide +kernel) (by decide +kernel)⟩) fcn))
theorem ce12_28 : CEok RX12 207 5 [(12, m12_leftNow)] 1 := (CEok.k5 (fc (Or.inl ⟨mo_m12_leftNow, wd_1180, wd_1182, _, _, cf12, rfl, gw_sel (q := (yX12_leftNow, 40)) (i := 52) (by decide +kernel) (by decide +kernel)⟩) fcn))
theorem ce12_29 : CEok RX12 210 5 [(12, m12_worthOf)] 1 := (CEok.k5 (fc (Or.inl ⟨mo_m12_worthOf, wd_1184, wd_1186, _, _, cf12, rfl, gw_sel (q := (yX12_worthOf, 40)) (i := 53) (by decide +kernel) (by decide +kernel)⟩) fcn))
theorem ce12_30 : CEok RX12 213 5 [(12, m12_comesTrue)] 1 := (CEok.k5 (fc (Or.inl ⟨mo_m12_comesTrue, wd_1192, wd_1194, _, _, cf12, rfl, gw_sel (q := (yX12_comesTrue, 40)) (i := 54) (by decide +kernel) (by decide +kernel)⟩) fcn))
theorem ce12_31 : CEok RX12 216 5 [(12, m12_worthTwo)] 4 := (CEok.k5 (fc (Or.inl ⟨mo_m12_worthTwo, wd_1200, wd_1202, _, _, cf12, rfl, gw_sel (q := (yX12_worthTwo, 40)) (i := 55) (by decide +kernel) (by decide +kernel)⟩) fcn))
theorem ce12_32 : CEok RX12 220 5 [(12, m12_oftenOfAll)] 1 := (CEok.k5 (fc (Or.inl ⟨mo_m12_oftenOfAll, wd_1208, wd_1210, _, _, cf12, rfl, gw_sel (q := (yX12_oftenOfAll, 40)) (i := 56) (by decide +kernel) (by decide +kernel)⟩) fcn))
theorem ce12_33 : CEok RX12 223 5 [(12, m12_areTwo)] 2 := (CEok.k5 (fc (Or.inl ⟨mo_m12_areTwo, wd_1224, wd_1226, _, _, cf12, rfl, gw_sel (q := (yX12_areTwo, 40)) (i := 57) (by decide +kernel) (by decide +kernel)⟩) fcn))
theorem ce12_34 : CEok RX12 227 5 [(12, m12_canSwap)] 4 := (CEok.k5 (fc (Or.inl ⟨mo_m12_canSwap, wd_1228, wd_1230, _, _, cf12, rfl, gw_sel (q := (yX12_canSwap, 40)) (i := 58) (by decide +kernel) (by decide +kernel)⟩) fcn))
theorem ce12_35 : CEok RX12 231 5 [(12, m12_swaps)] 4 := (CEok.k5 (fc (Or.inl ⟨mo_m12_swaps, wd_1232, wd_1234, _, _, cf12, rfl, gw_sel (q := (yX12_swaps, 40)) (i := 59) (by decide +kernel) (by decide +kernel)⟩) fcn))
theorem ce12_36 : CEok RX12 235 5 [(12, m12_feeOf)] 2 := (CEok.k5 (fc (Or.inl ⟨mo_m12_feeOf, wd_1236, wd_1238, _, _, cf12, rfl, gw_sel (q := (yX12_feeOf, 40)) (i := 60) (by decide +kernel) (by decide +kernel)⟩) fcn))
theorem ce12_37 : CEok RX12 238 5 [(12, m12_oftenWithMore)] 2 := (CEok.k5 (fc (Or.inl ⟨mo_m12_oftenWithMore, wd_1248, wd_1250, _, _, cf12, rfl, gw_sel (q := (yX12_oftenWithMore, 40)) (i := 61) (by decide +kernel) (by decide +kernel)⟩) fcn))
theorem ce12_38 : CEok RX12 241 5 [(12, m12_oftenWithRow)] 3 := (CEok.k5 (fc (Or.inl ⟨mo_m12_oftenWithRow, wd_1264, wd_1266, _, _, cf12, rfl, gw_sel (q := (yX12_oftenWithRow, 40)) (i := 62) (by decide +kernel) (by decide +kernel)⟩) fcn))
theorem ce12_39 : CEok RX12 244 5 [(12, m12_rowDigits)] 1 := (CEok.k5 (fc (Or.inl ⟨mo_m12_rowDigits, wd_1268, wd_1270, _, _, cf12, rfl, gw_sel (q := (yX12_rowDigits, 40)) (i := 63) (by decide +kernel) (by decide +kernel)⟩) fcn))
theorem ce12_40 : CEok RX12 247 5 [(12, m12_nextRow)] 1 := (CEok.k5 (fc (Or.inl ⟨mo_m12_nextRow, wd_1272, wd_1274, _, _, cf12, rfl, gw_sel (q := (yX12_nextRow, 40)) (i := 64) (by decide +kernel) (by decide +kernel)⟩) fcn))
theorem ce12_41 : CEok RX12 250 5 [(12, m12_remains)] 2 := (CEok.k5 (fc (Or.inl ⟨mo_m12_remains, wd_1284, wd_1286, _, _, cf12, rfl, gw_sel (q := (yX12_remains, 40)) (i := 65) (by decide +kernel) (by decide +kernel)⟩) fcn))
theorem ce12_42 : CEok RX12 256 5 [(12, m12_sheetWrong)] 1 := (CEok.k5 (fc (Or.inl ⟨mo_m12_sheetWrong, wd_1292, wd_1294, _, _, cf12, rfl, gw_sel (q := (yX12_sheetWrong, 40)) (i := 66) (by decide +kernel) (by decide +kernel)⟩) fcn))
theorem ce12_43 : CEok RX12 259 5 [(12, m12_unlike)] 2 := (CEok.k5 (fc (Or.inl ⟨mo_m12_unlike, wd_1296, wd_1298, _, _, cf12, rfl, gw_sel (q := (yX12_unlike, 40)) (i := 67) (by decide +kernel) (by decide +kernel)⟩) fcn))
theorem ce12_44 : CEok RX12 253 5 [(12, m12_unlikeThought)] 1 := (CEok.k5 (fc (Or.inl ⟨mo_m12_unlikeThought, wd_1300, wd_1302, _, _, cf12, rfl, gw_sel (q := (yX12_unlikeThought, 40)) (i := 68) (by decide +kernel) (by decide +kernel)⟩) fcn))
theorem ce12_45 : CEok RX12 272 0 [(0, m12_isDrawn)] 2 := (CEok.k0 (fc ⟨mo_m12_isDrawn, wd_1325, wd_1326⟩ fcn))
theorem ce12_46 : CEok RX12 275 5 [(12, m12_couldBy)] 2 := (CEok.k5 (fc (Or.inl ⟨mo_m12_couldBy, wd_1328, wd_1330, _, _, cf12, rfl, gw_sel (q := (yX12_couldBy, 40)) (i := 69) (by decide +kernel) (by decide +kernel)⟩) fcn))
theorem ce12_47 : CEok RX12 269 5 [(12, m12_buy)] 2 := (CEok.k5 (fc (Or.inl ⟨mo_m12_buy, wd_1335, wd_1189, _, _, cf12, rfl, wd_1190⟩) fcn))
theorem ce12_48 : CEok RX12 280 0 [(0, m12_lowest)] 3 := (CEok.k0 (fc ⟨mo_m12_lowest, wd_1341, wd_1342⟩ fcn))
theorem ce12_49 : CEok RX12 300 5 [(12, m12_set)] 3 := (CEok.k5 (fc (Or.inl ⟨mo_m12_set, wd_1368, wd_1130, _, _, cf12, rfl, wd_1131⟩) fcn))
theorem ce12_50 : CEok RX12 303 5 [(12, m12_coinsOf)] 1 := (CEok.k5 (fc (Or.inl ⟨mo_m12_coinsOf, wd_1373, wd_1375, _, _, cf12, rfl, gw_sel (q := (yX12_coinsOf, 40)) (i := 70) (by decide +kernel) (by decide +kernel)⟩) fcn))
theorem ce12_51 : CEok RX12 306 0 [(0, m12_isUnder)] 2 := (CEok.k0 (fc ⟨mo_m12_isUnder, wd_1377, wd_1378⟩ fcn))
def kf12 : List FE := [(84, 0, [12], 0), (7, 1, [12], 1), (13, 2, [12], 1), (16, 3, [12], 1), (91, 4, [12], 0), (19, 5, [12], 1), (94, 6, [12], 0), (22, 7, [12], 1), (76, 8, [12], 0), (25, 9, [12], 1), (28, 10, [12], 1), (97, 11, [12], 0), (100, 12, [12], 0), (284, 13, [12], 0), (288, 14, [12], 0), (291, 15, [12], 0), (294, 16, [12], 0), (297, 17, [12], 0), (31, 18, [12], 1), (34, 19, [12], 1), (37, 20, [12], 1), (40, 21, [12], 1), (43, 22, [12], 1), (107, 23, [12], 0), (110, 24, [12], 0), (113, 25, [12], 0), (116, 26, [12], 0), (46, 27, [12], 1), (49, 28, [12], 1), (126, 29, [12], 0), (133, 30, [12], 0), (123, 31, [12], 0), (52, 32, [12], 1), (55, 33, [12], 1), (58, 34, [12], 1), (61, 35, [12], 1), (64, 36, [12], 1), (67, 37, [12], 1), (70, 38, [12], 1), (73, 39, [12], 1)]
def kc12 : List CE := [(1, 6, [], 0, 0, 0), (80, 5, [(12, m12_text)], 0, 0, 0), (146, 5, [(12, m12_next)], 0, 0, 0), (87, 0, [(0, m12_in)], 3, 0, 0), (119, 5, [(12, m12_wordFrom)], 2, 0, 0), (159, 5, [(12, m12_eRead)], 0, 0, 0), (136, 5, [(12, m12_puts)], 1, 0, 0), (143, 5, [(12, m12_unwinds)], 1, 0, 0), (129, 0, [(0, m12_rank)], 1, 0, 0), (150, 5, [(12, m12_opensOne)], 1, 0, 0), (140, 5, [(12, m12_holds)], 1, 0, 0), (153, 5, [(12, m12_signOf)], 0, 0, 0), (156, 5, [(12, m12_between)], 1, 0, 0), (103, 0, [(0, m12_isByte)], 1, 0, 0), (173, 5, [(12, m12_asksOf)], 6, 0, 0), (167, 5, [(12, m12_says)], 1, 0, 0), (163, 0, [(0, m12_two)], 3, 0, 0), (170, 0, [(0, m12_within)], 3, 0, 0), (177, 5, [(12, m12_isSort)], 1, 0, 0), (180, 5, [(12, m12_isPurse)], 1, 0, 0), (183, 5, [(12, m12_coinWorth)], 2, 0, 0), (201, 0, [(0, m12_isPrice)], 1, 0, 0), (204, 5, [(12, m12_oftenOf)], 2, 0, 0), (195, 5, [(12, m12_thinksOf)], 1, 0, 0), (198, 5, [(12, m12_oftenNow)], 1, 0, 0), (192, 5, [(12, m12_lays)], 1, 0, 0), (189, 5, [(12, m12_nextLaid)], 0, 0, 0), (186, 5, [(12, m12_together)], 2, 0, 0), (207, 5, [(12, m12_leftNow)], 1, 0, 0), (210, 5, [(12, m12_worthOf)], 1, 0, 0), (213, 5, [(12, m12_comesTrue)], 1, 0, 0), (216, 5, [(12, m12_worthTwo)], 4, 0, 0), (220, 5, [(12, m12_oftenOfAll)], 1, 0, 0), (223, 5, [(12, m12_areTwo)], 2, 0, 0), (227, 5, [(12, m12_canSwap)], 4, 0, 0), (231, 5, [(12, m12_swaps)], 4, 0, 0), (235, 5, [(12, m12_feeOf)], 2, 0, 0), (238, 5, [(12, m12_oftenWithMore)], 2, 0, 0), (241, 5, [(12, m12_oftenWithRow)], 3, 0, 0), (244, 5, [(12, m12_rowDigits)], 1, 0, 0), (247, 5, [(12, m12_nextRow)], 1, 0, 0), (250, 5, [(12, m12_remains)], 2, 0, 0), (256, 5, [(12, m12_sheetWrong)], 1, 0, 0), (259, 5, [(12, m12_unlike)], 2, 0, 0), (253, 5, [(12, m12_unlikeThought)], 1, 0, 0), (272, 0, [(0, m12_isDrawn)], 2, 0, 0), (275, 5, [(12, m12_couldBy)], 2, 0, 0), (269, 5, [(12, m12_buy)], 2, 0, 0), (280, 0, [(0, m12_lowest)], 3, 0, 0), (300, 5, [(12, m12_set)], 3, 0, 0), (303, 5, [(12, m12_coinsOf)], 1, 0, 0), (306, 0, [(0, m12_isUnder)], 2, 0, 0)]
def kn12 : List (Nat × Nat) := []
def kl12 : List (Nat × Value) := [(149, .int (100000)), (262, .int (99999)), (263, .long (48271)), (265, .long (2147483647)), (267, .long (6)), (278, .long (-4611686018427387904))]
def kt12 : KT := (kf12, kc12, kn12, kl12)
set_option maxRecDepth 50000 in
theorem kf12_ok : ∀ e ∈ kf12, FEok RX12 e.1 e.2.1 e.2.2.1 e.2.2.2 := (fc (P := fun e : FE => FEok RX12 e.1 e.2.1 e.2.2.1 e.2.2.2) fe12_0 (fc (P := fun e : FE => FEok RX12 e.1 e.2.1 e.2.2.1 e.2.2.2) fe12_1 (fc (P := fun e : FE => FEok RX12 e.1 e.2.1 e.2.2.1 e.2.2.2) fe12_2 (fc (P := fun e : FE => FEok RX12 e.1 e.2.1 e.2.2.1 e.2.2.2) fe12_3 (fc (P := fun e : FE => FEok RX12 e.1 e.2.1 e.2.2.1 e.2.2.2) fe12_4 (fc (P := fun e : FE => FEok RX12 e.1 e.2.1 e.2.2.1 e.2.2.2) fe12_5 (fc (P := fun e : FE => FEok RX12 e.1 e.2.1 e.2.2.1 e.2.2.2) fe12_6 (fc (P := fun e : FE => FEok RX12 e.1 e.2.1 e.2.2.1 e.2.2.2) fe12_7 (fc (P := fun e : FE => FEok RX12 e.1 e.2.1 e.2.2.1 e.2.2.2) fe12_8 (fc (P := fun e : FE => FEok RX12 e.1 e.2.1 e.2.2.1 e.2.2.2) fe12_9 (fc (P := fun e : FE => FEok RX12 e.1 e.2.1 e.2.2.1 e.2.2.2) fe12_10 (fc (P := fun e : FE => FEok RX12 e.1 e.2.1 e.2.2.1 e.2.2.2) fe12_11 (fc (P := fun e : FE => FEok RX12 e.1 e.2.1 e.2.2.1 e.2.2.2) fe12_12 (fc (P := fun e : FE => FEok RX12 e.1 e.2.1 e.2.2.1 e.2.2.2) fe12_13 (fc (P := fun e : FE => FEok RX12 e.1 e.2.1 e.2.2.1 e.2.2.2) fe12_14 (fc (P := fun e : FE => FEok RX12 e.1 e.2.1 e.2.2.1 e.2.2.2) fe12_15 (fc (P := fun e : FE => FEok RX12 e.1 e.2.1 e.2.2.1 e.2.2.2) fe12_16 (fc (P := fun e : FE => FEok RX12 e.1 e.2.1 e.2.2.1 e.2.2.2) fe12_17 (fc (P := fun e : FE => FEok RX12 e.1 e.2.1 e.2.2.1 e.2.2.2) fe12_18 (fc (P := fun e : FE => FEok RX12 e.1 e.2.1 e.2.2.1 e.2.2.2) fe12_19 (fc (P := fun e : FE => FEok RX12 e.1 e.2.1 e.2.2.1 e.2.2.2) fe12_20 (fc (P := fun e : FE => FEok RX12 e.1 e.2.1 e.2.2.1 e.2.2.2) fe12_21 (fc (P := fun e : FE => FEok RX12 e.1 e.2.1 e.2.2.1 e.2.2.2) fe12_22 (fc (P := fun e : FE => FEok RX12 e.1 e.2.1 e.2.2.1 e.2.2.2) fe12_23 (fc (P := fun e : FE => FEok RX12 e.1 e.2.1 e.2.2.1 e.2.2.2) fe12_24 (fc (P := fun e : FE => FEok RX12 e.1 e.2.1 e.2.2.1 e.2.2.2) fe12_25 (fc (P := fun e : FE => FEok RX12 e.1 e.2.1 e.2.2.1 e.2.2.2) fe12_26 (fc (P := fun e : FE => FEok RX12 e.1 e.2.1 e.2.2.1 e.2.2.2) fe12_27 (fc (P := fun e : FE => FEok RX12 e.1 e.2.1 e.2.2.1 e.2.2.2) fe12_28 (fc (P := fun e : FE => FEok RX12 e.1 e.2.1 e.2.2.1 e.2.2.2) fe12_29 (fc (P := fun e : FE => FEok RX12 e.1 e.2.1 e.2.2.1 e.2.2.2) fe12_30 (fc (P := fun e : FE => FEok RX12 e.1 e.2.1 e.2.2.1 e.2.2.2) fe12_31 (fc (P := fun e : FE => FEok RX12 e.1 e.2.1 e.2.2.1 e.2.2.2) fe12_32 (fc (P := fun e : FE => FEok RX12 e.1 e.2.1 e.2.2.1 e.2.2.2) fe12_33 (fc (P := fun e : FE => FEok RX12 e.1 e.2.1 e.2.2.1 e.2.2.2) fe12_34 (fc (P := fun e : FE => FEok RX12 e.1 e.2.1 e.2.2.1 e.2.2.2) fe12_35 (fc (P := fun e : FE => FEok RX12 e.1 e.2.1 e.2.2.1 e.2.2.2) fe12_36 (fc (P := fun e : FE => FEok RX12 e.1 e.2.1 e.2.2.1 e.2.2.2) fe12_37 (fc (P := fun e : FE => FEok RX12 e.1 e.2.1 e.2.2.1 e.2.2.2) fe12_38 (fc (P := fun e : FE => FEok RX12 e.1 e.2.1 e.2.2.1 e.2.2.2) fe12_39 fcn))))))))))))))))))))))))))))))))))))))))
set_option maxRecDepth 50000 in
theorem kc12_ok : ∀ e ∈ kc12, CEok RX12 e.1 e.2.1 e.2.2.1 e.2.2.2.1 := (fc (P := fun e : CE => CEok RX12 e.1 e.2.1 e.2.2.1 e.2.2.2.1) ce12_0 (fc (P := fun e : CE => CEok RX12 e.1 e.2.1 e.2.2.1 e.2.2.2.1) ce12_1 (fc (P := fun e : CE => CEok RX12 e.1 e.2.1 e.2.2.1 e.2.2.2.1) ce12_2 (fc (P := fun e : CE => CEok RX12 e.1 e.2.1 e.2.2.1 e.2.2.2.1) ce12_3 (fc (P := fun e : CE => CEok RX12 e.1 e.2.1 e.2.2.1 e.2.2.2.1) ce12_4 (fc (P := fun e : CE => CEok RX12 e.1 e.2.1 e.2.2.1 e.2.2.2.1) ce12_5 (fc (P := fun e : CE => CEok RX12 e.1 e.2.1 e.2.2.1 e.2.2.2.1) ce12_6 (fc (P := fun e : CE => CEok RX12 e.1 e.2.1 e.2.2.1 e.2.2.2.1) ce12_7 (fc (P := fun e : CE => CEok RX12 e.1 e.2.1 e.2.2.1 e.2.2.2.1) ce12_8 (fc (P := fun e : CE => CEok RX12 e.1 e.2.1 e.2.2.1 e.2.2.2.1) ce12_9 (fc (P := fun e : CE => CEok RX12 e.1 e.2.1 e.2.2.1 e.2.2.2.1) ce12_10 (fc (P := fun e : CE => CEok RX12 e.1 e.2.1 e.2.2.1 e.2.2.2.1) ce12_11 (fc (P := fun e : CE => CEok RX12 e.1 e.2.1 e.2.2.1 e.2.2.2.1) ce12_12 (fc (P := fun e : CE => CEok RX12 e.1 e.2.1 e.2.2.1 e.2.2.2.1) ce12_13 (fc (P := fun e : CE => CEok RX12 e.1 e.2.1 e.2.2.1 e.2.2.2.1) ce12_14 (fc (P := fun e : CE => CEok RX12 e.1 e.2.1 e.2.2.1 e.2.2.2.1) ce12_15 (fc (P := fun e : CE => CEok RX12 e.1 e.2.1 e.2.2.1 e.2.2.2.1) ce12_16 (fc (P := fun e : CE => CEok RX12 e.1 e.2.1 e.2.2.1 e.2.2.2.1) ce12_17 (fc (P := fun e : CE => CEok RX12 e.1 e.2.1 e.2.2.1 e.2.2.2.1) ce12_18 (fc (P := fun e : CE => CEok RX12 e.1 e.2.1 e.2.2.1 e.2.2.2.1) ce12_19 (fc (P := fun e : CE => CEok RX12 e.1 e.2.1 e.2.2.1 e.2.2.2.1) ce12_20 (fc (P := fun e : CE => CEok RX12 e.1 e.2.1 e.2.2.1 e.2.2.2.1) ce12_21 (fc (P := fun e : CE => CEok RX12 e.1 e.2.1 e.2.2.1 e.2.2.2.1) ce12_22 (fc (P := fun e : CE => CEok RX12 e.1 e.2.1 e.2.2.1 e.2.2.2.1) ce12_23 (fc (P := fun e : CE => CEok RX12 e.1 e.2.1 e.2.2.1 e.2.2.2.1) ce12_24 (fc (P := fun e : CE => CEok RX12 e.1 e.2.1 e.2.2.1 e.2.2.2.1) ce12_25 (fc (P := fun e : CE => CEok RX12 e.1 e.2.1 e.2.2.1 e.2.2.2.1) ce12_26 (fc (P := fun e : CE => CEok RX12 e.1 e.2.1 e.2.2.1 e.2.2.2.1) ce12_27 (fc (P := fun e : CE => CEok RX12 e.1 e.2.1 e.2.2.1 e.2.2.2.1) ce12_28 (fc (P := fun e : CE => CEok RX12 e.1 e.2.1 e.2.2.1 e.2.2.2.1) ce12_29 (fc (P := fun e : CE => CEok RX12 e.1 e.2.1 e.2.2.1 e.2.2.2.1) ce12_30 (fc (P := fun e : CE => CEok RX12 e.1 e.2.1 e.2.2.1 e.2.2.2.1) ce12_31 (fc (P := fun e : CE => CEok RX12 e.1 e.2.1 e.2.2.1 e.2.2.2.1) ce12_32 (fc (P := fun e : CE => CEok RX12 e.1 e.2.1 e.2.2.1 e.2.2.2.1) ce12_33 (fc (P := fun e : CE => CEok RX12 e.1 e.2.1 e.2.2.1 e.2.2.2.1) ce12_34 (fc (P := fun e : CE => CEok RX12 e.1 e.2.1 e.2.2.1 e.2.2.2.1) ce12_35 (fc (P := fun e : CE => CEok RX12 e.1 e.2.1 e.2.2.1 e.2.2.2.1) ce12_36 (fc (P := fun e : CE => CEok RX12 e.1 e.2.1 e.2.2.1 e.2.2.2.1) ce12_37 (fc (P := fun e : CE => CEok RX12 e.1 e.2.1 e.2.2.1 e.2.2.2.1) ce12_38 (fc (P := fun e : CE => CEok RX12 e.1 e.2.1 e.2.2.1 e.2.2.2.1) ce12_39 (fc (P := fun e : CE => CEok RX12 e.1 e.2.1 e.2.2.1 e.2.2.2.1) ce12_40 (fc (P := fun e : CE => CEok RX12 e.1 e.2.1 e.2.2.1 e.2.2.2.1) ce12_41 (fc (P := fun e : CE => CEok RX12 e.1 e.2.1 e.2.2.1 e.2.2.2.1) ce12_42 (fc (P := fun e : CE => CEok RX12 e.1 e.2.1 e.2.2.1 e.2.2.2.1) ce12_43 (fc (P := fun e : CE => CEok RX12 e.1 e.2.1 e.2.2.1 e.2.2.2.1) ce12_44 (fc (P := fun e : CE => CEok RX12 e.1 e.2.1 e.2.2.1 e.2.2.2.1) ce12_45 (fc (P := fun e : CE => CEok RX12 e.1 e.2.1 e.2.2.1 e.2.2.2.1) ce12_46 (fc (P := fun e : CE => CEok RX12 e.1 e.2.1 e.2.2.1 e.2.2.2.1) ce12_47 (fc (P := fun e : CE => CEok RX12 e.1 e.2.1 e.2.2.1 e.2.2.2.1) ce12_48 (fc (P := fun e : CE => CEok RX12 e.1 e.2.1 e.2.2.1 e.2.2.2.1) ce12_49 (fc (P := fun e : CE => CEok RX12 e.1 e.2.1 e.2.2.1 e.2.2.2.1) ce12_50 (fc (P := fun e : CE => CEok RX12 e.1 e.2.1 e.2.2.1 e.2.2.2.1) ce12_51 fcn))))))))))))))))))))))))))))))))))))))))))))))))))))
theorem kn12_ok : ∀ e ∈ kn12, NEok RX12 e.1 e.2 := fcn
theorem kt12_ok {g : Gt} (hs : GS g) : KTok g RX12 kt12 := ⟨kf12_ok, kc12_ok, kn12_ok, (fc (P := fun e : Nat × Value => LEok g RX12 e.1 e.2) (wd_930) (fc (P := fun e : Nat × Value => LEok g RX12 e.1 e.2) (wd_1320) (fc (P := fun e : Nat × Value => LEok g RX12 e.1 e.2) (wd_1332) (fc (P := fun e : Nat × Value => LEok g RX12 e.1 e.2) (wd_1333) (fc (P := fun e : Nat × Value => LEok g RX12 e.1 e.2) (wd_1334) (fc (P := fun e : Nat × Value => LEok g RX12 e.1 e.2) (wd_1340) fcn))))))⟩
end
section
/-! what the walker says of a method is enough -/
theorem wm0_init {g : Gt} (hs : GS g) (K : Nat) {d rc rs pc : Nat} {lv : List (Nat × Value)} {st : List Value} {z : Zs} {I : Is} {Q : Option Value → Zs → Is → Prop} (h : wr g kt0 m0_init true T0_init [] Q d K rc rs pc lv st z I) : WPc g m0_init d rc rs pc lv st z I Q := wr_ok allok hs (kt0_ok hs) (fun _ => rfl) T0_init_ok K _ _ _ _ _ _ _ h
theorem wm0_kind {g : Gt} (hs : GS g) (K : Nat) {d rc rs pc : Nat} {lv : List (Nat × Value)} {st : List Value} {z : Zs} {I : Is} {Q : Option Value → Zs → Is → Prop} (h : wr g kt0 m0_kind false T0_kind [] Q d K rc rs pc lv st z I) : WPc g m0_kind d rc rs pc lv st z I Q := wr_ok allok hs (kt0_ok hs) (fun e => absurd e (by decide)) T0_kind_ok K _ _ _ _ _ _ _ h
theorem wm0_together {g : Gt} (hs : GS g) (K : Nat) {d rc rs pc : Nat} {lv : List (Nat × Value)} {st : List Value} {z : Zs} {I : Is} {Q : Option Value → Zs → Is → Prop} (h : wr g kt0 m0_together false T0_together [] Q d K rc rs pc lv st z I) : WPc g m0_together d rc rs pc lv st z I Q := wr_ok allok hs (kt0_ok hs) (fun e => absurd e (by decide)) T0_together_ok K _ _ _ _ _ _ _ h
theorem wm1_init {g : Gt} (hs : GS g) (K : Nat) {d rc rs pc : Nat} {lv : List (Nat × Value)} {st : List Value} {z : Zs} {I : Is} {Q : Option Value → Zs → Is → Prop} (h : wr g kt1 m1_init true T1_init [] Q d K rc rs pc lv st z I) : WPc g m1_init d rc rs pc lv st z I Q := wr_ok allok hs (kt1_ok hs) (fun _ => rfl) T1_init_ok K _ _ _ _ _ _ _ h
theorem wm1_kind {g : Gt} (hs : GS g) (K : Nat) {d rc rs pc : Nat} {lv : List (Nat × Value)} {st : List Value} {z : Zs} {I : Is} {Q : Option Value → Zs → Is → Prop} (h : wr g kt1 m1_kind false T1_kind [] Q d K rc rs pc lv st z I) : WPc g m1_kind d rc rs pc lv st z I Q := wr_ok allok hs (kt1_ok hs) (fun e => absurd e (by decide)) T1_kind_ok K _ _ _ _ _ _ _ h
theorem wm1_leftOf {g : Gt} (hs : GS g) (K : Nat) {d rc rs pc : Nat} {lv : List (Nat × Value)} {st : List Value} {z : Zs} {I : Is} {Q : Option Value → Zs → Is → Prop} (h : wr g kt1 m1_leftOf false T1_leftOf [] Q d K rc rs pc lv st z I) : WPc g m1_leftOf d rc rs pc lv st z I Q := wr_ok allok hs (kt1_ok hs) (fun e => absurd e (by decide)) T1_leftOf_ok K _ _ _ _ _ _ _ h
theorem wm1_worthOf {g : Gt} (hs : GS g) (K : Nat) {d rc rs pc : Nat} {lv : List (Nat × Value)} {st : List Value} {z : Zs} {I : Is} {Q : Option Value → Zs → Is → Prop} (h : wr g kt1 m1_worthOf false T1_worthOf [] Q d K rc rs pc lv st z I) : WPc g m1_worthOf d rc rs pc lv st z I Q := wr_ok allok hs (kt1_ok hs) (fun e => absurd e (by decide)) T1_worthOf_ok K _ _ _ _ _ _ _ h
theorem wm2_init {g : Gt} (hs : GS g) (K : Nat) {d rc rs pc : Nat} {lv : List (Nat × Value)} {st : List Value} {z : Zs} {I : Is} {Q : Option Value → Zs → Is → Prop} (h : wr g kt2 m2_init true T2_init [] Q d K rc rs pc lv st z I) : WPc g m2_init d rc rs pc lv st z I Q := wr_ok allok hs (kt2_ok hs) (fun _ => rfl) T2_init_ok K _ _ _ _ _ _ _ h
theorem wm3_init {g : Gt} (hs : GS g) (K : Nat) {d rc rs pc : Nat} {lv : List (Nat × Value)} {st : List Value} {z : Zs} {I : Is} {Q : Option Value → Zs → Is → Prop} (h : wr g kt3 m3_init true T3_init [] Q d K rc rs pc lv st z I) : WPc g m3_init d rc rs pc lv st z I Q := wr_ok allok hs (kt3_ok hs) (fun _ => rfl) T3_init_ok K _ _ _ _ _ _ _ h
theorem wm3_kind {g : Gt} (hs : GS g) (K : Nat) {d rc rs pc : Nat} {lv : List (Nat × Value)} {st : List Value} {z : Zs} {I : Is} {Q : Option Value → Zs → Is → Prop} (h : wr g kt3 m3_kind false T3_kind [] Q d K rc rs pc lv st z I) : WPc g m3_kind d rc rs pc lv st z I Q := wr_ok allok hs (kt3_ok hs) (fun e => absurd e (by decide)) T3_kind_ok K _ _ _ _ _ _ _ h
theorem wm3_together {g : Gt} (hs : GS g) (K : Nat) {d rc rs pc : Nat} {lv : List (Nat × Value)} {st : List Value} {z : Zs} {I : Is} {Q : Option Value → Zs → Is → Prop} (h : wr g kt3 m3_together false T3_together [] Q d K rc rs pc lv st z I) : WPc g m3_together d rc rs pc lv st z I Q := wr_ok allok hs (kt3_ok hs) (fun e => absurd e (by decide)) T3_together_ok K _ _ _ _ _ _ _ h
theorem wm3_leftOf {g : Gt} (hs : GS g) (K : Nat) {d rc rs pc : Nat} {lv : List (Nat × Value)} {st : List Value} {z : Zs} {I : Is} {Q : Option Value → Zs → Is → Prop} (h : wr g kt3 m3_leftOf false T3_leftOf [] Q d K rc rs pc lv st z I) : WPc g m3_leftOf d rc rs pc lv st z I Q := wr_ok allok hs (kt3_ok hs) (fun e => absurd e (by decide)) T3_leftOf_ok K _ _ _ _ _ _ _ h
theorem wm4_init {g : Gt} (hs : GS g) (K : Nat) {d rc rs pc : Nat} {lv : List (Nat × Value)} {st : List Value} {z : Zs} {I : Is} {Q : Option Value → Zs → Is → Prop} (h : wr g kt4 m4_init true T4_init [] Q d K rc rs pc lv st z I) : WPc g m4_init d rc rs pc lv st z I Q := wr_ok allok hs (kt4_ok hs) (fun _ => rfl) T4_init_ok K _ _ _ _ _ _ _ h
theorem wm4_many {g : Gt} (hs : GS g) (K : Nat) {d rc rs pc : Nat} {lv : List (Nat × Value)} {st : List Value} {z : Zs} {I : Is} {Q : Option Value → Zs → Is → Prop} (h : wr g kt4 m4_many false T4_many [] Q d K rc rs pc lv st z I) : WPc g m4_many d rc rs pc lv st z I Q := wr_ok allok hs (kt4_ok hs) (fun e => absurd e (by decide)) T4_many_ok K _ _ _ _ _ _ _ h
theorem wm4_put {g : Gt} (hs : GS g) (K : Nat) {d rc rs pc : Nat} {lv : List (Nat × Value)} {st : List Value} {z : Zs} {I : Is} {Q : Option Value → Zs → Is → Prop} (h : wr g kt4 m4_put false T4_put [] Q d K rc rs pc lv st z I) : WPc g m4_put d rc rs pc lv st z I Q := wr_ok allok hs (kt4_ok hs) (fun e => absurd e (by decide)) T4_put_ok K _ _ _ _ _ _ _ h
theorem wm4_grow {g : Gt} (hs : GS g) (K : Nat) {d rc rs pc : Nat} {lv : List (Nat × Value)} {st : List Value} {z : Zs} {I : Is} {Q : Option Value → Zs → Is → Prop} (h : wr g kt4 m4_grow false T4_grow [] Q d K rc rs pc lv st z I) : WPc g m4_grow d rc rs pc lv st z I Q := wr_ok allok hs (kt4_ok hs) (fun e => absurd e (by decide)) T4_grow_ok K _ _ _ _ _ _ _ h
theorem wm4_lose {g : Gt} (hs : GS g) (K : Nat) {d rc rs pc : Nat} {lv : List (Nat × Value)} {st : List Value} {z : Zs} {I : Is} {Q : Option Value → Zs → Is → Prop} (h : wr g kt4 m4_lose false T4_lose [] Q d K rc rs pc lv st z I) : WPc g m4_lose d rc rs pc lv st z I Q := wr_ok allok hs (kt4_ok hs) (fun e => absurd e (by decide)) T4_lose_ok K _ _ _ _ _ _ _ h
theorem wm4_become {g : Gt} (hs : GS g) (K : Nat) {d rc rs pc : Nat} {lv : List (Nat × Value)} {st : List Value} {z : Zs} {I : Is} {Q : Option Value → Zs → Is → Prop} (h : wr g kt4 m4_become false T4_become [] Q d K rc rs pc lv st z I) : WPc g m4_become d rc rs pc lv st z I Q := wr_ok allok hs (kt4_ok hs) (fun e => absurd e (by decide)) T4_become_ok K _ _ _ _ _ _ _ h
theorem wm4_clear {g : Gt} (hs : GS g) (K : Nat) {d rc rs pc : Nat} {lv : List (Nat × Value)} {st : List Value} {z : Zs} {I : Is} {Q : Option Value → Zs → Is → Prop} (h : wr g kt4 m4_clear false T4_clear [] Q d K rc rs pc lv st z I) : WPc g m4_clear d rc rs pc lv st z I Q := wr_ok allok hs (kt4_ok hs) (fun e => absurd e (by decide)) T4_clear_ok K _ _ _ _ _ _ _ h
theorem wm4_coins {g : Gt} (hs : GS g) (K : Nat) {d rc rs pc : Nat} {lv : List (Nat × Value)} {st : List Value} {z : Zs} {I : Is} {Q : Option Value → Zs → Is → Prop} (h : wr g kt4 m4_coins false T4_coins [] Q d K rc rs pc lv st z I) : WPc g m4_coins d rc rs pc lv st z I Q := wr_ok allok hs (kt4_ok hs) (fun e => absurd e (by decide)) T4_coins_ok K _ _ _ _ _ _ _ h
theorem wm4_sortBits {g : Gt} (hs : GS g) (K : Nat) {d rc rs pc : Nat} {lv : List (Nat × Value)} {st : List Value} {z : Zs} {I : Is} {Q : Option Value → Zs → Is → Prop} (h : wr g kt4 m4_sortBits false T4_sortBits [] Q d K rc rs pc lv st z I) : WPc g m4_sortBits d rc rs pc lv st z I Q := wr_ok allok hs (kt4_ok hs) (fun e => absurd e (by decide)) T4_sortBits_ok K _ _ _ _ _ _ _ h
theorem wm4_worth {g : Gt} (hs : GS g) (K : Nat) {d rc rs pc : Nat} {lv : List (Nat × Value)} {st : List Value} {z : Zs} {I : Is} {Q : Option Value → Zs → Is → Prop} (h : wr g kt4 m4_worth false T4_worth [] Q d K rc rs pc lv st z I) : WPc g m4_worth d rc rs pc lv st z I Q := wr_ok allok hs (kt4_ok hs) (fun e => absurd e (by decide)) T4_worth_ok K _ _ _ _ _ _ _ h
theorem wm4_lay {g : Gt} (hs : GS g) (K : Nat) {d rc rs pc : Nat} {lv : List (Nat × Value)} {st : List Value} {z : Zs} {I : Is} {Q : Option Value → Zs → Is → Prop} (h : wr g kt4 m4_lay false T4_lay [] Q d K rc rs pc lv st z I) : WPc g m4_lay d rc rs pc lv st z I Q := wr_ok allok hs (kt4_ok hs) (fun e => absurd e (by decide)) T4_lay_ok K _ _ _ _ _ _ _ h
theorem wm4_mostPlentiful {g : Gt} (hs : GS g) (K : Nat) {d rc rs pc : Nat} {lv : List (Nat × Value)} {st : List Value} {z : Zs} {I : Is} {Q : Option Value → Zs → Is → Prop} (h : wr g kt4 m4_mostPlentiful false T4_mostPlentiful [] Q d K rc rs pc lv st z I) : WPc g m4_mostPlentiful d rc rs pc lv st z I Q := wr_ok allok hs (kt4_ok hs) (fun e => absurd e (by decide)) T4_mostPlentiful_ok K _ _ _ _ _ _ _ h
theorem wm5_init {g : Gt} (hs : GS g) (K : Nat) {d rc rs pc : Nat} {lv : List (Nat × Value)} {st : List Value} {z : Zs} {I : Is} {Q : Option Value → Zs → Is → Prop} (h : wr g kt5 m5_init true T5_init [] Q d K rc rs pc lv st z I) : WPc g m5_init d rc rs pc lv st z I Q := wr_ok allok hs (kt5_ok hs) (fun _ => rfl) T5_init_ok K _ _ _ _ _ _ _ h
theorem wm5_size {g : Gt} (hs : GS g) (K : Nat) {d rc rs pc : Nat} {lv : List (Nat × Value)} {st : List Value} {z : Zs} {I : Is} {Q : Option Value → Zs → Is → Prop} (h : wr g kt5 m5_size false T5_size [] Q d K rc rs pc lv st z I) : WPc g m5_size d rc rs pc lv st z I Q := wr_ok allok hs (kt5_ok hs) (fun e => absurd e (by decide)) T5_size_ok K _ _ _ _ _ _ _ h
theorem wm5_hasRoom {g : Gt} (hs : GS g) (K : Nat) {d rc rs pc : Nat} {lv : List (Nat × Value)} {st : List Value} {z : Zs} {I : Is} {Q : Option Value → Zs → Is → Prop} (h : wr g kt5 m5_hasRoom false T5_hasRoom [] Q d K rc rs pc lv st z I) : WPc g m5_hasRoom d rc rs pc lv st z I Q := wr_ok allok hs (kt5_ok hs) (fun e => absurd e (by decide)) T5_hasRoom_ok K _ _ _ _ _ _ _ h
theorem wm5_put {g : Gt} (hs : GS g) (K : Nat) {d rc rs pc : Nat} {lv : List (Nat × Value)} {st : List Value} {z : Zs} {I : Is} {Q : Option Value → Zs → Is → Prop} (h : wr g kt5 m5_put false T5_put [] Q d K rc rs pc lv st z I) : WPc g m5_put d rc rs pc lv st z I Q := wr_ok allok hs (kt5_ok hs) (fun e => absurd e (by decide)) T5_put_ok K _ _ _ _ _ _ _ h
theorem wm5_clear {g : Gt} (hs : GS g) (K : Nat) {d rc rs pc : Nat} {lv : List (Nat × Value)} {st : List Value} {z : Zs} {I : Is} {Q : Option Value → Zs → Is → Prop} (h : wr g kt5 m5_clear false T5_clear [] Q d K rc rs pc lv st z I) : WPc g m5_clear d rc rs pc lv st z I Q := wr_ok allok hs (kt5_ok hs) (fun e => absurd e (by decide)) T5_clear_ok K _ _ _ _ _ _ _ h
theorem wm5_place {g : Gt} (hs : GS g) (K : Nat) {d rc rs pc : Nat} {lv : List (Nat × Value)} {st : List Value} {z : Zs} {I : Is} {Q : Option Value → Zs → Is → Prop} (h : wr g kt5 m5_place false T5_place [] Q d K rc rs pc lv st z I) : WPc g m5_place d rc rs pc lv st z I Q := wr_ok allok hs (kt5_ok hs) (fun e => absurd e (by decide)) T5_place_ok K _ _ _ _ _ _ _ h
theorem wm5_textRead {g : Gt} (hs : GS g) (K : Nat) {d rc rs pc : Nat} {lv : List (Nat × Value)} {st : List Value} {z : Zs} {I : Is} {Q : Option Value → Zs → Is → Prop} (h : wr g kt5 m5_textRead false T5_textRead [] Q d K rc rs pc lv st z I) : WPc g m5_textRead d rc rs pc lv st z I Q := wr_ok allok hs (kt5_ok hs) (fun e => absurd e (by decide)) T5_textRead_ok K _ _ _ _ _ _ _ h
theorem wm5_readText {g : Gt} (hs : GS g) (K : Nat) {d rc rs pc : Nat} {lv : List (Nat × Value)} {st : List Value} {z : Zs} {I : Is} {Q : Option Value → Zs → Is → Prop} (h : wr g kt5 m5_readText false T5_readText [] Q d K rc rs pc lv st z I) : WPc g m5_readText d rc rs pc lv st z I Q := wr_ok allok hs (kt5_ok hs) (fun e => absurd e (by decide)) T5_readText_ok K _ _ _ _ _ _ _ h
theorem wm5_readToken {g : Gt} (hs : GS g) (K : Nat) {d rc rs pc : Nat} {lv : List (Nat × Value)} {st : List Value} {z : Zs} {I : Is} {Q : Option Value → Zs → Is → Prop} (h : wr g kt5 m5_readToken false T5_readToken [] Q d K rc rs pc lv st z I) : WPc g m5_readToken d rc rs pc lv st z I Q := wr_ok allok hs (kt5_ok hs) (fun e => absurd e (by decide)) T5_readToken_ok K _ _ _ _ _ _ _ h
theorem wm5_readEither {g : Gt} (hs : GS g) (K : Nat) {d rc rs pc : Nat} {lv : List (Nat × Value)} {st : List Value} {z : Zs} {I : Is} {Q : Option Value → Zs → Is → Prop} (h : wr g kt5 m5_readEither false T5_readEither [] Q d K rc rs pc lv st z I) : WPc g m5_readEither d rc rs pc lv st z I Q := wr_ok allok hs (kt5_ok hs) (fun e => absurd e (by decide)) T5_readEither_ok K _ _ _ _ _ _ _ h
theorem wm5_readBoth {g : Gt} (hs : GS g) (K : Nat) {d rc rs pc : Nat} {lv : List (Nat × Value)} {st : List Value} {z : Zs} {I : Is} {Q : Option Value → Zs → Is → Prop} (h : wr g kt5 m5_readBoth false T5_readBoth [] Q d K rc rs pc lv st z I) : WPc g m5_readBoth d rc rs pc lv st z I Q := wr_ok allok hs (kt5_ok hs) (fun e => absurd e (by decide)) T5_readBoth_ok K _ _ _ _ _ _ _ h
theorem wm5_readDenied {g : Gt} (hs : GS g) (K : Nat) {d rc rs pc : Nat} {lv : List (Nat × Value)} {st : List Value} {z : Zs} {I : Is} {Q : Option Value → Zs → Is → Prop} (h : wr g kt5 m5_readDenied false T5_readDenied [] Q d K rc rs pc lv st z I) : WPc g m5_readDenied d rc rs pc lv st z I Q := wr_ok allok hs (kt5_ok hs) (fun e => absurd e (by decide)) T5_readDenied_ok K _ _ _ _ _ _ _ h
theorem wm5_readCompared {g : Gt} (hs : GS g) (K : Nat) {d rc rs pc : Nat} {lv : List (Nat × Value)} {st : List Value} {z : Zs} {I : Is} {Q : Option Value → Zs → Is → Prop} (h : wr g kt5 m5_readCompared false T5_readCompared [] Q d K rc rs pc lv st z I) : WPc g m5_readCompared d rc rs pc lv st z I Q := wr_ok allok hs (kt5_ok hs) (fun e => absurd e (by decide)) T5_readCompared_ok K _ _ _ _ _ _ _ h
theorem wm5_readSum {g : Gt} (hs : GS g) (K : Nat) {d rc rs pc : Nat} {lv : List (Nat × Value)} {st : List Value} {z : Zs} {I : Is} {Q : Option Value → Zs → Is → Prop} (h : wr g kt5 m5_readSum false T5_readSum [] Q d K rc rs pc lv st z I) : WPc g m5_readSum d rc rs pc lv st z I Q := wr_ok allok hs (kt5_ok hs) (fun e => absurd e (by decide)) T5_readSum_ok K _ _ _ _ _ _ _ h
theorem wm5_readTerm {g : Gt} (hs : GS g) (K : Nat) {d rc rs pc : Nat} {lv : List (Nat × Value)} {st : List Value} {z : Zs} {I : Is} {Q : Option Value → Zs → Is → Prop} (h : wr g kt5 m5_readTerm false T5_readTerm [] Q d K rc rs pc lv st z I) : WPc g m5_readTerm d rc rs pc lv st z I Q := wr_ok allok hs (kt5_ok hs) (fun e => absurd e (by decide)) T5_readTerm_ok K _ _ _ _ _ _ _ h
theorem wm5_readOne {g : Gt} (hs : GS g) (K : Nat) {d rc rs pc : Nat} {lv : List (Nat × Value)} {st : List Value} {z : Zs} {I : Is} {Q : Option Value → Zs → Is → Prop} (h : wr g kt5 m5_readOne false T5_readOne [] Q d K rc rs pc lv st z I) : WPc g m5_readOne d rc rs pc lv st z I Q := wr_ok allok hs (kt5_ok hs) (fun e => absurd e (by decide)) T5_readOne_ok K _ _ _ _ _ _ _ h
theorem wm5_emit {g : Gt} (hs : GS g) (K : Nat) {d rc rs pc : Nat} {lv : List (Nat × Value)} {st : List Value} {z : Zs} {I : Is} {Q : Option Value → Zs → Is → Prop} (h : wr g kt5 m5_emit false T5_emit [] Q d K rc rs pc lv st z I) : WPc g m5_emit d rc rs pc lv st z I Q := wr_ok allok hs (kt5_ok hs) (fun e => absurd e (by decide)) T5_emit_ok K _ _ _ _ _ _ _ h
theorem wm5_advance {g : Gt} (hs : GS g) (K : Nat) {d rc rs pc : Nat} {lv : List (Nat × Value)} {st : List Value} {z : Zs} {I : Is} {Q : Option Value → Zs → Is → Prop} (h : wr g kt5 m5_advance false T5_advance [] Q d K rc rs pc lv st z I) : WPc g m5_advance d rc rs pc lv st z I Q := wr_ok allok hs (kt5_ok hs) (fun e => absurd e (by decide)) T5_advance_ok K _ _ _ _ _ _ _ h
theorem wm5_readWord {g : Gt} (hs : GS g) (K : Nat) {d rc rs pc : Nat} {lv : List (Nat × Value)} {st : List Value} {z : Zs} {I : Is} {Q : Option Value → Zs → Is → Prop} (h : wr g kt5 m5_readWord false T5_readWord [] Q d K rc rs pc lv st z I) : WPc g m5_readWord d rc rs pc lv st z I Q := wr_ok allok hs (kt5_ok hs) (fun e => absurd e (by decide)) T5_readWord_ok K _ _ _ _ _ _ _ h
theorem wm5_isWord {g : Gt} (hs : GS g) (K : Nat) {d rc rs pc : Nat} {lv : List (Nat × Value)} {st : List Value} {z : Zs} {I : Is} {Q : Option Value → Zs → Is → Prop} (h : wr g kt5 m5_isWord false T5_isWord [] Q d K rc rs pc lv st z I) : WPc g m5_isWord d rc rs pc lv st z I Q := wr_ok allok hs (kt5_ok hs) (fun e => absurd e (by decide)) T5_isWord_ok K _ _ _ _ _ _ _ h
theorem wm5_readNumber {g : Gt} (hs : GS g) (K : Nat) {d rc rs pc : Nat} {lv : List (Nat × Value)} {st : List Value} {z : Zs} {I : Is} {Q : Option Value → Zs → Is → Prop} (h : wr g kt5 m5_readNumber false T5_readNumber [] Q d K rc rs pc lv st z I) : WPc g m5_readNumber d rc rs pc lv st z I Q := wr_ok allok hs (kt5_ok hs) (fun e => absurd e (by decide)) T5_readNumber_ok K _ _ _ _ _ _ _ h
theorem wm5_isBlank {g : Gt} (hs : GS g) (K : Nat) {d rc rs pc : Nat} {lv : List (Nat × Value)} {st : List Value} {z : Zs} {I : Is} {Q : Option Value → Zs → Is → Prop} (h : wr g kt5 m5_isBlank false T5_isBlank [] Q d K rc rs pc lv st z I) : WPc g m5_isBlank d rc rs pc lv st z I Q := wr_ok allok hs (kt5_ok hs) (fun e => absurd e (by decide)) T5_isBlank_ok K _ _ _ _ _ _ _ h
theorem wm5_isLetter {g : Gt} (hs : GS g) (K : Nat) {d rc rs pc : Nat} {lv : List (Nat × Value)} {st : List Value} {z : Zs} {I : Is} {Q : Option Value → Zs → Is → Prop} (h : wr g kt5 m5_isLetter false T5_isLetter [] Q d K rc rs pc lv st z I) : WPc g m5_isLetter d rc rs pc lv st z I Q := wr_ok allok hs (kt5_ok hs) (fun e => absurd e (by decide)) T5_isLetter_ok K _ _ _ _ _ _ _ h
theorem wm5_isDigit {g : Gt} (hs : GS g) (K : Nat) {d rc rs pc : Nat} {lv : List (Nat × Value)} {st : List Value} {z : Zs} {I : Is} {Q : Option Value → Zs → Is → Prop} (h : wr g kt5 m5_isDigit false T5_isDigit [] Q d K rc rs pc lv st z I) : WPc g m5_isDigit d rc rs pc lv st z I Q := wr_ok allok hs (kt5_ok hs) (fun e => absurd e (by decide)) T5_isDigit_ok K _ _ _ _ _ _ _ h
theorem wm6_init {g : Gt} (hs : GS g) (K : Nat) {d rc rs pc : Nat} {lv : List (Nat × Value)} {st : List Value} {z : Zs} {I : Is} {Q : Option Value → Zs → Is → Prop} (h : wr g kt6 m6_init true T6_init [] Q d K rc rs pc lv st z I) : WPc g m6_init d rc rs pc lv st z I Q := wr_ok allok hs (kt6_ok hs) (fun _ => rfl) T6_init_ok K _ _ _ _ _ _ _ h
theorem wm6_kind {g : Gt} (hs : GS g) (K : Nat) {d rc rs pc : Nat} {lv : List (Nat × Value)} {st : List Value} {z : Zs} {I : Is} {Q : Option Value → Zs → Is → Prop} (h : wr g kt6 m6_kind false T6_kind [] Q d K rc rs pc lv st z I) : WPc g m6_kind d rc rs pc lv st z I Q := wr_ok allok hs (kt6_ok hs) (fun e => absurd e (by decide)) T6_kind_ok K _ _ _ _ _ _ _ h
theorem wm6_worthOf {g : Gt} (hs : GS g) (K : Nat) {d rc rs pc : Nat} {lv : List (Nat × Value)} {st : List Value} {z : Zs} {I : Is} {Q : Option Value → Zs → Is → Prop} (h : wr g kt6 m6_worthOf false T6_worthOf [] Q d K rc rs pc lv st z I) : WPc g m6_worthOf d rc rs pc lv st z I Q := wr_ok allok hs (kt6_ok hs) (fun e => absurd e (by decide)) T6_worthOf_ok K _ _ _ _ _ _ _ h
theorem wm7_init {g : Gt} (hs : GS g) (K : Nat) {d rc rs pc : Nat} {lv : List (Nat × Value)} {st : List Value} {z : Zs} {I : Is} {Q : Option Value → Zs → Is → Prop} (h : wr g kt7 m7_init true T7_init [] Q d K rc rs pc lv st z I) : WPc g m7_init d rc rs pc lv st z I Q := wr_ok allok hs (kt7_ok hs) (fun _ => rfl) T7_init_ok K _ _ _ _ _ _ _ h
theorem wm7_isMissing {g : Gt} (hs : GS g) (K : Nat) {d rc rs pc : Nat} {lv : List (Nat × Value)} {st : List Value} {z : Zs} {I : Is} {Q : Option Value → Zs → Is → Prop} (h : wr g kt7 m7_isMissing false T7_isMissing [] Q d K rc rs pc lv st z I) : WPc g m7_isMissing d rc rs pc lv st z I Q := wr_ok allok hs (kt7_ok hs) (fun e => absurd e (by decide)) T7_isMissing_ok K _ _ _ _ _ _ _ h
theorem wm7_cannotTell {g : Gt} (hs : GS g) (K : Nat) {d rc rs pc : Nat} {lv : List (Nat × Value)} {st : List Value} {z : Zs} {I : Is} {Q : Option Value → Zs → Is → Prop} (h : wr g kt7 m7_cannotTell false T7_cannotTell [] Q d K rc rs pc lv st z I) : WPc g m7_cannotTell d rc rs pc lv st z I Q := wr_ok allok hs (kt7_ok hs) (fun e => absurd e (by decide)) T7_cannotTell_ok K _ _ _ _ _ _ _ h
theorem wm7_holds {g : Gt} (hs : GS g) (K : Nat) {d rc rs pc : Nat} {lv : List (Nat × Value)} {st : List Value} {z : Zs} {I : Is} {Q : Option Value → Zs → Is → Prop} (h : wr g kt7 m7_holds false T7_holds [] Q d K rc rs pc lv st z I) : WPc g m7_holds d rc rs pc lv st z I Q := wr_ok allok hs (kt7_ok hs) (fun e => absurd e (by decide)) T7_holds_ok K _ _ _ _ _ _ _ h
theorem wm7_become {g : Gt} (hs : GS g) (K : Nat) {d rc rs pc : Nat} {lv : List (Nat × Value)} {st : List Value} {z : Zs} {I : Is} {Q : Option Value → Zs → Is → Prop} (h : wr g kt7 m7_become false T7_become [] Q d K rc rs pc lv st z I) : WPc g m7_become d rc rs pc lv st z I Q := wr_ok allok hs (kt7_ok hs) (fun e => absurd e (by decide)) T7_become_ok K _ _ _ _ _ _ _ h
theorem wm7_get {g : Gt} (hs : GS g) (K : Nat) {d rc rs pc : Nat} {lv : List (Nat × Value)} {st : List Value} {z : Zs} {I : Is} {Q : Option Value → Zs → Is → Prop} (h : wr g kt7 m7_get false T7_get [] Q d K rc rs pc lv st z I) : WPc g m7_get d rc rs pc lv st z I Q := wr_ok allok hs (kt7_ok hs) (fun e => absurd e (by decide)) T7_get_ok K _ _ _ _ _ _ _ h
theorem wm7_put {g : Gt} (hs : GS g) (K : Nat) {d rc rs pc : Nat} {lv : List (Nat × Value)} {st : List Value} {z : Zs} {I : Is} {Q : Option Value → Zs → Is → Prop} (h : wr g kt7 m7_put false T7_put [] Q d K rc rs pc lv st z I) : WPc g m7_put d rc rs pc lv st z I Q := wr_ok allok hs (kt7_ok hs) (fun e => absurd e (by decide)) T7_put_ok K _ _ _ _ _ _ _ h
theorem wm8_init {g : Gt} (hs : GS g) (K : Nat) {d rc rs pc : Nat} {lv : List (Nat × Value)} {st : List Value} {z : Zs} {I : Is} {Q : Option Value → Zs → Is → Prop} (h : wr g kt8 m8_init true T8_init [] Q d K rc rs pc lv st z I) : WPc g m8_init d rc rs pc lv st z I Q := wr_ok allok hs (kt8_ok hs) (fun _ => rfl) T8_init_ok K _ _ _ _ _ _ _ h
theorem wm8_kind {g : Gt} (hs : GS g) (K : Nat) {d rc rs pc : Nat} {lv : List (Nat × Value)} {st : List Value} {z : Zs} {I : Is} {Q : Option Value → Zs → Is → Prop} (h : wr g kt8 m8_kind false T8_kind [] Q d K rc rs pc lv st z I) : WPc g m8_kind d rc rs pc lv st z I Q := wr_ok allok hs (kt8_ok hs) (fun e => absurd e (by decide)) T8_kind_ok K _ _ _ _ _ _ _ h
theorem wm8_together {g : Gt} (hs : GS g) (K : Nat) {d rc rs pc : Nat} {lv : List (Nat × Value)} {st : List Value} {z : Zs} {I : Is} {Q : Option Value → Zs → Is → Prop} (h : wr g kt8 m8_together false T8_together [] Q d K rc rs pc lv st z I) : WPc g m8_together d rc rs pc lv st z I Q := wr_ok allok hs (kt8_ok hs) (fun e => absurd e (by decide)) T8_together_ok K _ _ _ _ _ _ _ h
theorem wm8_leftOf {g : Gt} (hs : GS g) (K : Nat) {d rc rs pc : Nat} {lv : List (Nat × Value)} {st : List Value} {z : Zs} {I : Is} {Q : Option Value → Zs → Is → Prop} (h : wr g kt8 m8_leftOf false T8_leftOf [] Q d K rc rs pc lv st z I) : WPc g m8_leftOf d rc rs pc lv st z I Q := wr_ok allok hs (kt8_ok hs) (fun e => absurd e (by decide)) T8_leftOf_ok K _ _ _ _ _ _ _ h
theorem wm8_worthOf {g : Gt} (hs : GS g) (K : Nat) {d rc rs pc : Nat} {lv : List (Nat × Value)} {st : List Value} {z : Zs} {I : Is} {Q : Option Value → Zs → Is → Prop} (h : wr g kt8 m8_worthOf false T8_worthOf [] Q d K rc rs pc lv st z I) : WPc g m8_worthOf d rc rs pc lv st z I Q := wr_ok allok hs (kt8_ok hs) (fun e => absurd e (by decide)) T8_worthOf_ok K _ _ _ _ _ _ _ h
theorem wm9_init {g : Gt} (hs : GS g) (K : Nat) {d rc rs pc : Nat} {lv : List (Nat × Value)} {st : List Value} {z : Zs} {I : Is} {Q : Option Value → Zs → Is → Prop} (h : wr g kt9 m9_init true T9_init [] Q d K rc rs pc lv st z I) : WPc g m9_init d rc rs pc lv st z I Q := wr_ok allok hs (kt9_ok hs) (fun _ => rfl) T9_init_ok K _ _ _ _ _ _ _ h
theorem wm9_kind {g : Gt} (hs : GS g) (K : Nat) {d rc rs pc : Nat} {lv : List (Nat × Value)} {st : List Value} {z : Zs} {I : Is} {Q : Option Value → Zs → Is → Prop} (h : wr g kt9 m9_kind false T9_kind [] Q d K rc rs pc lv st z I) : WPc g m9_kind d rc rs pc lv st z I Q := wr_ok allok hs (kt9_ok hs) (fun e => absurd e (by decide)) T9_kind_ok K _ _ _ _ _ _ _ h
theorem wm9_together {g : Gt} (hs : GS g) (K : Nat) {d rc rs pc : Nat} {lv : List (Nat × Value)} {st : List Value} {z : Zs} {I : Is} {Q : Option Value → Zs → Is → Prop} (h : wr g kt9 m9_together false T9_together [] Q d K rc rs pc lv st z I) : WPc g m9_together d rc rs pc lv st z I Q := wr_ok allok hs (kt9_ok hs) (fun e => absurd e (by decide)) T9_together_ok K _ _ _ _ _ _ _ h
theorem wm10_init {g : Gt} (hs : GS g) (K : Nat) {d rc rs pc : Nat} {lv : List (Nat × Value)} {st : List Value} {z : Zs} {I : Is} {Q : Option Value → Zs → Is → Prop} (h : wr g kt10 m10_init true T10_init [] Q d K rc rs pc lv st z I) : WPc g m10_init d rc rs pc lv st z I Q := wr_ok allok hs (kt10_ok hs) (fun _ => rfl) T10_init_ok K _ _ _ _ _ _ _ h
theorem wm10_value {g : Gt} (hs : GS g) (K : Nat) {d rc rs pc : Nat} {lv : List (Nat × Value)} {st : List Value} {z : Zs} {I : Is} {Q : Option Value → Zs → Is → Prop} (h : wr g kt10 m10_value false T10_value [] Q d K rc rs pc lv st z I) : WPc g m10_value d rc rs pc lv st z I Q := wr_ok allok hs (kt10_ok hs) (fun e => absurd e (by decide)) T10_value_ok K _ _ _ _ _ _ _ h
theorem wm10_step {g : Gt} (hs : GS g) (K : Nat) {d rc rs pc : Nat} {lv : List (Nat × Value)} {st : List Value} {z : Zs} {I : Is} {Q : Option Value → Zs → Is → Prop} (h : wr g kt10 m10_step false T10_step [] Q d K rc rs pc lv st z I) : WPc g m10_step d rc rs pc lv st z I Q := wr_ok allok hs (kt10_ok hs) (fun e => absurd e (by decide)) T10_step_ok K _ _ _ _ _ _ _ h
theorem wm10_reckon {g : Gt} (hs : GS g) (K : Nat) {d rc rs pc : Nat} {lv : List (Nat × Value)} {st : List Value} {z : Zs} {I : Is} {Q : Option Value → Zs → Is → Prop} (h : wr g kt10 m10_reckon false T10_reckon [] Q d K rc rs pc lv st z I) : WPc g m10_reckon d rc rs pc lv st z I Q := wr_ok allok hs (kt10_ok hs) (fun e => absurd e (by decide)) T10_reckon_ok K _ _ _ _ _ _ _ h
theorem wm10_push {g : Gt} (hs : GS g) (K : Nat) {d rc rs pc : Nat} {lv : List (Nat × Value)} {st : List Value} {z : Zs} {I : Is} {Q : Option Value → Zs → Is → Prop} (h : wr g kt10 m10_push false T10_push [] Q d K rc rs pc lv st z I) : WPc g m10_push d rc rs pc lv st z I Q := wr_ok allok hs (kt10_ok hs) (fun e => absurd e (by decide)) T10_push_ok K _ _ _ _ _ _ _ h
theorem wm10_pop {g : Gt} (hs : GS g) (K : Nat) {d rc rs pc : Nat} {lv : List (Nat × Value)} {st : List Value} {z : Zs} {I : Is} {Q : Option Value → Zs → Is → Prop} (h : wr g kt10 m10_pop false T10_pop [] Q d K rc rs pc lv st z I) : WPc g m10_pop d rc rs pc lv st z I Q := wr_ok allok hs (kt10_ok hs) (fun e => absurd e (by decide)) T10_pop_ok K _ _ _ _ _ _ _ h
end
section
/-! blocks: what is left to show of each stretch of code -/
theorem nz_i {b : Int32} {X : Prop} (h : ¬ b = 0) (x : X) : ckB (!decide (b = 0)) X := ckB_i (by simp [h]) x
theorem iteB_m {b : Bool} {X X' Y Y' : Prop} (h : iteB b X Y) (f : X → X') (g : Y → Y') : iteB b X' Y' := by cases b with
  | true => exact f h
  | false => exact g h
theorem ckB_m {b : Bool} {X X' : Prop} (h : ckB b X) (f : X → X') : ckB b X' := ckB_i (ckB_of h).1 (f (ckB_of h).2)
theorem oe_s {o : Option Nat} {q : Nat} {A : Prop} {B : Nat → Prop} (h : o = some q) (b : B q) : oe o A B := by rw [h]; exact b
theorem iarB_t {z : Zs} {a : Nat} (h : zT z a = 100) : iarB z a = true := by unfold iarB; rw [h]; rfl
theorem alB_t {z : Zs} {a t : Nat} (h : zT z a = 100 + t) (h2 : t ≤ 4 := by omega) : (iarB z a || (rngB (zT z a) || (Nat.ble 4 a && Nat.ble a 6))) = true := by
  cases t with
  | zero => rw [iarB_t h]; rfl
  | succ t =>
    have : rngB (zT z a) = true := by
      unfold rngB
      rw [h, Bool.and_eq_true]
      exact ⟨Nat.ble_eq.mpr (by omega), Nat.ble_eq.mpr (by omega)⟩
    rw [this]; simp
theorem WPv_m {g : Gt} {y : Mth} {d rc rs : Nat} {args : List Value} {z : Zs} {I : Is} {K K' : Zs → Is → Prop} (h : WPv g y d rc rs args z I K) (f : ∀ z I, K z I → K' z I) : WPv g y d rc rs args z I K' := h.mono (fun _ _ _ q => ⟨q.1, f _ _ q.2⟩)
theorem WPi_m {g : Gt} {y : Mth} {d rc rs : Nat} {args : List Value} {z : Zs} {I : Is} {K K' : Int32 → Zs → Is → Prop} (h : WPi g y d rc rs args z I K) (f : ∀ x z I, K x z I → K' x z I) : WPi g y d rc rs args z I K' := h.mono (fun _ _ _ q => q.elim fun x q => ⟨x, q.1, f _ _ _ q.2⟩)
theorem WPl_m {g : Gt} {y : Mth} {d rc rs : Nat} {args : List Value} {z : Zs} {I : Is} {K K' : Int64 → Zs → Is → Prop} (h : WPl g y d rc rs args z I K) (f : ∀ x z I, K x z I → K' x z I) : WPl g y d rc rs args z I K' := h.mono (fun _ _ _ q => q.elim fun x q => ⟨x, q.1, f _ _ _ q.2⟩)
theorem WPr_m {g : Gt} {y : Mth} {d rc rs : Nat} {args : List Value} {z : Zs} {I : Is} {K K' : Option Nat → Zs → Is → Prop} (h : WPr g y d rc rs args z I K) (f : ∀ x z I, K x z I → K' x z I) : WPr g y d rc rs args z I K' := h.mono (fun _ _ _ q => q.elim fun x q => ⟨x, q.1, f _ _ _ q.2⟩)
theorem dsp_m {l : List (Nat × Mth)} {t : Nat} {K K' : Mth → Prop} (h : dsp l t K) (f : ∀ m, (t, m) ∈ l → K m → K' m) : dsp l t K' := by
  induction l with
  | nil => exact h
  | cons q r ih =>
    obtain ⟨c, m⟩ := q
    cases r with
    | nil =>
      obtain ⟨h1, h2⟩ := ckB_of h
      have e : t = c := Nat.eq_of_beq_eq_true h1
      exact ckB_i h1 (f m (by rw [e]; exact List.mem_cons_self) h2)
    | cons b r =>
      have h' : iteB (Nat.beq t c) (K m) (dsp (b :: r) t K) := h
      show iteB (Nat.beq t c) (K' m) (dsp (b :: r) t K')
      cases hb : Nat.beq t c with
      | true =>
        rw [hb] at h'
        have e : t = c := Nat.eq_of_beq_eq_true hb
        exact f m (by rw [e]; exact List.mem_cons_self) h'
      | false =>
        rw [hb] at h'
        exact ih h' (fun m2 hm => f m2 (List.mem_cons_of_mem _ hm))
theorem dspi_m {g : Gt} {l : List (Nat × Mth)} {t d mc ms : Nat} {args : List Value} {z : Zs} {I : Is} {K : Int32 → Zs → Is → Prop} {go : List Value → Zs → Is → Prop} (hl : ∀ q ∈ l, rk q.2.2.2.2 = 1) (h : dsp l t (fun m => WPi g m d mc ms args z I K)) (f : ∀ x z I, K x z I → go [.int x] z I) : dsp l t (fun m => callK g m d mc ms args z I go) :=
  dsp_m h (fun m hm q => by
    have hr := hl _ hm
    unfold callK
    rw [show rk m.2.2.2 = 1 from hr]
    exact WPi_m q f)
theorem dsp2_i {a b t : Nat} {X : Prop} (h : tagB [a, b] t = true) (k : X) : iteB (Nat.beq t a) X (ckB (Nat.beq t b) X) := by
  have hm := tagB_mem h
  have hc : t = a ∨ t = b := by simpa using hm
  cases hb : Nat.beq t a with
  | true => exact k
  | false =>
    rcases hc with e | e
    · rw [e] at hb; simp at hb
    · rw [e]; exact ckB_i (by simp) k
/-- a purse at cell a, its three rows behind it -/
def PuO (z : Zs) (a : Nat) : Prop := (zT z a = 4 ∧ zP z a 0 = some (a + 1) ∧ zP z a 1 = some (a + 2) ∧ zP z a 2 = some (a + 3)) ∧ (zT z (a + 1) = 100 ∧ zL z (a + 1) = 6) ∧ (zT z (a + 2) = 100 ∧ zL z (a + 2) = 6) ∧ zT z (a + 3) = 100 ∧ zL z (a + 3) = 6
theorem PuO.t {z : Zs} {a : Nat} (h : PuO z a) : zT z a = 4 := h.1.1
theorem PuO.p0 {z : Zs} {a : Nat} (h : PuO z a) : zP z a 0 = some (a + 1) := h.1.2.1
theorem PuO.p1 {z : Zs} {a : Nat} (h : PuO z a) : zP z a 1 = some (a + 2) := h.1.2.2.1
theorem PuO.p2 {z : Zs} {a : Nat} (h : PuO z a) : zP z a 2 = some (a + 3) := h.1.2.2.2
theorem PuO.t1 {z : Zs} {a : Nat} (h : PuO z a) : zT z (a + 1) = 100 := h.2.1.1
theorem PuO.l1 {z : Zs} {a : Nat} (h : PuO z a) : zL z (a + 1) = 6 := h.2.1.2
theorem PuO.t2 {z : Zs} {a : Nat} (h : PuO z a) : zT z (a + 2) = 100 := h.2.2.1.1
theorem PuO.l2 {z : Zs} {a : Nat} (h : PuO z a) : zL z (a + 2) = 6 := h.2.2.1.2
theorem PuO.t3 {z : Zs} {a : Nat} (h : PuO z a) : zT z (a + 3) = 100 := h.2.2.2.1
theorem PuO.l3 {z : Zs} {a : Nat} (h : PuO z a) : zL z (a + 3) = 6 := h.2.2.2.2
/-- a sheet at cell a -/
def ShO (z : Zs) (a : Nat) : Prop := zT z a = 7 ∧ zP z a 0 = some (a + 1) ∧ zT z (a + 1) = 100 ∧ zL z (a + 1) = 40
theorem ShO.t {z : Zs} {a : Nat} (h : ShO z a) : zT z a = 7 := h.1
theorem ShO.p0 {z : Zs} {a : Nat} (h : ShO z a) : zP z a 0 = some (a + 1) := h.2.1
theorem ShO.t1 {z : Zs} {a : Nat} (h : ShO z a) : zT z (a + 1) = 100 := h.2.2.1
theorem ShO.l1 {z : Zs} {a : Nat} (h : ShO z a) : zL z (a + 1) = 40 := h.2.2.2
/-- the reader at cell a: tape, code, ends -/
def RdO (z : Zs) (a : Nat) : Prop := (zT z a = 5 ∧ zP z a 0 = some (a + 1) ∧ zP z a 1 = some (a + 2) ∧ zP z a 2 = some (a + 3)) ∧ (zT z (a + 1) = 100 ∧ zL z (a + 1) = 160) ∧ (zT z (a + 2) = 100 ∧ zL z (a + 2) = 160) ∧ zT z (a + 3) = 100 ∧ zL z (a + 3) = 3
theorem RdO.t {z : Zs} {a : Nat} (h : RdO z a) : zT z a = 5 := h.1.1
theorem RdO.p0 {z : Zs} {a : Nat} (h : RdO z a) : zP z a 0 = some (a + 1) := h.1.2.1
theorem RdO.p1 {z : Zs} {a : Nat} (h : RdO z a) : zP z a 1 = some (a + 2) := h.1.2.2.1
theorem RdO.p2 {z : Zs} {a : Nat} (h : RdO z a) : zP z a 2 = some (a + 3) := h.1.2.2.2
theorem RdO.t1 {z : Zs} {a : Nat} (h : RdO z a) : zT z (a + 1) = 100 := h.2.1.1
theorem RdO.l1 {z : Zs} {a : Nat} (h : RdO z a) : zL z (a + 1) = 160 := h.2.1.2
theorem RdO.t2 {z : Zs} {a : Nat} (h : RdO z a) : zT z (a + 2) = 100 := h.2.2.1.1
theorem RdO.l2 {z : Zs} {a : Nat} (h : RdO z a) : zL z (a + 2) = 160 := h.2.2.1.2
theorem RdO.t3 {z : Zs} {a : Nat} (h : RdO z a) : zT z (a + 3) = 100 := h.2.2.2.1
theorem RdO.l3 {z : Zs} {a : Nat} (h : RdO z a) : zL z (a + 3) = 3 := h.2.2.2.2
set_option maxRecDepth 20000 in
theorem b8_kind_0 {g : Gt} (hs : GS g) {d rc rs : Nat} {a : Nat} {z : Zs} {I : Is} {Q : Option Value → Zs → Is → Prop}  (h : Q (some (.int 0)) z I) : WPc g m8_kind d rc rs 0 [(0, .ref a)] [] z I Q := wm8_kind hs 2 (ckB_i rfl h)
set_option maxRecDepth 20000 in
theorem b0_kind_0 {g : Gt} (hs : GS g) {d rc rs : Nat} {a : Nat} {z : Zs} {I : Is} {Q : Option Value → Zs → Is → Prop}  (h : Q (some (.int 1)) z I) : WPc g m0_kind d rc rs 0 [(0, .ref a)] [] z I Q := wm0_kind hs 2 (ckB_i rfl h)
set_option maxRecDepth 20000 in
theorem b6_kind_0 {g : Gt} (hs : GS g) {d rc rs : Nat} {a : Nat} {z : Zs} {I : Is} {Q : Option Value → Zs → Is → Prop}  (h : Q (some (.int 2)) z I) : WPc g m6_kind d rc rs 0 [(0, .ref a)] [] z I Q := wm6_kind hs 2 (ckB_i rfl h)
set_option maxRecDepth 20000 in
theorem b9_kind_0 {g : Gt} (hs : GS g) {d rc rs : Nat} {a : Nat} {z : Zs} {I : Is} {Q : Option Value → Zs → Is → Prop}  (h : Q (some (.int 3)) z I) : WPc g m9_kind d rc rs 0 [(0, .ref a)] [] z I Q := wm9_kind hs 2 (ckB_i rfl h)
set_option maxRecDepth 20000 in
theorem b1_kind_0 {g : Gt} (hs : GS g) {d rc rs : Nat} {a : Nat} {z : Zs} {I : Is} {Q : Option Value → Zs → Is → Prop}  (h : Q (some (.int 4)) z I) : WPc g m1_kind d rc rs 0 [(0, .ref a)] [] z I Q := wm1_kind hs 2 (ckB_i rfl h)
set_option maxRecDepth 20000 in
theorem b3_kind_0 {g : Gt} (hs : GS g) {d rc rs : Nat} {a : Nat} {z : Zs} {I : Is} {Q : Option Value → Zs → Is → Prop}  (h : Q (some (.int 5)) z I) : WPc g m3_kind d rc rs 0 [(0, .ref a)] [] z I Q := wm3_kind hs 2 (ckB_i rfl h)
set_option maxRecDepth 20000 in
theorem b8_together_0 {g : Gt} (hs : GS g) {d rc rs : Nat} {a : Nat} {v1 : Int32} {z : Zs} {I : Is} {Q : Option Value → Zs → Is → Prop}  (h : Q (some (.int 1)) z I) : WPc g m8_together d rc rs 0 [(0, .ref a), (1, .int v1)] [] z I Q := wm8_together hs 2 (ckB_i rfl h)
set_option maxRecDepth 20000 in
theorem b0_together_0 {g : Gt} (hs : GS g) {d rc rs : Nat} {a : Nat} {v1 : Int32} {z : Zs} {I : Is} {Q : Option Value → Zs → Is → Prop}  (h : tagB [0, 9] (zT z a) = true ∧ (WPi g m8_together d 0 0 [.ref a, .int v1] z I (fun x2 y1 J1 => WPc g m0_together (d + 1) rc rs 5 [] [.int x2] y1 J1 Q))) : WPc g m0_together (d + 1) rc rs 0 [(0, .ref a), (1, .int v1)] [] z I Q := wm0_together hs 3 (dsp2_i h.1 (have h := h.2; WPi_m h (fun x2 y1 J1 h => wcut [] rfl h)))
set_option maxRecDepth 20000 in
theorem b0_together_5 {g : Gt} (hs : GS g) {d rc rs : Nat} {ss0 : Int32} {z : Zs} {I : Is} {Q : Option Value → Zs → Is → Prop}  (h : Q (some (.int (ss0 + 1))) z I) : WPc g m0_together (d + 1) rc rs 5 [] [.int ss0] z I Q := wm0_together hs 3 (ckB_i rfl h)
set_option maxRecDepth 20000 in
theorem b9_together_0 {g : Gt} (hs : GS g) {d rc rs : Nat} {a : Nat} {v1 : Int32} {z : Zs} {I : Is} {Q : Option Value → Zs → Is → Prop}  (h : tagB [9] (zT z a) = true ∧ ((v1 ≤ (I a 1) → Nat.beq (zT z a) 9 = true ∧ (WPi g m0_together d 0 0 [.ref a, .int v1] z I (fun x2 y1 J1 => WPc g m9_together (d + 1) rc rs 23 [] [.int x2] y1 J1 Q))) ∧ (¬ v1 ≤ (I a 1) → Nat.beq (zT z a) 9 = true ∧ (WPi g m0_together d 0 0 [.ref a, .int v1] z I (fun x4 y3 J3 => WPc g m9_together (d + 1) rc rs 13 [] [.int x4] y3 J3 Q))))) : WPc g m9_together (d + 1) rc rs 0 [(0, .ref a), (1, .int v1)] [] z I Q := wm9_together hs 4 (ckB_i h.1 (have h := h.2; iteB_i (fun c => have h := h.1 c; show WPc g m9_together (d + 1) rc rs 18 [(0, .ref a), (1, .int v1)] [] z I Q from wm9_together hs 3 (ckB_i h.1 (have h := h.2; WPi_m h (fun x2 y1 J1 h => wcut [] rfl h)))) (fun c => have h := h.2 c; show WPc g m9_together (d + 1) rc rs 8 [(0, .ref a), (1, .int v1)] [] z I Q from wm9_together hs 3 (ckB_i h.1 (have h := h.2; WPi_m h (fun x4 y3 J3 h => wcut [] rfl h))))))
set_option maxRecDepth 20000 in
theorem b9_together_13 {g : Gt} (hs : GS g) {d rc rs : Nat} {ss0 : Int32} {z : Zs} {I : Is} {Q : Option Value → Zs → Is → Prop}  (h : WPc g m9_together (d + 1) rc rs 23 [] [.int (ss0 + 1)] z I Q) : WPc g m9_together (d + 1) rc rs 13 [] [.int ss0] z I Q := wm9_together hs 3 (wcut [] rfl h)
set_option maxRecDepth 20000 in
theorem b9_together_23 {g : Gt} (hs : GS g) {d rc rs : Nat} {ss0 : Int32} {z : Zs} {I : Is} {Q : Option Value → Zs → Is → Prop}  (h : Q (some (.int ss0)) z I) : WPc g m9_together (d + 1) rc rs 23 [] [.int ss0] z I Q := wm9_together hs 1 (ckB_i rfl h)
set_option maxRecDepth 20000 in
theorem b3_together_0 {g : Gt} (hs : GS g) {d rc rs : Nat} {a : Nat} {v1 : Int32} {z : Zs} {I : Is} {Q : Option Value → Zs → Is → Prop}  (h : (v1 ≤ 5 → Nat.beq (zT z a) 3 = true ∧ (WPi g m8_together d 0 0 [.ref a, .int v1] z I (fun x2 y1 J1 => WPc g m3_together (d + 1) rc rs 14 [] [.int x2] y1 J1 Q))) ∧ (¬ v1 ≤ 5 → WPc g m3_together (d + 1) rc rs 14 [] [.int 0] z I Q)) : WPc g m3_together (d + 1) rc rs 0 [(0, .ref a), (1, .int v1)] [] z I Q := wm3_together hs 3 (iteB_i (fun c => have h := h.1 c; show WPc g m3_together (d + 1) rc rs 9 [(0, .ref a), (1, .int v1)] [] z I Q from wm3_together hs 3 (ckB_i h.1 (have h := h.2; WPi_m h (fun x2 y1 J1 h => wcut [] rfl h)))) (fun c => have h := h.2 c; show WPc g m3_together (d + 1) rc rs 5 [(0, .ref a), (1, .int v1)] [] z I Q from wm3_together hs 2 (wcut [] rfl h)))
set_option maxRecDepth 20000 in
theorem b3_together_14 {g : Gt} (hs : GS g) {d rc rs : Nat} {ss0 : Int32} {z : Zs} {I : Is} {Q : Option Value → Zs → Is → Prop}  (h : Q (some (.int ss0)) z I) : WPc g m3_together (d + 1) rc rs 14 [] [.int ss0] z I Q := wm3_together hs 1 (ckB_i rfl h)
set_option maxRecDepth 20000 in
theorem b8_leftOf_0 {g : Gt} (hs : GS g) {d rc rs : Nat} {a : Nat} {v1 : Int32} {z : Zs} {I : Is} {Q : Option Value → Zs → Is → Prop}  (h : Q (some (.int v1)) z I) : WPc g m8_leftOf d rc rs 0 [(0, .ref a), (1, .int v1)] [] z I Q := wm8_leftOf hs 2 (ckB_i rfl h)
set_option maxRecDepth 20000 in
theorem b1_leftOf_0 {g : Gt} (hs : GS g) {d rc rs : Nat} {a : Nat} {v1 : Int32} {z : Zs} {I : Is} {Q : Option Value → Zs → Is → Prop}  (h : Nat.beq (zT z a) 1 = true ∧ (WPi g m8_leftOf d 0 0 [.ref a, .int v1] z I (fun x2 y1 J1 => WPc g m1_leftOf (d + 1) rc rs 6 [] [.int x2, .int 0] y1 J1 Q))) : WPc g m1_leftOf (d + 1) rc rs 0 [(0, .ref a), (1, .int v1)] [] z I Q := wm1_leftOf hs 4 (ckB_i h.1 (have h := h.2; WPi_m h (fun x2 y1 J1 h => wcut [] rfl h)))
set_option maxRecDepth 20000 in
theorem b1_leftOf_6 {g : Gt} (hs : GS g) {d rc rs : Nat} {ss0 : Int32} {z : Zs} {I : Is} {Q : Option Value → Zs → Is → Prop}  (h : WPi g mJ9_max_7cf53 d 0 0 [.int 0, .int (ss0 - 1)] z I (fun x2 y1 J1 => WPc g m1_leftOf (d + 1) rc rs 11 [] [.int x2] y1 J1 Q)) : WPc g m1_leftOf (d + 1) rc rs 6 [] [.int ss0, .int 0] z I Q := wm1_leftOf hs 3 (WPi_m h (fun x2 y1 J1 h => wcut [] rfl h))
set_option maxRecDepth 20000 in
theorem b1_leftOf_11 {g : Gt} (hs : GS g) {d rc rs : Nat} {ss0 : Int32} {z : Zs} {I : Is} {Q : Option Value → Zs → Is → Prop}  (h : Q (some (.int ss0)) z I) : WPc g m1_leftOf (d + 1) rc rs 11 [] [.int ss0] z I Q := wm1_leftOf hs 1 (ckB_i rfl h)
set_option maxRecDepth 20000 in
theorem b3_leftOf_0 {g : Gt} (hs : GS g) {d rc rs : Nat} {a : Nat} {v1 : Int32} {z : Zs} {I : Is} {Q : Option Value → Zs → Is → Prop}  (h : Nat.beq (zT z a) 3 = true ∧ (WPi g m8_leftOf d 0 0 [.ref a, .int v1] z I (fun x2 y1 J1 => WPc g m3_leftOf (d + 1) rc rs 5 [(0, .ref a)] [.int x2] y1 J1 Q))) : WPc g m3_leftOf (d + 1) rc rs 0 [(0, .ref a), (1, .int v1)] [] z I Q := wm3_leftOf hs 3 (ckB_i h.1 (have h := h.2; WPi_m h (fun x2 y1 J1 h => wcut [0] rfl h)))
set_option maxRecDepth 20000 in
theorem b3_leftOf_5 {g : Gt} (hs : GS g) {d rc rs : Nat} {a : Nat} {ss0 : Int32} {z : Zs} {I : Is} {Q : Option Value → Zs → Is → Prop}  (h : tagB [3] (zT z a) = true ∧ (Q (some (.int ((ss0 * (9 - (I a 1))) / 9))) z I)) : WPc g m3_leftOf (d + 1) rc rs 5 [(0, .ref a)] [.int ss0] z I Q := wm3_leftOf hs 7 (ckB_i h.1 (have h := h.2; ckB_i rfl (show WPc g m3_leftOf (d + 1) rc rs 16 [(0, .ref a)] [.int ((ss0 * (9 - (I a 1))) / 9)] z I Q from wm3_leftOf hs 1 (ckB_i rfl h))))
set_option maxRecDepth 20000 in
theorem b8_worthOf_0 {g : Gt} (hs : GS g) {d rc rs : Nat} {a : Nat} {v1 : Int32} {z : Zs} {I : Is} {Q : Option Value → Zs → Is → Prop}  (h : tagB [8, 0, 6, 9, 1, 3] (zT z a) = true ∧ (Q (some (.int (I a 0))) z I)) : WPc g m8_worthOf d rc rs 0 [(0, .ref a), (1, .int v1)] [] z I Q := wm8_worthOf hs 3 (ckB_i h.1 (have h := h.2; ckB_i rfl h))
set_option maxRecDepth 20000 in
theorem b6_worthOf_0 {g : Gt} (hs : GS g) {d rc rs : Nat} {a : Nat} {v1 : Int32} {z : Zs} {I : Is} {Q : Option Value → Zs → Is → Prop}  (h : (2 ≤ v1 → tagB [6, 1] (zT z a) = true ∧ (WPi g m8_worthOf d 0 0 [.ref a, .int v1] z I (fun x2 y1 J1 => WPc g m6_worthOf (d + 1) rc rs 20 [] [.int x2] y1 J1 Q))) ∧ (¬ 2 ≤ v1 → tagB [6, 1] (zT z a) = true ∧ (WPi g m8_worthOf d 0 0 [.ref a, .int v1] z I (fun x4 y3 J3 => WPc g m6_worthOf (d + 1) rc rs 11 [] [.int x4, .int 3] y3 J3 Q)))) : WPc g m6_worthOf (d + 1) rc rs 0 [(0, .ref a), (1, .int v1)] [] z I Q := wm6_worthOf hs 3 (iteB_i (fun c => have h := h.1 c; show WPc g m6_worthOf (d + 1) rc rs 15 [(0, .ref a), (1, .int v1)] [] z I Q from wm6_worthOf hs 3 (dsp2_i h.1 (have h := h.2; WPi_m h (fun x2 y1 J1 h => wcut [] rfl h)))) (fun c => have h := h.2 c; show WPc g m6_worthOf (d + 1) rc rs 5 [(0, .ref a), (1, .int v1)] [] z I Q from wm6_worthOf hs 4 (dsp2_i h.1 (have h := h.2; WPi_m h (fun x4 y3 J3 h => wcut [] rfl h)))))
set_option maxRecDepth 20000 in
theorem b6_worthOf_11 {g : Gt} (hs : GS g) {d rc rs : Nat} {ss0 : Int32} {z : Zs} {I : Is} {Q : Option Value → Zs → Is → Prop}  (h : WPc g m6_worthOf (d + 1) rc rs 20 [] [.int (3 * ss0)] z I Q) : WPc g m6_worthOf (d + 1) rc rs 11 [] [.int ss0, .int 3] z I Q := wm6_worthOf hs 2 (wcut [] rfl h)
set_option maxRecDepth 20000 in
theorem b6_worthOf_20 {g : Gt} (hs : GS g) {d rc rs : Nat} {ss0 : Int32} {z : Zs} {I : Is} {Q : Option Value → Zs → Is → Prop}  (h : Q (some (.int ss0)) z I) : WPc g m6_worthOf (d + 1) rc rs 20 [] [.int ss0] z I Q := wm6_worthOf hs 1 (ckB_i rfl h)
set_option maxRecDepth 20000 in
theorem b1_worthOf_0 {g : Gt} (hs : GS g) {d rc rs : Nat} {a : Nat} {v1 : Int32} {z : Zs} {I : Is} {Q : Option Value → Zs → Is → Prop}  (h : Nat.beq (zT z a) 1 = true ∧ (WPi g m6_worthOf d 0 0 [.ref a, .int v1] z I (fun x2 y1 J1 => WPc g m1_worthOf (d + 1) rc rs 5 [(0, .ref a)] [.int x2] y1 J1 Q))) : WPc g m1_worthOf (d + 1) rc rs 0 [(0, .ref a), (1, .int v1)] [] z I Q := wm1_worthOf hs 3 (ckB_i h.1 (have h := h.2; WPi_m h (fun x2 y1 J1 h => wcut [0] rfl h)))
set_option maxRecDepth 20000 in
theorem b1_worthOf_5 {g : Gt} (hs : GS g) {d rc rs : Nat} {a : Nat} {ss0 : Int32} {z : Zs} {I : Is} {Q : Option Value → Zs → Is → Prop}  (h : tagB [1] (zT z a) = true ∧ (Q (some (.int (ss0 + (I a 1)))) z I)) : WPc g m1_worthOf (d + 1) rc rs 5 [(0, .ref a)] [.int ss0] z I Q := wm1_worthOf hs 4 (ckB_i h.1 (have h := h.2; ckB_i rfl h))
set_option maxRecDepth 20000 in
theorem b8_init_0 {g : Gt} (hs : GS g) {d rc rs : Nat} {a : Nat} {v1 v2 : Int32} {z : Zs} {I : Is} {Q : Option Value → Zs → Is → Prop}  (h : tagB [8, 0, 6, 9, 1, 3] (zT z a) = true ∧ (tagB [8, 0, 6, 9, 1, 3] (zT z a) = true ∧ (Q none z (up2 (up2 I a 0 v1) a 1 v2)))) : WPc g m8_init (d + 1) rc rs 0 [(0, .ref a), (1, .int v1), (2, .int v2)] [] z I Q := wm8_init hs 7 ((ckB_i (by rw [h.1]; rfl) (have h := h.2; show WPc g m8_init (d + 1) rc rs 11 [(0, .ref a), (1, .int v1), (2, .int v2)] [.int v2, .ref a] z (up2 I a 0 v1) Q from wm8_init hs 2 (ckB_i (by rw [h.1]; rfl) (have h := h.2; ckB_i rfl h)))))
set_option maxRecDepth 20000 in
theorem b0_init_0 {g : Gt} (hs : GS g) {d rc rs : Nat} {a : Nat} {v1 v2 : Int32} {z : Zs} {I : Is} {Q : Option Value → Zs → Is → Prop}  (h : WPv g m8_init d 0 0 [.ref a, .int v1, .int v2] z I (fun y1 J1 => WPc g m0_init (d + 1) rc rs 6 [] [] y1 J1 Q)) : WPc g m0_init (d + 1) rc rs 0 [(0, .ref a), (1, .int v1), (2, .int v2)] [] z I Q := wm0_init hs 4 (WPv_m h (fun y1 J1 h => wcut [] rfl h))
set_option maxRecDepth 20000 in
theorem b0_init_6 {g : Gt} (hs : GS g) {d rc rs : Nat} {z : Zs} {I : Is} {Q : Option Value → Zs → Is → Prop}  (h : Q none z I) : WPc g m0_init (d + 1) rc rs 6 [] [] z I Q := wm0_init hs 1 (ckB_i rfl h)
set_option maxRecDepth 20000 in
theorem b6_init_0 {g : Gt} (hs : GS g) {d rc rs : Nat} {a : Nat} {v1 v2 : Int32} {z : Zs} {I : Is} {Q : Option Value → Zs → Is → Prop}  (h : WPv g m8_init d 0 0 [.ref a, .int v1, .int v2] z I (fun y1 J1 => WPc g m6_init (d + 1) rc rs 6 [] [] y1 J1 Q)) : WPc g m6_init (d + 1) rc rs 0 [(0, .ref a), (1, .int v1), (2, .int v2)] [] z I Q := wm6_init hs 4 (WPv_m h (fun y1 J1 h => wcut [] rfl h))
set_option maxRecDepth 20000 in
theorem b6_init_6 {g : Gt} (hs : GS g) {d rc rs : Nat} {z : Zs} {I : Is} {Q : Option Value → Zs → Is → Prop}  (h : Q none z I) : WPc g m6_init (d + 1) rc rs 6 [] [] z I Q := wm6_init hs 1 (ckB_i rfl h)
set_option maxRecDepth 20000 in
theorem b9_init_0 {g : Gt} (hs : GS g) {d rc rs : Nat} {a : Nat} {v1 v2 : Int32} {z : Zs} {I : Is} {Q : Option Value → Zs → Is → Prop}  (h : WPv g m0_init d 0 0 [.ref a, .int v1, .int v2] z I (fun y1 J1 => WPc g m9_init (d + 1) rc rs 6 [] [] y1 J1 Q)) : WPc g m9_init (d + 1) rc rs 0 [(0, .ref a), (1, .int v1), (2, .int v2)] [] z I Q := wm9_init hs 4 (WPv_m h (fun y1 J1 h => wcut [] rfl h))
set_option maxRecDepth 20000 in
theorem b9_init_6 {g : Gt} (hs : GS g) {d rc rs : Nat} {z : Zs} {I : Is} {Q : Option Value → Zs → Is → Prop}  (h : Q none z I) : WPc g m9_init (d + 1) rc rs 6 [] [] z I Q := wm9_init hs 1 (ckB_i rfl h)
set_option maxRecDepth 20000 in
theorem b1_init_0 {g : Gt} (hs : GS g) {d rc rs : Nat} {a : Nat} {v1 v2 : Int32} {z : Zs} {I : Is} {Q : Option Value → Zs → Is → Prop}  (h : WPv g m6_init d 0 0 [.ref a, .int v1, .int v2] z I (fun y1 J1 => WPc g m1_init (d + 1) rc rs 6 [] [] y1 J1 Q)) : WPc g m1_init (d + 1) rc rs 0 [(0, .ref a), (1, .int v1), (2, .int v2)] [] z I Q := wm1_init hs 4 (WPv_m h (fun y1 J1 h => wcut [] rfl h))
set_option maxRecDepth 20000 in
theorem b1_init_6 {g : Gt} (hs : GS g) {d rc rs : Nat} {z : Zs} {I : Is} {Q : Option Value → Zs → Is → Prop}  (h : Q none z I) : WPc g m1_init (d + 1) rc rs 6 [] [] z I Q := wm1_init hs 1 (ckB_i rfl h)
set_option maxRecDepth 20000 in
theorem b3_init_0 {g : Gt} (hs : GS g) {d rc rs : Nat} {a : Nat} {v1 v2 : Int32} {z : Zs} {I : Is} {Q : Option Value → Zs → Is → Prop}  (h : WPv g m8_init d 0 0 [.ref a, .int v1, .int v2] z I (fun y1 J1 => WPc g m3_init (d + 1) rc rs 6 [] [] y1 J1 Q)) : WPc g m3_init (d + 1) rc rs 0 [(0, .ref a), (1, .int v1), (2, .int v2)] [] z I Q := wm3_init hs 4 (WPv_m h (fun y1 J1 h => wcut [] rfl h))
set_option maxRecDepth 20000 in
theorem b3_init_6 {g : Gt} (hs : GS g) {d rc rs : Nat} {z : Zs} {I : Is} {Q : Option Value → Zs → Is → Prop}  (h : Q none z I) : WPc g m3_init (d + 1) rc rs 6 [] [] z I Q := wm3_init hs 1 (ckB_i rfl h)
set_option maxRecDepth 20000 in
theorem b4_many_0 {g : Gt} (hs : GS g) {d rc rs : Nat} {a : Nat} {v1 : Int32} {z : Zs} {I : Is} {Q : Option Value → Zs → Is → Prop}  (h : WPi g m11_within d 0 0 [.int v1, .int 0, .int 5] z I (fun x2 y1 J1 => WPc g m4_many (d + 1) rc rs 6 [(0, .ref a), (1, .int v1)] [.int x2] y1 J1 Q)) : WPc g m4_many (d + 1) rc rs 0 [(0, .ref a), (1, .int v1)] [] z I Q := wm4_many hs 4 (WPi_m h (fun x2 y1 J1 h => wcut [0, 1] rfl h))
set_option maxRecDepth 20000 in
theorem b4_many_6 {g : Gt} (hs : GS g) {d rc rs : Nat} {a : Nat} {v1 ss0 : Int32} {z : Zs} {I : Is} {Q : Option Value → Zs → Is → Prop} (hp : PuO z a) (h : (ss0 = 0 → Q (some (.int 0)) z I) ∧ (¬ ss0 = 0 → inB v1 6 = true ∧ (Q (some (.int (I (a + 1) v1.toNatClampNeg))) z I))) : WPc g m4_many (d + 1) rc rs 6 [(0, .ref a), (1, .int v1)] [.int ss0] z I Q := wm4_many hs 1 (iteB_i (fun c => have h := h.1 c; show WPc g m4_many (d + 1) rc rs 18 [(0, .ref a), (1, .int v1)] [] z I Q from wm4_many hs 2 (ckB_i rfl h)) (fun c => have h := h.2 c; show WPc g m4_many (d + 1) rc rs 9 [(0, .ref a), (1, .int v1)] [] z I Q from wm4_many hs 6 (ckB_i (by rw [hp.t]; rfl) (oe_s hp.p0 (ckB_i (iarB_t hp.t1) (ckB_i (by rw [hp.l1]; exact h.1) (have h := h.2; ckB_i rfl h)))))))
set_option maxRecDepth 20000 in
theorem b4_put_0 {g : Gt} (hs : GS g) {d rc rs : Nat} {a : Nat} {v1 v2 : Int32} {z : Zs} {I : Is} {Q : Option Value → Zs → Is → Prop}  (h : WPi g m11_within d 0 0 [.int v1, .int 0, .int 5] z I (fun x2 y1 J1 => WPc g m4_put (d + 1) rc rs 6 [(0, .ref a), (1, .int v1), (2, .int v2)] [.int x2] y1 J1 Q)) : WPc g m4_put (d + 1) rc rs 0 [(0, .ref a), (1, .int v1), (2, .int v2)] [] z I Q := wm4_put hs 4 (WPi_m h (fun x2 y1 J1 h => wcut [0, 1, 2] rfl h))
set_option maxRecDepth 20000 in
theorem b4_put_6 {g : Gt} (hs : GS g) {d rc rs : Nat} {a : Nat} {v1 v2 ss0 : Int32} {z : Zs} {I : Is} {Q : Option Value → Zs → Is → Prop} (hp : PuO z a) (h : (ss0 = 0 → Q none z I) ∧ (¬ ss0 = 0 → inB v1 6 = true ∧ (Q none z (up2 I (a + 1) v1.toNatClampNeg v2)))) : WPc g m4_put (d + 1) rc rs 6 [(0, .ref a), (1, .int v1), (2, .int v2)] [.int ss0] z I Q := wm4_put hs 1 (iteB_i (fun c => have h := h.1 c; show WPc g m4_put (d + 1) rc rs 16 [(0, .ref a), (1, .int v1), (2, .int v2)] [] z I Q from wm4_put hs 1 (ckB_i rfl h)) (fun c => have h := h.2 c; show WPc g m4_put (d + 1) rc rs 9 [(0, .ref a), (1, .int v1), (2, .int v2)] [] z I Q from wm4_put hs 6 (ckB_i (by rw [hp.t]; rfl) (oe_s hp.p0 (ckB_i (by rw [hp.t1]; rfl) (ckB_i (by rw [hp.l1]; exact h.1) (have h := h.2; ckB_i rfl h)))))))
set_option maxRecDepth 20000 in
theorem b4_grow_0 {g : Gt} (hs : GS g) {d rc rs : Nat} {a : Nat} {v1 v2 : Int32} {z : Zs} {I : Is} {Q : Option Value → Zs → Is → Prop}  (h : WPi g m11_within d 0 0 [.int v1, .int 0, .int 5] z I (fun x2 y1 J1 => WPc g m4_grow (d + 1) rc rs 6 [(0, .ref a), (1, .int v1), (2, .int v2)] [.int x2] y1 J1 Q)) : WPc g m4_grow (d + 1) rc rs 0 [(0, .ref a), (1, .int v1), (2, .int v2)] [] z I Q := wm4_grow hs 4 (WPi_m h (fun x2 y1 J1 h => wcut [0, 1, 2] rfl h))
set_option maxRecDepth 20000 in
theorem b4_grow_6 {g : Gt} (hs : GS g) {d rc rs : Nat} {a : Nat} {v1 v2 ss0 : Int32} {z : Zs} {I : Is} {Q : Option Value → Zs → Is → Prop} (hp : PuO z a) (h : (ss0 = 0 → Q (some (.int 0)) z I) ∧ (¬ ss0 = 0 → inB v1 6 = true ∧ (WPi g mJ9_min_7cf53 d 0 0 [.int v2, .int (99 - (I (a + 1) v1.toNatClampNeg))] z I (fun x2 y1 J1 => WPc g m4_grow (d + 1) rc rs 24 [(0, .ref a), (1, .int v1)] [.int x2] y1 J1 Q)))) : WPc g m4_grow (d + 1) rc rs 6 [(0, .ref a), (1, .int v1), (2, .int v2)] [.int ss0] z I Q := wm4_grow hs 1 (iteB_i (fun c => have h := h.1 c; show WPc g m4_grow (d + 1) rc rs 9 [(0, .ref a), (1, .int v1), (2, .int v2)] [] z I Q from wm4_grow hs 2 (ckB_i rfl h)) (fun c => have h := h.2 c; show WPc g m4_grow (d + 1) rc rs 11 [(0, .ref a), (1, .int v1), (2, .int v2)] [] z I Q from wm4_grow hs 7 (ckB_i (by rw [hp.t]; rfl) (oe_s hp.p0 (ckB_i (iarB_t hp.t1) (ckB_i (by rw [hp.l1]; exact h.1) (have h := h.2; show WPc g m4_grow (d + 1) rc rs 21 [(0, .ref a), (1, .int v1), (2, .int v2)] [.int (99 - (I (a + 1) v1.toNatClampNeg)), .int v2] z I Q from wm4_grow hs 1 (WPi_m h (fun x2 y1 J1 h => wcut [0, 1] rfl h)))))))))
set_option maxRecDepth 20000 in
theorem b4_grow_24 {g : Gt} (hs : GS g) {d rc rs : Nat} {a : Nat} {v1 ss0 : Int32} {z : Zs} {I : Is} {Q : Option Value → Zs → Is → Prop} (hp : PuO z a) (h : inB v1 6 = true ∧ (inB v1 6 = true ∧ (Q (some (.int ss0)) z (up2 I (a + 1) v1.toNatClampNeg ((I (a + 1) v1.toNatClampNeg) + ss0))))) : WPc g m4_grow (d + 1) rc rs 24 [(0, .ref a), (1, .int v1)] [.int ss0] z I Q := wm4_grow hs 7 (ckB_i (by rw [hp.t]; rfl) (oe_s hp.p0 (ckB_i (iarB_t hp.t1) (ckB_i (by rw [hp.l1]; exact h.1) (have h := h.2; show WPc g m4_grow (d + 1) rc rs 33 [(3, .int ss0), (0, .ref a), (1, .int v1)] [.int ss0, .int (I (a + 1) v1.toNatClampNeg), .int v1, .ref (a + 1)] z I Q from wm4_grow hs 4 (ckB_i (by rw [hp.t1]; rfl) (ckB_i (by rw [hp.l1]; exact h.1) (have h := h.2; ckB_i rfl h))))))))
set_option maxRecDepth 20000 in
theorem b4_lose_0 {g : Gt} (hs : GS g) {d rc rs : Nat} {a : Nat} {v1 : Int32} {z : Zs} {I : Is} {Q : Option Value → Zs → Is → Prop}  (h : WPi g m11_within d 0 0 [.int v1, .int 0, .int 5] z I (fun x2 y1 J1 => WPc g m4_lose (d + 1) rc rs 6 [(0, .ref a), (1, .int v1)] [.int x2] y1 J1 Q)) : WPc g m4_lose (d + 1) rc rs 0 [(0, .ref a), (1, .int v1)] [] z I Q := wm4_lose hs 4 (WPi_m h (fun x2 y1 J1 h => wcut [0, 1] rfl h))
set_option maxRecDepth 20000 in
theorem b4_lose_6 {g : Gt} (hs : GS g) {d rc rs : Nat} {a : Nat} {v1 ss0 : Int32} {z : Zs} {I : Is} {Q : Option Value → Zs → Is → Prop} (hp : PuO z a) (h : (ss0 = 0 → Q none z I) ∧ (¬ ss0 = 0 → inB v1 6 = true ∧ (((I (a + 1) v1.toNatClampNeg) ≤ 0 → Q none z I) ∧ (¬ (I (a + 1) v1.toNatClampNeg) ≤ 0 → inB v1 6 = true ∧ (inB v1 6 = true ∧ (Q none z (up2 I (a + 1) v1.toNatClampNeg ((I (a + 1) v1.toNatClampNeg) - 1)))))))) : WPc g m4_lose (d + 1) rc rs 6 [(0, .ref a), (1, .int v1)] [.int ss0] z I Q := wm4_lose hs 1 (iteB_i (fun c => have h := h.1 c; show WPc g m4_lose (d + 1) rc rs 28 [(0, .ref a), (1, .int v1)] [] z I Q from wm4_lose hs 1 (ckB_i rfl h)) (fun c => have h := h.2 c; show WPc g m4_lose (d + 1) rc rs 9 [(0, .ref a), (1, .int v1)] [] z I Q from wm4_lose hs 5 (ckB_i (by rw [hp.t]; rfl) (oe_s hp.p0 (ckB_i (iarB_t hp.t1) (ckB_i (by rw [hp.l1]; exact h.1) (have h := h.2; iteB_i (fun c => have h := h.1 c; show WPc g m4_lose (d + 1) rc rs 28 [(0, .ref a), (1, .int v1)] [] z I Q from wm4_lose hs 1 (ckB_i rfl h)) (fun c => have h := h.2 c; show WPc g m4_lose (d + 1) rc rs 18 [(0, .ref a), (1, .int v1)] [] z I Q from wm4_lose hs 7 (ckB_i (by rw [hp.t]; rfl) (oe_s hp.p0 (ckB_i (iarB_t hp.t1) (ckB_i (by rw [hp.l1]; exact h.1) (have h := h.2; show WPc g m4_lose (d + 1) rc rs 27 [(0, .ref a), (1, .int v1)] [.int ((I (a + 1) v1.toNatClampNeg) - 1), .int v1, .ref (a + 1)] z I Q from wm4_lose hs 2 (ckB_i (by rw [hp.t1]; rfl) (ckB_i (by rw [hp.l1]; exact h.1) (have h := h.2; ckB_i rfl h))))))))))))))))
set_option maxRecDepth 20000 in
theorem b4_become_0 {g : Gt} (hs : GS g) {d rc rs : Nat} {a r1 : Nat} {z : Zs} {I : Is} {Q : Option Value → Zs → Is → Prop} (hp : PuO z a) (hr : PuO z r1) (h : Q none z (cpI I (r1 + 1) (a + 1) 0 0 6)) : WPc g m4_become (d + 1) rc rs 0 [(0, .ref a), (1, .ref r1)] [] z I Q := wm4_become hs 7 (ckB_i (by rw [hr.t]; rfl) (oe_s hr.p0 (ckB_i (by rw [hp.t]; rfl) (oe_s hp.p0 (show WPc g m4_become (d + 1) rc rs 12 [(0, .ref a), (1, .ref r1)] [.int 6, .int 0, .ref (a + 1), .int 0, .ref (r1 + 1)] z I Q from wm4_become hs 2 (ckB_i (by rw [hr.t1, hp.t1]; rfl) (ckB_i (by rw [hr.l1]; rfl) (ckB_i (by rw [hp.l1]; rfl) (ckB_i rfl h)))))))))
set_option maxRecDepth 20000 in
theorem b4_clear_0 {g : Gt} (hs : GS g) {d rc rs : Nat} {a : Nat} {z : Zs} {I : Is} {Q : Option Value → Zs → Is → Prop} (hp : PuO z a) (h : WPv g mJ7_fill_53178 d 0 0 [.ref (a + 1), .int 0] z I (fun y1 J1 => WPc g m4_clear (d + 1) rc rs 8 [] [] y1 J1 Q)) : WPc g m4_clear (d + 1) rc rs 0 [(0, .ref a)] [] z I Q := wm4_clear hs 4 (ckB_i (by rw [hp.t]; rfl) (oe_s hp.p0 (WPv_m h (fun y1 J1 h => wcut [] rfl h))))
set_option maxRecDepth 20000 in
theorem b4_clear_8 {g : Gt} (hs : GS g) {d rc rs : Nat} {z : Zs} {I : Is} {Q : Option Value → Zs → Is → Prop}  (h : Q none z I) : WPc g m4_clear (d + 1) rc rs 8 [] [] z I Q := wm4_clear hs 1 (ckB_i rfl h)
set_option maxRecDepth 20000 in
theorem b4_coins_0 {g : Gt} (hs : GS g) {d rc rs : Nat} {a : Nat} {z : Zs} {I : Is} {Q : Option Value → Zs → Is → Prop}  (h : WPc g m4_coins d rc rs 4 [(0, .ref a), (1, .int 0), (2, .int 0)] [] z I Q) : WPc g m4_coins d rc rs 0 [(0, .ref a)] [] z I Q := wm4_coins hs 4 (wcut [0, 1, 2] rfl h)
set_option maxRecDepth 20000 in
theorem b4_coins_4 {g : Gt} (hs : GS g) {d rc rs : Nat} {a : Nat} {v1 v2 : Int32} {z : Zs} {I : Is} {Q : Option Value → Zs → Is → Prop} (hp : PuO z a) (h : (6 ≤ v2 → Q (some (.int v1)) z I) ∧ (¬ 6 ≤ v2 → inB v2 6 = true ∧ (WPc g m4_coins d rc rs 4 [(0, .ref a), (1, .int (v1 + (I (a + 1) v2.toNatClampNeg))), (2, .int (v2 + 1))] [] z I Q))) : WPc g m4_coins d rc rs 4 [(0, .ref a), (1, .int v1), (2, .int v2)] [] z I Q := wm4_coins hs 3 (iteB_i (fun c => have h := h.1 c; show WPc g m4_coins d rc rs 25 [(0, .ref a), (1, .int v1), (2, .int v2)] [] z I Q from wm4_coins hs 2 (ckB_i rfl h)) (fun c => have h := h.2 c; show WPc g m4_coins d rc rs 10 [(0, .ref a), (1, .int v1), (2, .int v2)] [] z I Q from wm4_coins hs 7 (ckB_i (by rw [hp.t]; rfl) (oe_s hp.p0 (ckB_i (iarB_t hp.t1) (ckB_i (by rw [hp.l1]; exact h.1) (have h := h.2; show WPc g m4_coins d rc rs 19 [(1, .int (v1 + (I (a + 1) v2.toNatClampNeg))), (0, .ref a), (2, .int v2)] [] z I Q from wm4_coins hs 2 (wcut [0, 1, 2] rfl h))))))))
set_option maxRecDepth 20000 in
theorem b4_sortBits_0 {g : Gt} (hs : GS g) {d rc rs : Nat} {a : Nat} {z : Zs} {I : Is} {Q : Option Value → Zs → Is → Prop}  (h : WPc g m4_sortBits d rc rs 4 [(0, .ref a), (1, .int 0), (2, .int 0)] [] z I Q) : WPc g m4_sortBits d rc rs 0 [(0, .ref a)] [] z I Q := wm4_sortBits hs 4 (wcut [0, 1, 2] rfl h)
set_option maxRecDepth 20000 in
theorem b4_sortBits_4 {g : Gt} (hs : GS g) {d rc rs : Nat} {a : Nat} {v1 v2 : Int32} {z : Zs} {I : Is} {Q : Option Value → Zs → Is → Prop} (hp : PuO z a) (h : (6 ≤ v2 → Q (some (.int v1)) z I) ∧ (¬ 6 ≤ v2 → inB v2 6 = true ∧ (((I (a + 1) v2.toNatClampNeg) ≤ 0 → WPc g m4_sortBits d rc rs 4 [(0, .ref a), (1, .int v1), (2, .int (v2 + 1))] [] z I Q) ∧ (¬ (I (a + 1) v2.toNatClampNeg) ≤ 0 → WPc g m4_sortBits d rc rs 4 [(0, .ref a), (1, .int (v1 ||| (1 <<< (v2 &&& 31)))), (2, .int (v2 + 1))] [] z I Q)))) : WPc g m4_sortBits d rc rs 4 [(0, .ref a), (1, .int v1), (2, .int v2)] [] z I Q := wm4_sortBits hs 3 (iteB_i (fun c => have h := h.1 c; show WPc g m4_sortBits d rc rs 31 [(0, .ref a), (1, .int v1), (2, .int v2)] [] z I Q from wm4_sortBits hs 2 (ckB_i rfl h)) (fun c => have h := h.2 c; show WPc g m4_sortBits d rc rs 10 [(0, .ref a), (1, .int v1), (2, .int v2)] [] z I Q from wm4_sortBits hs 5 (ckB_i (by rw [hp.t]; rfl) (oe_s hp.p0 (ckB_i (iarB_t hp.t1) (ckB_i (by rw [hp.l1]; exact h.1) (have h := h.2; iteB_i (fun c => have h := h.1 c; show WPc g m4_sortBits d rc rs 25 [(0, .ref a), (1, .int v1), (2, .int v2)] [] z I Q from wm4_sortBits hs 2 (wcut [0, 1, 2] rfl h)) (fun c => have h := h.2 c; show WPc g m4_sortBits d rc rs 19 [(0, .ref a), (1, .int v1), (2, .int v2)] [] z I Q from wm4_sortBits hs 7 (show WPc g m4_sortBits d rc rs 28 [(2, .int (v2 + 1)), (1, .int (v1 ||| (1 <<< (v2 &&& 31)))), (0, .ref a)] [] z I Q from wm4_sortBits hs 1 (wcut [0, 1, 2] rfl h))))))))))
set_option maxRecDepth 20000 in
theorem b4_worth_0 {g : Gt} (hs : GS g) {d rc rs : Nat} {a r1 : Nat} {z : Zs} {I : Is} {Q : Option Value → Zs → Is → Prop}  (h : WPc g m4_worth (d + 1) rc rs 4 [(0, .ref a), (1, .ref r1), (2, .int 0), (3, .int 0)] [] z I Q) : WPc g m4_worth (d + 1) rc rs 0 [(0, .ref a), (1, .ref r1)] [] z I Q := wm4_worth hs 4 (wcut [0, 1, 2, 3] rfl h)
set_option maxRecDepth 20000 in
theorem b4_worth_4 {g : Gt} (hs : GS g) {d rc rs : Nat} {a r1 : Nat} {v2 v3 : Int32} {z : Zs} {I : Is} {Q : Option Value → Zs → Is → Prop} (hp : PuO z a) (h : (6 ≤ v3 → Q (some (.int v2)) z I) ∧ (¬ 6 ≤ v3 → (iarB z r1 || (rngB (zT z r1) || (Nat.ble 4 r1 && Nat.ble r1 6))) = true ∧ (((Int32.ofNat (zL z r1)) ≤ v3 → Q (some (.int v2)) z I) ∧ (¬ (Int32.ofNat (zL z r1)) ≤ v3 → rngB (zT z r1) = true ∧ (inB v3 (zL z r1) = true ∧ (oe (zP z r1 v3.toNatClampNeg) (WPc g m4_worth (d + 1) rc rs 4 [(0, .ref a), (1, .ref r1), (2, .int v2), (3, .int (v3 + 1))] [] z I Q) (fun q1 => inB v3 6 = true ∧ (inB v3 6 = true ∧ (dsp [(8, m8_worthOf), (0, m8_worthOf), (6, m6_worthOf), (9, m8_worthOf), (1, m1_worthOf), (3, m8_worthOf)] (zT z q1) (fun mm => WPi g mm d 0 0 [.ref q1, .int (I (a + 1) v3.toNatClampNeg)] z I (fun x3 y2 J2 => WPc g m4_worth (d + 1) rc rs 44 [(0, .ref a), (1, .ref r1), (3, .int v3)] [.int x3, .int (I (a + 1) v3.toNatClampNeg), .int v2] y2 J2 Q))))))))))) : WPc g m4_worth (d + 1) rc rs 4 [(0, .ref a), (1, .ref r1), (2, .int v2), (3, .int v3)] [] z I Q := wm4_worth hs 3 (iteB_i (fun c => have h := h.1 c; show WPc g m4_worth (d + 1) rc rs 53 [(0, .ref a), (1, .ref r1), (2, .int v2), (3, .int v3)] [] z I Q from wm4_worth hs 2 (ckB_i rfl h)) (fun c => have h := h.2 c; show WPc g m4_worth (d + 1) rc rs 10 [(0, .ref a), (1, .ref r1), (2, .int v2), (3, .int v3)] [] z I Q from wm4_worth hs 4 (ckB_i h.1 (have h := h.2; iteB_i (fun c => have h := h.1 c; show WPc g m4_worth (d + 1) rc rs 53 [(0, .ref a), (1, .ref r1), (2, .int v2), (3, .int v3)] [] z I Q from wm4_worth hs 2 (ckB_i rfl h)) (fun c => have h := h.2 c; show WPc g m4_worth (d + 1) rc rs 16 [(0, .ref a), (1, .ref r1), (2, .int v2), (3, .int v3)] [] z I Q from wm4_worth hs 3 (ckB_i h.1 (have h := h.2; ckB_i h.1 (have h := h.2; oe_map h (fun h => show WPc g m4_worth (d + 1) rc rs 19 [(0, .ref a), (1, .ref r1), (2, .int v2), (3, .int v3)] [.null] z I Q from wm4_worth hs 5 (wcut [0, 1, 2, 3] rfl h)) (fun q1 h => show WPc g m4_worth (d + 1) rc rs 19 [(0, .ref a), (1, .ref r1), (2, .int v2), (3, .int v3)] [.ref q1] z I Q from wm4_worth hs 7 (ckB_i (by rw [hp.t]; rfl) (oe_s hp.p0 (show WPc g m4_worth (d + 1) rc rs 32 [(4, .ref q1), (0, .ref a), (1, .ref r1), (2, .int v2), (3, .int v3)] [.int v3, .ref (a + 1), .int v2] z I Q from wm4_worth hs 7 (ckB_i (iarB_t hp.t1) (ckB_i (by rw [hp.l1]; exact h.1) (have h := h.2; ckB_i (by rw [hp.t]; rfl) (oe_s hp.p0 (ckB_i (iarB_t hp.t1) (ckB_i (by rw [hp.l1]; exact h.1) (have h := h.2; dspi_m (by decide) h (fun x3 y2 J2 h => wcut [0, 1, 3] rfl h))))))))))))))))))))
set_option maxRecDepth 20000 in
theorem b4_worth_44 {g : Gt} (hs : GS g) {d rc rs : Nat} {a r1 : Nat} {v3 ss0 ss1 ss2 : Int32} {z : Zs} {I : Is} {Q : Option Value → Zs → Is → Prop}  (h : WPc g m4_worth (d + 1) rc rs 4 [(0, .ref a), (1, .ref r1), (2, .int (ss2 + (ss1 * ss0))), (3, .int (v3 + 1))] [] z I Q) : WPc g m4_worth (d + 1) rc rs 44 [(0, .ref a), (1, .ref r1), (3, .int v3)] [.int ss0, .int ss1, .int ss2] z I Q := wm4_worth hs 5 (wcut [0, 1, 2, 3] rfl h)
set_option maxRecDepth 20000 in
theorem b4_lay_0 {g : Gt} (hs : GS g) {d rc rs : Nat} {a r1 : Nat} {v2 : Int32} {z : Zs} {I : Is} {Q : Option Value → Zs → Is → Prop}  (h : WPc g m4_lay (d + 1) rc rs 2 [(0, .ref a), (1, .ref r1), (2, .int v2), (3, .int 0)] [] z I Q) : WPc g m4_lay (d + 1) rc rs 0 [(0, .ref a), (1, .ref r1), (2, .int v2)] [] z I Q := wm4_lay hs 2 (wcut [0, 1, 2, 3] rfl h)
set_option maxRecDepth 20000 in
theorem b4_lay_2 {g : Gt} (hs : GS g) {d rc rs : Nat} {a r1 : Nat} {v2 v3 : Int32} {z : Zs} {I : Is} {Q : Option Value → Zs → Is → Prop} (hp : PuO z a) (h : (6 ≤ v3 → WPc g m4_lay (d + 1) rc rs 68 [(0, .ref a), (2, .int v2), (3, .int 0), (4, .int 0)] [] z I Q) ∧ (¬ 6 ≤ v3 → (iarB z r1 || (rngB (zT z r1) || (Nat.ble 4 r1 && Nat.ble r1 6))) = true ∧ (((Int32.ofNat (zL z r1)) ≤ v3 → WPc g m4_lay (d + 1) rc rs 68 [(0, .ref a), (2, .int v2), (3, .int 0), (4, .int 0)] [] z I Q) ∧ (¬ (Int32.ofNat (zL z r1)) ≤ v3 → rngB (zT z r1) = true ∧ (inB v3 (zL z r1) = true ∧ (oe (zP z r1 v3.toNatClampNeg) (inB v3 6 = true ∧ (inB v3 6 = true ∧ (WPc g m4_lay (d + 1) rc rs 56 [(0, .ref a), (1, .ref r1), (2, .int v2), (3, .int v3)] [.int 0, .int v3, .ref (a + 3)] z (up2 I (a + 2) v3.toNatClampNeg (I (a + 1) v3.toNatClampNeg)) Q))) (fun q1 => inB v3 6 = true ∧ (inB v3 6 = true ∧ (inB v3 6 = true ∧ (dsp [(8, m8_together), (0, m0_together), (6, m8_together), (9, m9_together), (1, m8_together), (3, m3_together)] (zT z q1) (fun mm => WPi g mm d 0 0 [.ref q1, .int ((up2 I (a + 2) v3.toNatClampNeg (I (a + 1) v3.toNatClampNeg)) (a + 1) v3.toNatClampNeg)] z (up2 I (a + 2) v3.toNatClampNeg (I (a + 1) v3.toNatClampNeg)) (fun x3 y2 J2 => WPc g m4_lay (d + 1) rc rs 56 [(0, .ref a), (1, .ref r1), (2, .int v2), (3, .int v3)] [.int x3, .int v3, .ref (a + 3)] y2 J2 Q)))))))))))) : WPc g m4_lay (d + 1) rc rs 2 [(0, .ref a), (1, .ref r1), (2, .int v2), (3, .int v3)] [] z I Q := wm4_lay hs 3 (iteB_i (fun c => have h := h.1 c; show WPc g m4_lay (d + 1) rc rs 63 [(0, .ref a), (1, .ref r1), (2, .int v2), (3, .int v3)] [] z I Q from wm4_lay hs 4 (wcut [0, 2, 3, 4] rfl h)) (fun c => have h := h.2 c; show WPc g m4_lay (d + 1) rc rs 8 [(0, .ref a), (1, .ref r1), (2, .int v2), (3, .int v3)] [] z I Q from wm4_lay hs 4 (ckB_i h.1 (have h := h.2; iteB_i (fun c => have h := h.1 c; show WPc g m4_lay (d + 1) rc rs 63 [(0, .ref a), (1, .ref r1), (2, .int v2), (3, .int v3)] [] z I Q from wm4_lay hs 4 (wcut [0, 2, 3, 4] rfl h)) (fun c => have h := h.2 c; show WPc g m4_lay (d + 1) rc rs 14 [(0, .ref a), (1, .ref r1), (2, .int v2), (3, .int v3)] [] z I Q from wm4_lay hs 3 (ckB_i h.1 (have h := h.2; ckB_i h.1 (have h := h.2; oe_map h (fun h => show WPc g m4_lay (d + 1) rc rs 17 [(0, .ref a), (1, .ref r1), (2, .int v2), (3, .int v3)] [.null] z I Q from wm4_lay hs 7 (ckB_i (by rw [hp.t]; rfl) (oe_s hp.p1 (ckB_i (by rw [hp.t]; rfl) (oe_s hp.p0 (show WPc g m4_lay (d + 1) rc rs 29 [(4, .null), (0, .ref a), (1, .ref r1), (2, .int v2), (3, .int v3)] [.int v3, .ref (a + 1), .int v3, .ref (a + 2)] z I Q from wm4_lay hs 7 (ckB_i (iarB_t hp.t1) (ckB_i (by rw [hp.l1]; exact h.1) (have h := h.2; ckB_i (by rw [hp.t2]; rfl) (ckB_i (by rw [hp.l2]; exact h.1) (have h := h.2; ckB_i (by rw [hp.t]; rfl) (oe_s hp.p2 (show WPc g m4_lay (d + 1) rc rs 41 [(4, .null), (0, .ref a), (1, .ref r1), (2, .int v2), (3, .int v3)] [.int v3, .ref (a + 3)] z (up2 I (a + 2) v3.toNatClampNeg (I (a + 1) v3.toNatClampNeg)) Q from wm4_lay hs 2 (wcut [0, 1, 2, 3] rfl h)))))))))))))) (fun q1 h => show WPc g m4_lay (d + 1) rc rs 17 [(0, .ref a), (1, .ref r1), (2, .int v2), (3, .int v3)] [.ref q1] z I Q from wm4_lay hs 7 (ckB_i (by rw [hp.t]; rfl) (oe_s hp.p1 (ckB_i (by rw [hp.t]; rfl) (oe_s hp.p0 (show WPc g m4_lay (d + 1) rc rs 29 [(4, .ref q1), (0, .ref a), (1, .ref r1), (2, .int v2), (3, .int v3)] [.int v3, .ref (a + 1), .int v3, .ref (a + 2)] z I Q from wm4_lay hs 7 (ckB_i (iarB_t hp.t1) (ckB_i (by rw [hp.l1]; exact h.1) (have h := h.2; ckB_i (by rw [hp.t2]; rfl) (ckB_i (by rw [hp.l2]; exact h.1) (have h := h.2; ckB_i (by rw [hp.t]; rfl) (oe_s hp.p2 (show WPc g m4_lay (d + 1) rc rs 45 [(4, .ref q1), (0, .ref a), (1, .ref r1), (2, .int v2), (3, .int v3)] [.int v3, .ref (a + 3)] z (up2 I (a + 2) v3.toNatClampNeg (I (a + 1) v3.toNatClampNeg)) Q from wm4_lay hs 6 (ckB_i (by rw [hp.t]; rfl) (oe_s hp.p0 (ckB_i (iarB_t hp.t1) (ckB_i (by rw [hp.l1]; exact h.1) (have h := h.2; dspi_m (by decide) h (fun x3 y2 J2 h => wcut [0, 1, 2, 3] rfl h)))))))))))))))))))))))))))
set_option maxRecDepth 20000 in
theorem b4_lay_56 {g : Gt} (hs : GS g) {d rc rs : Nat} {a r1 rs2 : Nat} {v2 v3 ss0 ss1 : Int32} {z : Zs} {I : Is} {Q : Option Value → Zs → Is → Prop}  (h : Nat.beq (zT z rs2) 100 = true ∧ (inB ss1 (zL z rs2) = true ∧ (WPc g m4_lay (d + 1) rc rs 2 [(0, .ref a), (1, .ref r1), (2, .int v2), (3, .int (v3 + 1))] [] z (up2 I rs2 ss1.toNatClampNeg ss0) Q))) : WPc g m4_lay (d + 1) rc rs 56 [(0, .ref a), (1, .ref r1), (2, .int v2), (3, .int v3)] [.int ss0, .int ss1, .ref rs2] z I Q := wm4_lay hs 3 (ckB_i h.1 (have h := h.2; ckB_i h.1 (have h := h.2; wcut [0, 1, 2, 3] rfl h)))
set_option maxRecDepth 20000 in
theorem b4_lay_68 {g : Gt} (hs : GS g) {d rc rs : Nat} {a : Nat} {v2 v3 v4 : Int32} {z : Zs} {I : Is} {Q : Option Value → Zs → Is → Prop} (hp : PuO z a) (h : (v2 ≤ v4 → Q (some (.int v3)) z (cpI I (a + 2) (a + 1) 0 0 6)) ∧ (¬ v2 ≤ v4 → WPi g m4_mostPlentiful d 0 0 [.ref a] z I (fun x2 y1 J1 => WPc g m4_lay (d + 1) rc rs 78 [(0, .ref a), (2, .int v2), (3, .int v3), (4, .int v4)] [.int x2] y1 J1 Q))) : WPc g m4_lay (d + 1) rc rs 68 [(0, .ref a), (2, .int v2), (3, .int v3), (4, .int v4)] [] z I Q := wm4_lay hs 3 (iteB_i (fun c => have h := h.1 c; show WPc g m4_lay (d + 1) rc rs 122 [(0, .ref a), (2, .int v2), (3, .int v3), (4, .int v4)] [] z I Q from wm4_lay hs 7 (ckB_i (by rw [hp.t]; rfl) (oe_s hp.p1 (ckB_i (by rw [hp.t]; rfl) (oe_s hp.p0 (show WPc g m4_lay (d + 1) rc rs 134 [(0, .ref a), (2, .int v2), (3, .int v3), (4, .int v4)] [.int 6, .int 0, .ref (a + 1), .int 0, .ref (a + 2)] z I Q from wm4_lay hs 3 (ckB_i (by rw [hp.t2, hp.t1]; rfl) (ckB_i (by rw [hp.l2]; rfl) (ckB_i (by rw [hp.l1]; rfl) (ckB_i rfl h)))))))))) (fun c => have h := h.2 c; show WPc g m4_lay (d + 1) rc rs 74 [(0, .ref a), (2, .int v2), (3, .int v3), (4, .int v4)] [] z I Q from wm4_lay hs 2 (ckB_i (by rw [hp.t]; rfl) (WPi_m h (fun x2 y1 J1 h => wcut [0, 2, 3, 4] rfl h)))))
set_option maxRecDepth 20000 in
theorem b4_lay_78 {g : Gt} (hs : GS g) {d rc rs : Nat} {a : Nat} {v2 v3 v4 ss0 : Int32} {z : Zs} {I : Is} {Q : Option Value → Zs → Is → Prop} (hp : PuO z a) (h : (0 ≤ ss0 → inB ss0 6 = true ∧ (inB ss0 6 = true ∧ (inB ss0 6 = true ∧ (inB ss0 6 = true ∧ (WPc g m4_lay (d + 1) rc rs 68 [(0, .ref a), (2, .int v2), (3, .int (v3 ||| (1 <<< (ss0 &&& 31)))), (4, .int (v4 + 1))] [] z (up2 (up2 I (a + 2) ss0.toNatClampNeg ((I (a + 2) ss0.toNatClampNeg) - 1)) (a + 3) ss0.toNatClampNeg (((up2 I (a + 2) ss0.toNatClampNeg ((I (a + 2) ss0.toNatClampNeg) - 1)) (a + 3) ss0.toNatClampNeg) - 1)) Q))))) ∧ (¬ 0 ≤ ss0 → Q (some (.int 0)) z I)) : WPc g m4_lay (d + 1) rc rs 78 [(0, .ref a), (2, .int v2), (3, .int v3), (4, .int v4)] [.int ss0] z I Q := wm4_lay hs 3 (iteB_i (fun c => have h := h.1 c; show WPc g m4_lay (d + 1) rc rs 87 [(5, .int ss0), (0, .ref a), (2, .int v2), (3, .int v3), (4, .int v4)] [] z I Q from wm4_lay hs 7 (ckB_i (by rw [hp.t]; rfl) (oe_s hp.p1 (ckB_i (iarB_t hp.t2) (ckB_i (by rw [hp.l2]; exact h.1) (have h := h.2; show WPc g m4_lay (d + 1) rc rs 97 [(5, .int ss0), (0, .ref a), (2, .int v2), (3, .int v3), (4, .int v4)] [.int ((I (a + 2) ss0.toNatClampNeg) - 1), .int ss0, .ref (a + 2)] z I Q from wm4_lay hs 7 (ckB_i (by rw [hp.t2]; rfl) (ckB_i (by rw [hp.l2]; exact h.1) (have h := h.2; ckB_i (by rw [hp.t]; rfl) (oe_s hp.p2 (ckB_i (iarB_t hp.t3) (ckB_i (by rw [hp.l3]; exact h.1) (have h := h.2; show WPc g m4_lay (d + 1) rc rs 107 [(5, .int ss0), (0, .ref a), (2, .int v2), (3, .int v3), (4, .int v4)] [.int 1, .int ((up2 I (a + 2) ss0.toNatClampNeg ((I (a + 2) ss0.toNatClampNeg) - 1)) (a + 3) ss0.toNatClampNeg), .int ss0, .ref (a + 3)] z (up2 I (a + 2) ss0.toNatClampNeg ((I (a + 2) ss0.toNatClampNeg) - 1)) Q from wm4_lay hs 7 (ckB_i (by rw [hp.t3]; rfl) (ckB_i (by rw [hp.l3]; exact h.1) (have h := h.2; show WPc g m4_lay (d + 1) rc rs 115 [(5, .int ss0), (0, .ref a), (2, .int v2), (3, .int v3), (4, .int v4)] [.int (v3 ||| (1 <<< (ss0 &&& 31)))] z (up2 (up2 I (a + 2) ss0.toNatClampNeg ((I (a + 2) ss0.toNatClampNeg) - 1)) (a + 3) ss0.toNatClampNeg (((up2 I (a + 2) ss0.toNatClampNeg ((I (a + 2) ss0.toNatClampNeg) - 1)) (a + 3) ss0.toNatClampNeg) - 1)) Q from wm4_lay hs 3 (wcut [0, 2, 3, 4] rfl h))))))))))))))))) (fun c => have h := h.2 c; show WPc g m4_lay (d + 1) rc rs 85 [(5, .int ss0), (0, .ref a), (2, .int v2), (3, .int v3), (4, .int v4)] [] z I Q from wm4_lay hs 2 (ckB_i rfl h)))
set_option maxRecDepth 20000 in
theorem b4_mostPlentiful_0 {g : Gt} (hs : GS g) {d rc rs : Nat} {a : Nat} {z : Zs} {I : Is} {Q : Option Value → Zs → Is → Prop}  (h : WPc g m4_mostPlentiful d rc rs 6 [(0, .ref a), (1, .int (-1 : Int32)), (2, .int 0), (3, .int 0)] [] z I Q) : WPc g m4_mostPlentiful d rc rs 0 [(0, .ref a)] [] z I Q := wm4_mostPlentiful hs 6 (wcut [0, 1, 2, 3] rfl h)
set_option maxRecDepth 20000 in
theorem b4_mostPlentiful_6 {g : Gt} (hs : GS g) {d rc rs : Nat} {a : Nat} {v1 v2 v3 : Int32} {z : Zs} {I : Is} {Q : Option Value → Zs → Is → Prop} (hp : PuO z a) (h : (6 ≤ v3 → Q (some (.int v1)) z I) ∧ (¬ 6 ≤ v3 → inB v3 6 = true ∧ (((I (a + 3) v3.toNatClampNeg) ≤ 0 → WPc g m4_mostPlentiful d rc rs 6 [(0, .ref a), (1, .int v1), (2, .int v2), (3, .int (v3 + 1))] [] z I Q) ∧ (¬ (I (a + 3) v3.toNatClampNeg) ≤ 0 → inB v3 6 = true ∧ (((I (a + 2) v3.toNatClampNeg) ≤ v2 → WPc g m4_mostPlentiful d rc rs 6 [(0, .ref a), (1, .int v1), (2, .int v2), (3, .int (v3 + 1))] [] z I Q) ∧ (¬ (I (a + 2) v3.toNatClampNeg) ≤ v2 → inB v3 6 = true ∧ (WPc g m4_mostPlentiful d rc rs 6 [(0, .ref a), (1, .int v3), (2, .int (I (a + 2) v3.toNatClampNeg)), (3, .int (v3 + 1))] [] z I Q))))))) : WPc g m4_mostPlentiful d rc rs 6 [(0, .ref a), (1, .int v1), (2, .int v2), (3, .int v3)] [] z I Q := wm4_mostPlentiful hs 3 (iteB_i (fun c => have h := h.1 c; show WPc g m4_mostPlentiful d rc rs 46 [(0, .ref a), (1, .int v1), (2, .int v2), (3, .int v3)] [] z I Q from wm4_mostPlentiful hs 2 (ckB_i rfl h)) (fun c => have h := h.2 c; show WPc g m4_mostPlentiful d rc rs 12 [(0, .ref a), (1, .int v1), (2, .int v2), (3, .int v3)] [] z I Q from wm4_mostPlentiful hs 5 (ckB_i (by rw [hp.t]; rfl) (oe_s hp.p2 (ckB_i (iarB_t hp.t3) (ckB_i (by rw [hp.l3]; exact h.1) (have h := h.2; iteB_i (fun c => have h := h.1 c; show WPc g m4_mostPlentiful d rc rs 40 [(0, .ref a), (1, .int v1), (2, .int v2), (3, .int v3)] [] z I Q from wm4_mostPlentiful hs 2 (wcut [0, 1, 2, 3] rfl h)) (fun c => have h := h.2 c; show WPc g m4_mostPlentiful d rc rs 21 [(0, .ref a), (1, .int v1), (2, .int v2), (3, .int v3)] [] z I Q from wm4_mostPlentiful hs 6 (ckB_i (by rw [hp.t]; rfl) (oe_s hp.p1 (ckB_i (iarB_t hp.t2) (ckB_i (by rw [hp.l2]; exact h.1) (have h := h.2; iteB_i (fun c => have h := h.1 c; show WPc g m4_mostPlentiful d rc rs 40 [(0, .ref a), (1, .int v1), (2, .int v2), (3, .int v3)] [] z I Q from wm4_mostPlentiful hs 2 (wcut [0, 1, 2, 3] rfl h)) (fun c => have h := h.2 c; show WPc g m4_mostPlentiful d rc rs 31 [(0, .ref a), (1, .int v1), (2, .int v2), (3, .int v3)] [] z I Q from wm4_mostPlentiful hs 7 (ckB_i (by rw [hp.t]; rfl) (oe_s hp.p1 (ckB_i (iarB_t hp.t2) (ckB_i (by rw [hp.l2]; exact h.1) (have h := h.2; show WPc g m4_mostPlentiful d rc rs 40 [(1, .int v3), (2, .int (I (a + 2) v3.toNatClampNeg)), (0, .ref a), (3, .int v3)] [] z I Q from wm4_mostPlentiful hs 2 (wcut [0, 1, 2, 3] rfl h))))))))))))))))))))
set_option maxRecDepth 20000 in
theorem b7_isMissing_0 {g : Gt} (hs : GS g) {d rc rs : Nat} {a : Nat} {z : Zs} {I : Is} {Q : Option Value → Zs → Is → Prop} (hp : ShO z a) (h : ((I a 1) = (-1 : Int32) → Q (some (.int 1)) z I) ∧ (¬ (I a 1) = (-1 : Int32) → Q (some (.int 0)) z I)) : WPc g m7_isMissing d rc rs 0 [(0, .ref a)] [] z I Q := wm7_isMissing hs 4 (ckB_i (by rw [hp.t]; rfl) (iteB_i (fun c => have h := h.1 c; show WPc g m7_isMissing d rc rs 8 [(0, .ref a)] [] z I Q from wm7_isMissing hs 3 (ckB_i rfl h)) (fun c => have h := h.2 c; show WPc g m7_isMissing d rc rs 12 [(0, .ref a)] [] z I Q from wm7_isMissing hs 2 (ckB_i rfl h))))
set_option maxRecDepth 20000 in
theorem b7_cannotTell_0 {g : Gt} (hs : GS g) {d rc rs : Nat} {a : Nat} {z : Zs} {I : Is} {Q : Option Value → Zs → Is → Prop} (hp : ShO z a) (h : WPi g m7_isMissing d 0 0 [.ref a] z I (fun x2 y1 J1 => WPc g m7_cannotTell (d + 1) rc rs 4 [(0, .ref a)] [.int x2] y1 J1 Q)) : WPc g m7_cannotTell (d + 1) rc rs 0 [(0, .ref a)] [] z I Q := wm7_cannotTell hs 2 (ckB_i (by rw [hp.t]; rfl) (WPi_m h (fun x2 y1 J1 h => wcut [0] rfl h)))
set_option maxRecDepth 20000 in
theorem b7_cannotTell_4 {g : Gt} (hs : GS g) {d rc rs : Nat} {a : Nat} {ss0 : Int32} {z : Zs} {I : Is} {Q : Option Value → Zs → Is → Prop} (hp : ShO z a) (h : (ss0 = 0 → ((I a 2) ≤ 12 → Q (some (.int 0)) z I) ∧ (¬ (I a 2) ≤ 12 → Q (some (.int 1)) z I)) ∧ (¬ ss0 = 0 → Q (some (.int 1)) z I)) : WPc g m7_cannotTell (d + 1) rc rs 4 [(0, .ref a)] [.int ss0] z I Q := wm7_cannotTell hs 1 (iteB_i (fun c => have h := h.1 c; show WPc g m7_cannotTell (d + 1) rc rs 7 [(0, .ref a)] [] z I Q from wm7_cannotTell hs 4 (ckB_i (by rw [hp.t]; rfl) (iteB_i (fun c => have h := h.1 c; show WPc g m7_cannotTell (d + 1) rc rs 20 [(0, .ref a)] [] z I Q from wm7_cannotTell hs 2 (ckB_i rfl h)) (fun c => have h := h.2 c; show WPc g m7_cannotTell (d + 1) rc rs 16 [(0, .ref a)] [] z I Q from wm7_cannotTell hs 3 (ckB_i rfl h))))) (fun c => have h := h.2 c; show WPc g m7_cannotTell (d + 1) rc rs 16 [(0, .ref a)] [] z I Q from wm7_cannotTell hs 3 (ckB_i rfl h)))
set_option maxRecDepth 20000 in
theorem b7_holds_0 {g : Gt} (hs : GS g) {d rc rs : Nat} {a : Nat} {v1 v2 : Int32} {z : Zs} {I : Is} {Q : Option Value → Zs → Is → Prop} (hp : ShO z a) (h : (v1 < 0 → Q (some (.int 0)) z I) ∧ (¬ v1 < 0 → (v2 < 0 → Q (some (.int 0)) z I) ∧ (¬ v2 < 0 → ((I a 2) < v2 → Q (some (.int 0)) z I) ∧ (¬ (I a 2) < v2 → (((I a 2) - v2) < v1 → Q (some (.int 0)) z I) ∧ (¬ ((I a 2) - v2) < v1 → Q (some (.int 1)) z I))))) : WPc g m7_holds d rc rs 0 [(0, .ref a), (1, .int v1), (2, .int v2)] [] z I Q := wm7_holds hs 2 (iteB_i (fun c => have h := h.1 c; show WPc g m7_holds d rc rs 30 [(0, .ref a), (1, .int v1), (2, .int v2)] [] z I Q from wm7_holds hs 2 (ckB_i rfl h)) (fun c => have h := h.2 c; show WPc g m7_holds d rc rs 4 [(0, .ref a), (1, .int v1), (2, .int v2)] [] z I Q from wm7_holds hs 2 (iteB_i (fun c => have h := h.1 c; show WPc g m7_holds d rc rs 30 [(0, .ref a), (1, .int v1), (2, .int v2)] [] z I Q from wm7_holds hs 2 (ckB_i rfl h)) (fun c => have h := h.2 c; show WPc g m7_holds d rc rs 8 [(0, .ref a), (1, .int v1), (2, .int v2)] [] z I Q from wm7_holds hs 4 (ckB_i (by rw [hp.t]; rfl) (iteB_i (fun c => have h := h.1 c; show WPc g m7_holds d rc rs 30 [(0, .ref a), (1, .int v1), (2, .int v2)] [] z I Q from wm7_holds hs 2 (ckB_i rfl h)) (fun c => have h := h.2 c; show WPc g m7_holds d rc rs 16 [(0, .ref a), (1, .int v1), (2, .int v2)] [] z I Q from wm7_holds hs 6 (ckB_i (by rw [hp.t]; rfl) (iteB_i (fun c => have h := h.1 c; show WPc g m7_holds d rc rs 30 [(0, .ref a), (1, .int v1), (2, .int v2)] [] z I Q from wm7_holds hs 2 (ckB_i rfl h)) (fun c => have h := h.2 c; show WPc g m7_holds d rc rs 26 [(0, .ref a), (1, .int v1), (2, .int v2)] [] z I Q from wm7_holds hs 3 (ckB_i rfl h)))))))))))
set_option maxRecDepth 20000 in
theorem b7_become_0 {g : Gt} (hs : GS g) {d rc rs : Nat} {a : Nat} {v1 v2 : Int32} {z : Zs} {I : Is} {Q : Option Value → Zs → Is → Prop} (hp : ShO z a) (h : WPv g mJ7_fill_53178 d 0 0 [.ref (a + 1), .int 0] z (up2 (up2 I a 1 v1) a 2 v2) (fun y1 J1 => WPc g m7_become (d + 1) rc rs 18 [] [] y1 J1 Q)) : WPc g m7_become (d + 1) rc rs 0 [(0, .ref a), (1, .int v1), (2, .int v2)] [] z I Q := wm7_become hs 7 (ckB_i (by rw [hp.t]; rfl) (ckB_i (by rw [hp.t]; rfl) (show WPc g m7_become (d + 1) rc rs 11 [(0, .ref a), (1, .int v1), (2, .int v2)] [.ref a] z (up2 (up2 I a 1 v1) a 2 v2) Q from wm7_become hs 3 (ckB_i (by rw [hp.t]; rfl) (oe_s hp.p0 (WPv_m h (fun y1 J1 h => wcut [] rfl h)))))))
set_option maxRecDepth 20000 in
theorem b7_become_18 {g : Gt} (hs : GS g) {d rc rs : Nat} {z : Zs} {I : Is} {Q : Option Value → Zs → Is → Prop}  (h : Q none z I) : WPc g m7_become (d + 1) rc rs 18 [] [] z I Q := wm7_become hs 1 (ckB_i rfl h)
set_option maxRecDepth 20000 in
theorem b7_get_0 {g : Gt} (hs : GS g) {d rc rs : Nat} {a : Nat} {v1 : Int32} {z : Zs} {I : Is} {Q : Option Value → Zs → Is → Prop} (hp : ShO z a) (h : WPi g m7_holds d 0 0 [.ref a, .int v1, .int 1] z I (fun x2 y1 J1 => WPc g m7_get (d + 1) rc rs 6 [(0, .ref a), (1, .int v1)] [.int x2] y1 J1 Q)) : WPc g m7_get (d + 1) rc rs 0 [(0, .ref a), (1, .int v1)] [] z I Q := wm7_get hs 4 (ckB_i (by rw [hp.t]; rfl) (WPi_m h (fun x2 y1 J1 h => wcut [0, 1] rfl h)))
set_option maxRecDepth 20000 in
theorem b7_get_6 {g : Gt} (hs : GS g) {d rc rs : Nat} {a : Nat} {v1 ss0 : Int32} {z : Zs} {I : Is} {Q : Option Value → Zs → Is → Prop} (hp : ShO z a) (h : (ss0 = 0 → Q (some (.int 0)) z I) ∧ (¬ ss0 = 0 → inB v1 40 = true ∧ (Q (some (.int (I (a + 1) v1.toNatClampNeg))) z I))) : WPc g m7_get (d + 1) rc rs 6 [(0, .ref a), (1, .int v1)] [.int ss0] z I Q := wm7_get hs 1 (iteB_i (fun c => have h := h.1 c; show WPc g m7_get (d + 1) rc rs 18 [(0, .ref a), (1, .int v1)] [] z I Q from wm7_get hs 2 (ckB_i rfl h)) (fun c => have h := h.2 c; show WPc g m7_get (d + 1) rc rs 9 [(0, .ref a), (1, .int v1)] [] z I Q from wm7_get hs 6 (ckB_i (by rw [hp.t]; rfl) (oe_s hp.p0 (ckB_i (iarB_t hp.t1) (ckB_i (by rw [hp.l1]; exact h.1) (have h := h.2; ckB_i rfl h)))))))
set_option maxRecDepth 20000 in
theorem b7_put_0 {g : Gt} (hs : GS g) {d rc rs : Nat} {a : Nat} {v1 v2 : Int32} {z : Zs} {I : Is} {Q : Option Value → Zs → Is → Prop} (hp : ShO z a) (h : WPi g m7_holds d 0 0 [.ref a, .int v1, .int 1] z I (fun x2 y1 J1 => WPc g m7_put (d + 1) rc rs 6 [(0, .ref a), (1, .int v1), (2, .int v2)] [.int x2] y1 J1 Q)) : WPc g m7_put (d + 1) rc rs 0 [(0, .ref a), (1, .int v1), (2, .int v2)] [] z I Q := wm7_put hs 4 (ckB_i (by rw [hp.t]; rfl) (WPi_m h (fun x2 y1 J1 h => wcut [0, 1, 2] rfl h)))
set_option maxRecDepth 20000 in
theorem b7_put_6 {g : Gt} (hs : GS g) {d rc rs : Nat} {a : Nat} {v1 v2 ss0 : Int32} {z : Zs} {I : Is} {Q : Option Value → Zs → Is → Prop} (hp : ShO z a) (h : (ss0 = 0 → Q none z I) ∧ (¬ ss0 = 0 → ((I a 1) = 0 → inB v1 40 = true ∧ (Q none z (up2 I (a + 1) v1.toNatClampNeg v2.toInt8.toInt32))) ∧ (¬ (I a 1) = 0 → ((I a 1) = 1 → inB v1 40 = true ∧ (Q none z (up2 I (a + 1) v1.toNatClampNeg v2.toInt16.toInt32))) ∧ (¬ (I a 1) = 1 → inB v1 40 = true ∧ (Q none z (up2 I (a + 1) v1.toNatClampNeg v2)))))) : WPc g m7_put (d + 1) rc rs 6 [(0, .ref a), (1, .int v1), (2, .int v2)] [.int ss0] z I Q := wm7_put hs 1 (iteB_i (fun c => have h := h.1 c; show WPc g m7_put (d + 1) rc rs 41 [(0, .ref a), (1, .int v1), (2, .int v2)] [] z I Q from wm7_put hs 1 (ckB_i rfl h)) (fun c => have h := h.2 c; show WPc g m7_put (d + 1) rc rs 9 [(0, .ref a), (1, .int v1), (2, .int v2)] [] z I Q from wm7_put hs 6 (ckB_i (by rw [hp.t]; rfl) (oe_s hp.p0 (ckB_i (by rw [hp.t]; rfl) (iteB_i (fun c => have h := h.1 c; show WPc g m7_put (d + 1) rc rs 21 [(0, .ref a), (1, .int v1), (2, .int v2)] [.int v1, .ref (a + 1)] z I Q from wm7_put hs 5 (ckB_i (by rw [hp.t1]; rfl) (ckB_i (by rw [hp.l1]; exact h.1) (have h := h.2; ckB_i rfl h)))) (fun c => have h := h.2 c; show WPc g m7_put (d + 1) rc rs 26 [(0, .ref a), (1, .int v1), (2, .int v2)] [.int v1, .ref (a + 1)] z I Q from wm7_put hs 4 (ckB_i (by rw [hp.t]; rfl) (iteB_i (fun c => have h := h.1 c; show WPc g m7_put (d + 1) rc rs 34 [(0, .ref a), (1, .int v1), (2, .int v2)] [.int v1, .ref (a + 1)] z I Q from wm7_put hs 5 (ckB_i (by rw [hp.t1]; rfl) (ckB_i (by rw [hp.l1]; exact h.1) (have h := h.2; ckB_i rfl h)))) (fun c => have h := h.2 c; show WPc g m7_put (d + 1) rc rs 39 [(0, .ref a), (1, .int v1), (2, .int v2)] [.int v1, .ref (a + 1)] z I Q from wm7_put hs 3 (ckB_i (by rw [hp.t1]; rfl) (ckB_i (by rw [hp.l1]; exact h.1) (have h := h.2; ckB_i rfl h)))))))))))))
end
