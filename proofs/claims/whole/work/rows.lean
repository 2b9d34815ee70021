section
-- ===== PART A: goes FIRST, ahead of the names: the tables' words, and 'selects' of the private methods out of them =====
/-- a private method of a class that the tables say can be made, by its rows of tables_1 -/
def lw_okq (q : MethodName × Nat) : Prop := (q.1.cls ≠ "java/lang/invoke/MethodHandle" ∧ q.1.cls ≠ "java/lang/invoke/VarHandle") ∧ Cond.instantiable q.1.cls q.2 ∈ tables_1 ∧ Cond.privateMethod q.1 ∈ tables_1 ∧ Cond.instanceMethod q.1 ∈ tables_1
theorem lw_p0 : lw_okq (⟨"UnlikeCoins$Reader", "advance", "()V"⟩, 10) := ⟨⟨by decide +kernel, by decide +kernel⟩, List.mem_of_getElem? (i := 55) (by decide +kernel), List.mem_of_getElem? (i := 195) (by decide +kernel), List.mem_of_getElem? (i := 196) (by decide +kernel)⟩
theorem lw_p1 : lw_okq (⟨"UnlikeCoins$Reader", "readWord", "()V"⟩, 10) := ⟨⟨by decide +kernel, by decide +kernel⟩, List.mem_of_getElem? (i := 55) (by decide +kernel), List.mem_of_getElem? (i := 208) (by decide +kernel), List.mem_of_getElem? (i := 209) (by decide +kernel)⟩
theorem lw_p2 : lw_okq (⟨"UnlikeCoins$Reader", "isWord", "(I)Z"⟩, 10) := ⟨⟨by decide +kernel, by decide +kernel⟩, List.mem_of_getElem? (i := 55) (by decide +kernel), List.mem_of_getElem? (i := 212) (by decide +kernel), List.mem_of_getElem? (i := 213) (by decide +kernel)⟩
theorem lw_p3 : lw_okq (⟨"UnlikeCoins$Reader", "readNumber", "()V"⟩, 10) := ⟨⟨by decide +kernel, by decide +kernel⟩, List.mem_of_getElem? (i := 55) (by decide +kernel), List.mem_of_getElem? (i := 221) (by decide +kernel), List.mem_of_getElem? (i := 222) (by decide +kernel)⟩
theorem lw_p4 : lw_okq (⟨"UnlikeCoins$Reader", "readToken", "(I)Z"⟩, 10) := ⟨⟨by decide +kernel, by decide +kernel⟩, List.mem_of_getElem? (i := 55) (by decide +kernel), List.mem_of_getElem? (i := 285) (by decide +kernel), List.mem_of_getElem? (i := 286) (by decide +kernel)⟩
theorem lw_p5 : lw_okq (⟨"UnlikeCoins$Reader", "readEither", "()Z"⟩, 10) := ⟨⟨by decide +kernel, by decide +kernel⟩, List.mem_of_getElem? (i := 55) (by decide +kernel), List.mem_of_getElem? (i := 289) (by decide +kernel), List.mem_of_getElem? (i := 290) (by decide +kernel)⟩
theorem lw_p6 : lw_okq (⟨"UnlikeCoins$Reader", "readBoth", "()Z"⟩, 10) := ⟨⟨by decide +kernel, by decide +kernel⟩, List.mem_of_getElem? (i := 55) (by decide +kernel), List.mem_of_getElem? (i := 293) (by decide +kernel), List.mem_of_getElem? (i := 294) (by decide +kernel)⟩
theorem lw_p7 : lw_okq (⟨"UnlikeCoins$Reader", "readDenied", "()Z"⟩, 10) := ⟨⟨by decide +kernel, by decide +kernel⟩, List.mem_of_getElem? (i := 55) (by decide +kernel), List.mem_of_getElem? (i := 297) (by decide +kernel), List.mem_of_getElem? (i := 298) (by decide +kernel)⟩
theorem lw_p8 : lw_okq (⟨"UnlikeCoins$Reader", "readCompared", "()Z"⟩, 10) := ⟨⟨by decide +kernel, by decide +kernel⟩, List.mem_of_getElem? (i := 55) (by decide +kernel), List.mem_of_getElem? (i := 301) (by decide +kernel), List.mem_of_getElem? (i := 302) (by decide +kernel)⟩
theorem lw_p9 : lw_okq (⟨"UnlikeCoins$Reader", "readSum", "()Z"⟩, 10) := ⟨⟨by decide +kernel, by decide +kernel⟩, List.mem_of_getElem? (i := 55) (by decide +kernel), List.mem_of_getElem? (i := 305) (by decide +kernel), List.mem_of_getElem? (i := 306) (by decide +kernel)⟩
theorem lw_p10 : lw_okq (⟨"UnlikeCoins$Reader", "readTerm", "()Z"⟩, 10) := ⟨⟨by decide +kernel, by decide +kernel⟩, List.mem_of_getElem? (i := 55) (by decide +kernel), List.mem_of_getElem? (i := 309) (by decide +kernel), List.mem_of_getElem? (i := 310) (by decide +kernel)⟩
theorem lw_p11 : lw_okq (⟨"UnlikeCoins$Reader", "readOne", "()Z"⟩, 10) := ⟨⟨by decide +kernel, by decide +kernel⟩, List.mem_of_getElem? (i := 55) (by decide +kernel), List.mem_of_getElem? (i := 313) (by decide +kernel), List.mem_of_getElem? (i := 314) (by decide +kernel)⟩
theorem lw_p12 : lw_okq (⟨"UnlikeCoins$Reader", "emit", "(I)V"⟩, 10) := ⟨⟨by decide +kernel, by decide +kernel⟩, List.mem_of_getElem? (i := 55) (by decide +kernel), List.mem_of_getElem? (i := 317) (by decide +kernel), List.mem_of_getElem? (i := 318) (by decide +kernel)⟩
theorem lw_p13 : lw_okq (⟨"UnlikeCoins", "nameAll", "(IIIII)V"⟩, 15) := ⟨⟨by decide +kernel, by decide +kernel⟩, List.mem_of_getElem? (i := 23) (by decide +kernel), List.mem_of_getElem? (i := 445) (by decide +kernel), List.mem_of_getElem? (i := 446) (by decide +kernel)⟩
theorem lw_p14 : lw_okq (⟨"UnlikeCoins", "says", "(II)I"⟩, 15) := ⟨⟨by decide +kernel, by decide +kernel⟩, List.mem_of_getElem? (i := 23) (by decide +kernel), List.mem_of_getElem? (i := 449) (by decide +kernel), List.mem_of_getElem? (i := 450) (by decide +kernel)⟩
theorem lw_p15 : lw_okq (⟨"UnlikeCoins$Text", "step", "(I[I)V"⟩, 4) := ⟨⟨by decide +kernel, by decide +kernel⟩, List.mem_of_getElem? (i := 325) (by decide +kernel), List.mem_of_getElem? (i := 459) (by decide +kernel), List.mem_of_getElem? (i := 460) (by decide +kernel)⟩
def lw_privs_1 : List (MethodName × Nat) := [(⟨"UnlikeCoins$Reader", "advance", "()V"⟩, 10), (⟨"UnlikeCoins$Reader", "readWord", "()V"⟩, 10), (⟨"UnlikeCoins$Reader", "isWord", "(I)Z"⟩, 10), (⟨"UnlikeCoins$Reader", "readNumber", "()V"⟩, 10), (⟨"UnlikeCoins$Reader", "readToken", "(I)Z"⟩, 10), (⟨"UnlikeCoins$Reader", "readEither", "()Z"⟩, 10), (⟨"UnlikeCoins$Reader", "readBoth", "()Z"⟩, 10), (⟨"UnlikeCoins$Reader", "readDenied", "()Z"⟩, 10), (⟨"UnlikeCoins$Reader", "readCompared", "()Z"⟩, 10), (⟨"UnlikeCoins$Reader", "readSum", "()Z"⟩, 10), (⟨"UnlikeCoins$Reader", "readTerm", "()Z"⟩, 10), (⟨"UnlikeCoins$Reader", "readOne", "()Z"⟩, 10), (⟨"UnlikeCoins$Reader", "emit", "(I)V"⟩, 10), (⟨"UnlikeCoins", "nameAll", "(IIIII)V"⟩, 15), (⟨"UnlikeCoins", "says", "(II)I"⟩, 15), (⟨"UnlikeCoins$Text", "step", "(I[I)V"⟩, 4)]
theorem lw_r1 : ∀ q ∈ lw_privs_1, lw_okq q := List.forall_mem_cons.mpr ⟨lw_p0, List.forall_mem_cons.mpr ⟨lw_p1, List.forall_mem_cons.mpr ⟨lw_p2, List.forall_mem_cons.mpr ⟨lw_p3, List.forall_mem_cons.mpr ⟨lw_p4, List.forall_mem_cons.mpr ⟨lw_p5, List.forall_mem_cons.mpr ⟨lw_p6, List.forall_mem_cons.mpr ⟨lw_p7, List.forall_mem_cons.mpr ⟨lw_p8, List.forall_mem_cons.mpr ⟨lw_p9, List.forall_mem_cons.mpr ⟨lw_p10, List.forall_mem_cons.mpr ⟨lw_p11, List.forall_mem_cons.mpr ⟨lw_p12, List.forall_mem_cons.mpr ⟨lw_p13, List.forall_mem_cons.mpr ⟨lw_p14, List.forall_mem_cons.mpr ⟨lw_p15, fun _ h => absurd h List.not_mem_nil⟩⟩⟩⟩⟩⟩⟩⟩⟩⟩⟩⟩⟩⟩⟩⟩
theorem lw_p16 : lw_okq (⟨"UnlikeCoins$Text", "push", "(I)V"⟩, 4) := ⟨⟨by decide +kernel, by decide +kernel⟩, List.mem_of_getElem? (i := 325) (by decide +kernel), List.mem_of_getElem? (i := 463) (by decide +kernel), List.mem_of_getElem? (i := 464) (by decide +kernel)⟩
theorem lw_p17 : lw_okq (⟨"UnlikeCoins$Text", "pop", "()I"⟩, 4) := ⟨⟨by decide +kernel, by decide +kernel⟩, List.mem_of_getElem? (i := 325) (by decide +kernel), List.mem_of_getElem? (i := 467) (by decide +kernel), List.mem_of_getElem? (i := 468) (by decide +kernel)⟩
theorem lw_p18 : lw_okq (⟨"UnlikeCoins", "sortAt", "(I)LUnlikeCoins$Sort;"⟩, 15) := ⟨⟨by decide +kernel, by decide +kernel⟩, List.mem_of_getElem? (i := 23) (by decide +kernel), List.mem_of_getElem? (i := 551) (by decide +kernel), List.mem_of_getElem? (i := 552) (by decide +kernel)⟩
theorem lw_p19 : lw_okq (⟨"UnlikeCoins", "purseAt", "(I)LUnlikeCoins$Purse;"⟩, 15) := ⟨⟨by decide +kernel, by decide +kernel⟩, List.mem_of_getElem? (i := 23) (by decide +kernel), List.mem_of_getElem? (i := 590) (by decide +kernel), List.mem_of_getElem? (i := 591) (by decide +kernel)⟩
theorem lw_p20 : lw_okq (⟨"UnlikeCoins", "timesAt", "(LUnlikeCoins$Purse;I)I"⟩, 15) := ⟨⟨by decide +kernel, by decide +kernel⟩, List.mem_of_getElem? (i := 23) (by decide +kernel), List.mem_of_getElem? (i := 646) (by decide +kernel), List.mem_of_getElem? (i := 647) (by decide +kernel)⟩
theorem lw_p21 : lw_okq (⟨"UnlikeCoins$Purse", "mostPlentiful", "()I"⟩, 3) := ⟨⟨by decide +kernel, by decide +kernel⟩, List.mem_of_getElem? (i := 34) (by decide +kernel), List.mem_of_getElem? (i := 678) (by decide +kernel), List.mem_of_getElem? (i := 679) (by decide +kernel)⟩
theorem lw_p22 : lw_okq (⟨"UnlikeCoins", "worthAt", "(II)I"⟩, 15) := ⟨⟨by decide +kernel, by decide +kernel⟩, List.mem_of_getElem? (i := 23) (by decide +kernel), List.mem_of_getElem? (i := 682) (by decide +kernel), List.mem_of_getElem? (i := 683) (by decide +kernel)⟩
theorem lw_p23 : lw_okq (⟨"UnlikeCoins", "timesOfAll", "(II)I"⟩, 15) := ⟨⟨by decide +kernel, by decide +kernel⟩, List.mem_of_getElem? (i := 23) (by decide +kernel), List.mem_of_getElem? (i := 698) (by decide +kernel), List.mem_of_getElem? (i := 699) (by decide +kernel)⟩
theorem lw_p24 : lw_okq (⟨"UnlikeCoins", "feeFor", "(II)I"⟩, 15) := ⟨⟨by decide +kernel, by decide +kernel⟩, List.mem_of_getElem? (i := 23) (by decide +kernel), List.mem_of_getElem? (i := 726) (by decide +kernel), List.mem_of_getElem? (i := 727) (by decide +kernel)⟩
theorem lw_p25 : lw_okq (⟨"UnlikeCoins", "timesWith", "(LUnlikeCoins$Purse;III)I"⟩, 15) := ⟨⟨by decide +kernel, by decide +kernel⟩, List.mem_of_getElem? (i := 23) (by decide +kernel), List.mem_of_getElem? (i := 734) (by decide +kernel), List.mem_of_getElem? (i := 735) (by decide +kernel)⟩
theorem lw_p26 : lw_okq (⟨"UnlikeCoins", "tryWage", "(LUnlikeCoins$Purse;II)I"⟩, 15) := ⟨⟨by decide +kernel, by decide +kernel⟩, List.mem_of_getElem? (i := 23) (by decide +kernel), List.mem_of_getElem? (i := 754) (by decide +kernel), List.mem_of_getElem? (i := 755) (by decide +kernel)⟩
theorem lw_p27 : lw_okq (⟨"UnlikeCoins", "passFor", "(LUnlikeCoins$Purse;)V"⟩, 15) := ⟨⟨by decide +kernel, by decide +kernel⟩, List.mem_of_getElem? (i := 23) (by decide +kernel), List.mem_of_getElem? (i := 768) (by decide +kernel), List.mem_of_getElem? (i := 769) (by decide +kernel)⟩
theorem lw_p28 : lw_okq (⟨"UnlikeCoins", "sheetAt", "(I)LUnlikeCoins$Sheet;"⟩, 15) := ⟨⟨by decide +kernel, by decide +kernel⟩, List.mem_of_getElem? (i := 23) (by decide +kernel), List.mem_of_getElem? (i := 795) (by decide +kernel), List.mem_of_getElem? (i := 796) (by decide +kernel)⟩
theorem lw_p29 : lw_okq (⟨"UnlikeCoins", "firstOther", "(LUnlikeCoins$Sheet;LUnlikeCoins$Purse;)I"⟩, 15) := ⟨⟨by decide +kernel, by decide +kernel⟩, List.mem_of_getElem? (i := 23) (by decide +kernel), List.mem_of_getElem? (i := 808) (by decide +kernel), List.mem_of_getElem? (i := 809) (by decide +kernel)⟩
theorem lw_p30 : lw_okq (⟨"UnlikeCoins", "tryPurse", "(I)I"⟩, 15) := ⟨⟨by decide +kernel, by decide +kernel⟩, List.mem_of_getElem? (i := 23) (by decide +kernel), List.mem_of_getElem? (i := 828) (by decide +kernel), List.mem_of_getElem? (i := 829) (by decide +kernel)⟩
theorem lw_p31 : lw_okq (⟨"UnlikeCoins", "drawnBy", "(II)I"⟩, 15) := ⟨⟨by decide +kernel, by decide +kernel⟩, List.mem_of_getElem? (i := 23) (by decide +kernel), List.mem_of_getElem? (i := 854) (by decide +kernel), List.mem_of_getElem? (i := 855) (by decide +kernel)⟩
def lw_privs_2 : List (MethodName × Nat) := [(⟨"UnlikeCoins$Text", "push", "(I)V"⟩, 4), (⟨"UnlikeCoins$Text", "pop", "()I"⟩, 4), (⟨"UnlikeCoins", "sortAt", "(I)LUnlikeCoins$Sort;"⟩, 15), (⟨"UnlikeCoins", "purseAt", "(I)LUnlikeCoins$Purse;"⟩, 15), (⟨"UnlikeCoins", "timesAt", "(LUnlikeCoins$Purse;I)I"⟩, 15), (⟨"UnlikeCoins$Purse", "mostPlentiful", "()I"⟩, 3), (⟨"UnlikeCoins", "worthAt", "(II)I"⟩, 15), (⟨"UnlikeCoins", "timesOfAll", "(II)I"⟩, 15), (⟨"UnlikeCoins", "feeFor", "(II)I"⟩, 15), (⟨"UnlikeCoins", "timesWith", "(LUnlikeCoins$Purse;III)I"⟩, 15), (⟨"UnlikeCoins", "tryWage", "(LUnlikeCoins$Purse;II)I"⟩, 15), (⟨"UnlikeCoins", "passFor", "(LUnlikeCoins$Purse;)V"⟩, 15), (⟨"UnlikeCoins", "sheetAt", "(I)LUnlikeCoins$Sheet;"⟩, 15), (⟨"UnlikeCoins", "firstOther", "(LUnlikeCoins$Sheet;LUnlikeCoins$Purse;)I"⟩, 15), (⟨"UnlikeCoins", "tryPurse", "(I)I"⟩, 15), (⟨"UnlikeCoins", "drawnBy", "(II)I"⟩, 15)]
theorem lw_r2 : ∀ q ∈ lw_privs_2, lw_okq q := List.forall_mem_cons.mpr ⟨lw_p16, List.forall_mem_cons.mpr ⟨lw_p17, List.forall_mem_cons.mpr ⟨lw_p18, List.forall_mem_cons.mpr ⟨lw_p19, List.forall_mem_cons.mpr ⟨lw_p20, List.forall_mem_cons.mpr ⟨lw_p21, List.forall_mem_cons.mpr ⟨lw_p22, List.forall_mem_cons.mpr ⟨lw_p23, List.forall_mem_cons.mpr ⟨lw_p24, List.forall_mem_cons.mpr ⟨lw_p25, List.forall_mem_cons.mpr ⟨lw_p26, List.forall_mem_cons.mpr ⟨lw_p27, List.forall_mem_cons.mpr ⟨lw_p28, List.forall_mem_cons.mpr ⟨lw_p29, List.forall_mem_cons.mpr ⟨lw_p30, List.forall_mem_cons.mpr ⟨lw_p31, fun _ h => absurd h List.not_mem_nil⟩⟩⟩⟩⟩⟩⟩⟩⟩⟩⟩⟩⟩⟩⟩⟩
theorem lw_p32 : lw_okq (⟨"UnlikeCoinsModel", "next", "()V"⟩, 40) := ⟨⟨by decide +kernel, by decide +kernel⟩, List.mem_of_getElem? (i := 906) (by decide +kernel), List.mem_of_getElem? (i := 916) (by decide +kernel), List.mem_of_getElem? (i := 917) (by decide +kernel)⟩
theorem lw_p33 : lw_okq (⟨"UnlikeCoinsModel", "wordFrom", "(II)I"⟩, 40) := ⟨⟨by decide +kernel, by decide +kernel⟩, List.mem_of_getElem? (i := 906) (by decide +kernel), List.mem_of_getElem? (i := 923) (by decide +kernel), List.mem_of_getElem? (i := 924) (by decide +kernel)⟩
theorem lw_p34 : lw_okq (⟨"UnlikeCoinsModel", "eRead", "()Z"⟩, 40) := ⟨⟨by decide +kernel, by decide +kernel⟩, List.mem_of_getElem? (i := 906) (by decide +kernel), List.mem_of_getElem? (i := 927) (by decide +kernel), List.mem_of_getElem? (i := 928) (by decide +kernel)⟩
theorem lw_p35 : lw_okq (⟨"UnlikeCoinsModel", "puts", "(I)V"⟩, 40) := ⟨⟨by decide +kernel, by decide +kernel⟩, List.mem_of_getElem? (i := 906) (by decide +kernel), List.mem_of_getElem? (i := 932) (by decide +kernel), List.mem_of_getElem? (i := 933) (by decide +kernel)⟩
theorem lw_p36 : lw_okq (⟨"UnlikeCoinsModel", "unwinds", "(I)V"⟩, 40) := ⟨⟨by decide +kernel, by decide +kernel⟩, List.mem_of_getElem? (i := 906) (by decide +kernel), List.mem_of_getElem? (i := 936) (by decide +kernel), List.mem_of_getElem? (i := 937) (by decide +kernel)⟩
theorem lw_p37 : lw_okq (⟨"UnlikeCoinsModel", "opensOne", "(I)Z"⟩, 40) := ⟨⟨by decide +kernel, by decide +kernel⟩, List.mem_of_getElem? (i := 906) (by decide +kernel), List.mem_of_getElem? (i := 943) (by decide +kernel), List.mem_of_getElem? (i := 944) (by decide +kernel)⟩
theorem lw_p38 : lw_okq (⟨"UnlikeCoinsModel", "holds", "(I)V"⟩, 40) := ⟨⟨by decide +kernel, by decide +kernel⟩, List.mem_of_getElem? (i := 906) (by decide +kernel), List.mem_of_getElem? (i := 947) (by decide +kernel), List.mem_of_getElem? (i := 948) (by decide +kernel)⟩
theorem lw_p39 : lw_okq (⟨"UnlikeCoinsModel", "signOf", "()I"⟩, 40) := ⟨⟨by decide +kernel, by decide +kernel⟩, List.mem_of_getElem? (i := 906) (by decide +kernel), List.mem_of_getElem? (i := 951) (by decide +kernel), List.mem_of_getElem? (i := 952) (by decide +kernel)⟩
theorem lw_p40 : lw_okq (⟨"UnlikeCoinsModel", "between", "(I)Z"⟩, 40) := ⟨⟨by decide +kernel, by decide +kernel⟩, List.mem_of_getElem? (i := 906) (by decide +kernel), List.mem_of_getElem? (i := 955) (by decide +kernel), List.mem_of_getElem? (i := 956) (by decide +kernel)⟩
theorem lw_p41 : lw_okq (⟨"UnlikeCoinsModel", "asksOf", "(IIIIII)I"⟩, 40) := ⟨⟨by decide +kernel, by decide +kernel⟩, List.mem_of_getElem? (i := 906) (by decide +kernel), List.mem_of_getElem? (i := 1100) (by decide +kernel), List.mem_of_getElem? (i := 1101) (by decide +kernel)⟩
theorem lw_p42 : lw_okq (⟨"UnlikeCoinsModel", "says", "(I)I"⟩, 40) := ⟨⟨by decide +kernel, by decide +kernel⟩, List.mem_of_getElem? (i := 906) (by decide +kernel), List.mem_of_getElem? (i := 1104) (by decide +kernel), List.mem_of_getElem? (i := 1105) (by decide +kernel)⟩
theorem lw_p43 : lw_okq (⟨"UnlikeCoinsModel", "isSort", "(I)Z"⟩, 40) := ⟨⟨by decide +kernel, by decide +kernel⟩, List.mem_of_getElem? (i := 906) (by decide +kernel), List.mem_of_getElem? (i := 1122) (by decide +kernel), List.mem_of_getElem? (i := 1123) (by decide +kernel)⟩
theorem lw_p44 : lw_okq (⟨"UnlikeCoinsModel", "isPurse", "(I)Z"⟩, 40) := ⟨⟨by decide +kernel, by decide +kernel⟩, List.mem_of_getElem? (i := 906) (by decide +kernel), List.mem_of_getElem? (i := 1134) (by decide +kernel), List.mem_of_getElem? (i := 1135) (by decide +kernel)⟩
theorem lw_p45 : lw_okq (⟨"UnlikeCoinsModel", "coinWorth", "(II)I"⟩, 40) := ⟨⟨by decide +kernel, by decide +kernel⟩, List.mem_of_getElem? (i := 906) (by decide +kernel), List.mem_of_getElem? (i := 1146) (by decide +kernel), List.mem_of_getElem? (i := 1147) (by decide +kernel)⟩
theorem lw_p46 : lw_okq (⟨"UnlikeCoinsModel", "oftenOf", "(II)I"⟩, 40) := ⟨⟨by decide +kernel, by decide +kernel⟩, List.mem_of_getElem? (i := 906) (by decide +kernel), List.mem_of_getElem? (i := 1157) (by decide +kernel), List.mem_of_getElem? (i := 1158) (by decide +kernel)⟩
theorem lw_p47 : lw_okq (⟨"UnlikeCoinsModel", "thinksOf", "(I)V"⟩, 40) := ⟨⟨by decide +kernel, by decide +kernel⟩, List.mem_of_getElem? (i := 906) (by decide +kernel), List.mem_of_getElem? (i := 1161) (by decide +kernel), List.mem_of_getElem? (i := 1162) (by decide +kernel)⟩
def lw_privs_3 : List (MethodName × Nat) := [(⟨"UnlikeCoinsModel", "next", "()V"⟩, 40), (⟨"UnlikeCoinsModel", "wordFrom", "(II)I"⟩, 40), (⟨"UnlikeCoinsModel", "eRead", "()Z"⟩, 40), (⟨"UnlikeCoinsModel", "puts", "(I)V"⟩, 40), (⟨"UnlikeCoinsModel", "unwinds", "(I)V"⟩, 40), (⟨"UnlikeCoinsModel", "opensOne", "(I)Z"⟩, 40), (⟨"UnlikeCoinsModel", "holds", "(I)V"⟩, 40), (⟨"UnlikeCoinsModel", "signOf", "()I"⟩, 40), (⟨"UnlikeCoinsModel", "between", "(I)Z"⟩, 40), (⟨"UnlikeCoinsModel", "asksOf", "(IIIIII)I"⟩, 40), (⟨"UnlikeCoinsModel", "says", "(I)I"⟩, 40), (⟨"UnlikeCoinsModel", "isSort", "(I)Z"⟩, 40), (⟨"UnlikeCoinsModel", "isPurse", "(I)Z"⟩, 40), (⟨"UnlikeCoinsModel", "coinWorth", "(II)I"⟩, 40), (⟨"UnlikeCoinsModel", "oftenOf", "(II)I"⟩, 40), (⟨"UnlikeCoinsModel", "thinksOf", "(I)V"⟩, 40)]
theorem lw_r3 : ∀ q ∈ lw_privs_3, lw_okq q := List.forall_mem_cons.mpr ⟨lw_p32, List.forall_mem_cons.mpr ⟨lw_p33, List.forall_mem_cons.mpr ⟨lw_p34, List.forall_mem_cons.mpr ⟨lw_p35, List.forall_mem_cons.mpr ⟨lw_p36, List.forall_mem_cons.mpr ⟨lw_p37, List.forall_mem_cons.mpr ⟨lw_p38, List.forall_mem_cons.mpr ⟨lw_p39, List.forall_mem_cons.mpr ⟨lw_p40, List.forall_mem_cons.mpr ⟨lw_p41, List.forall_mem_cons.mpr ⟨lw_p42, List.forall_mem_cons.mpr ⟨lw_p43, List.forall_mem_cons.mpr ⟨lw_p44, List.forall_mem_cons.mpr ⟨lw_p45, List.forall_mem_cons.mpr ⟨lw_p46, List.forall_mem_cons.mpr ⟨lw_p47, fun _ h => absurd h List.not_mem_nil⟩⟩⟩⟩⟩⟩⟩⟩⟩⟩⟩⟩⟩⟩⟩⟩
theorem lw_p48 : lw_okq (⟨"UnlikeCoinsModel", "oftenNow", "(I)I"⟩, 40) := ⟨⟨by decide +kernel, by decide +kernel⟩, List.mem_of_getElem? (i := 906) (by decide +kernel), List.mem_of_getElem? (i := 1165) (by decide +kernel), List.mem_of_getElem? (i := 1166) (by decide +kernel)⟩
theorem lw_p49 : lw_okq (⟨"UnlikeCoinsModel", "lays", "(I)Z"⟩, 40) := ⟨⟨by decide +kernel, by decide +kernel⟩, List.mem_of_getElem? (i := 906) (by decide +kernel), List.mem_of_getElem? (i := 1169) (by decide +kernel), List.mem_of_getElem? (i := 1170) (by decide +kernel)⟩
theorem lw_p50 : lw_okq (⟨"UnlikeCoinsModel", "nextLaid", "()I"⟩, 40) := ⟨⟨by decide +kernel, by decide +kernel⟩, List.mem_of_getElem? (i := 906) (by decide +kernel), List.mem_of_getElem? (i := 1173) (by decide +kernel), List.mem_of_getElem? (i := 1174) (by decide +kernel)⟩
theorem lw_p51 : lw_okq (⟨"UnlikeCoinsModel", "together", "(II)I"⟩, 40) := ⟨⟨by decide +kernel, by decide +kernel⟩, List.mem_of_getElem? (i := 906) (by decide +kernel), List.mem_of_getElem? (i := 1177) (by decide +kernel), List.mem_of_getElem? (i := 1178) (by decide +kernel)⟩
theorem lw_p52 : lw_okq (⟨"UnlikeCoinsModel", "leftNow", "(I)I"⟩, 40) := ⟨⟨by decide +kernel, by decide +kernel⟩, List.mem_of_getElem? (i := 906) (by decide +kernel), List.mem_of_getElem? (i := 1181) (by decide +kernel), List.mem_of_getElem? (i := 1182) (by decide +kernel)⟩
theorem lw_p53 : lw_okq (⟨"UnlikeCoinsModel", "worthOf", "(I)I"⟩, 40) := ⟨⟨by decide +kernel, by decide +kernel⟩, List.mem_of_getElem? (i := 906) (by decide +kernel), List.mem_of_getElem? (i := 1185) (by decide +kernel), List.mem_of_getElem? (i := 1186) (by decide +kernel)⟩
theorem lw_p54 : lw_okq (⟨"UnlikeCoinsModel", "comesTrue", "(I)I"⟩, 40) := ⟨⟨by decide +kernel, by decide +kernel⟩, List.mem_of_getElem? (i := 906) (by decide +kernel), List.mem_of_getElem? (i := 1193) (by decide +kernel), List.mem_of_getElem? (i := 1194) (by decide +kernel)⟩
theorem lw_p55 : lw_okq (⟨"UnlikeCoinsModel", "worthTwo", "(IIII)I"⟩, 40) := ⟨⟨by decide +kernel, by decide +kernel⟩, List.mem_of_getElem? (i := 906) (by decide +kernel), List.mem_of_getElem? (i := 1201) (by decide +kernel), List.mem_of_getElem? (i := 1202) (by decide +kernel)⟩
theorem lw_p56 : lw_okq (⟨"UnlikeCoinsModel", "oftenOfAll", "(I)I"⟩, 40) := ⟨⟨by decide +kernel, by decide +kernel⟩, List.mem_of_getElem? (i := 906) (by decide +kernel), List.mem_of_getElem? (i := 1209) (by decide +kernel), List.mem_of_getElem? (i := 1210) (by decide +kernel)⟩
theorem lw_p57 : lw_okq (⟨"UnlikeCoinsModel", "areTwo", "(II)Z"⟩, 40) := ⟨⟨by decide +kernel, by decide +kernel⟩, List.mem_of_getElem? (i := 906) (by decide +kernel), List.mem_of_getElem? (i := 1225) (by decide +kernel), List.mem_of_getElem? (i := 1226) (by decide +kernel)⟩
theorem lw_p58 : lw_okq (⟨"UnlikeCoinsModel", "canSwap", "(IIII)Z"⟩, 40) := ⟨⟨by decide +kernel, by decide +kernel⟩, List.mem_of_getElem? (i := 906) (by decide +kernel), List.mem_of_getElem? (i := 1229) (by decide +kernel), List.mem_of_getElem? (i := 1230) (by decide +kernel)⟩
theorem lw_p59 : lw_okq (⟨"UnlikeCoinsModel", "swaps", "(IIII)V"⟩, 40) := ⟨⟨by decide +kernel, by decide +kernel⟩, List.mem_of_getElem? (i := 906) (by decide +kernel), List.mem_of_getElem? (i := 1233) (by decide +kernel), List.mem_of_getElem? (i := 1234) (by decide +kernel)⟩
theorem lw_p60 : lw_okq (⟨"UnlikeCoinsModel", "feeOf", "(II)I"⟩, 40) := ⟨⟨by decide +kernel, by decide +kernel⟩, List.mem_of_getElem? (i := 906) (by decide +kernel), List.mem_of_getElem? (i := 1237) (by decide +kernel), List.mem_of_getElem? (i := 1238) (by decide +kernel)⟩
theorem lw_p61 : lw_okq (⟨"UnlikeCoinsModel", "oftenWithMore", "(II)I"⟩, 40) := ⟨⟨by decide +kernel, by decide +kernel⟩, List.mem_of_getElem? (i := 906) (by decide +kernel), List.mem_of_getElem? (i := 1249) (by decide +kernel), List.mem_of_getElem? (i := 1250) (by decide +kernel)⟩
theorem lw_p62 : lw_okq (⟨"UnlikeCoinsModel", "oftenWithRow", "(III)I"⟩, 40) := ⟨⟨by decide +kernel, by decide +kernel⟩, List.mem_of_getElem? (i := 906) (by decide +kernel), List.mem_of_getElem? (i := 1265) (by decide +kernel), List.mem_of_getElem? (i := 1266) (by decide +kernel)⟩
theorem lw_p63 : lw_okq (⟨"UnlikeCoinsModel", "rowDigits", "(I)I"⟩, 40) := ⟨⟨by decide +kernel, by decide +kernel⟩, List.mem_of_getElem? (i := 906) (by decide +kernel), List.mem_of_getElem? (i := 1269) (by decide +kernel), List.mem_of_getElem? (i := 1270) (by decide +kernel)⟩
def lw_privs_4 : List (MethodName × Nat) := [(⟨"UnlikeCoinsModel", "oftenNow", "(I)I"⟩, 40), (⟨"UnlikeCoinsModel", "lays", "(I)Z"⟩, 40), (⟨"UnlikeCoinsModel", "nextLaid", "()I"⟩, 40), (⟨"UnlikeCoinsModel", "together", "(II)I"⟩, 40), (⟨"UnlikeCoinsModel", "leftNow", "(I)I"⟩, 40), (⟨"UnlikeCoinsModel", "worthOf", "(I)I"⟩, 40), (⟨"UnlikeCoinsModel", "comesTrue", "(I)I"⟩, 40), (⟨"UnlikeCoinsModel", "worthTwo", "(IIII)I"⟩, 40), (⟨"UnlikeCoinsModel", "oftenOfAll", "(I)I"⟩, 40), (⟨"UnlikeCoinsModel", "areTwo", "(II)Z"⟩, 40), (⟨"UnlikeCoinsModel", "canSwap", "(IIII)Z"⟩, 40), (⟨"UnlikeCoinsModel", "swaps", "(IIII)V"⟩, 40), (⟨"UnlikeCoinsModel", "feeOf", "(II)I"⟩, 40), (⟨"UnlikeCoinsModel", "oftenWithMore", "(II)I"⟩, 40), (⟨"UnlikeCoinsModel", "oftenWithRow", "(III)I"⟩, 40), (⟨"UnlikeCoinsModel", "rowDigits", "(I)I"⟩, 40)]
theorem lw_r4 : ∀ q ∈ lw_privs_4, lw_okq q := List.forall_mem_cons.mpr ⟨lw_p48, List.forall_mem_cons.mpr ⟨lw_p49, List.forall_mem_cons.mpr ⟨lw_p50, List.forall_mem_cons.mpr ⟨lw_p51, List.forall_mem_cons.mpr ⟨lw_p52, List.forall_mem_cons.mpr ⟨lw_p53, List.forall_mem_cons.mpr ⟨lw_p54, List.forall_mem_cons.mpr ⟨lw_p55, List.forall_mem_cons.mpr ⟨lw_p56, List.forall_mem_cons.mpr ⟨lw_p57, List.forall_mem_cons.mpr ⟨lw_p58, List.forall_mem_cons.mpr ⟨lw_p59, List.forall_mem_cons.mpr ⟨lw_p60, List.forall_mem_cons.mpr ⟨lw_p61, List.forall_mem_cons.mpr ⟨lw_p62, List.forall_mem_cons.mpr ⟨lw_p63, fun _ h => absurd h List.not_mem_nil⟩⟩⟩⟩⟩⟩⟩⟩⟩⟩⟩⟩⟩⟩⟩⟩
theorem lw_p64 : lw_okq (⟨"UnlikeCoinsModel", "nextRow", "(I)Z"⟩, 40) := ⟨⟨by decide +kernel, by decide +kernel⟩, List.mem_of_getElem? (i := 906) (by decide +kernel), List.mem_of_getElem? (i := 1273) (by decide +kernel), List.mem_of_getElem? (i := 1274) (by decide +kernel)⟩
theorem lw_p65 : lw_okq (⟨"UnlikeCoinsModel", "remains", "(II)I"⟩, 40) := ⟨⟨by decide +kernel, by decide +kernel⟩, List.mem_of_getElem? (i := 906) (by decide +kernel), List.mem_of_getElem? (i := 1285) (by decide +kernel), List.mem_of_getElem? (i := 1286) (by decide +kernel)⟩
theorem lw_p66 : lw_okq (⟨"UnlikeCoinsModel", "sheetWrong", "(I)I"⟩, 40) := ⟨⟨by decide +kernel, by decide +kernel⟩, List.mem_of_getElem? (i := 906) (by decide +kernel), List.mem_of_getElem? (i := 1293) (by decide +kernel), List.mem_of_getElem? (i := 1294) (by decide +kernel)⟩
theorem lw_p67 : lw_okq (⟨"UnlikeCoinsModel", "unlike", "(II)I"⟩, 40) := ⟨⟨by decide +kernel, by decide +kernel⟩, List.mem_of_getElem? (i := 906) (by decide +kernel), List.mem_of_getElem? (i := 1297) (by decide +kernel), List.mem_of_getElem? (i := 1298) (by decide +kernel)⟩
theorem lw_p68 : lw_okq (⟨"UnlikeCoinsModel", "unlikeThought", "(I)I"⟩, 40) := ⟨⟨by decide +kernel, by decide +kernel⟩, List.mem_of_getElem? (i := 906) (by decide +kernel), List.mem_of_getElem? (i := 1301) (by decide +kernel), List.mem_of_getElem? (i := 1302) (by decide +kernel)⟩
theorem lw_p69 : lw_okq (⟨"UnlikeCoinsModel", "couldBy", "(II)I"⟩, 40) := ⟨⟨by decide +kernel, by decide +kernel⟩, List.mem_of_getElem? (i := 906) (by decide +kernel), List.mem_of_getElem? (i := 1329) (by decide +kernel), List.mem_of_getElem? (i := 1330) (by decide +kernel)⟩
theorem lw_p70 : lw_okq (⟨"UnlikeCoinsModel", "coinsOf", "(I)I"⟩, 40) := ⟨⟨by decide +kernel, by decide +kernel⟩, List.mem_of_getElem? (i := 906) (by decide +kernel), List.mem_of_getElem? (i := 1374) (by decide +kernel), List.mem_of_getElem? (i := 1375) (by decide +kernel)⟩
def lw_privs_5 : List (MethodName × Nat) := [(⟨"UnlikeCoinsModel", "nextRow", "(I)Z"⟩, 40), (⟨"UnlikeCoinsModel", "remains", "(II)I"⟩, 40), (⟨"UnlikeCoinsModel", "sheetWrong", "(I)I"⟩, 40), (⟨"UnlikeCoinsModel", "unlike", "(II)I"⟩, 40), (⟨"UnlikeCoinsModel", "unlikeThought", "(I)I"⟩, 40), (⟨"UnlikeCoinsModel", "couldBy", "(II)I"⟩, 40), (⟨"UnlikeCoinsModel", "coinsOf", "(I)I"⟩, 40)]
theorem lw_r5 : ∀ q ∈ lw_privs_5, lw_okq q := List.forall_mem_cons.mpr ⟨lw_p64, List.forall_mem_cons.mpr ⟨lw_p65, List.forall_mem_cons.mpr ⟨lw_p66, List.forall_mem_cons.mpr ⟨lw_p67, List.forall_mem_cons.mpr ⟨lw_p68, List.forall_mem_cons.mpr ⟨lw_p69, List.forall_mem_cons.mpr ⟨lw_p70, fun _ h => absurd h List.not_mem_nil⟩⟩⟩⟩⟩⟩⟩
def lw_privs : List (MethodName × Nat) := lw_privs_1 ++ (lw_privs_2 ++ (lw_privs_3 ++ (lw_privs_4 ++ (lw_privs_5))))
def lw_tbl : List Cond := k2_sels lw_privs ++ tables_1
theorem lw_privs_ok : ∀ q ∈ lw_privs, lw_okq q := by
  show ∀ q ∈ lw_privs_1 ++ (lw_privs_2 ++ (lw_privs_3 ++ (lw_privs_4 ++ (lw_privs_5)))), lw_okq q
  exact List.forall_mem_append.mpr ⟨lw_r1, List.forall_mem_append.mpr ⟨lw_r2, List.forall_mem_append.mpr ⟨lw_r3, List.forall_mem_append.mpr ⟨lw_r4, lw_r5⟩⟩⟩⟩
def RX0 : String := "UnlikeCoins$Common"
def TX0 : u_T := fun k => match k with
  | 0 => ("UnlikeCoins$Sort", "told", "I", true)
  | _ => ("UnlikeCoins$Sort", "more", "I", true)
def tyX0 : Nat → FieldType := fun k => match k with
  | 0 => .int
  | _ => .int
abbrev wsX00 : List Cond := u_ws RX0 TX0 2
theorem nmX0 : ∀ a, a < 2 → ∀ b, b < 2 → a ≠ b → (TX0 a).2.1 ≠ (TX0 b).2.1 := by decide +kernel
theorem tyX0_ok : ∀ k, k < 2 → parseFieldDescriptor (TX0 k).2.2.1 = some (tyX0 k) := by decide +kernel
abbrev cX0_init : ByteArray := prog_2_method_1_code
def yX0_init : MethodName := ⟨RX0, "<init>", "(II)V"⟩
abbrev cX0_kind : ByteArray := prog_2_method_2_code
def yX0_kind : MethodName := ⟨RX0, "kind", "()I"⟩
abbrev cX0_together : ByteArray := prog_2_method_3_code
def yX0_together : MethodName := ⟨RX0, "together", "(I)I"⟩
def RX1 : String := "UnlikeCoins$Gilt"
def TX1 : u_T := fun k => match k with
  | 0 => ("UnlikeCoins$Sort", "told", "I", true)
  | _ => ("UnlikeCoins$Sort", "more", "I", true)
def tyX1 : Nat → FieldType := fun k => match k with
  | 0 => .int
  | _ => .int
abbrev wsX10 : List Cond := u_ws RX1 TX1 2
theorem nmX1 : ∀ a, a < 2 → ∀ b, b < 2 → a ≠ b → (TX1 a).2.1 ≠ (TX1 b).2.1 := by decide +kernel
theorem tyX1_ok : ∀ k, k < 2 → parseFieldDescriptor (TX1 k).2.2.1 = some (tyX1 k) := by decide +kernel
abbrev cX1_init : ByteArray := prog_3_method_1_code
def yX1_init : MethodName := ⟨RX1, "<init>", "(II)V"⟩
abbrev cX1_kind : ByteArray := prog_3_method_2_code
def yX1_kind : MethodName := ⟨RX1, "kind", "()I"⟩
abbrev cX1_leftOf : ByteArray := prog_3_method_3_code
def yX1_leftOf : MethodName := ⟨RX1, "leftOf", "(I)I"⟩
abbrev cX1_worthOf : ByteArray := prog_3_method_4_code
def yX1_worthOf : MethodName := ⟨RX1, "worthOf", "(I)I"⟩
def RX2 : String := "UnlikeCoins$Image"
def TX2 : u_T := fun k => match k with
  | 0 => ("UnlikeCoins$Image", "purses", "[LUnlikeCoins$Purse;", true)
  | 1 => ("UnlikeCoins$Image", "sortCount", "I", false)
  | 2 => ("UnlikeCoins$Image", "purseCount", "I", false)
  | 3 => ("UnlikeCoins$Image", "year", "I", false)
  | 4 => ("UnlikeCoins$Image", "law", "I", false)
  | _ => ("UnlikeCoins$Image", "isThere", "Z", false)
def tyX2 : Nat → FieldType := fun k => match k with
  | 0 => .array (.object "UnlikeCoins$Purse")
  | 1 => .int
  | 2 => .int
  | 3 => .int
  | 4 => .int
  | _ => .boolean
abbrev wsX20 : List Cond := u_ws RX2 TX2 6
theorem nmX2 : ∀ a, a < 6 → ∀ b, b < 6 → a ≠ b → (TX2 a).2.1 ≠ (TX2 b).2.1 := by decide +kernel
theorem tyX2_ok : ∀ k, k < 6 → parseFieldDescriptor (TX2 k).2.2.1 = some (tyX2 k) := by decide +kernel
abbrev cX2_init : ByteArray := prog_4_method_1_code
def yX2_init : MethodName := ⟨RX2, "<init>", "()V"⟩
def RX3 : String := "UnlikeCoins$Melting"
def TX3 : u_T := fun k => match k with
  | 0 => ("UnlikeCoins$Sort", "told", "I", true)
  | _ => ("UnlikeCoins$Sort", "more", "I", true)
def tyX3 : Nat → FieldType := fun k => match k with
  | 0 => .int
  | _ => .int
abbrev wsX30 : List Cond := u_ws RX3 TX3 2
theorem nmX3 : ∀ a, a < 2 → ∀ b, b < 2 → a ≠ b → (TX3 a).2.1 ≠ (TX3 b).2.1 := by decide +kernel
theorem tyX3_ok : ∀ k, k < 2 → parseFieldDescriptor (TX3 k).2.2.1 = some (tyX3 k) := by decide +kernel
abbrev cX3_init : ByteArray := prog_5_method_1_code
def yX3_init : MethodName := ⟨RX3, "<init>", "(II)V"⟩
abbrev cX3_kind : ByteArray := prog_5_method_2_code
def yX3_kind : MethodName := ⟨RX3, "kind", "()I"⟩
abbrev cX3_together : ByteArray := prog_5_method_3_code
def yX3_together : MethodName := ⟨RX3, "together", "(I)I"⟩
abbrev cX3_leftOf : ByteArray := prog_5_method_4_code
def yX3_leftOf : MethodName := ⟨RX3, "leftOf", "(I)I"⟩
def RX4 : String := "UnlikeCoins$Purse"
def TX4 : u_T := fun k => match k with
  | 0 => ("UnlikeCoins$Purse", "has", "[I", true)
  | 1 => ("UnlikeCoins$Purse", "left", "[I", true)
  | _ => ("UnlikeCoins$Purse", "room", "[I", true)
def tyX4 : Nat → FieldType := fun k => match k with
  | 0 => .array .int
  | 1 => .array .int
  | _ => .array .int
abbrev wsX40 : List Cond := u_ws RX4 TX4 3
theorem nmX4 : ∀ a, a < 3 → ∀ b, b < 3 → a ≠ b → (TX4 a).2.1 ≠ (TX4 b).2.1 := by decide +kernel
theorem tyX4_ok : ∀ k, k < 3 → parseFieldDescriptor (TX4 k).2.2.1 = some (tyX4 k) := by decide +kernel
abbrev cX4_init : ByteArray := prog_6_method_1_code
def yX4_init : MethodName := ⟨RX4, "<init>", "()V"⟩
abbrev cX4_many : ByteArray := prog_6_method_2_code
def yX4_many : MethodName := ⟨RX4, "many", "(I)I"⟩
abbrev cX4_put : ByteArray := prog_6_method_3_code
def yX4_put : MethodName := ⟨RX4, "put", "(II)V"⟩
abbrev cX4_grow : ByteArray := prog_6_method_4_code
def yX4_grow : MethodName := ⟨RX4, "grow", "(II)I"⟩
abbrev cX4_lose : ByteArray := prog_6_method_5_code
def yX4_lose : MethodName := ⟨RX4, "lose", "(I)V"⟩
abbrev cX4_become : ByteArray := prog_6_method_6_code
def yX4_become : MethodName := ⟨RX4, "become", "(LUnlikeCoins$Purse;)V"⟩
abbrev cX4_clear : ByteArray := prog_6_method_7_code
def yX4_clear : MethodName := ⟨RX4, "clear", "()V"⟩
abbrev cX4_coins : ByteArray := prog_6_method_8_code
def yX4_coins : MethodName := ⟨RX4, "coins", "()I"⟩
abbrev cX4_sortBits : ByteArray := prog_6_method_9_code
def yX4_sortBits : MethodName := ⟨RX4, "sortBits", "()I"⟩
abbrev cX4_worth : ByteArray := prog_6_method_10_code
def yX4_worth : MethodName := ⟨RX4, "worth", "([LUnlikeCoins$Sort;)I"⟩
abbrev cX4_lay : ByteArray := prog_6_method_11_code
def yX4_lay : MethodName := ⟨RX4, "lay", "([LUnlikeCoins$Sort;I)I"⟩
abbrev cX4_mostPlentiful : ByteArray := prog_6_method_12_code
def yX4_mostPlentiful : MethodName := ⟨RX4, "mostPlentiful", "()I"⟩
def RX5 : String := "UnlikeCoins$Reader"
def TX5 : u_T := fun k => match k with
  | 0 => ("UnlikeCoins$Reader", "tape", "[I", true)
  | 1 => ("UnlikeCoins$Reader", "code", "[I", true)
  | 2 => ("UnlikeCoins$Reader", "ends", "[I", true)
  | 3 => ("UnlikeCoins$Reader", "size", "I", false)
  | 4 => ("UnlikeCoins$Reader", "start", "I", false)
  | 5 => ("UnlikeCoins$Reader", "end", "I", false)
  | 6 => ("UnlikeCoins$Reader", "token", "I", false)
  | 7 => ("UnlikeCoins$Reader", "number", "I", false)
  | 8 => ("UnlikeCoins$Reader", "open", "I", false)
  | _ => ("UnlikeCoins$Reader", "length", "I", false)
def tyX5 : Nat → FieldType := fun k => match k with
  | 0 => .array .int
  | 1 => .array .int
  | 2 => .array .int
  | 3 => .int
  | 4 => .int
  | 5 => .int
  | 6 => .int
  | 7 => .int
  | 8 => .int
  | _ => .int
abbrev wsX50 : List Cond := u_ws RX5 TX5 10
theorem nmX5 : ∀ a, a < 10 → ∀ b, b < 10 → a ≠ b → (TX5 a).2.1 ≠ (TX5 b).2.1 := by decide +kernel
theorem tyX5_ok : ∀ k, k < 10 → parseFieldDescriptor (TX5 k).2.2.1 = some (tyX5 k) := by decide +kernel
abbrev cX5_init : ByteArray := prog_7_method_1_code
def yX5_init : MethodName := ⟨RX5, "<init>", "()V"⟩
abbrev cX5_size : ByteArray := prog_7_method_2_code
def yX5_size : MethodName := ⟨RX5, "size", "()I"⟩
abbrev cX5_hasRoom : ByteArray := prog_7_method_3_code
def yX5_hasRoom : MethodName := ⟨RX5, "hasRoom", "(I)Z"⟩
abbrev cX5_put : ByteArray := prog_7_method_4_code
def yX5_put : MethodName := ⟨RX5, "put", "(I)V"⟩
abbrev cX5_clear : ByteArray := prog_7_method_5_code
def yX5_clear : MethodName := ⟨RX5, "clear", "()V"⟩
abbrev cX5_place : ByteArray := prog_7_method_6_code
def yX5_place : MethodName := ⟨RX5, "place", "()I"⟩
abbrev cX5_textRead : ByteArray := prog_7_method_7_code
def yX5_textRead : MethodName := ⟨RX5, "textRead", "()LUnlikeCoins$Text;"⟩
abbrev cX5_readText : ByteArray := prog_7_method_8_code
def yX5_readText : MethodName := ⟨RX5, "readText", "()Z"⟩
abbrev cX5_readToken : ByteArray := prog_7_method_9_code
def yX5_readToken : MethodName := ⟨RX5, "readToken", "(I)Z"⟩
abbrev cX5_readEither : ByteArray := prog_7_method_10_code
def yX5_readEither : MethodName := ⟨RX5, "readEither", "()Z"⟩
abbrev cX5_readBoth : ByteArray := prog_7_method_11_code
def yX5_readBoth : MethodName := ⟨RX5, "readBoth", "()Z"⟩
abbrev cX5_readDenied : ByteArray := prog_7_method_12_code
def yX5_readDenied : MethodName := ⟨RX5, "readDenied", "()Z"⟩
abbrev cX5_readCompared : ByteArray := prog_7_method_13_code
def yX5_readCompared : MethodName := ⟨RX5, "readCompared", "()Z"⟩
abbrev cX5_readSum : ByteArray := prog_7_method_14_code
def yX5_readSum : MethodName := ⟨RX5, "readSum", "()Z"⟩
abbrev cX5_readTerm : ByteArray := prog_7_method_15_code
def yX5_readTerm : MethodName := ⟨RX5, "readTerm", "()Z"⟩
abbrev cX5_readOne : ByteArray := prog_7_method_16_code
def yX5_readOne : MethodName := ⟨RX5, "readOne", "()Z"⟩
abbrev cX5_emit : ByteArray := prog_7_method_17_code
def yX5_emit : MethodName := ⟨RX5, "emit", "(I)V"⟩
abbrev cX5_advance : ByteArray := prog_7_method_18_code
def yX5_advance : MethodName := ⟨RX5, "advance", "()V"⟩
abbrev cX5_readWord : ByteArray := prog_7_method_19_code
def yX5_readWord : MethodName := ⟨RX5, "readWord", "()V"⟩
abbrev cX5_isWord : ByteArray := prog_7_method_20_code
def yX5_isWord : MethodName := ⟨RX5, "isWord", "(I)Z"⟩
abbrev cX5_readNumber : ByteArray := prog_7_method_21_code
def yX5_readNumber : MethodName := ⟨RX5, "readNumber", "()V"⟩
abbrev cX5_isBlank : ByteArray := prog_7_method_22_code
def yX5_isBlank : MethodName := ⟨RX5, "isBlank", "(I)Z"⟩
abbrev cX5_isLetter : ByteArray := prog_7_method_23_code
def yX5_isLetter : MethodName := ⟨RX5, "isLetter", "(I)Z"⟩
abbrev cX5_isDigit : ByteArray := prog_7_method_24_code
def yX5_isDigit : MethodName := ⟨RX5, "isDigit", "(I)Z"⟩
def RX6 : String := "UnlikeCoins$Scarce"
def TX6 : u_T := fun k => match k with
  | 0 => ("UnlikeCoins$Sort", "told", "I", true)
  | _ => ("UnlikeCoins$Sort", "more", "I", true)
def tyX6 : Nat → FieldType := fun k => match k with
  | 0 => .int
  | _ => .int
abbrev wsX60 : List Cond := u_ws RX6 TX6 2
theorem nmX6 : ∀ a, a < 2 → ∀ b, b < 2 → a ≠ b → (TX6 a).2.1 ≠ (TX6 b).2.1 := by decide +kernel
theorem tyX6_ok : ∀ k, k < 2 → parseFieldDescriptor (TX6 k).2.2.1 = some (tyX6 k) := by decide +kernel
abbrev cX6_init : ByteArray := prog_8_method_1_code
def yX6_init : MethodName := ⟨RX6, "<init>", "(II)V"⟩
abbrev cX6_kind : ByteArray := prog_8_method_2_code
def yX6_kind : MethodName := ⟨RX6, "kind", "()I"⟩
abbrev cX6_worthOf : ByteArray := prog_8_method_3_code
def yX6_worthOf : MethodName := ⟨RX6, "worthOf", "(I)I"⟩
def RX7 : String := "UnlikeCoins$Sheet"
def TX7 : u_T := fun k => match k with
  | 0 => ("UnlikeCoins$Sheet", "row", "[I", true)
  | 1 => ("UnlikeCoins$Sheet", "form", "I", false)
  | _ => ("UnlikeCoins$Sheet", "size", "I", false)
def tyX7 : Nat → FieldType := fun k => match k with
  | 0 => .array .int
  | 1 => .int
  | _ => .int
abbrev wsX70 : List Cond := u_ws RX7 TX7 3
theorem nmX7 : ∀ a, a < 3 → ∀ b, b < 3 → a ≠ b → (TX7 a).2.1 ≠ (TX7 b).2.1 := by decide +kernel
theorem tyX7_ok : ∀ k, k < 3 → parseFieldDescriptor (TX7 k).2.2.1 = some (tyX7 k) := by decide +kernel
abbrev cX7_init : ByteArray := prog_9_method_1_code
def yX7_init : MethodName := ⟨RX7, "<init>", "()V"⟩
abbrev cX7_isMissing : ByteArray := prog_9_method_2_code
def yX7_isMissing : MethodName := ⟨RX7, "isMissing", "()Z"⟩
abbrev cX7_cannotTell : ByteArray := prog_9_method_3_code
def yX7_cannotTell : MethodName := ⟨RX7, "cannotTell", "()Z"⟩
abbrev cX7_holds : ByteArray := prog_9_method_4_code
def yX7_holds : MethodName := ⟨RX7, "holds", "(II)Z"⟩
abbrev cX7_become : ByteArray := prog_9_method_5_code
def yX7_become : MethodName := ⟨RX7, "become", "(II)V"⟩
abbrev cX7_get : ByteArray := prog_9_method_6_code
def yX7_get : MethodName := ⟨RX7, "get", "(I)I"⟩
abbrev cX7_put : ByteArray := prog_9_method_7_code
def yX7_put : MethodName := ⟨RX7, "put", "(II)V"⟩
def RX8 : String := "UnlikeCoins$Sort"
def TX8 : u_T := fun k => match k with
  | 0 => ("UnlikeCoins$Sort", "told", "I", true)
  | _ => ("UnlikeCoins$Sort", "more", "I", true)
def tyX8 : Nat → FieldType := fun k => match k with
  | 0 => .int
  | _ => .int
abbrev wsX80 : List Cond := u_ws RX8 TX8 2
theorem nmX8 : ∀ a, a < 2 → ∀ b, b < 2 → a ≠ b → (TX8 a).2.1 ≠ (TX8 b).2.1 := by decide +kernel
theorem tyX8_ok : ∀ k, k < 2 → parseFieldDescriptor (TX8 k).2.2.1 = some (tyX8 k) := by decide +kernel
abbrev cX8_init : ByteArray := prog_10_method_1_code
def yX8_init : MethodName := ⟨RX8, "<init>", "(II)V"⟩
abbrev cX8_kind : ByteArray := prog_10_method_2_code
def yX8_kind : MethodName := ⟨RX8, "kind", "()I"⟩
abbrev cX8_together : ByteArray := prog_10_method_3_code
def yX8_together : MethodName := ⟨RX8, "together", "(I)I"⟩
abbrev cX8_leftOf : ByteArray := prog_10_method_4_code
def yX8_leftOf : MethodName := ⟨RX8, "leftOf", "(I)I"⟩
abbrev cX8_worthOf : ByteArray := prog_10_method_5_code
def yX8_worthOf : MethodName := ⟨RX8, "worthOf", "(I)I"⟩
def RX9 : String := "UnlikeCoins$Stamped"
def TX9 : u_T := fun k => match k with
  | 0 => ("UnlikeCoins$Sort", "told", "I", true)
  | _ => ("UnlikeCoins$Sort", "more", "I", true)
def tyX9 : Nat → FieldType := fun k => match k with
  | 0 => .int
  | _ => .int
abbrev wsX90 : List Cond := u_ws RX9 TX9 2
theorem nmX9 : ∀ a, a < 2 → ∀ b, b < 2 → a ≠ b → (TX9 a).2.1 ≠ (TX9 b).2.1 := by decide +kernel
theorem tyX9_ok : ∀ k, k < 2 → parseFieldDescriptor (TX9 k).2.2.1 = some (tyX9 k) := by decide +kernel
abbrev cX9_init : ByteArray := prog_11_method_1_code
def yX9_init : MethodName := ⟨RX9, "<init>", "(II)V"⟩
abbrev cX9_kind : ByteArray := prog_11_method_2_code
def yX9_kind : MethodName := ⟨RX9, "kind", "()I"⟩
abbrev cX9_together : ByteArray := prog_11_method_3_code
def yX9_together : MethodName := ⟨RX9, "together", "(I)I"⟩
def RX10 : String := "UnlikeCoins$Text"
def TX10 : u_T := fun k => match k with
  | 0 => ("UnlikeCoins$Text", "code", "[I", true)
  | 1 => ("UnlikeCoins$Text", "ends", "[I", true)
  | 2 => ("UnlikeCoins$Text", "stack", "[I", true)
  | _ => ("UnlikeCoins$Text", "height", "I", false)
def tyX10 : Nat → FieldType := fun k => match k with
  | 0 => .array .int
  | 1 => .array .int
  | 2 => .array .int
  | _ => .int
abbrev wsX100 : List Cond := u_ws RX10 TX10 4
theorem nmX10 : ∀ a, a < 4 → ∀ b, b < 4 → a ≠ b → (TX10 a).2.1 ≠ (TX10 b).2.1 := by decide +kernel
theorem tyX10_ok : ∀ k, k < 4 → parseFieldDescriptor (TX10 k).2.2.1 = some (tyX10 k) := by decide +kernel
abbrev cX10_init : ByteArray := prog_12_method_1_code
def yX10_init : MethodName := ⟨RX10, "<init>", "([I[I)V"⟩
abbrev cX10_value : ByteArray := prog_12_method_2_code
def yX10_value : MethodName := ⟨RX10, "value", "(I[I)I"⟩
abbrev cX10_step : ByteArray := prog_12_method_3_code
def yX10_step : MethodName := ⟨RX10, "step", "(I[I)V"⟩
abbrev cX10_reckon : ByteArray := prog_12_method_4_code
def yX10_reckon : MethodName := ⟨RX10, "reckon", "(III)I"⟩
abbrev cX10_push : ByteArray := prog_12_method_5_code
def yX10_push : MethodName := ⟨RX10, "push", "(I)V"⟩
abbrev cX10_pop : ByteArray := prog_12_method_6_code
def yX10_pop : MethodName := ⟨RX10, "pop", "()I"⟩
def RX11 : String := "UnlikeCoins"
def TX11 : u_T := fun k => match k with
  | 0 => ("UnlikeCoins", "sorts", "[LUnlikeCoins$Sort;", true)
  | 1 => ("UnlikeCoins", "purses", "[LUnlikeCoins$Purse;", true)
  | 2 => ("UnlikeCoins", "thoughts", "[LUnlikeCoins$Purse;", true)
  | 3 => ("UnlikeCoins", "thought", "LUnlikeCoins$Purse;", true)
  | 4 => ("UnlikeCoins", "trial", "LUnlikeCoins$Purse;", true)
  | 5 => ("UnlikeCoins", "texts", "[LUnlikeCoins$Text;", true)
  | 6 => ("UnlikeCoins", "sheets", "[LUnlikeCoins$Sheet;", true)
  | 7 => ("UnlikeCoins", "reader", "LUnlikeCoins$Reader;", true)
  | 8 => ("UnlikeCoins", "kept", "LUnlikeCoins$Image;", true)
  | 9 => ("UnlikeCoins", "names", "[I", true)
  | 10 => ("UnlikeCoins", "sortCount", "I", false)
  | 11 => ("UnlikeCoins", "purseCount", "I", false)
  | 12 => ("UnlikeCoins", "textCount", "I", false)
  | 13 => ("UnlikeCoins", "year", "I", false)
  | _ => ("UnlikeCoins", "law", "I", false)
def tyX11 : Nat → FieldType := fun k => match k with
  | 0 => .array (.object "UnlikeCoins$Sort")
  | 1 => .array (.object "UnlikeCoins$Purse")
  | 2 => .array (.object "UnlikeCoins$Purse")
  | 3 => .object "UnlikeCoins$Purse"
  | 4 => .object "UnlikeCoins$Purse"
  | 5 => .array (.object "UnlikeCoins$Text")
  | 6 => .array (.object "UnlikeCoins$Sheet")
  | 7 => .object "UnlikeCoins$Reader"
  | 8 => .object "UnlikeCoins$Image"
  | 9 => .array .int
  | 10 => .int
  | 11 => .int
  | 12 => .int
  | 13 => .int
  | _ => .int
abbrev wsX110 : List Cond := u_ws RX11 TX11 15
theorem nmX11 : ∀ a, a < 15 → ∀ b, b < 15 → a ≠ b → (TX11 a).2.1 ≠ (TX11 b).2.1 := by decide +kernel
theorem tyX11_ok : ∀ k, k < 15 → parseFieldDescriptor (TX11 k).2.2.1 = some (tyX11 k) := by decide +kernel
abbrev cX11_init : ByteArray := prog_1_method_1_code
def yX11_init : MethodName := ⟨RX11, "<init>", "()V"⟩
abbrev cX11_count : ByteArray := prog_1_method_2_code
def yX11_count : MethodName := ⟨RX11, "count", "(I)I"⟩
abbrev cX11_feed : ByteArray := prog_1_method_3_code
def yX11_feed : MethodName := ⟨RX11, "feed", "(IIIIII)I"⟩
abbrev cX11_text : ByteArray := prog_1_method_4_code
def yX11_text : MethodName := ⟨RX11, "text", "()I"⟩
abbrev cX11_force : ByteArray := prog_1_method_5_code
def yX11_force : MethodName := ⟨RX11, "force", "(I)I"⟩
abbrev cX11_asks : ByteArray := prog_1_method_6_code
def yX11_asks : MethodName := ⟨RX11, "asks", "(IIII)I"⟩
abbrev cX11_sort : ByteArray := prog_1_method_7_code
def yX11_sort : MethodName := ⟨RX11, "sort", "(III)I"⟩
abbrev cX11_told : ByteArray := prog_1_method_8_code
def yX11_told : MethodName := ⟨RX11, "told", "(II)I"⟩
abbrev cX11_purse : ByteArray := prog_1_method_9_code
def yX11_purse : MethodName := ⟨RX11, "purse", "()I"⟩
abbrev cX11_set : ByteArray := prog_1_method_10_code
def yX11_set : MethodName := ⟨RX11, "set", "(III)I"⟩
abbrev cX11_of : ByteArray := prog_1_method_11_code
def yX11_of : MethodName := ⟨RX11, "of", "(II)I"⟩
abbrev cX11_all : ByteArray := prog_1_method_12_code
def yX11_all : MethodName := ⟨RX11, "all", "(II)I"⟩
abbrev cX11_often : ByteArray := prog_1_method_13_code
def yX11_often : MethodName := ⟨RX11, "often", "(III)I"⟩
abbrev cX11_buy : ByteArray := prog_1_method_14_code
def yX11_buy : MethodName := ⟨RX11, "buy", "(II)I"⟩
abbrev cX11_two : ByteArray := prog_1_method_15_code
def yX11_two : MethodName := ⟨RX11, "two", "(IIII)I"⟩
abbrev cX11_price : ByteArray := prog_1_method_16_code
def yX11_price : MethodName := ⟨RX11, "price", "(I)I"⟩
abbrev cX11_idle : ByteArray := prog_1_method_17_code
def yX11_idle : MethodName := ⟨RX11, "idle", "(II)I"⟩
abbrev cX11_dearest : ByteArray := prog_1_method_18_code
def yX11_dearest : MethodName := ⟨RX11, "dearest", "(II)I"⟩
abbrev cX11_swap : ByteArray := prog_1_method_19_code
def yX11_swap : MethodName := ⟨RX11, "swap", "(III)I"⟩
abbrev cX11_best : ByteArray := prog_1_method_20_code
def yX11_best : MethodName := ⟨RX11, "best", "(IIII)I"⟩
abbrev cX11_lacks : ByteArray := prog_1_method_21_code
def yX11_lacks : MethodName := ⟨RX11, "lacks", "(II)I"⟩
abbrev cX11_thief : ByteArray := prog_1_method_22_code
def yX11_thief : MethodName := ⟨RX11, "thief", "(III)I"⟩
abbrev cX11_rob : ByteArray := prog_1_method_23_code
def yX11_rob : MethodName := ⟨RX11, "rob", "(I)I"⟩
abbrev cX11_wage : ByteArray := prog_1_method_24_code
def yX11_wage : MethodName := ⟨RX11, "wage", "(IIII)I"⟩
abbrev cX11_strike : ByteArray := prog_1_method_25_code
def yX11_strike : MethodName := ⟨RX11, "strike", "(II)I"⟩
abbrev cX11_pass : ByteArray := prog_1_method_26_code
def yX11_pass : MethodName := ⟨RX11, "pass", "()I"⟩
abbrev cX11_judge : ByteArray := prog_1_method_27_code
def yX11_judge : MethodName := ⟨RX11, "judge", "(II)I"⟩
abbrev cX11_whose : ByteArray := prog_1_method_28_code
def yX11_whose : MethodName := ⟨RX11, "whose", "(I)I"⟩
abbrev cX11_was : ByteArray := prog_1_method_29_code
def yX11_was : MethodName := ⟨RX11, "was", "(II)I"⟩
abbrev cX11_film : ByteArray := prog_1_method_30_code
def yX11_film : MethodName := ⟨RX11, "film", "(III)I"⟩
abbrev cX11_laws : ByteArray := prog_1_method_31_code
def yX11_laws : MethodName := ⟨RX11, "laws", "(III)I"⟩
abbrev cX11_drawn : ByteArray := prog_1_method_32_code
def yX11_drawn : MethodName := ⟨RX11, "drawn", "(II)I"⟩
abbrev cX11_mean : ByteArray := prog_1_method_33_code
def yX11_mean : MethodName := ⟨RX11, "mean", "(IIII)J"⟩
abbrev cX11_image : ByteArray := prog_1_method_34_code
def yX11_image : MethodName := ⟨RX11, "image", "()I"⟩
abbrev cX11_back : ByteArray := prog_1_method_35_code
def yX11_back : MethodName := ⟨RX11, "back", "()I"⟩
abbrev cX11_sheet : ByteArray := prog_1_method_36_code
def yX11_sheet : MethodName := ⟨RX11, "sheet", "(III)I"⟩
abbrev cX11_cell : ByteArray := prog_1_method_37_code
def yX11_cell : MethodName := ⟨RX11, "cell", "(III)I"⟩
abbrev cX11_copy : ByteArray := prog_1_method_38_code
def yX11_copy : MethodName := ⟨RX11, "copy", "(IIIII)I"⟩
abbrev cX11_coinsBy : ByteArray := prog_1_method_39_code
def yX11_coinsBy : MethodName := ⟨RX11, "coinsBy", "(IIII)I"⟩
abbrev cX11_taken : ByteArray := prog_1_method_40_code
def yX11_taken : MethodName := ⟨RX11, "taken", "(II)I"⟩
abbrev cX11_within : ByteArray := prog_1_method_41_code
def yX11_within : MethodName := ⟨RX11, "within", "(III)Z"⟩
abbrev cX11_isByte : ByteArray := prog_1_method_42_code
def yX11_isByte : MethodName := ⟨RX11, "isByte", "(I)Z"⟩
abbrev cX11_isPrice : ByteArray := prog_1_method_43_code
def yX11_isPrice : MethodName := ⟨RX11, "isPrice", "(I)Z"⟩
abbrev cX11_sortAt : ByteArray := prog_1_method_44_code
def yX11_sortAt : MethodName := ⟨RX11, "sortAt", "(I)LUnlikeCoins$Sort;"⟩
abbrev cX11_purseAt : ByteArray := prog_1_method_45_code
def yX11_purseAt : MethodName := ⟨RX11, "purseAt", "(I)LUnlikeCoins$Purse;"⟩
abbrev cX11_sheetAt : ByteArray := prog_1_method_46_code
def yX11_sheetAt : MethodName := ⟨RX11, "sheetAt", "(I)LUnlikeCoins$Sheet;"⟩
abbrev cX11_newSort : ByteArray := prog_1_method_47_code
def yX11_newSort : MethodName := ⟨RX11, "newSort", "(III)LUnlikeCoins$Sort;"⟩
abbrev cX11_isOfKind : ByteArray := prog_1_method_48_code
def yX11_isOfKind : MethodName := ⟨RX11, "isOfKind", "(LUnlikeCoins$Sort;I)Z"⟩
abbrev cX11_nameAll : ByteArray := prog_1_method_49_code
def yX11_nameAll : MethodName := ⟨RX11, "nameAll", "(IIIII)V"⟩
abbrev cX11_says : ByteArray := prog_1_method_50_code
def yX11_says : MethodName := ⟨RX11, "says", "(II)I"⟩
abbrev cX11_worthAt : ByteArray := prog_1_method_51_code
def yX11_worthAt : MethodName := ⟨RX11, "worthAt", "(II)I"⟩
abbrev cX11_feeFor : ByteArray := prog_1_method_52_code
def yX11_feeFor : MethodName := ⟨RX11, "feeFor", "(II)I"⟩
abbrev cX11_timesAt : ByteArray := prog_1_method_53_code
def yX11_timesAt : MethodName := ⟨RX11, "timesAt", "(LUnlikeCoins$Purse;I)I"⟩
abbrev cX11_timesWith : ByteArray := prog_1_method_54_code
def yX11_timesWith : MethodName := ⟨RX11, "timesWith", "(LUnlikeCoins$Purse;III)I"⟩
abbrev cX11_timesOfAll : ByteArray := prog_1_method_55_code
def yX11_timesOfAll : MethodName := ⟨RX11, "timesOfAll", "(II)I"⟩
abbrev cX11_canSwap : ByteArray := prog_1_method_56_code
def yX11_canSwap : MethodName := ⟨RX11, "canSwap", "(LUnlikeCoins$Purse;LUnlikeCoins$Purse;II)Z"⟩
abbrev cX11_tryWage : ByteArray := prog_1_method_57_code
def yX11_tryWage : MethodName := ⟨RX11, "tryWage", "(LUnlikeCoins$Purse;II)I"⟩
abbrev cX11_tryPurse : ByteArray := prog_1_method_58_code
def yX11_tryPurse : MethodName := ⟨RX11, "tryPurse", "(I)I"⟩
abbrev cX11_passFor : ByteArray := prog_1_method_59_code
def yX11_passFor : MethodName := ⟨RX11, "passFor", "(LUnlikeCoins$Purse;)V"⟩
abbrev cX11_firstOther : ByteArray := prog_1_method_60_code
def yX11_firstOther : MethodName := ⟨RX11, "firstOther", "(LUnlikeCoins$Sheet;LUnlikeCoins$Purse;)I"⟩
abbrev cX11_lotBehind : ByteArray := prog_1_method_61_code
def yX11_lotBehind : MethodName := ⟨RX11, "lotBehind", "(J)J"⟩
abbrev cX11_drawnBy : ByteArray := prog_1_method_62_code
def yX11_drawnBy : MethodName := ⟨RX11, "drawnBy", "(II)I"⟩
abbrev cX11_commonDivisor : ByteArray := prog_1_method_63_code
def yX11_commonDivisor : MethodName := ⟨RX11, "commonDivisor", "(II)I"⟩
def RX12 : String := "UnlikeCoinsModel"
def TX12 : u_T := fun k => match k with
  | 0 => ("UnlikeCoinsModel", "sorts", "I", false)
  | 1 => ("UnlikeCoinsModel", "kind", "[I", true)
  | 2 => ("UnlikeCoinsModel", "toldOf", "[I", true)
  | 3 => ("UnlikeCoinsModel", "moreOf", "[I", true)
  | 4 => ("UnlikeCoinsModel", "purses", "I", false)
  | 5 => ("UnlikeCoinsModel", "has", "[I", true)
  | 6 => ("UnlikeCoinsModel", "year", "I", false)
  | 7 => ("UnlikeCoinsModel", "tape", "[I", true)
  | 8 => ("UnlikeCoinsModel", "taped", "I", false)
  | 9 => ("UnlikeCoinsModel", "codes", "[I", true)
  | 10 => ("UnlikeCoinsModel", "starts", "[I", true)
  | 11 => ("UnlikeCoinsModel", "texts", "I", false)
  | 12 => ("UnlikeCoinsModel", "rule", "I", false)
  | 13 => ("UnlikeCoinsModel", "hasImage", "Z", false)
  | 14 => ("UnlikeCoinsModel", "imageSorts", "I", false)
  | 15 => ("UnlikeCoinsModel", "imagePurses", "I", false)
  | 16 => ("UnlikeCoinsModel", "imageYear", "I", false)
  | 17 => ("UnlikeCoinsModel", "imageRule", "I", false)
  | 18 => ("UnlikeCoinsModel", "imageHas", "[I", true)
  | 19 => ("UnlikeCoinsModel", "sheetSort", "[I", true)
  | 20 => ("UnlikeCoinsModel", "sheetSize", "[I", true)
  | 21 => ("UnlikeCoinsModel", "cells", "[I", true)
  | 22 => ("UnlikeCoinsModel", "law", "[I", true)
  | 23 => ("UnlikeCoinsModel", "at", "I", false)
  | 24 => ("UnlikeCoinsModel", "begun", "I", false)
  | 25 => ("UnlikeCoinsModel", "token", "I", false)
  | 26 => ("UnlikeCoinsModel", "value", "I", false)
  | 27 => ("UnlikeCoinsModel", "words", "[I", true)
  | 28 => ("UnlikeCoinsModel", "held", "[I", true)
  | 29 => ("UnlikeCoinsModel", "heldMany", "I", false)
  | 30 => ("UnlikeCoinsModel", "opens", "I", false)
  | 31 => ("UnlikeCoinsModel", "out", "I", false)
  | 32 => ("UnlikeCoinsModel", "stack", "[I", true)
  | 33 => ("UnlikeCoinsModel", "named", "[I", true)
  | 34 => ("UnlikeCoinsModel", "left", "[I", true)
  | 35 => ("UnlikeCoinsModel", "began", "[I", true)
  | 36 => ("UnlikeCoinsModel", "lies", "[I", true)
  | 37 => ("UnlikeCoinsModel", "row", "[I", true)
  | 38 => ("UnlikeCoinsModel", "thought", "[I", true)
  | _ => ("UnlikeCoinsModel", "keptHas", "[I", true)
def tyX12 : Nat → FieldType := fun k => match k with
  | 0 => .int
  | 1 => .array .int
  | 2 => .array .int
  | 3 => .array .int
  | 4 => .int
  | 5 => .array .int
  | 6 => .int
  | 7 => .array .int
  | 8 => .int
  | 9 => .array .int
  | 10 => .array .int
  | 11 => .int
  | 12 => .int
  | 13 => .boolean
  | 14 => .int
  | 15 => .int
  | 16 => .int
  | 17 => .int
  | 18 => .array .int
  | 19 => .array .int
  | 20 => .array .int
  | 21 => .array .int
  | 22 => .array .int
  | 23 => .int
  | 24 => .int
  | 25 => .int
  | 26 => .int
  | 27 => .array .int
  | 28 => .array .int
  | 29 => .int
  | 30 => .int
  | 31 => .int
  | 32 => .array .int
  | 33 => .array .int
  | 34 => .array .int
  | 35 => .array .int
  | 36 => .array .int
  | 37 => .array .int
  | 38 => .array .int
  | _ => .array .int
abbrev wsX120 : List Cond := u_ws RX12 TX12 40
theorem nmX12 : ∀ a, a < 40 → ∀ b, b < 40 → a ≠ b → (TX12 a).2.1 ≠ (TX12 b).2.1 := by decide +kernel
theorem tyX12_ok : ∀ k, k < 40 → parseFieldDescriptor (TX12 k).2.2.1 = some (tyX12 k) := by decide +kernel
abbrev cX12_init : ByteArray := prog_14_method_1_code
def yX12_init : MethodName := ⟨RX12, "<init>", "()V"⟩
abbrev cX12_in : ByteArray := prog_14_method_3_code
def yX12_in : MethodName := ⟨RX12, "in", "(III)Z"⟩
abbrev cX12_within : ByteArray := prog_14_method_4_code
def yX12_within : MethodName := ⟨RX12, "within", "(III)I"⟩
abbrev cX12_isSort : ByteArray := prog_14_method_5_code
def yX12_isSort : MethodName := ⟨RX12, "isSort", "(I)Z"⟩
abbrev cX12_isPurse : ByteArray := prog_14_method_6_code
def yX12_isPurse : MethodName := ⟨RX12, "isPurse", "(I)Z"⟩
abbrev cX12_isPrice : ByteArray := prog_14_method_7_code
def yX12_isPrice : MethodName := ⟨RX12, "isPrice", "(I)Z"⟩
abbrev cX12_count : ByteArray := prog_14_method_8_code
def yX12_count : MethodName := ⟨RX12, "count", "(I)I"⟩
abbrev cX12_isByte : ByteArray := prog_14_method_9_code
def yX12_isByte : MethodName := ⟨RX12, "isByte", "(I)Z"⟩
abbrev cX12_feed : ByteArray := prog_14_method_10_code
def yX12_feed : MethodName := ⟨RX12, "feed", "(IIIIII)I"⟩
abbrev cX12_wordFrom : ByteArray := prog_14_method_11_code
def yX12_wordFrom : MethodName := ⟨RX12, "wordFrom", "(II)I"⟩
abbrev cX12_next : ByteArray := prog_14_method_12_code
def yX12_next : MethodName := ⟨RX12, "next", "()V"⟩
abbrev cX12_rank : ByteArray := prog_14_method_13_code
def yX12_rank : MethodName := ⟨RX12, "rank", "(I)I"⟩
abbrev cX12_puts : ByteArray := prog_14_method_14_code
def yX12_puts : MethodName := ⟨RX12, "puts", "(I)V"⟩
abbrev cX12_unwinds : ByteArray := prog_14_method_15_code
def yX12_unwinds : MethodName := ⟨RX12, "unwinds", "(I)V"⟩
abbrev cX12_holds : ByteArray := prog_14_method_16_code
def yX12_holds : MethodName := ⟨RX12, "holds", "(I)V"⟩
abbrev cX12_opensOne : ByteArray := prog_14_method_17_code
def yX12_opensOne : MethodName := ⟨RX12, "opensOne", "(I)Z"⟩
abbrev cX12_between : ByteArray := prog_14_method_18_code
def yX12_between : MethodName := ⟨RX12, "between", "(I)Z"⟩
abbrev cX12_signOf : ByteArray := prog_14_method_19_code
def yX12_signOf : MethodName := ⟨RX12, "signOf", "()I"⟩
abbrev cX12_eRead : ByteArray := prog_14_method_20_code
def yX12_eRead : MethodName := ⟨RX12, "eRead", "()Z"⟩
abbrev cX12_text : ByteArray := prog_14_method_21_code
def yX12_text : MethodName := ⟨RX12, "text", "()I"⟩
abbrev cX12_two : ByteArray := prog_14_method_22_code
def yX12_two : MethodName := ⟨RX12, "two", "(III)I"⟩
abbrev cX12_says : ByteArray := prog_14_method_23_code
def yX12_says : MethodName := ⟨RX12, "says", "(I)I"⟩
abbrev cX12_force : ByteArray := prog_14_method_24_code
def yX12_force : MethodName := ⟨RX12, "force", "(I)I"⟩
abbrev cX12_asksOf : ByteArray := prog_14_method_25_code
def yX12_asksOf : MethodName := ⟨RX12, "asksOf", "(IIIIII)I"⟩
abbrev cX12_asks : ByteArray := prog_14_method_26_code
def yX12_asks : MethodName := ⟨RX12, "asks", "(IIII)I"⟩
abbrev cX12_worthOf : ByteArray := prog_14_method_27_code
def yX12_worthOf : MethodName := ⟨RX12, "worthOf", "(I)I"⟩
abbrev cX12_feeOf : ByteArray := prog_14_method_28_code
def yX12_feeOf : MethodName := ⟨RX12, "feeOf", "(II)I"⟩
abbrev cX12_sort : ByteArray := prog_14_method_29_code
def yX12_sort : MethodName := ⟨RX12, "sort", "(III)I"⟩
abbrev cX12_told : ByteArray := prog_14_method_30_code
def yX12_told : MethodName := ⟨RX12, "told", "(II)I"⟩
abbrev cX12_purse : ByteArray := prog_14_method_31_code
def yX12_purse : MethodName := ⟨RX12, "purse", "()I"⟩
abbrev cX12_set : ByteArray := prog_14_method_32_code
def yX12_set : MethodName := ⟨RX12, "set", "(III)I"⟩
abbrev cX12_of : ByteArray := prog_14_method_33_code
def yX12_of : MethodName := ⟨RX12, "of", "(II)I"⟩
abbrev cX12_together : ByteArray := prog_14_method_34_code
def yX12_together : MethodName := ⟨RX12, "together", "(II)I"⟩
abbrev cX12_remains : ByteArray := prog_14_method_35_code
def yX12_remains : MethodName := ⟨RX12, "remains", "(II)I"⟩
abbrev cX12_coinWorth : ByteArray := prog_14_method_36_code
def yX12_coinWorth : MethodName := ⟨RX12, "coinWorth", "(II)I"⟩
abbrev cX12_coinsOf : ByteArray := prog_14_method_37_code
def yX12_coinsOf : MethodName := ⟨RX12, "coinsOf", "(I)I"⟩
abbrev cX12_all : ByteArray := prog_14_method_38_code
def yX12_all : MethodName := ⟨RX12, "all", "(II)I"⟩
abbrev cX12_thinksOf : ByteArray := prog_14_method_39_code
def yX12_thinksOf : MethodName := ⟨RX12, "thinksOf", "(I)V"⟩
abbrev cX12_nextLaid : ByteArray := prog_14_method_40_code
def yX12_nextLaid : MethodName := ⟨RX12, "nextLaid", "()I"⟩
abbrev cX12_lays : ByteArray := prog_14_method_41_code
def yX12_lays : MethodName := ⟨RX12, "lays", "(I)Z"⟩
abbrev cX12_oftenNow : ByteArray := prog_14_method_42_code
def yX12_oftenNow : MethodName := ⟨RX12, "oftenNow", "(I)I"⟩
abbrev cX12_oftenOf : ByteArray := prog_14_method_43_code
def yX12_oftenOf : MethodName := ⟨RX12, "oftenOf", "(II)I"⟩
abbrev cX12_leftNow : ByteArray := prog_14_method_44_code
def yX12_leftNow : MethodName := ⟨RX12, "leftNow", "(I)I"⟩
abbrev cX12_often : ByteArray := prog_14_method_45_code
def yX12_often : MethodName := ⟨RX12, "often", "(III)I"⟩
abbrev cX12_comesTrue : ByteArray := prog_14_method_46_code
def yX12_comesTrue : MethodName := ⟨RX12, "comesTrue", "(I)I"⟩
abbrev cX12_buy : ByteArray := prog_14_method_47_code
def yX12_buy : MethodName := ⟨RX12, "buy", "(II)I"⟩
abbrev cX12_worthTwo : ByteArray := prog_14_method_48_code
def yX12_worthTwo : MethodName := ⟨RX12, "worthTwo", "(IIII)I"⟩
abbrev cX12_two_ : ByteArray := prog_14_method_49_code
def yX12_two_ : MethodName := ⟨RX12, "two", "(IIII)I"⟩
abbrev cX12_oftenOfAll : ByteArray := prog_14_method_50_code
def yX12_oftenOfAll : MethodName := ⟨RX12, "oftenOfAll", "(I)I"⟩
abbrev cX12_price : ByteArray := prog_14_method_51_code
def yX12_price : MethodName := ⟨RX12, "price", "(I)I"⟩
abbrev cX12_idle : ByteArray := prog_14_method_52_code
def yX12_idle : MethodName := ⟨RX12, "idle", "(II)I"⟩
abbrev cX12_dearest : ByteArray := prog_14_method_53_code
def yX12_dearest : MethodName := ⟨RX12, "dearest", "(II)I"⟩
abbrev cX12_areTwo : ByteArray := prog_14_method_54_code
def yX12_areTwo : MethodName := ⟨RX12, "areTwo", "(II)Z"⟩
abbrev cX12_canSwap : ByteArray := prog_14_method_55_code
def yX12_canSwap : MethodName := ⟨RX12, "canSwap", "(IIII)Z"⟩
abbrev cX12_swaps : ByteArray := prog_14_method_56_code
def yX12_swaps : MethodName := ⟨RX12, "swaps", "(IIII)V"⟩
abbrev cX12_swap : ByteArray := prog_14_method_57_code
def yX12_swap : MethodName := ⟨RX12, "swap", "(III)I"⟩
abbrev cX12_best : ByteArray := prog_14_method_58_code
def yX12_best : MethodName := ⟨RX12, "best", "(IIII)I"⟩
abbrev cX12_oftenWithMore : ByteArray := prog_14_method_59_code
def yX12_oftenWithMore : MethodName := ⟨RX12, "oftenWithMore", "(II)I"⟩
abbrev cX12_lacks : ByteArray := prog_14_method_60_code
def yX12_lacks : MethodName := ⟨RX12, "lacks", "(II)I"⟩
abbrev cX12_thief : ByteArray := prog_14_method_61_code
def yX12_thief : MethodName := ⟨RX12, "thief", "(III)I"⟩
abbrev cX12_rob : ByteArray := prog_14_method_62_code
def yX12_rob : MethodName := ⟨RX12, "rob", "(I)I"⟩
abbrev cX12_nextRow : ByteArray := prog_14_method_63_code
def yX12_nextRow : MethodName := ⟨RX12, "nextRow", "(I)Z"⟩
abbrev cX12_oftenWithRow : ByteArray := prog_14_method_64_code
def yX12_oftenWithRow : MethodName := ⟨RX12, "oftenWithRow", "(III)I"⟩
abbrev cX12_rowDigits : ByteArray := prog_14_method_65_code
def yX12_rowDigits : MethodName := ⟨RX12, "rowDigits", "(I)I"⟩
abbrev cX12_wage : ByteArray := prog_14_method_66_code
def yX12_wage : MethodName := ⟨RX12, "wage", "(IIII)I"⟩
abbrev cX12_strike : ByteArray := prog_14_method_67_code
def yX12_strike : MethodName := ⟨RX12, "strike", "(II)I"⟩
abbrev cX12_pass : ByteArray := prog_14_method_68_code
def yX12_pass : MethodName := ⟨RX12, "pass", "()I"⟩
abbrev cX12_sheetWrong : ByteArray := prog_14_method_69_code
def yX12_sheetWrong : MethodName := ⟨RX12, "sheetWrong", "(I)I"⟩
abbrev cX12_unlikeThought : ByteArray := prog_14_method_70_code
def yX12_unlikeThought : MethodName := ⟨RX12, "unlikeThought", "(I)I"⟩
abbrev cX12_unlike : ByteArray := prog_14_method_71_code
def yX12_unlike : MethodName := ⟨RX12, "unlike", "(II)I"⟩
abbrev cX12_judge : ByteArray := prog_14_method_72_code
def yX12_judge : MethodName := ⟨RX12, "judge", "(II)I"⟩
abbrev cX12_whose : ByteArray := prog_14_method_73_code
def yX12_whose : MethodName := ⟨RX12, "whose", "(I)I"⟩
abbrev cX12_was : ByteArray := prog_14_method_74_code
def yX12_was : MethodName := ⟨RX12, "was", "(II)I"⟩
abbrev cX12_film : ByteArray := prog_14_method_75_code
def yX12_film : MethodName := ⟨RX12, "film", "(III)I"⟩
abbrev cX12_laws : ByteArray := prog_14_method_76_code
def yX12_laws : MethodName := ⟨RX12, "laws", "(III)I"⟩
abbrev cX12_couldBy : ByteArray := prog_14_method_77_code
def yX12_couldBy : MethodName := ⟨RX12, "couldBy", "(II)I"⟩
abbrev cX12_isDrawn : ByteArray := prog_14_method_78_code
def yX12_isDrawn : MethodName := ⟨RX12, "isDrawn", "(II)Z"⟩
abbrev cX12_drawn : ByteArray := prog_14_method_79_code
def yX12_drawn : MethodName := ⟨RX12, "drawn", "(II)I"⟩
abbrev cX12_lowest : ByteArray := prog_14_method_80_code
def yX12_lowest : MethodName := ⟨RX12, "lowest", "(JJI)J"⟩
abbrev cX12_mean : ByteArray := prog_14_method_81_code
def yX12_mean : MethodName := ⟨RX12, "mean", "(IIII)J"⟩
abbrev cX12_image : ByteArray := prog_14_method_82_code
def yX12_image : MethodName := ⟨RX12, "image", "()I"⟩
abbrev cX12_back : ByteArray := prog_14_method_83_code
def yX12_back : MethodName := ⟨RX12, "back", "()I"⟩
abbrev cX12_sheet : ByteArray := prog_14_method_84_code
def yX12_sheet : MethodName := ⟨RX12, "sheet", "(III)I"⟩
abbrev cX12_cell : ByteArray := prog_14_method_85_code
def yX12_cell : MethodName := ⟨RX12, "cell", "(III)I"⟩
abbrev cX12_copy : ByteArray := prog_14_method_86_code
def yX12_copy : MethodName := ⟨RX12, "copy", "(IIIII)I"⟩
abbrev cX12_coinsBy : ByteArray := prog_14_method_87_code
def yX12_coinsBy : MethodName := ⟨RX12, "coinsBy", "(IIII)I"⟩
abbrev cX12_isUnder : ByteArray := prog_14_method_88_code
def yX12_isUnder : MethodName := ⟨RX12, "isUnder", "(II)Z"⟩
abbrev cX12_taken : ByteArray := prog_14_method_89_code
def yX12_taken : MethodName := ⟨RX12, "taken", "(II)I"⟩
def RJx145de : String := "java/io/Serializable"
def TJx145de : u_T := fun k => match k with
  | _ => ("", "", "", false)
def tyJx145de : Nat → FieldType := fun k => match k with
  | _ => .int
abbrev wsJx145de0 : List Cond := u_ws RJx145de TJx145de 0
theorem nmJx145de : ∀ a, a < 0 → ∀ b, b < 0 → a ≠ b → (TJx145de a).2.1 ≠ (TJx145de b).2.1 := by decide +kernel
theorem tyJx145de_ok : ∀ k, k < 0 → parseFieldDescriptor (TJx145de k).2.2.1 = some (tyJx145de k) := by decide +kernel
def RJx9f9b0 : String := "java/lang/CharSequence"
def TJx9f9b0 : u_T := fun k => match k with
  | _ => ("", "", "", false)
def tyJx9f9b0 : Nat → FieldType := fun k => match k with
  | _ => .int
abbrev wsJx9f9b00 : List Cond := u_ws RJx9f9b0 TJx9f9b0 0
theorem nmJx9f9b0 : ∀ a, a < 0 → ∀ b, b < 0 → a ≠ b → (TJx9f9b0 a).2.1 ≠ (TJx9f9b0 b).2.1 := by decide +kernel
theorem tyJx9f9b0_ok : ∀ k, k < 0 → parseFieldDescriptor (TJx9f9b0 k).2.2.1 = some (tyJx9f9b0 k) := by decide +kernel
def RJ11 : String := "java/lang/Character"
def TJ11 : u_T := fun k => match k with
  | _ => ("", "", "", false)
def tyJ11 : Nat → FieldType := fun k => match k with
  | _ => .int
abbrev wsJ110 : List Cond := u_ws RJ11 TJ11 0
theorem nmJ11 : ∀ a, a < 0 → ∀ b, b < 0 → a ≠ b → (TJ11 a).2.1 ≠ (TJ11 b).2.1 := by decide +kernel
theorem tyJ11_ok : ∀ k, k < 0 → parseFieldDescriptor (TJ11 k).2.2.1 = some (tyJ11 k) := by decide +kernel
abbrev cJ11_isValidCodePoint_9a6ad : ByteArray := prog_15_method_11_code
def yJ11_isValidCodePoint_9a6ad : MethodName := ⟨RJ11, "isValidCodePoint", "(I)Z"⟩
abbrev cJ11_highSurrogate_5068e : ByteArray := prog_15_method_28_code
def yJ11_highSurrogate_5068e : MethodName := ⟨RJ11, "highSurrogate", "(I)C"⟩
abbrev cJ11_lowSurrogate_5068e : ByteArray := prog_15_method_29_code
def yJ11_lowSurrogate_5068e : MethodName := ⟨RJ11, "lowSurrogate", "(I)C"⟩
def RJx8e188 : String := "java/lang/Cloneable"
def TJx8e188 : u_T := fun k => match k with
  | _ => ("", "", "", false)
def tyJx8e188 : Nat → FieldType := fun k => match k with
  | _ => .int
abbrev wsJx8e1880 : List Cond := u_ws RJx8e188 TJx8e188 0
theorem nmJx8e188 : ∀ a, a < 0 → ∀ b, b < 0 → a ≠ b → (TJx8e188 a).2.1 ≠ (TJx8e188 b).2.1 := by decide +kernel
theorem tyJx8e188_ok : ∀ k, k < 0 → parseFieldDescriptor (TJx8e188 k).2.2.1 = some (tyJx8e188 k) := by decide +kernel
def RJxb160c : String := "java/lang/Comparable"
def TJxb160c : u_T := fun k => match k with
  | _ => ("", "", "", false)
def tyJxb160c : Nat → FieldType := fun k => match k with
  | _ => .int
abbrev wsJxb160c0 : List Cond := u_ws RJxb160c TJxb160c 0
theorem nmJxb160c : ∀ a, a < 0 → ∀ b, b < 0 → a ≠ b → (TJxb160c a).2.1 ≠ (TJxb160c b).2.1 := by decide +kernel
theorem tyJxb160c_ok : ∀ k, k < 0 → parseFieldDescriptor (TJxb160c k).2.2.1 = some (tyJxb160c k) := by decide +kernel
def RJ9 : String := "java/lang/Math"
def TJ9 : u_T := fun k => match k with
  | _ => ("", "", "", false)
def tyJ9 : Nat → FieldType := fun k => match k with
  | _ => .int
abbrev wsJ90 : List Cond := u_ws RJ9 TJ9 0
theorem nmJ9 : ∀ a, a < 0 → ∀ b, b < 0 → a ≠ b → (TJ9 a).2.1 ≠ (TJ9 b).2.1 := by decide +kernel
theorem tyJ9_ok : ∀ k, k < 0 → parseFieldDescriptor (TJ9 k).2.2.1 = some (tyJ9 k) := by decide +kernel
abbrev cJ9_max_7cf53 : ByteArray := prog_17_method_65_code
def yJ9_max_7cf53 : MethodName := ⟨RJ9, "max", "(II)I"⟩
abbrev cJ9_min_7cf53 : ByteArray := prog_17_method_69_code
def yJ9_min_7cf53 : MethodName := ⟨RJ9, "min", "(II)I"⟩
def RJ0 : String := "java/lang/String"
def TJ0 : u_T := fun k => match k with
  | _ => ("", "", "", false)
def tyJ0 : Nat → FieldType := fun k => match k with
  | _ => .int
abbrev wsJ00 : List Cond := u_ws RJ0 TJ0 0
theorem nmJ0 : ∀ a, a < 0 → ∀ b, b < 0 → a ≠ b → (TJ0 a).2.1 ≠ (TJ0 b).2.1 := by decide +kernel
theorem tyJ0_ok : ∀ k, k < 0 → parseFieldDescriptor (TJ0 k).2.2.1 = some (tyJ0 k) := by decide +kernel
abbrev cJ0_length_8abf5 : ByteArray := prog_18_method_54_code
def yJ0_length_8abf5 : MethodName := ⟨RJ0, "length", "()I"⟩
abbrev cJ0_charAt_5068e : ByteArray := prog_18_method_56_code
def yJ0_charAt_5068e : MethodName := ⟨RJ0, "charAt", "(I)C"⟩
abbrev cJ0_indexOf_0f7a4 : ByteArray := prog_18_method_79_code
def yJ0_indexOf_0f7a4 : MethodName := ⟨RJ0, "indexOf", "(I)I"⟩
abbrev cJ0_indexOf_7cf53 : ByteArray := prog_18_method_80_code
def yJ0_indexOf_7cf53 : MethodName := ⟨RJ0, "indexOf", "(II)I"⟩
abbrev cJ0_coder_7d493 : ByteArray := prog_18_method_152_code
def yJ0_coder_7d493 : MethodName := ⟨RJ0, "coder", "()B"⟩
abbrev cJ0_isLatin1_aae02 : ByteArray := prog_18_method_154_code
def yJ0_isLatin1_aae02 : MethodName := ⟨RJ0, "isLatin1", "()Z"⟩
abbrev cJ0_checkIndex_df160 : ByteArray := prog_18_method_155_code
def yJ0_checkIndex_df160 : MethodName := ⟨RJ0, "checkIndex", "(II)V"⟩
abbrev cJ0_checkBoundsBeginEnd_23922 : ByteArray := prog_18_method_158_code
def yJ0_checkBoundsBeginEnd_23922 : MethodName := ⟨RJ0, "checkBoundsBeginEnd", "(III)V"⟩
def RJ1 : String := "java/lang/StringLatin1"
def TJ1 : u_T := fun k => match k with
  | _ => ("", "", "", false)
def tyJ1 : Nat → FieldType := fun k => match k with
  | _ => .int
abbrev wsJ10 : List Cond := u_ws RJ1 TJ1 0
theorem nmJ1 : ∀ a, a < 0 → ∀ b, b < 0 → a ≠ b → (TJ1 a).2.1 ≠ (TJ1 b).2.1 := by decide +kernel
theorem tyJ1_ok : ∀ k, k < 0 → parseFieldDescriptor (TJ1 k).2.2.1 = some (tyJ1 k) := by decide +kernel
abbrev cJ1_charAt_3b067 : ByteArray := prog_19_method_2_code
def yJ1_charAt_3b067 : MethodName := ⟨RJ1, "charAt", "([BI)C"⟩
abbrev cJ1_canEncode_9a6ad : ByteArray := prog_19_method_4_code
def yJ1_canEncode_9a6ad : MethodName := ⟨RJ1, "canEncode", "(I)Z"⟩
abbrev cJ1_indexOf_4cfef : ByteArray := prog_19_method_22_code
def yJ1_indexOf_4cfef : MethodName := ⟨RJ1, "indexOf", "([BIII)I"⟩
abbrev cJ1_indexOfChar_4cfef : ByteArray := prog_19_method_23_code
def yJ1_indexOfChar_4cfef : MethodName := ⟨RJ1, "indexOfChar", "([BIII)I"⟩
def RJ2 : String := "java/lang/StringUTF16"
def TJ2 : u_T := fun k => match k with
  | _ => ("", "", "", false)
def tyJ2 : Nat → FieldType := fun k => match k with
  | _ => .int
abbrev wsJ20 : List Cond := u_ws RJ2 TJ2 0
theorem nmJ2 : ∀ a, a < 0 → ∀ b, b < 0 → a ≠ b → (TJ2 a).2.1 ≠ (TJ2 b).2.1 := by decide +kernel
theorem tyJ2_ok : ∀ k, k < 0 → parseFieldDescriptor (TJ2 k).2.2.1 = some (tyJ2 k) := by decide +kernel
abbrev cJ2_getChar_3b067 : ByteArray := prog_20_method_5_code
def yJ2_getChar_3b067 : MethodName := ⟨RJ2, "getChar", "([BI)C"⟩
abbrev cJ2_length_9d52b : ByteArray := prog_20_method_6_code
def yJ2_length_9d52b : MethodName := ⟨RJ2, "length", "([B)I"⟩
abbrev cJ2_indexOf_4cfef : ByteArray := prog_20_method_40_code
def yJ2_indexOf_4cfef : MethodName := ⟨RJ2, "indexOf", "([BIII)I"⟩
abbrev cJ2_indexOfChar_4cfef : ByteArray := prog_20_method_47_code
def yJ2_indexOfChar_4cfef : MethodName := ⟨RJ2, "indexOfChar", "([BIII)I"⟩
abbrev cJ2_indexOfCharUnsafe_4cfef : ByteArray := prog_20_method_48_code
def yJ2_indexOfCharUnsafe_4cfef : MethodName := ⟨RJ2, "indexOfCharUnsafe", "([BIII)I"⟩
abbrev cJ2_indexOfSupplementary_4cfef : ByteArray := prog_20_method_49_code
def yJ2_indexOfSupplementary_4cfef : MethodName := ⟨RJ2, "indexOfSupplementary", "([BIII)I"⟩
abbrev cJ2_charAt_3b067 : ByteArray := prog_20_method_83_code
def yJ2_charAt_3b067 : MethodName := ⟨RJ2, "charAt", "([BI)C"⟩
abbrev cJ2_checkIndex_2214a : ByteArray := prog_20_method_91_code
def yJ2_checkIndex_2214a : MethodName := ⟨RJ2, "checkIndex", "(I[B)V"⟩
abbrev cJ2_checkBoundsBeginEnd_d044e : ByteArray := prog_20_method_93_code
def yJ2_checkBoundsBeginEnd_d044e : MethodName := ⟨RJ2, "checkBoundsBeginEnd", "(II[B)V"⟩
def RJ10 : String := "java/lang/System"
def TJ10 : u_T := fun k => match k with
  | _ => ("", "", "", false)
def tyJ10 : Nat → FieldType := fun k => match k with
  | _ => .int
abbrev wsJ100 : List Cond := u_ws RJ10 TJ10 0
theorem nmJ10 : ∀ a, a < 0 → ∀ b, b < 0 → a ≠ b → (TJ10 a).2.1 ≠ (TJ10 b).2.1 := by decide +kernel
theorem tyJ10_ok : ∀ k, k < 0 → parseFieldDescriptor (TJ10 k).2.2.1 = some (tyJ10 k) := by decide +kernel
def RJxfd54e : String := "java/lang/constant/Constable"
def TJxfd54e : u_T := fun k => match k with
  | _ => ("", "", "", false)
def tyJxfd54e : Nat → FieldType := fun k => match k with
  | _ => .int
abbrev wsJxfd54e0 : List Cond := u_ws RJxfd54e TJxfd54e 0
theorem nmJxfd54e : ∀ a, a < 0 → ∀ b, b < 0 → a ≠ b → (TJxfd54e a).2.1 ≠ (TJxfd54e b).2.1 := by decide +kernel
theorem tyJxfd54e_ok : ∀ k, k < 0 → parseFieldDescriptor (TJxfd54e k).2.2.1 = some (tyJxfd54e k) := by decide +kernel
def RJx3cf43 : String := "java/lang/constant/ConstantDesc"
def TJx3cf43 : u_T := fun k => match k with
  | _ => ("", "", "", false)
def tyJx3cf43 : Nat → FieldType := fun k => match k with
  | _ => .int
abbrev wsJx3cf430 : List Cond := u_ws RJx3cf43 TJx3cf43 0
theorem nmJx3cf43 : ∀ a, a < 0 → ∀ b, b < 0 → a ≠ b → (TJx3cf43 a).2.1 ≠ (TJx3cf43 b).2.1 := by decide +kernel
theorem tyJx3cf43_ok : ∀ k, k < 0 → parseFieldDescriptor (TJx3cf43 k).2.2.1 = some (tyJx3cf43 k) := by decide +kernel
def RJ7 : String := "java/util/Arrays"
def TJ7 : u_T := fun k => match k with
  | _ => ("", "", "", false)
def tyJ7 : Nat → FieldType := fun k => match k with
  | _ => .int
abbrev wsJ70 : List Cond := u_ws RJ7 TJ7 0
theorem nmJ7 : ∀ a, a < 0 → ∀ b, b < 0 → a ≠ b → (TJ7 a).2.1 ≠ (TJ7 b).2.1 := by decide +kernel
theorem tyJ7_ok : ∀ k, k < 0 → parseFieldDescriptor (TJ7 k).2.2.1 = some (tyJ7 k) := by decide +kernel
abbrev cJ7_fill_53178 : ByteArray := prog_22_method_103_code
def yJ7_fill_53178 : MethodName := ⟨RJ7, "fill", "([II)V"⟩
abbrev cJ7_copyOf_59c91 : ByteArray := prog_22_method_123_code
def yJ7_copyOf_59c91 : MethodName := ⟨RJ7, "copyOf", "([II)[I"⟩
def RJ3 : String := "jdk/internal/util/Preconditions"
def TJ3 : u_T := fun k => match k with
  | _ => ("", "", "", false)
def tyJ3 : Nat → FieldType := fun k => match k with
  | _ => .int
abbrev wsJ30 : List Cond := u_ws RJ3 TJ3 0
theorem nmJ3 : ∀ a, a < 0 → ∀ b, b < 0 → a ≠ b → (TJ3 a).2.1 ≠ (TJ3 b).2.1 := by decide +kernel
theorem tyJ3_ok : ∀ k, k < 0 → parseFieldDescriptor (TJ3 k).2.2.1 = some (tyJ3 k) := by decide +kernel
abbrev cJ3_checkIndex_8e157 : ByteArray := prog_23_method_11_code
def yJ3_checkIndex_8e157 : MethodName := ⟨RJ3, "checkIndex", "(IILjava/util/function/BiFunction;)I"⟩
abbrev cJ3_checkFromToIndex_8c36e : ByteArray := prog_23_method_12_code
def yJ3_checkFromToIndex_8c36e : MethodName := ⟨RJ3, "checkFromToIndex", "(IIILjava/util/function/BiFunction;)I"⟩
def RL : String := "UnlikeCoinsLaw"
abbrev cL_law : ByteArray := code
def yL_law : MethodName := ⟨RL, "law", "([I)Z"⟩
abbrev vwCl : List vw_C := [(RX0, TX0, 2), (RX1, TX1, 2), (RX2, TX2, 6), (RX3, TX3, 2), (RX4, TX4, 3), (RX5, TX5, 10), (RX6, TX6, 2), (RX7, TX7, 3), (RX8, TX8, 2), (RX9, TX9, 2), (RX10, TX10, 4), (RX11, TX11, 15), (RX12, TX12, 40)]
end
section
def gw_tbl : List Cond := lw_tbl.filter goodWord
theorem gw_mem {w : Cond} {i : Nat} (h : tables_1[i]? = some w) (hg : goodWord w = true) : w ∈ gw_tbl := List.mem_filter.mpr ⟨List.mem_append_right _ (List.mem_of_getElem? h), hg⟩
theorem gw_sel {q : MethodName × Nat} {i : Nat} (h : lw_privs[i]? = some q) (hg : goodWord (Cond.selects q.1.cls q.1 q.1) = true) : Cond.selects q.1.cls q.1 q.1 ∈ gw_tbl := List.mem_filter.mpr ⟨List.mem_append_left _ (List.mem_map.mpr ⟨q, List.mem_of_getElem? h, rfl⟩), hg⟩
theorem gw_good : ∀ w ∈ gw_tbl, goodWord w = true := fun _ h => (List.mem_filter.mp h).2
/-! THE WORLD AS NUMBERS: every cell that the law makes has a number from 8 on (in the order of making); 0 is the script, 1 .. 3 are string constants. Zs: how many cells, what each is (a class' place in vwCl; 100 int[], 101 Sort[], 102 Purse[], 103 Text[], 104 Sheet[]; 105 and above: nothing here), lengths, references; Is: all ints (fields by their slot, arrays by their index). -/
abbrev Mth : Type := MethodName × ByteArray × Nat × Option FieldType
abbrev Is : Type := Nat → Nat → Int32
abbrev Zs : Type := Nat × (Nat → Nat) × (Nat → Nat) × (Nat → Nat → Option Nat)
def zN (z : Zs) : Nat := z.1
def zT (z : Zs) : Nat → Nat := z.2.1
def zL (z : Zs) : Nat → Nat := z.2.2.1
def zP (z : Zs) : Nat → Nat → Option Nat := z.2.2.2
def up1 {α : Type} (f : Nat → α) (a : Nat) (v : α) : Nat → α := fun b => if b = a then v else f b
def up2 {α : Type} (f : Nat → Nat → α) (a i : Nat) (v : α) : Nat → Nat → α := fun b j => if b = a then (if j = i then v else f b j) else f b j
/-- the globals: first cell of ours, cells of the specials, class tables, array classes, lengths and values of the specials (the script; 1 .. 3 the String constants, 4 .. 6 their bytes), what holds outside -/
abbrev Gt : Type := Nat × (Nat → Nat) × va_G × (Nat → ClassId) × (Nat → Nat) × (Nat → Nat → Int32) × (State → Heap → Prop)
def g0 (g : Gt) : Nat := g.1
def gD (g : Gt) : va_G := g.2.2.1
def gA (g : Gt) : Nat → ClassId := g.2.2.2.1
def gL (g : Gt) : Nat → Nat := g.2.2.2.2.1
def gxs (g : Gt) : Nat → Nat → Int32 := g.2.2.2.2.2.1
def gX (g : Gt) : State → Heap → Prop := g.2.2.2.2.2.2
def ad (g : Gt) (k : Nat) : Nat := if k < 8 then g.2.1 k else g0 g + (k - 8)
def lf (g : Gt) : Value → Value
  | .ref k => .ref (ad g k)
  | v => v
def lfs (g : Gt) (lv : List (Nat × Value)) : List (Nat × Value) := lv.map (fun q => (q.1, lf g q.2))
def tyC (ci : Nat) : Nat → FieldType := ([tyX0, tyX1, tyX2, tyX3, tyX4, tyX5, tyX6, tyX7, tyX8, tyX9, tyX10, tyX11, tyX12] : List (Nat → FieldType)).getD ci tyX0
def clN (ci : Nat) : Nat := ([2, 2, 6, 2, 3, 10, 2, 3, 2, 2, 4, 15, 40] : List Nat).getD ci 0
def isR (ci j : Nat) : Bool := match tyC ci j with
  | .array _ => true
  | .object _ => true
  | _ => false
def fv (g : Gt) (z : Zs) (I : Is) (k ci j : Nat) : Value := bif isR ci j then va_rf ((zP z k j).map (ad g)) else .int (I k j)
def elm (g : Gt) (z : Zs) (I : Is) (k : Nat) : va_E :=
  if zT z k < 100 then .inr (zT z k, (List.range (clN (zT z k))).map (fv g z I k (zT z k)))
  else if zT z k = 100 then .inl (gA g 0, zL z k, .inl (I k))
  else .inl (gA g (zT z k - 100), zL z k, .inr (.inr (.inr (.inr (fun i => (zP z k i).map (ad g))))))
def wsO (g : Gt) (z : Zs) (I : Is) : va_W := (List.range (zN z - 8)).map (fun j => (g0 g + j, elm g z I (j + 8)))
def tysG (g : Gt) : List (ClassId × FieldType) := [(gA g 0, .int), (gA g 1, .object RX8), (gA g 2, .object RX4), (gA g 3, .object RX10), (gA g 4, .object RX7)]
def GX (g : Gt) : Prop := (∀ (u U : State) (H : Heap), u.WarmedH U.vm → gX g u H → gX g U H) ∧ (∀ (U : State) (H H1 : Heap), g0 g ≤ H.size → (∀ q, q < g0 g → H1[q]? = H[q]?) → gX g U H → gX g U H1)
def sT (k : Nat) : Nat := ([105, 107, 107, 107, 106, 106, 106, 108] : List Nat).getD k 108
def Wh (g : Gt) (z : Zs) (I : Is) (H : Heap) : Prop :=
  8 ≤ zN z ∧ (∀ k, (k < 8 ∨ zN z ≤ k) → 105 ≤ zT z k) ∧ (∀ k, zT z k < 100 → zT z k < 13) ∧ va_P (gD g) vwCl (wsO g z I) H ∧ H.size = g0 g + (zN z - 8) ∧ ∀ k, k < 8 → zT z k = sT k ∧ zL z k = gL g k ∧ I k = gxs g k
def Cx (g : Gt) (p : Program) (y : Mth) (s : State) (m : MethodId) (args : Array Value) (meth : Method) (c : Code) : Prop :=
  p.tables.exec = Jvm.exec ∧ c.code = y.2.1 ∧ c.maxLocals = y.2.2.1 ∧ meth.sig.returnType = y.2.2.2 ∧ s.vm.findClass y.1.cls = some m.cls ∧ (∀ w ∈ gw_tbl, w.before args s = true) ∧ meth.locks = false ∧ meth.name = y.1.name ∧ va_K (gD g) vwCl (tysG g) s ∧ GX g
def Fa (g : Gt) : Nat → Prop := fun q => g0 g ≤ q
def Qm (g : Gt) (Q : Option Value → Zs → Is → Prop) : Array Value → State → Outcome → State → Prop := fun _ st oc t =>
  (∃ (v : Option Value) (z : Zs) (I : Is), oc = .returned (v.map (lf g)) ∧ Q v z I ∧ Wh g z I t.heap) ∧ st.heap.size ≤ t.heap.size ∧ ∀ q : Nat, q < g0 g → t.heap[q]? = st.heap[q]?
/-- a method stands at pc with these locals, this stack, this world, and with room for d calls, rc cells of rs slots: it comes to its end, and there Q -/
def WPc (g : Gt) (y : Mth) (d rc rs pc : Nat) (lv : List (Nat × Value)) (st : List Value) (z : Zs) (I : Is) (Q : Option Value → Zs → Is → Prop) : Prop :=
  ∀ (p : Program) (l : Launch) (e : Env) (R : Room) (s : State) (m : MethodId) (args : Array Value) (below : List Frame) (meth : Method) (c : Code) (H : Heap) (locs : List Loc) (cells slots : Nat) (ls : Array Slot),
    Cx g p y s m args meth c → d ≤ R.frames → 41 * d ≤ R.locals → cells + rc ≤ R.cells → slots + rs ≤ R.slots → gX g s H → Wh g z I H → va_S (Fa g) s.heap H locs → g0 g ≤ s.heap.size → lv_has ls y.2.2.1 (lfs g lv) →
    W p l e R s m args below meth c H locs cells slots (MQ below (Qm g Q) args s R.cells R.slots (Fa g)) (F0 m pc ls (st.map (lf g)))
def WS (y : Mth) : List Cond := .code y.1 y.2.1 y.2.2.1 y.2.2.2 :: gw_tbl
def rmO (d rc rs : Nat) : Room := { frames := d, cells := rc, slots := rs, locals := 41 * d }
def Pm (g : Gt) (args : List Value) (z : Zs) (I : Is) : Array Value → State → Prop := va_Pc (args.map (lf g)) (fun U => va_K (gD g) vwCl (tysG g) U ∧ GX g ∧ gX g U U.heap ∧ Wh g z I U.heap)
/-- the contract of a method for these arguments in this world -/
def WPm (g : Gt) (y : Mth) (d rc rs : Nat) (args : List Value) (z : Zs) (I : Is) (Q : Option Value → Zs → Is → Prop) : Prop :=
  ∀ l : Launch, Met l y.1 (WS y) (rmO d rc rs) (Pm g args z I) (Qm g Q) rc rs (Fa g)
def WPv (g : Gt) (y : Mth) (d rc rs : Nat) (args : List Value) (z : Zs) (I : Is) (K : Zs → Is → Prop) : Prop := WPm g y d rc rs args z I (fun v z I => v = none ∧ K z I)
def WPi (g : Gt) (y : Mth) (d rc rs : Nat) (args : List Value) (z : Zs) (I : Is) (K : Int32 → Zs → Is → Prop) : Prop := WPm g y d rc rs args z I (fun v z I => ∃ x, v = some (.int x) ∧ K x z I)
def WPl (g : Gt) (y : Mth) (d rc rs : Nat) (args : List Value) (z : Zs) (I : Is) (K : Int64 → Zs → Is → Prop) : Prop := WPm g y d rc rs args z I (fun v z I => ∃ x, v = some (.long x) ∧ K x z I)
def WPr (g : Gt) (y : Mth) (d rc rs : Nat) (args : List Value) (z : Zs) (I : Is) (K : Option Nat → Zs → Is → Prop) : Prop := WPm g y d rc rs args z I (fun v z I => ∃ x, v = some (va_rf x) ∧ K x z I)
-- small facts of the world
theorem lf_cat (g : Gt) (v : Value) : (lf g v).category = v.category := by cases v <;> rfl
theorem lfs_args (g : Gt) : ∀ (vs : List Value) (i : Nat), lv_args i (vs.map (lf g)) = lfs g (lv_args i vs)
  | [], _ => rfl
  | v :: vs, i => by
    show (i, lf g v) :: lv_args _ (vs.map (lf g)) = (i, lf g v) :: lfs g (lv_args _ vs)
    rw [lf_cat, lfs_args g vs]
theorem lg_sl_lf (g : Gt) (vs : List Value) : (lg_sl (vs.map (lf g))).length = (lg_sl vs).length := by
  induction vs with
  | nil => rfl
  | cons v vs ih =>
    simp only [lg_sl, List.map_cons, List.flatMap_cons, List.length_append, lf_cat] at ih ⊢
    rw [ih]
    congr 1
    by_cases h : v.category = 2 <;> simp [h]
theorem wsO_get {g : Gt} {z : Zs} {I : Is} {k : Nat} (h : 8 ≤ k) (h2 : k < zN z) : (wsO g z I)[k - 8]? = some (ad g k, elm g z I k) := by
  unfold wsO
  rw [List.getElem?_map, List.getElem?_range (by omega)]
  simp only [Option.map_some]
  rw [show k - 8 + 8 = k by omega]
  unfold ad
  rw [if_neg (by omega)]
theorem wsO_D (g : Gt) (z : Zs) (I : Is) : va_D (Fa g) (wsO g z I) := by
  have h : ∀ (i : Nat) (p : Nat × va_E), (wsO g z I)[i]? = some p → p.1 = g0 g + i := by
    intro i p hp
    unfold wsO at hp
    rw [List.getElem?_map] at hp
    cases h2 : (List.range (zN z - 8))[i]? with
    | none => rw [h2] at hp; cases hp
    | some j =>
      rw [h2] at hp
      have hj := (List.getElem?_eq_some_iff.mp h2)
      obtain ⟨h3, h4⟩ := hj
      rw [List.getElem_range] at h4
      subst h4
      cases hp
      rfl
  refine ⟨fun i j p q hi hj he => ?_, fun k q hq => ?_⟩
  · have := h i p hi
    have := h j q hj
    omega
  · show g0 g ≤ q.1
    have := h k q hq
    omega
theorem Wh.inN {g : Gt} {z : Zs} {I : Is} {H : Heap} (h : Wh g z I H) {k : Nat} (hk : zT z k < 105) : 8 ≤ k ∧ k < zN z := by
  rcases Nat.lt_or_ge k 8 with q | q
  · have := h.2.1 k (Or.inl q); omega
  · rcases Nat.lt_or_ge k (zN z) with r | r
    · exact ⟨q, r⟩
    · have := h.2.1 k (Or.inr r); omega
theorem elm_obj {g : Gt} {z : Zs} {I : Is} {k ci : Nat} (h : zT z k = ci) (hc : ci < 100) : elm g z I k = .inr (ci, (List.range (clN ci)).map (fv g z I k ci)) := by
  unfold elm
  rw [h, if_pos hc]
theorem elm_int {g : Gt} {z : Zs} {I : Is} {k : Nat} (h : zT z k = 100) : elm g z I k = .inl (gA g 0, zL z k, .inl (I k)) := by
  unfold elm
  rw [h, if_neg (by decide), if_pos rfl]
theorem elm_ref {g : Gt} {z : Zs} {I : Is} {k : Nat} (h : 101 ≤ zT z k) : elm g z I k = .inl (gA g (zT z k - 100), zL z k, .inr (.inr (.inr (.inr (fun i => (zP z k i).map (ad g)))))) := by
  unfold elm
  rw [if_neg (by omega), if_neg (by omega)]
theorem fs_get {g : Gt} {z : Zs} {I : Is} {k ci j : Nat} (h : j < clN ci) : ((List.range (clN ci)).map (fv g z I k ci))[j]? = some (fv g z I k ci j) := by
  rw [List.getElem?_map, List.getElem?_range h]
  rfl
/-- another world with the same cells but one -/
theorem wsO_set {g : Gt} {z z' : Zs} {I I' : Is} {k : Nat} (h : 8 ≤ k) (hN : zN z' = zN z) (ho : ∀ j, j ≠ k → elm g z' I' j = elm g z I j) : (wsO g z I).set (k - 8) (ad g k, elm g z' I' k) = wsO g z' I' := by
  apply List.ext_getElem?
  intro i
  rw [List.getElem?_set]
  by_cases hi : k - 8 = i
  · rw [if_pos hi]
    by_cases hl : i < (wsO g z I).length
    · rw [if_pos (by rw [hi]; exact hl)]
      have hl2 : i < zN z - 8 := by simpa [wsO] using hl
      rw [show i = k - 8 by omega, wsO_get h (by omega)]
    · rw [if_neg (by rw [hi]; exact hl)]
      have hl2 : ¬ i < zN z - 8 := by simpa [wsO] using hl
      symm
      rw [List.getElem?_eq_none_iff]
      simp only [wsO, List.length_map, List.length_range, hN]
      omega
  · rw [if_neg hi]
    unfold wsO
    rw [List.getElem?_map, List.getElem?_map, hN]
    by_cases hl : i < zN z - 8
    · rw [List.getElem?_range hl]
      simp only [Option.map_some]
      rw [ho (i + 8) (by omega)]
    · rw [List.getElem?_eq_none_iff.mpr (by simpa using hl)]
      rfl
theorem lf_rf (g : Gt) (o : Option Nat) : lf g (va_rf o) = va_rf (o.map (ad g)) := by cases o <;> rfl
theorem lfs_look {g : Gt} {ls : Array Slot} {nL : Nat} {lv : List (Nat × Value)} (h : lv_has ls nL (lfs g lv)) {i : Nat} {v : Value} (hm : (i, v) ∈ lv) : ls[i]? = some (.val (lf g v)) :=
  h.2.2 (i, lf g v) (List.mem_map.mpr ⟨(i, v), hm, rfl⟩)
/-- the locals of a list, looked up -/
def lk (lv : List (Nat × Value)) (i : Nat) : Option Value := match lv with
  | [] => none
  | (j, v) :: r => bif Nat.beq j i then some v else lk r i
theorem lk_mem : ∀ {lv : List (Nat × Value)} {i : Nat} {v : Value}, lk lv i = some v → (i, v) ∈ lv
  | [], _, _, h => by cases h
  | (j, w) :: r, i, v, h => by
    unfold lk at h
    cases hb : Nat.beq j i with
    | true =>
      rw [hb] at h
      have e : j = i := Nat.eq_of_beq_eq_true hb
      subst e
      cases h
      exact List.mem_cons_self
    | false =>
      rw [hb] at h
      exact List.mem_cons_of_mem _ (lk_mem h)
/-- a store into the locals -/
def lst (lv : List (Nat × Value)) (i : Nat) (v : Value) : List (Nat × Value) := (i, v) :: lv.filter (fun q => !(q.1 == i) && !(q.1 + 1 == i && q.2.category == 2))
def lst2 (lv : List (Nat × Value)) (i : Nat) (v : Value) : List (Nat × Value) := (i, v) :: lv.filter (fun q => !(q.1 == i) && (!(q.1 == i + 1) && !(q.1 + 1 == i && q.2.category == 2)))
theorem lfs_lst (g : Gt) (lv : List (Nat × Value)) (i : Nat) (v : Value) : (i, lf g v) :: (lfs g lv).filter (fun q => !(q.1 == i) && !(q.1 + 1 == i && q.2.category == 2)) = lfs g (lst lv i v) := by
  show _ = (i, lf g v) :: (List.filter _ lv).map _
  unfold lfs
  rw [List.filter_map]
  congr 2
  apply List.filter_congr
  intro q _
  simp [lf_cat]
theorem lfs_lst2 (g : Gt) (lv : List (Nat × Value)) (i : Nat) (v : Value) : (i, lf g v) :: (lfs g lv).filter (fun q => !(q.1 == i) && (!(q.1 == i + 1) && !(q.1 + 1 == i && q.2.category == 2))) = lfs g (lst2 lv i v) := by
  show _ = (i, lf g v) :: (List.filter _ lv).map _
  unfold lfs
  rw [List.filter_map]
  congr 2
  apply List.filter_congr
  intro q _
  simp [lf_cat]
/-- fewer locals -/
theorem lfs_sub {g : Gt} {ls : Array Slot} {nL : Nat} {lv lv' : List (Nat × Value)} (h : lv_has ls nL (lfs g lv)) (hs : ∀ q ∈ lv', q ∈ lv) : lv_has ls nL (lfs g lv') := by
  refine ⟨h.1, h.2.1, fun q hq => ?_⟩
  obtain ⟨q', h1, h2⟩ := List.mem_map.mp hq
  exact h.2.2 q (List.mem_map.mpr ⟨q', hs q' h1, h2⟩)
end
section
section RULES1
variable {g : Gt} {y : Mth} {d rc rs pc : Nat} {lv : List (Nat × Value)} {st : List Value} {z : Zs} {I : Is} {Q : Option Value → Zs → Is → Prop}
theorem r_iadd {x y0 : Int32} (hd : decode y.2.1 pc = .ok (.iadd, 1))  (k : WPc g y d rc rs (pc + 1) lv (.int (x + y0) :: st) z I Q) : WPc g y d rc rs (pc) lv (.int y0 :: .int x :: st) z I Q := fun p l e R s m args below meth c H locs cells slots ls C h1 h2 h3 h4 hX hW hS hg hl => lv_iadd C.1 C.2.1 hd (k p l e R s m args below meth c H locs cells slots ls C h1 h2 h3 h4 hX hW hS hg hl)
theorem r_isub {x y0 : Int32} (hd : decode y.2.1 pc = .ok (.isub, 1))  (k : WPc g y d rc rs (pc + 1) lv (.int (x - y0) :: st) z I Q) : WPc g y d rc rs (pc) lv (.int y0 :: .int x :: st) z I Q := fun p l e R s m args below meth c H locs cells slots ls C h1 h2 h3 h4 hX hW hS hg hl => lv_isub C.1 C.2.1 hd (k p l e R s m args below meth c H locs cells slots ls C h1 h2 h3 h4 hX hW hS hg hl)
theorem r_imul {x y0 : Int32} (hd : decode y.2.1 pc = .ok (.imul, 1))  (k : WPc g y d rc rs (pc + 1) lv (.int (x * y0) :: st) z I Q) : WPc g y d rc rs (pc) lv (.int y0 :: .int x :: st) z I Q := fun p l e R s m args below meth c H locs cells slots ls C h1 h2 h3 h4 hX hW hS hg hl => lv_imul C.1 C.2.1 hd (k p l e R s m args below meth c H locs cells slots ls C h1 h2 h3 h4 hX hW hS hg hl)
theorem r_iand {x y0 : Int32} (hd : decode y.2.1 pc = .ok (.iand, 1))  (k : WPc g y d rc rs (pc + 1) lv (.int (x &&& y0) :: st) z I Q) : WPc g y d rc rs (pc) lv (.int y0 :: .int x :: st) z I Q := fun p l e R s m args below meth c H locs cells slots ls C h1 h2 h3 h4 hX hW hS hg hl => lv_iand C.1 C.2.1 hd (k p l e R s m args below meth c H locs cells slots ls C h1 h2 h3 h4 hX hW hS hg hl)
theorem r_ior {x y0 : Int32} (hd : decode y.2.1 pc = .ok (.ior, 1))  (k : WPc g y d rc rs (pc + 1) lv (.int (x ||| y0) :: st) z I Q) : WPc g y d rc rs (pc) lv (.int y0 :: .int x :: st) z I Q := fun p l e R s m args below meth c H locs cells slots ls C h1 h2 h3 h4 hX hW hS hg hl => lv_ior C.1 C.2.1 hd (k p l e R s m args below meth c H locs cells slots ls C h1 h2 h3 h4 hX hW hS hg hl)
theorem r_ishl {x y0 : Int32} (hd : decode y.2.1 pc = .ok (.ishl, 1))  (k : WPc g y d rc rs (pc + 1) lv (.int (x <<< (y0 &&& 31)) :: st) z I Q) : WPc g y d rc rs (pc) lv (.int y0 :: .int x :: st) z I Q := fun p l e R s m args below meth c H locs cells slots ls C h1 h2 h3 h4 hX hW hS hg hl => lv_ishl C.1 C.2.1 hd (k p l e R s m args below meth c H locs cells slots ls C h1 h2 h3 h4 hX hW hS hg hl)
theorem r_ishr {x y0 : Int32} (hd : decode y.2.1 pc = .ok (.ishr, 1))  (k : WPc g y d rc rs (pc + 1) lv (.int (x >>> (y0 &&& 31)) :: st) z I Q) : WPc g y d rc rs (pc) lv (.int y0 :: .int x :: st) z I Q := fun p l e R s m args below meth c H locs cells slots ls C h1 h2 h3 h4 hX hW hS hg hl => lv_ishr C.1 C.2.1 hd (k p l e R s m args below meth c H locs cells slots ls C h1 h2 h3 h4 hX hW hS hg hl)
theorem r_idiv {x y0 : Int32} (hd : decode y.2.1 pc = .ok (.idiv, 1)) (hne : ¬ y0 = 0) (k : WPc g y d rc rs (pc + 1) lv (.int (x / y0) :: st) z I Q) : WPc g y d rc rs (pc) lv (.int y0 :: .int x :: st) z I Q := fun p l e R s m args below meth c H locs cells slots ls C h1 h2 h3 h4 hX hW hS hg hl => lv_idiv C.1 C.2.1 hd hne (k p l e R s m args below meth c H locs cells slots ls C h1 h2 h3 h4 hX hW hS hg hl)
theorem r_irem {x y0 : Int32} (hd : decode y.2.1 pc = .ok (.irem, 1)) (hne : ¬ y0 = 0) (k : WPc g y d rc rs (pc + 1) lv (.int (x - x / y0 * y0) :: st) z I Q) : WPc g y d rc rs (pc) lv (.int y0 :: .int x :: st) z I Q := fun p l e R s m args below meth c H locs cells slots ls C h1 h2 h3 h4 hX hW hS hg hl => lv_irem C.1 C.2.1 hd hne (k p l e R s m args below meth c H locs cells slots ls C h1 h2 h3 h4 hX hW hS hg hl)
theorem r_ladd {x y0 : Int64} (hd : decode y.2.1 pc = .ok (.ladd, 1))  (k : WPc g y d rc rs (pc + 1) lv (.long (x + y0) :: st) z I Q) : WPc g y d rc rs (pc) lv (.long y0 :: .long x :: st) z I Q := fun p l e R s m args below meth c H locs cells slots ls C h1 h2 h3 h4 hX hW hS hg hl => lv_ladd C.1 C.2.1 hd (k p l e R s m args below meth c H locs cells slots ls C h1 h2 h3 h4 hX hW hS hg hl)
theorem r_lmul {x y0 : Int64} (hd : decode y.2.1 pc = .ok (.lmul, 1))  (k : WPc g y d rc rs (pc + 1) lv (.long (x * y0) :: st) z I Q) : WPc g y d rc rs (pc) lv (.long y0 :: .long x :: st) z I Q := fun p l e R s m args below meth c H locs cells slots ls C h1 h2 h3 h4 hX hW hS hg hl => lv_lmul C.1 C.2.1 hd (k p l e R s m args below meth c H locs cells slots ls C h1 h2 h3 h4 hX hW hS hg hl)
theorem r_ldiv {x y0 : Int64} (hd : decode y.2.1 pc = .ok (.ldiv, 1)) (hne : ¬ y0 = 0) (k : WPc g y d rc rs (pc + 1) lv (.long (x / y0) :: st) z I Q) : WPc g y d rc rs (pc) lv (.long y0 :: .long x :: st) z I Q := fun p l e R s m args below meth c H locs cells slots ls C h1 h2 h3 h4 hX hW hS hg hl => lv_ldiv C.1 C.2.1 hd hne (k p l e R s m args below meth c H locs cells slots ls C h1 h2 h3 h4 hX hW hS hg hl)
theorem r_lrem {x y0 : Int64} (hd : decode y.2.1 pc = .ok (.lrem, 1)) (hne : ¬ y0 = 0) (k : WPc g y d rc rs (pc + 1) lv (.long (x - x / y0 * y0) :: st) z I Q) : WPc g y d rc rs (pc) lv (.long y0 :: .long x :: st) z I Q := fun p l e R s m args below meth c H locs cells slots ls C h1 h2 h3 h4 hX hW hS hg hl => lv_lrem C.1 C.2.1 hd hne (k p l e R s m args below meth c H locs cells slots ls C h1 h2 h3 h4 hX hW hS hg hl)
theorem r_lcmp {x y0 : Int64} (hd : decode y.2.1 pc = .ok (.lcmp, 1))  (k : WPc g y d rc rs (pc + 1) lv (.int (lg_cmp x y0) :: st) z I Q) : WPc g y d rc rs (pc) lv (.long y0 :: .long x :: st) z I Q := fun p l e R s m args below meth c H locs cells slots ls C h1 h2 h3 h4 hX hW hS hg hl => W.lcmp C.1 C.2.1 hd (k p l e R s m args below meth c H locs cells slots ls C h1 h2 h3 h4 hX hW hS hg hl)
theorem r_ineg {x : Int32} (hd : decode y.2.1 pc = .ok (.ineg, 1))  (k : WPc g y d rc rs (pc + 1) lv (.int (-x) :: st) z I Q) : WPc g y d rc rs (pc) lv (.int x :: st) z I Q := fun p l e R s m args below meth c H locs cells slots ls C h1 h2 h3 h4 hX hW hS hg hl => lv_ineg C.1 C.2.1 hd (k p l e R s m args below meth c H locs cells slots ls C h1 h2 h3 h4 hX hW hS hg hl)
theorem r_i2l {x : Int32} (hd : decode y.2.1 pc = .ok (.i2l, 1))  (k : WPc g y d rc rs (pc + 1) lv (.long (x.toInt64) :: st) z I Q) : WPc g y d rc rs (pc) lv (.int x :: st) z I Q := fun p l e R s m args below meth c H locs cells slots ls C h1 h2 h3 h4 hX hW hS hg hl => lv_i2l C.1 C.2.1 hd rfl (k p l e R s m args below meth c H locs cells slots ls C h1 h2 h3 h4 hX hW hS hg hl)
theorem r_l2i {x : Int64} (hd : decode y.2.1 pc = .ok (.l2i, 1))  (k : WPc g y d rc rs (pc + 1) lv (.int (x.toInt32) :: st) z I Q) : WPc g y d rc rs (pc) lv (.long x :: st) z I Q := fun p l e R s m args below meth c H locs cells slots ls C h1 h2 h3 h4 hX hW hS hg hl => lv_l2i C.1 C.2.1 hd rfl (k p l e R s m args below meth c H locs cells slots ls C h1 h2 h3 h4 hX hW hS hg hl)
theorem r_i2b {x : Int32} (hd : decode y.2.1 pc = .ok (.i2b, 1))  (k : WPc g y d rc rs (pc + 1) lv (.int (x.toInt8.toInt32) :: st) z I Q) : WPc g y d rc rs (pc) lv (.int x :: st) z I Q := fun p l e R s m args below meth c H locs cells slots ls C h1 h2 h3 h4 hX hW hS hg hl => lv_i2b C.1 C.2.1 hd rfl (k p l e R s m args below meth c H locs cells slots ls C h1 h2 h3 h4 hX hW hS hg hl)
theorem r_i2s {x : Int32} (hd : decode y.2.1 pc = .ok (.i2s, 1))  (k : WPc g y d rc rs (pc + 1) lv (.int (x.toInt16.toInt32) :: st) z I Q) : WPc g y d rc rs (pc) lv (.int x :: st) z I Q := fun p l e R s m args below meth c H locs cells slots ls C h1 h2 h3 h4 hX hW hS hg hl => lv_i2s C.1 C.2.1 hd rfl (k p l e R s m args below meth c H locs cells slots ls C h1 h2 h3 h4 hX hW hS hg hl)
theorem r_i2c {x : Int32} (hd : decode y.2.1 pc = .ok (.i2c, 1))  (k : WPc g y d rc rs (pc + 1) lv (.int ((x.toUInt32 % 65536).toInt32) :: st) z I Q) : WPc g y d rc rs (pc) lv (.int x :: st) z I Q := fun p l e R s m args below meth c H locs cells slots ls C h1 h2 h3 h4 hX hW hS hg hl => lv_i2c C.1 C.2.1 hd rfl (k p l e R s m args below meth c H locs cells slots ls C h1 h2 h3 h4 hX hW hS hg hl)
theorem r_iconst {n : Int} (hd : decode y.2.1 pc = .ok (.iconst n, 1))  (k : WPc g y d rc rs (pc + 1) lv (.int (Int32.ofInt n) :: st) z I Q) : WPc g y d rc rs (pc) lv (st) z I Q := fun p l e R s m args below meth c H locs cells slots ls C h1 h2 h3 h4 hX hW hS hg hl => lv_iconst C.1 C.2.1 hd rfl (k p l e R s m args below meth c H locs cells slots ls C h1 h2 h3 h4 hX hW hS hg hl)
theorem r_bipush {n : Int} (hd : decode y.2.1 pc = .ok (.bipush n, 2))  (k : WPc g y d rc rs (pc + 2) lv (.int (Int8.ofInt n).toInt32 :: st) z I Q) : WPc g y d rc rs (pc) lv (st) z I Q := fun p l e R s m args below meth c H locs cells slots ls C h1 h2 h3 h4 hX hW hS hg hl => lv_bipush C.1 C.2.1 hd rfl (k p l e R s m args below meth c H locs cells slots ls C h1 h2 h3 h4 hX hW hS hg hl)
theorem r_sipush {n : Int} (hd : decode y.2.1 pc = .ok (.sipush n, 3))  (k : WPc g y d rc rs (pc + 3) lv (.int (Int16.ofInt n).toInt32 :: st) z I Q) : WPc g y d rc rs (pc) lv (st) z I Q := fun p l e R s m args below meth c H locs cells slots ls C h1 h2 h3 h4 hX hW hS hg hl => lv_sipush C.1 C.2.1 hd rfl (k p l e R s m args below meth c H locs cells slots ls C h1 h2 h3 h4 hX hW hS hg hl)
theorem r_lconst {n : Fin 2} (hd : decode y.2.1 pc = .ok (.lconst n, 1))  (k : WPc g y d rc rs (pc + 1) lv (.long (Int64.ofNat n.val) :: st) z I Q) : WPc g y d rc rs (pc) lv (st) z I Q := fun p l e R s m args below meth c H locs cells slots ls C h1 h2 h3 h4 hX hW hS hg hl => lv_lconst C.1 C.2.1 hd rfl (k p l e R s m args below meth c H locs cells slots ls C h1 h2 h3 h4 hX hW hS hg hl)
theorem r_null  (hd : decode y.2.1 pc = .ok (.aconst_null, 1))  (k : WPc g y d rc rs (pc + 1) lv (.null :: st) z I Q) : WPc g y d rc rs (pc) lv (st) z I Q := fun p l e R s m args below meth c H locs cells slots ls C h1 h2 h3 h4 hX hW hS hg hl => lv_null C.1 C.2.1 hd (k p l e R s m args below meth c H locs cells slots ls C h1 h2 h3 h4 hX hW hS hg hl)
theorem r_dup {v : Value} (hd : decode y.2.1 pc = .ok (.dup, 1)) (hv : v.category = 1) (k : WPc g y d rc rs (pc + 1) lv (v :: v :: st) z I Q) : WPc g y d rc rs (pc) lv (v :: st) z I Q := fun p l e R s m args below meth c H locs cells slots ls C h1 h2 h3 h4 hX hW hS hg hl => lv_dup C.1 C.2.1 hd (by rw [lf_cat]; exact hv) (k p l e R s m args below meth c H locs cells slots ls C h1 h2 h3 h4 hX hW hS hg hl)
theorem r_pop {v : Value} (hd : decode y.2.1 pc = .ok (.pop, 1)) (hv : v.category = 1) (k : WPc g y d rc rs (pc + 1) lv (st) z I Q) : WPc g y d rc rs (pc) lv (v :: st) z I Q := fun p l e R s m args below meth c H locs cells slots ls C h1 h2 h3 h4 hX hW hS hg hl => lv_pop C.1 C.2.1 hd (by rw [lf_cat]; exact hv) (k p l e R s m args below meth c H locs cells slots ls C h1 h2 h3 h4 hX hW hS hg hl)
theorem r_dup2 {v w : Value} (hd : decode y.2.1 pc = .ok (.dup2, 1)) (hv : v.category = 1) (hw : w.category = 1) (k : WPc g y d rc rs (pc + 1) lv (v :: w :: v :: w :: st) z I Q) : WPc g y d rc rs (pc) lv (v :: w :: st) z I Q := fun p l e R s m args below meth c H locs cells slots ls C h1 h2 h3 h4 hX hW hS hg hl => lv_dup2_11 C.1 C.2.1 hd (by rw [lf_cat]; exact hv) (by rw [lf_cat]; exact hw) (k p l e R s m args below meth c H locs cells slots ls C h1 h2 h3 h4 hX hW hS hg hl)
theorem r_iload_n {n : Fin 4} {x : Int32} (hd : decode y.2.1 pc = .ok (.iload_n n, 1)) (hv : lk lv n.val = some (.int x)) (k : WPc g y d rc rs (pc + 1) lv (.int x :: st) z I Q) : WPc g y d rc rs (pc) lv (st) z I Q := fun p l e R s m args below meth c H locs cells slots ls C h1 h2 h3 h4 hX hW hS hg hl => lv_iload_n C.1 C.2.1 hd rfl (lfs_look hl (lk_mem hv)) (k p l e R s m args below meth c H locs cells slots ls C h1 h2 h3 h4 hX hW hS hg hl)
theorem r_iload {n : Nat} {x : Int32} (hd : decode y.2.1 pc = .ok (.iload n, 2)) (hv : lk lv n = some (.int x)) (k : WPc g y d rc rs (pc + 2) lv (.int x :: st) z I Q) : WPc g y d rc rs (pc) lv (st) z I Q := fun p l e R s m args below meth c H locs cells slots ls C h1 h2 h3 h4 hX hW hS hg hl => lv_iload C.1 C.2.1 hd (lfs_look hl (lk_mem hv)) (k p l e R s m args below meth c H locs cells slots ls C h1 h2 h3 h4 hX hW hS hg hl)
theorem r_lload_n {n : Fin 4} {x : Int64} (hd : decode y.2.1 pc = .ok (.lload_n n, 1)) (hv : lk lv n.val = some (.long x)) (k : WPc g y d rc rs (pc + 1) lv (.long x :: st) z I Q) : WPc g y d rc rs (pc) lv (st) z I Q := fun p l e R s m args below meth c H locs cells slots ls C h1 h2 h3 h4 hX hW hS hg hl => lv_lload_n C.1 C.2.1 hd rfl (lfs_look hl (lk_mem hv)) (k p l e R s m args below meth c H locs cells slots ls C h1 h2 h3 h4 hX hW hS hg hl)
theorem r_lload {n : Nat} {x : Int64} (hd : decode y.2.1 pc = .ok (.lload n, 2)) (hv : lk lv n = some (.long x)) (k : WPc g y d rc rs (pc + 2) lv (.long x :: st) z I Q) : WPc g y d rc rs (pc) lv (st) z I Q := fun p l e R s m args below meth c H locs cells slots ls C h1 h2 h3 h4 hX hW hS hg hl => lv_lload C.1 C.2.1 hd (lfs_look hl (lk_mem hv)) (k p l e R s m args below meth c H locs cells slots ls C h1 h2 h3 h4 hX hW hS hg hl)
theorem r_aload_n {n : Fin 4} {x : Nat} (hd : decode y.2.1 pc = .ok (.aload_n n, 1)) (hv : lk lv n.val = some (.ref x)) (k : WPc g y d rc rs (pc + 1) lv (.ref x :: st) z I Q) : WPc g y d rc rs (pc) lv (st) z I Q := fun p l e R s m args below meth c H locs cells slots ls C h1 h2 h3 h4 hX hW hS hg hl => lv_aload_n C.1 C.2.1 hd rfl (lfs_look hl (lk_mem hv)) (k p l e R s m args below meth c H locs cells slots ls C h1 h2 h3 h4 hX hW hS hg hl)
theorem r_aload {n : Nat} {x : Nat} (hd : decode y.2.1 pc = .ok (.aload n, 2)) (hv : lk lv n = some (.ref x)) (k : WPc g y d rc rs (pc + 2) lv (.ref x :: st) z I Q) : WPc g y d rc rs (pc) lv (st) z I Q := fun p l e R s m args below meth c H locs cells slots ls C h1 h2 h3 h4 hX hW hS hg hl => lv_aload C.1 C.2.1 hd (lfs_look hl (lk_mem hv)) (k p l e R s m args below meth c H locs cells slots ls C h1 h2 h3 h4 hX hW hS hg hl)
theorem r_aload_nN {n : Fin 4} (hd : decode y.2.1 pc = .ok (.aload_n n, 1)) (hv : lk lv n.val = some .null) (k : WPc g y d rc rs (pc + 1) lv (.null :: st) z I Q) : WPc g y d rc rs (pc) lv (st) z I Q := fun p l e R s m args below meth c H locs cells slots ls C h1 h2 h3 h4 hX hW hS hg hl => lv_aload_nN C.1 C.2.1 hd rfl (lfs_look hl (lk_mem hv)) (k p l e R s m args below meth c H locs cells slots ls C h1 h2 h3 h4 hX hW hS hg hl)
theorem r_aloadN {n : Nat} (hd : decode y.2.1 pc = .ok (.aload n, 2)) (hv : lk lv n = some .null) (k : WPc g y d rc rs (pc + 2) lv (.null :: st) z I Q) : WPc g y d rc rs (pc) lv (st) z I Q := fun p l e R s m args below meth c H locs cells slots ls C h1 h2 h3 h4 hX hW hS hg hl => lv_aloadN C.1 C.2.1 hd (lfs_look hl (lk_mem hv)) (k p l e R s m args below meth c H locs cells slots ls C h1 h2 h3 h4 hX hW hS hg hl)
theorem r_istore_n {n : Fin 4} {x : Int32} (hd : decode y.2.1 pc = .ok (.istore_n n, 1)) (hn : n.val < y.2.2.1) (k : WPc g y d rc rs (pc + 1) (lst lv n.val (.int x)) (st) z I Q) : WPc g y d rc rs (pc) lv (.int x :: st) z I Q := fun p l e R s m args below meth c H locs cells slots ls C h1 h2 h3 h4 hX hW hS hg hl => lv_istore_n C.1 C.2.1 hd rfl hl hn (lfs_lst g lv _ (.int x)) (fun ls hl => k p l e R s m args below meth c H locs cells slots ls C h1 h2 h3 h4 hX hW hS hg hl)
theorem r_istore {n : Nat} {x : Int32} (hd : decode y.2.1 pc = .ok (.istore n, 2)) (hn : n < y.2.2.1) (k : WPc g y d rc rs (pc + 2) (lst lv n (.int x)) (st) z I Q) : WPc g y d rc rs (pc) lv (.int x :: st) z I Q := fun p l e R s m args below meth c H locs cells slots ls C h1 h2 h3 h4 hX hW hS hg hl => lv_istore C.1 C.2.1 hd hl hn (lfs_lst g lv _ (.int x)) (fun ls hl => k p l e R s m args below meth c H locs cells slots ls C h1 h2 h3 h4 hX hW hS hg hl)
theorem r_lstore_n {n : Fin 4} {x : Int64} (hd : decode y.2.1 pc = .ok (.lstore_n n, 1)) (hn : n.val + 1 < y.2.2.1) (k : WPc g y d rc rs (pc + 1) (lst2 lv n.val (.long x)) (st) z I Q) : WPc g y d rc rs (pc) lv (.long x :: st) z I Q := fun p l e R s m args below meth c H locs cells slots ls C h1 h2 h3 h4 hX hW hS hg hl => lv_lstore_n C.1 C.2.1 hd rfl hl hn (lfs_lst2 g lv _ (.long x)) (fun ls hl => k p l e R s m args below meth c H locs cells slots ls C h1 h2 h3 h4 hX hW hS hg hl)
theorem r_lstore {n : Nat} {x : Int64} (hd : decode y.2.1 pc = .ok (.lstore n, 2)) (hn : n + 1 < y.2.2.1) (k : WPc g y d rc rs (pc + 2) (lst2 lv n (.long x)) (st) z I Q) : WPc g y d rc rs (pc) lv (.long x :: st) z I Q := fun p l e R s m args below meth c H locs cells slots ls C h1 h2 h3 h4 hX hW hS hg hl => lv_lstore C.1 C.2.1 hd hl hn (lfs_lst2 g lv _ (.long x)) (fun ls hl => k p l e R s m args below meth c H locs cells slots ls C h1 h2 h3 h4 hX hW hS hg hl)
theorem r_astore_n {n : Fin 4} {x : Nat} (hd : decode y.2.1 pc = .ok (.astore_n n, 1)) (hn : n.val < y.2.2.1) (k : WPc g y d rc rs (pc + 1) (lst lv n.val (.ref x)) (st) z I Q) : WPc g y d rc rs (pc) lv (.ref x :: st) z I Q := fun p l e R s m args below meth c H locs cells slots ls C h1 h2 h3 h4 hX hW hS hg hl => lv_astore_n C.1 C.2.1 hd rfl hl hn (lfs_lst g lv _ (.ref x)) (fun ls hl => k p l e R s m args below meth c H locs cells slots ls C h1 h2 h3 h4 hX hW hS hg hl)
theorem r_astore {n : Nat} {x : Nat} (hd : decode y.2.1 pc = .ok (.astore n, 2)) (hn : n < y.2.2.1) (k : WPc g y d rc rs (pc + 2) (lst lv n (.ref x)) (st) z I Q) : WPc g y d rc rs (pc) lv (.ref x :: st) z I Q := fun p l e R s m args below meth c H locs cells slots ls C h1 h2 h3 h4 hX hW hS hg hl => lv_astore C.1 C.2.1 hd hl hn (lfs_lst g lv _ (.ref x)) (fun ls hl => k p l e R s m args below meth c H locs cells slots ls C h1 h2 h3 h4 hX hW hS hg hl)
theorem r_astore_nN {n : Fin 4} (hd : decode y.2.1 pc = .ok (.astore_n n, 1)) (hn : n.val < y.2.2.1) (k : WPc g y d rc rs (pc + 1) (lst lv n.val (.null)) (st) z I Q) : WPc g y d rc rs (pc) lv (.null :: st) z I Q := fun p l e R s m args below meth c H locs cells slots ls C h1 h2 h3 h4 hX hW hS hg hl => lv_astore_nN C.1 C.2.1 hd rfl hl hn (lfs_lst g lv _ (.null)) (fun ls hl => k p l e R s m args below meth c H locs cells slots ls C h1 h2 h3 h4 hX hW hS hg hl)
theorem r_astoreN {n : Nat} (hd : decode y.2.1 pc = .ok (.astore n, 2)) (hn : n < y.2.2.1) (k : WPc g y d rc rs (pc + 2) (lst lv n (.null)) (st) z I Q) : WPc g y d rc rs (pc) lv (.null :: st) z I Q := fun p l e R s m args below meth c H locs cells slots ls C h1 h2 h3 h4 hX hW hS hg hl => lv_astoreN C.1 C.2.1 hd hl hn (lfs_lst g lv _ (.null)) (fun ls hl => k p l e R s m args below meth c H locs cells slots ls C h1 h2 h3 h4 hX hW hS hg hl)
theorem lk_place : ∀ {lv : List (Nat × Value)} {i : Nat} {v : Value}, lk lv i = some v → ∃ k : Nat, lv[k]? = some (i, v) := fun h => List.mem_iff_getElem?.mp (lk_mem h)
theorem r_iinc {n : Nat} {a : Int} {x : Int32} (hd : decode y.2.1 pc = .ok (.iinc n a, 3)) (hv : lk lv n = some (.int x)) (hn : n < y.2.2.1) (k : WPc g y d rc rs (pc + 3) (lst lv n (.int (x + Int32.ofInt a))) (st) z I Q) : WPc g y d rc rs (pc) lv (st) z I Q := fun p l e R s m args below meth c H locs cells slots ls C h1 h2 h3 h4 hX hW hS hg hl => by
  obtain ⟨j, hj⟩ := lk_place hv
  exact lv_iinc (k := j) C.1 C.2.1 hd hl (by show (List.map _ _)[j]? = _; rw [List.getElem?_map, hj]; rfl) rfl hn (lfs_lst g lv n (.int (x + Int32.ofInt a))) (fun ls hl => k p l e R s m args below meth c H locs cells slots ls C h1 h2 h3 h4 hX hW hS hg hl)
theorem r_icmp_eq {x y0 : Int32} {off : Int} {tgt : Nat} (hd : decode y.2.1 pc = .ok (.if_icmp .eq off, 3)) (ht : (pc : Int) + off = (tgt : Int)) (kt : x = y0 → WPc g y d rc rs (tgt) lv (st) z I Q) (kf : ¬ x = y0 → WPc g y d rc rs (pc + 3) lv (st) z I Q) : WPc g y d rc rs (pc) lv (.int y0 :: .int x :: st) z I Q := fun p l e R s m args below meth c H locs cells slots ls C h1 h2 h3 h4 hX hW hS hg hl => lv_icmp_eq C.1 C.2.1 hd ht (fun q => kt q p l e R s m args below meth c H locs cells slots ls C h1 h2 h3 h4 hX hW hS hg hl) (fun q => kf q p l e R s m args below meth c H locs cells slots ls C h1 h2 h3 h4 hX hW hS hg hl)
theorem r_icmp_ne {x y0 : Int32} {off : Int} {tgt : Nat} (hd : decode y.2.1 pc = .ok (.if_icmp .ne off, 3)) (ht : (pc : Int) + off = (tgt : Int)) (kt : ¬ x = y0 → WPc g y d rc rs (tgt) lv (st) z I Q) (kf : x = y0 → WPc g y d rc rs (pc + 3) lv (st) z I Q) : WPc g y d rc rs (pc) lv (.int y0 :: .int x :: st) z I Q := fun p l e R s m args below meth c H locs cells slots ls C h1 h2 h3 h4 hX hW hS hg hl => lv_icmp_ne C.1 C.2.1 hd ht (fun q => kt q p l e R s m args below meth c H locs cells slots ls C h1 h2 h3 h4 hX hW hS hg hl) (fun q => kf q p l e R s m args below meth c H locs cells slots ls C h1 h2 h3 h4 hX hW hS hg hl)
theorem r_icmp_lt {x y0 : Int32} {off : Int} {tgt : Nat} (hd : decode y.2.1 pc = .ok (.if_icmp .lt off, 3)) (ht : (pc : Int) + off = (tgt : Int)) (kt : x < y0 → WPc g y d rc rs (tgt) lv (st) z I Q) (kf : ¬ x < y0 → WPc g y d rc rs (pc + 3) lv (st) z I Q) : WPc g y d rc rs (pc) lv (.int y0 :: .int x :: st) z I Q := fun p l e R s m args below meth c H locs cells slots ls C h1 h2 h3 h4 hX hW hS hg hl => lv_icmp_lt C.1 C.2.1 hd ht (fun q => kt q p l e R s m args below meth c H locs cells slots ls C h1 h2 h3 h4 hX hW hS hg hl) (fun q => kf q p l e R s m args below meth c H locs cells slots ls C h1 h2 h3 h4 hX hW hS hg hl)
theorem r_icmp_le {x y0 : Int32} {off : Int} {tgt : Nat} (hd : decode y.2.1 pc = .ok (.if_icmp .le off, 3)) (ht : (pc : Int) + off = (tgt : Int)) (kt : x ≤ y0 → WPc g y d rc rs (tgt) lv (st) z I Q) (kf : ¬ x ≤ y0 → WPc g y d rc rs (pc + 3) lv (st) z I Q) : WPc g y d rc rs (pc) lv (.int y0 :: .int x :: st) z I Q := fun p l e R s m args below meth c H locs cells slots ls C h1 h2 h3 h4 hX hW hS hg hl => lv_icmp_le C.1 C.2.1 hd ht (fun q => kt q p l e R s m args below meth c H locs cells slots ls C h1 h2 h3 h4 hX hW hS hg hl) (fun q => kf q p l e R s m args below meth c H locs cells slots ls C h1 h2 h3 h4 hX hW hS hg hl)
theorem r_icmp_gt {x y0 : Int32} {off : Int} {tgt : Nat} (hd : decode y.2.1 pc = .ok (.if_icmp .gt off, 3)) (ht : (pc : Int) + off = (tgt : Int)) (kt : y0 < x → WPc g y d rc rs (tgt) lv (st) z I Q) (kf : ¬ y0 < x → WPc g y d rc rs (pc + 3) lv (st) z I Q) : WPc g y d rc rs (pc) lv (.int y0 :: .int x :: st) z I Q := fun p l e R s m args below meth c H locs cells slots ls C h1 h2 h3 h4 hX hW hS hg hl => lv_icmp_gt C.1 C.2.1 hd ht (fun q => kt q p l e R s m args below meth c H locs cells slots ls C h1 h2 h3 h4 hX hW hS hg hl) (fun q => kf q p l e R s m args below meth c H locs cells slots ls C h1 h2 h3 h4 hX hW hS hg hl)
theorem r_icmp_ge {x y0 : Int32} {off : Int} {tgt : Nat} (hd : decode y.2.1 pc = .ok (.if_icmp .ge off, 3)) (ht : (pc : Int) + off = (tgt : Int)) (kt : y0 ≤ x → WPc g y d rc rs (tgt) lv (st) z I Q) (kf : ¬ y0 ≤ x → WPc g y d rc rs (pc + 3) lv (st) z I Q) : WPc g y d rc rs (pc) lv (.int y0 :: .int x :: st) z I Q := fun p l e R s m args below meth c H locs cells slots ls C h1 h2 h3 h4 hX hW hS hg hl => lv_icmp_ge C.1 C.2.1 hd ht (fun q => kt q p l e R s m args below meth c H locs cells slots ls C h1 h2 h3 h4 hX hW hS hg hl) (fun q => kf q p l e R s m args below meth c H locs cells slots ls C h1 h2 h3 h4 hX hW hS hg hl)
theorem r_if_eq {x : Int32} {off : Int} {tgt : Nat} (hd : decode y.2.1 pc = .ok (.ifCond .eq off, 3)) (ht : (pc : Int) + off = (tgt : Int)) (kt : x = 0 → WPc g y d rc rs (tgt) lv (st) z I Q) (kf : ¬ x = 0 → WPc g y d rc rs (pc + 3) lv (st) z I Q) : WPc g y d rc rs (pc) lv (.int x :: st) z I Q := fun p l e R s m args below meth c H locs cells slots ls C h1 h2 h3 h4 hX hW hS hg hl => lv_if_eq C.1 C.2.1 hd ht (fun q => kt q p l e R s m args below meth c H locs cells slots ls C h1 h2 h3 h4 hX hW hS hg hl) (fun q => kf q p l e R s m args below meth c H locs cells slots ls C h1 h2 h3 h4 hX hW hS hg hl)
theorem r_if_ne {x : Int32} {off : Int} {tgt : Nat} (hd : decode y.2.1 pc = .ok (.ifCond .ne off, 3)) (ht : (pc : Int) + off = (tgt : Int)) (kt : ¬ x = 0 → WPc g y d rc rs (tgt) lv (st) z I Q) (kf : x = 0 → WPc g y d rc rs (pc + 3) lv (st) z I Q) : WPc g y d rc rs (pc) lv (.int x :: st) z I Q := fun p l e R s m args below meth c H locs cells slots ls C h1 h2 h3 h4 hX hW hS hg hl => lv_if_ne C.1 C.2.1 hd ht (fun q => kt q p l e R s m args below meth c H locs cells slots ls C h1 h2 h3 h4 hX hW hS hg hl) (fun q => kf q p l e R s m args below meth c H locs cells slots ls C h1 h2 h3 h4 hX hW hS hg hl)
theorem r_if_lt {x : Int32} {off : Int} {tgt : Nat} (hd : decode y.2.1 pc = .ok (.ifCond .lt off, 3)) (ht : (pc : Int) + off = (tgt : Int)) (kt : x < 0 → WPc g y d rc rs (tgt) lv (st) z I Q) (kf : ¬ x < 0 → WPc g y d rc rs (pc + 3) lv (st) z I Q) : WPc g y d rc rs (pc) lv (.int x :: st) z I Q := fun p l e R s m args below meth c H locs cells slots ls C h1 h2 h3 h4 hX hW hS hg hl => lv_if_lt C.1 C.2.1 hd ht (fun q => kt q p l e R s m args below meth c H locs cells slots ls C h1 h2 h3 h4 hX hW hS hg hl) (fun q => kf q p l e R s m args below meth c H locs cells slots ls C h1 h2 h3 h4 hX hW hS hg hl)
theorem r_if_le {x : Int32} {off : Int} {tgt : Nat} (hd : decode y.2.1 pc = .ok (.ifCond .le off, 3)) (ht : (pc : Int) + off = (tgt : Int)) (kt : x ≤ 0 → WPc g y d rc rs (tgt) lv (st) z I Q) (kf : ¬ x ≤ 0 → WPc g y d rc rs (pc + 3) lv (st) z I Q) : WPc g y d rc rs (pc) lv (.int x :: st) z I Q := fun p l e R s m args below meth c H locs cells slots ls C h1 h2 h3 h4 hX hW hS hg hl => lv_if_le C.1 C.2.1 hd ht (fun q => kt q p l e R s m args below meth c H locs cells slots ls C h1 h2 h3 h4 hX hW hS hg hl) (fun q => kf q p l e R s m args below meth c H locs cells slots ls C h1 h2 h3 h4 hX hW hS hg hl)
theorem r_if_gt {x : Int32} {off : Int} {tgt : Nat} (hd : decode y.2.1 pc = .ok (.ifCond .gt off, 3)) (ht : (pc : Int) + off = (tgt : Int)) (kt : 0 < x → WPc g y d rc rs (tgt) lv (st) z I Q) (kf : ¬ 0 < x → WPc g y d rc rs (pc + 3) lv (st) z I Q) : WPc g y d rc rs (pc) lv (.int x :: st) z I Q := fun p l e R s m args below meth c H locs cells slots ls C h1 h2 h3 h4 hX hW hS hg hl => lv_if_gt C.1 C.2.1 hd ht (fun q => kt q p l e R s m args below meth c H locs cells slots ls C h1 h2 h3 h4 hX hW hS hg hl) (fun q => kf q p l e R s m args below meth c H locs cells slots ls C h1 h2 h3 h4 hX hW hS hg hl)
theorem r_if_ge {x : Int32} {off : Int} {tgt : Nat} (hd : decode y.2.1 pc = .ok (.ifCond .ge off, 3)) (ht : (pc : Int) + off = (tgt : Int)) (kt : 0 ≤ x → WPc g y d rc rs (tgt) lv (st) z I Q) (kf : ¬ 0 ≤ x → WPc g y d rc rs (pc + 3) lv (st) z I Q) : WPc g y d rc rs (pc) lv (.int x :: st) z I Q := fun p l e R s m args below meth c H locs cells slots ls C h1 h2 h3 h4 hX hW hS hg hl => lv_if_ge C.1 C.2.1 hd ht (fun q => kt q p l e R s m args below meth c H locs cells slots ls C h1 h2 h3 h4 hX hW hS hg hl) (fun q => kf q p l e R s m args below meth c H locs cells slots ls C h1 h2 h3 h4 hX hW hS hg hl)
theorem r_goto {off : Int} {tgt : Nat} (hd : decode y.2.1 pc = .ok (.goto off, 3)) (ht : (pc : Int) + off = (tgt : Int)) (k : WPc g y d rc rs (tgt) lv (st) z I Q) : WPc g y d rc rs (pc) lv (st) z I Q := fun p l e R s m args below meth c H locs cells slots ls C h1 h2 h3 h4 hX hW hS hg hl => lv_goto C.1 C.2.1 hd ht (k p l e R s m args below meth c H locs cells slots ls C h1 h2 h3 h4 hX hW hS hg hl)
theorem r_ifnull {a : Nat} {off : Int} {tgt : Nat} (hd : decode y.2.1 pc = .ok (.ifnull off, 3)) (k : WPc g y d rc rs (pc + 3) lv (st) z I Q) : WPc g y d rc rs (pc) lv (.ref a :: st) z I Q := fun p l e R s m args below meth c H locs cells slots ls C h1 h2 h3 h4 hX hW hS hg hl => lv_ifnull C.1 C.2.1 hd (k p l e R s m args below meth c H locs cells slots ls C h1 h2 h3 h4 hX hW hS hg hl)
theorem r_ifnullN {a : Nat} {off : Int} {tgt : Nat} (hd : decode y.2.1 pc = .ok (.ifnull off, 3)) (ht : (pc : Int) + off = (tgt : Int)) (k : WPc g y d rc rs (tgt) lv (st) z I Q) : WPc g y d rc rs (pc) lv (.null :: st) z I Q := fun p l e R s m args below meth c H locs cells slots ls C h1 h2 h3 h4 hX hW hS hg hl => lv_ifnullN C.1 C.2.1 hd ht (k p l e R s m args below meth c H locs cells slots ls C h1 h2 h3 h4 hX hW hS hg hl)
theorem r_ifnonnull {a : Nat} {off : Int} {tgt : Nat} (hd : decode y.2.1 pc = .ok (.ifnonnull off, 3)) (ht : (pc : Int) + off = (tgt : Int)) (k : WPc g y d rc rs (tgt) lv (st) z I Q) : WPc g y d rc rs (pc) lv (.ref a :: st) z I Q := fun p l e R s m args below meth c H locs cells slots ls C h1 h2 h3 h4 hX hW hS hg hl => lv_ifnonnull C.1 C.2.1 hd ht (k p l e R s m args below meth c H locs cells slots ls C h1 h2 h3 h4 hX hW hS hg hl)
theorem r_ifnonnullN {a : Nat} {off : Int} {tgt : Nat} (hd : decode y.2.1 pc = .ok (.ifnonnull off, 3)) (k : WPc g y d rc rs (pc + 3) lv (st) z I Q) : WPc g y d rc rs (pc) lv (.null :: st) z I Q := fun p l e R s m args below meth c H locs cells slots ls C h1 h2 h3 h4 hX hW hS hg hl => lv_ifnonnullN C.1 C.2.1 hd (k p l e R s m args below meth c H locs cells slots ls C h1 h2 h3 h4 hX hW hS hg hl)
theorem r_tsw {dflt lo hi : Int} {offs : Array Int} {len : Nat} {x : Int32} (hd : decode y.2.1 pc = .ok (.tableswitch dflt lo hi offs, len)) (hlen : lo + offs.size = hi + 1) (kin : ∀ (i : Nat) (off : Int) (tgt : Nat), offs[i]? = some off → (pc : Int) + off = (tgt : Int) → x.toInt = lo + i → WPc g y d rc rs (tgt) lv (st) z I Q) (tgt : Nat) (ht : (pc : Int) + dflt = (tgt : Int)) (kout : (x.toInt < lo ∨ hi < x.toInt) → WPc g y d rc rs (tgt) lv (st) z I Q) (hall : ∀ (i : Nat) (off : Int), offs[i]? = some off → 0 ≤ (pc : Int) + off) : WPc g y d rc rs (pc) lv (.int x :: st) z I Q := fun p l e R s m args below meth c H locs cells slots ls C h1 h2 h3 h4 hX hW hS hg hl => by
  by_cases q : x.toInt < lo ∨ hi < x.toInt
  · exact lv_tableOut C.1 C.2.1 hd q ht (kout q p l e R s m args below meth c H locs cells slots ls C h1 h2 h3 h4 hX hW hS hg hl)
  · have q1 : ¬ x.toInt < lo := fun w => q (Or.inl w)
    have q2 : ¬ hi < x.toInt := fun w => q (Or.inr w)
    have hi : (x.toInt - lo).toNat < offs.size := by omega
    obtain ⟨off, ho⟩ : ∃ off, offs[(x.toInt - lo).toNat]? = some off := ⟨_, Array.getElem?_eq_getElem hi⟩
    have h0 := hall _ _ ho
    have hz : (pc : Int) + off = (((pc : Int) + off).toNat : Int) := by omega
    exact lv_tableIn C.1 C.2.1 hd q1 q2 ho hz (kin _ off _ ho hz (by omega) p l e R s m args below meth c H locs cells slots ls C h1 h2 h3 h4 hX hW hS hg hl)
theorem r_lsw {dflt : Int} {ps : Array (Int × Int)} {len : Nat} {x : Int32} {off : Int} {tgt : Nat} (hd : decode y.2.1 pc = .ok (.lookupswitch dflt ps, len)) (hp : (ps.toList.zip (ps.toList.drop 1)).all (fun (a, next) => a.1 < next.1) = true) (ho : Op.lookupswitch.offset ps.toList dflt x.toInt = off) (ht : (pc : Int) + off = (tgt : Int)) (k : WPc g y d rc rs (tgt) lv (st) z I Q) : WPc g y d rc rs (pc) lv (.int x :: st) z I Q := fun p l e R s m args below meth c H locs cells slots ls C h1 h2 h3 h4 hX hW hS hg hl => lv_lookup C.1 C.2.1 hd hp ho ht (k p l e R s m args below meth c H locs cells slots ls C h1 h2 h3 h4 hX hW hS hg hl)
theorem r_sub {lv2 : List (Nat × Value)} (hs : ∀ q ∈ lv2, q ∈ lv) (k : WPc g y d rc rs (pc) lv2 (st) z I Q) : WPc g y d rc rs (pc) lv (st) z I Q := fun p l e R s m args below meth c H locs cells slots ls C h1 h2 h3 h4 hX hW hS hg hl => k p l e R s m args below meth c H locs cells slots ls C h1 h2 h3 h4 hX hW hS hg (lfs_sub hl hs)
end RULES1
end
section
/-! the heap's rules, at WPc -/
def oe (o : Option Nat) (A : Prop) (B : Nat → Prop) : Prop := match o with
  | none => A
  | some q => B q
def ClsF (ci : Nat) (C : String) (T : u_T) : Prop := vwCl[ci]? = some (C, T, clN ci) ∧ (∀ w ∈ u_ws C T (clN ci), w ∈ gw_tbl) ∧ (∀ k, k < clN ci → parseFieldDescriptor (T k).2.2.1 = some (tyC ci k)) ∧ (∀ a, a < clN ci → ∀ b, b < clN ci → a ≠ b → (T a).2.1 ≠ (T b).2.1) ∧ ci < 13
def FldOK (own : String) (idx ci j : Nat) : Prop := ∃ (C : String) (T : u_T) (ref : String), ClsF ci C T ∧ j < clN ci ∧ Cond.fieldLink own idx ref (T j).2.1 (T j).2.2.1 ∈ gw_tbl ∧ (ref = (T j).1 ∨ Cond.sameField ref (T j).1 (T j).2.1 (T j).2.2.1 ∈ gw_tbl)
/-- may be written, by a method y: not final, or the own class' constructor writes -/
def FinOK (y : Mth) (ci j : Nat) : Prop := ∃ C T, ClsF ci C T ∧ ((T j).2.2.2 = false ∨ ((T j).2.2.2 = true ∧ y.1.name = "<init>" ∧ (T j).1 = y.1.cls))
theorem elm_reft {g : Gt} {z : Zs} {I : Is} {k t : Nat} (h : zT z k = 100 + t) (h1 : 1 ≤ t) : elm g z I k = .inl (gA g t, zL z k, .inr (.inr (.inr (.inr (fun i => (zP z k i).map (ad g)))))) := by
  rw [elm_ref (by omega), h, show 100 + t - 100 = t by omega]
theorem ClsF.uniq {ci : Nat} {C C' : String} {T T' : u_T} (h : ClsF ci C T) (h' : ClsF ci C' T') : C = C' ∧ T = T' := by
  have e := h.1.symm.trans h'.1
  have e2 := Option.some.inj e
  exact ⟨congrArg Prod.fst e2, congrArg (fun q => q.2.1) e2⟩
theorem Wh.set {g : Gt} {z z' : Zs} {I I' : Is} {H H' : Heap} {k : Nat} (h : Wh g z I H) (hk : zT z k < 105) (hN : zN z' = zN z) (hT : zT z' = zT z) (hL : ∀ j, j < 8 → zL z' j = zL z j) (hI : 8 ≤ k → ∀ j, j < 8 → I' j = I j) (ho : ∀ j, j ≠ k → elm g z' I' j = elm g z I j) (he : va_at (gD g) vwCl (ad g k, elm g z' I' k) H') (hs : H'.size = H.size) (oq : ∀ q, q ≠ ad g k → H'[q]? = H[q]?) : Wh g z' I' H' := by
  obtain ⟨h8, hlt⟩ := h.inN hk
  obtain ⟨a1, a2, a3, a4, a5, a6⟩ := h
  refine ⟨by rw [hN]; exact a1, by rw [hN, hT]; exact a2, by rw [hT]; exact a3, ?_, by rw [hs, hN]; exact a5, fun j hj => by rw [hT, hL j hj, hI h8 j hj]; exact a6 j hj⟩
  have hp := a4.set (wsO_D g z I) (wsO_get h8 hlt) he oq
  rw [wsO_set h8 hN ho] at hp
  exact hp
theorem ad_ge {g : Gt} {k : Nat} (h : 8 ≤ k) : g0 g ≤ ad g k := by
  unfold ad
  rw [if_neg (by omega)]
  omega
section RULES2
variable {g : Gt} {y : Mth} {d rc rs pc : Nat} {lv : List (Nat × Value)} {st : List Value} {z : Zs} {I : Is} {Q : Option Value → Zs → Is → Prop}
theorem r_getI {idx a ci j : Nat} (hd : decode y.2.1 pc = .ok (.getfield idx, 3)) (hf : FldOK y.1.cls idx ci j) (hi : isR ci j = false) (ht : zT z a = ci) (k : WPc g y d rc rs (pc + 3) lv (.int (I a j) :: st) z I Q) : WPc g y d rc rs pc lv (.ref a :: st) z I Q := by
  intro p l e R s m args below meth c H locs cells slots ls C h1 h2 h3 h4 hX hW hS hg hl
  obtain ⟨hx, hb, hml, hr, hown, hts, hlk, hnm, hK, hG⟩ := id C
  obtain ⟨C0, T, ref, hc, hj, hlink, hsame⟩ := hf
  have h13 := hc.2.2.2.2
  obtain ⟨h8, hlt⟩ := hW.inN (k := a) (by omega)
  refine va_get (D := gD g) (ci := ci) (v := .int (I a j)) (fs := (List.range (clN ci)).map (fv g z I a ci)) (C := C0) (T := T) (N := clN ci) (ref := ref) hx hb hts hc.2.1 hown hK hW.2.2.2.1 (a - 8) (by rw [wsO_get h8 hlt, elm_obj ht (by omega)]) hc.1 j hj (hts _ hlink) ?_ (by rw [fs_get hj]; unfold fv; rw [hi]; rfl) hd (k p l e R s m args below meth c H locs cells slots ls C h1 h2 h3 h4 hX hW hS hg hl)
  intro x hx
  rcases hsame with rfl | hs
  · exact hx
  · exact u_same (hts _ hs) x hx
theorem r_getR {idx a ci j : Nat} (hd : decode y.2.1 pc = .ok (.getfield idx, 3)) (hf : FldOK y.1.cls idx ci j) (hi : isR ci j = true) (ht : zT z a = ci) (k : oe (zP z a j) (WPc g y d rc rs (pc + 3) lv (.null :: st) z I Q) (fun q => WPc g y d rc rs (pc + 3) lv (.ref q :: st) z I Q)) : WPc g y d rc rs pc lv (.ref a :: st) z I Q := by
  intro p l e R s m args below meth c H locs cells slots ls C h1 h2 h3 h4 hX hW hS hg hl
  obtain ⟨hx, hb, hml, hr, hown, hts, hlk, hnm, hK, hG⟩ := id C
  obtain ⟨C0, T, ref, hc, hj, hlink, hsame⟩ := hf
  have h13 := hc.2.2.2.2
  obtain ⟨h8, hlt⟩ := hW.inN (k := a) (by omega)
  refine va_get (D := gD g) (ci := ci) (v := va_rf ((zP z a j).map (ad g))) (fs := (List.range (clN ci)).map (fv g z I a ci)) (C := C0) (T := T) (N := clN ci) (ref := ref) hx hb hts hc.2.1 hown hK hW.2.2.2.1 (a - 8) (by rw [wsO_get h8 hlt, elm_obj ht (by omega)]) hc.1 j hj (hts _ hlink) ?_ (by rw [fs_get hj]; unfold fv; rw [hi]; rfl) hd ?_
  · intro x hx
    rcases hsame with rfl | hs
    · exact hx
    · exact u_same (hts _ hs) x hx
  · cases ho : zP z a j with
    | none => rw [ho] at k; exact k p l e R s m args below meth c H locs cells slots ls C h1 h2 h3 h4 hX hW hS hg hl
    | some q => rw [ho] at k; exact k p l e R s m args below meth c H locs cells slots ls C h1 h2 h3 h4 hX hW hS hg hl
theorem elm_other {g : Gt} {z : Zs} {I I' : Is} {j : Nat} (h : I' j = I j) : elm g z I' j = elm g z I j := by
  unfold elm fv
  rw [h]
/-- a field is written: the machine's part -/
theorem putW {idx a ci j : Nat} {v : Value} {z' : Zs} {I' : Is} (hd : decode y.2.1 pc = .ok (.putfield idx, 3)) (hf : FldOK y.1.cls idx ci j) (hfin : FinOK y ci j) (ht : zT z a = ci) (hn : narrow (tyC ci j) (lf g v) = lf g v) (hfit : fits (tyC ci j) (lf g v) = true) (hN : zN z' = zN z) (hT : zT z' = zT z) (hL : ∀ j, j < 8 → zL z' j = zL z j) (hI : 8 ≤ a → ∀ j, j < 8 → I' j = I j) (ho : ∀ b, b ≠ a → elm g z' I' b = elm g z I b) (hnew : ∀ i, i < clN ci → fv g z' I' a ci i = if i = j then lf g v else fv g z I a ci i) (k : WPc g y d rc rs (pc + 3) lv st z' I' Q) : WPc g y d rc rs pc lv (v :: .ref a :: st) z I Q := by
  intro p l e R s m args below meth c H locs cells slots ls C h1 h2 h3 h4 hX hW hS hg hl
  obtain ⟨hx, hb, hml, hr, hown, hts, hlk, hnm, hK, hG⟩ := id C
  obtain ⟨C0, T, ref, hc, hj, hlink, hsame⟩ := hf
  obtain ⟨C1, T1, hc1, hfin⟩ := hfin
  obtain ⟨rfl, rfl⟩ := hc.uniq hc1
  have h13 := hc.2.2.2.2
  obtain ⟨h8, hlt⟩ := hW.inN (k := a) (by omega)
  have hap := va_apart (own := y.1.cls) hts hc.2.1 (tyC ci) hc.2.2.1 hc.2.2.2.1 hK hc.1
  obtain ⟨r, hr1, cell, q1, q2, q3, q4⟩ := hW.2.2.2.1 (a - 8) _ (by rw [wsO_get h8 hlt, elm_obj ht (by omega)])
  have hrr : r = (C0, T, clN ci) := Option.some.inj (hr1.symm.trans hc.1)
  subst hrr
  obtain ⟨hSl, hfc, kC, hkC, hkind⟩ := hK.1 ci _ hc.1
  obtain ⟨cf, kf, fi, f, hi, hsl⟩ := hSl j hj
  have hsm : s.fieldFound? ref (T j).2.1 (T j).2.2.1 = some (cf, kf, fi, f) := by
    rcases hsame with rfl | hs
    · exact hi
    · exact u_same (hts _ hs) _ hi
  have hst := (u_facts hfc hkC (u_lays hts hc.2.1 hj) hi).1
  have hend : ∀ H' : Heap, H'[ad g a]? = some (cell.setSlot f.slot (lf g v)) → H'.size = H.size → (∀ q, q ≠ ad g a → H'[q]? = H[q]?) → W p l e R s m args below meth c H' (locs ++ [⟨ad g a, f.slot⟩]) cells slots (MQ below (Qm g Q) args s R.cells R.slots (Fa g)) (F0 m (pc + 3) ls (st.map (lf g))) := by
    intro H' e1 e2 e3
    rw [hsl] at e1
    have hlow : ∀ q, q < g0 g → H'[q]? = H[q]? := fun q hq => e3 q (Nat.ne_of_lt (Nat.lt_of_lt_of_le hq (ad_ge h8)))
    refine k p l e R s m args below meth c H' _ cells slots ls C h1 h2 h3 h4 (hG.2 s H H' (Nat.le_trans hg hS.1) hlow hX) (hW.set (k := a) (by omega) hN hT hL hI ho ?_ e2 e3) (hS.put e2 e3 (ad_ge h8)) hg hl
    rw [elm_obj (ci := ci) (z := z') (by rw [hT]; exact ht) (by omega)]
    refine ⟨_, hc.1, t_OB.to (V := updV (vp_V ((List.range (clN ci)).map (fv g z I a ci))) j (lf g v)) ⟨_, e1, q2, q3, t_set q4 hap hj (lf g v)⟩ (fun i hi2 => ?_)⟩
    show _ = List.getD _ i Value.null
    rw [List.getD_eq_getElem?_getD, fs_get hi2, Option.getD_some, hnew i hi2]
    unfold updV
    by_cases hij : i = j
    · rw [if_pos hij, if_pos hij]
    · rw [if_neg hij, if_neg hij]
      show List.getD _ i Value.null = _
      rw [List.getD_eq_getElem?_getD, fs_get hi2, Option.getD_some]
  rcases hfin with hfin | ⟨hfin, hin2, hdecl⟩
  · have hlay := hts _ (hc.2.1 _ (u_in_lay hj))
    unfold u_lay at hlay
    rw [if_neg (by rw [hfin]; decide)] at hlay
    have h6 := u_store hfc hkC hkind hlay hi (hc.2.2.1 j hj) hn hfit
    exact W.putK hx hb (f := f) ⟨hown, hts _ hlink, ⟨_, _, _, hsm⟩, hst⟩ (by rw [q2]; exact h6) q1 q3 (by rw [hsl]; exact k2_hasslot (q4 j hj)) rfl rfl hd hend
  · have hlay := hts _ (hc.2.1 _ (u_in_lay hj))
    unfold u_lay at hlay
    rw [if_pos hfin] at hlay
    have hcf : m.cls = cf := by
      obtain ⟨_, _, c', _, _, _, -, -, hf', -, -, -, hown2, -⟩ := Cond.laysFinal_spec hlay
      have e1 : c' = cf := by have := hi.symm.trans hf'; simp at this; exact this.1.symm
      rw [hdecl] at hown2
      rw [← e1]; exact Option.some.inj (hown.symm.trans hown2)
    have h6 := u_fits hfc hkC hkind (Or.inr hlay) hi (hc.2.2.1 j hj) hn hfit
    exact W.putFinK hx hb hown (hts _ hlink) hsm hst hcf (by rw [hnm]; exact hin2) (by rw [q2]; exact h6) q1 q3 (by rw [hsl]; exact k2_hasslot (q4 j hj)) rfl rfl hd hend
theorem tyC_isR {ci j : Nat} (h : isR ci j = true) (a : Nat) : narrow (tyC ci j) (.ref a) = .ref a ∧ fits (tyC ci j) (.ref a) = true ∧ narrow (tyC ci j) .null = .null ∧ fits (tyC ci j) .null = true := by
  unfold isR at h
  cases hh : tyC ci j <;> rw [hh] at h <;> first | exact ⟨rfl, rfl, rfl, rfl⟩ | cases h
theorem r_putI {idx a ci j : Nat} {x : Int32} (hd : decode y.2.1 pc = .ok (.putfield idx, 3)) (hf : FldOK y.1.cls idx ci j) (hfin : FinOK y ci j) (hi : isR ci j = false) (ht : zT z a = ci) (hn : narrow (tyC ci j) (.int x) = .int x) (hfit : fits (tyC ci j) (.int x) = true) (k : WPc g y d rc rs (pc + 3) lv st z (up2 I a j x) Q) : WPc g y d rc rs pc lv (.int x :: .ref a :: st) z I Q := by
  refine putW hd hf hfin ht hn hfit rfl rfl (fun _ _ => rfl) (fun h8 b hb => ?_) (fun b hb => elm_other ?_) (fun i _ => ?_) k
  · funext i; unfold up2; rw [if_neg (by omega)]
  · funext i; unfold up2; rw [if_neg hb]
  · unfold fv up2
    by_cases hij : i = j
    · subst hij; rw [if_pos rfl, if_pos rfl, hi]; simp only [if_pos rfl]; rfl
    · rw [if_neg hij, if_pos rfl]; simp only [if_neg hij]
def zPut (z : Zs) (a i : Nat) (o : Option Nat) : Zs := (z.1, z.2.1, z.2.2.1, up2 z.2.2.2 a i o)
theorem elm_zPut {g : Gt} {z : Zs} {I : Is} {a i b : Nat} {o : Option Nat} (h : b ≠ a) : elm g (zPut z a i o) I b = elm g z I b := by
  have e : zP (zPut z a i o) b = zP z b := by funext j; show up2 _ _ _ _ _ _ = _; unfold up2; rw [if_neg h]; rfl
  unfold elm fv
  rw [e]
  rfl
theorem r_putR {idx a q ci j : Nat} (hd : decode y.2.1 pc = .ok (.putfield idx, 3)) (hf : FldOK y.1.cls idx ci j) (hfin : FinOK y ci j) (hi : isR ci j = true) (ht : zT z a = ci) (k : WPc g y d rc rs (pc + 3) lv st (zPut z a j (some q)) I Q) : WPc g y d rc rs pc lv (.ref q :: .ref a :: st) z I Q := by
  refine putW (z' := zPut z a j (some q)) (I' := I) hd hf hfin ht (tyC_isR hi _).1 (tyC_isR hi _).2.1 rfl rfl (fun _ _ => rfl) (fun _ _ _ => rfl) (fun b hb => elm_zPut hb) (fun i _ => ?_) k
  unfold fv
  show (bif isR ci i then va_rf (((up2 z.2.2.2 a j (some q)) a i).map (ad g)) else _) = _
  unfold up2
  by_cases hij : i = j
  · subst hij; rw [if_pos rfl, if_pos rfl, if_pos rfl, hi]; rfl
  · rw [if_pos rfl, if_neg hij, if_neg hij]; rfl
/-- the index lies in the row -/
def inB (i : Int32) (n : Nat) : Bool := decide (0 ≤ i.toInt) && decide (i.toInt < (n : Int))
theorem inB_vp {i : Int32} {n : Nat} (h : inB i n = true) : vp_in i n := by
  unfold inB at h
  rw [Bool.and_eq_true, decide_eq_true_iff, decide_eq_true_iff] at h
  exact vp_in_iff.mpr h
theorem r_iald {a : Nat} {i : Int32} (hd : decode y.2.1 pc = .ok (.iaload, 1)) (ht : zT z a = 100) (hi : inB i (zL z a) = true) (k : WPc g y d rc rs (pc + 1) lv (.int (I a i.toNatClampNeg) :: st) z I Q) : WPc g y d rc rs pc lv (.int i :: .ref a :: st) z I Q := by
  intro p l e R s m args below meth c H locs cells slots ls C h1 h2 h3 h4 hX hW hS hg hl
  obtain ⟨hx, hb, hml, hr, hown, hts, hlk, hnm, hK, hG⟩ := id C
  obtain ⟨h8, hlt⟩ := hW.inN (k := a) (by omega)
  exact va_iald (D := gD g) hx hb hK hW.2.2.2.1 (a - 8) 0 (by rw [wsO_get h8 hlt, elm_int ht]) rfl (inB_vp hi) hd (k p l e R s m args below meth c H locs cells slots ls C h1 h2 h3 h4 hX hW hS hg hl)
theorem r_alenI {a : Nat} (hd : decode y.2.1 pc = .ok (.arraylength, 1)) (ht : zT z a = 100) (k : WPc g y d rc rs (pc + 1) lv (.int (Int32.ofNat (zL z a)) :: st) z I Q) : WPc g y d rc rs pc lv (.ref a :: st) z I Q := by
  intro p l e R s m args below meth c H locs cells slots ls C h1 h2 h3 h4 hX hW hS hg hl
  obtain ⟨hx, hb, hml, hr, hown, hts, hlk, hnm, hK, hG⟩ := id C
  obtain ⟨h8, hlt⟩ := hW.inN (k := a) (by omega)
  exact va_alen (D := gD g) (x := (zL z a, .inl (I a))) hx hb hK hW.2.2.2.1 (a - 8) 0 (by rw [wsO_get h8 hlt, elm_int ht]) rfl rfl hd (k p l e R s m args below meth c H locs cells slots ls C h1 h2 h3 h4 hX hW hS hg hl)
def tyR (t : Nat) : String := ([RX8, RX8, RX4, RX10, RX7] : List String).getD t RX8
theorem tysG_R {g : Gt} {t : Nat} (h1 : 1 ≤ t) (h2 : t ≤ 4) : (tysG g)[t]? = some (gA g t, .object (tyR t)) := by
  match t, h1, h2 with
  | 1, _, _ => rfl
  | 2, _, _ => rfl
  | 3, _, _ => rfl
  | 4, _, _ => rfl
theorem r_alenR {a t : Nat} (hd : decode y.2.1 pc = .ok (.arraylength, 1)) (ht : zT z a = 100 + t) (ht1 : 1 ≤ t) (ht4 : t ≤ 4) (k : WPc g y d rc rs (pc + 1) lv (.int (Int32.ofNat (zL z a)) :: st) z I Q) : WPc g y d rc rs pc lv (.ref a :: st) z I Q := by
  intro p l e R s m args below meth c H locs cells slots ls C h1 h2 h3 h4 hX hW hS hg hl
  obtain ⟨hx, hb, hml, hr, hown, hts, hlk, hnm, hK, hG⟩ := id C
  obtain ⟨h8, hlt⟩ := hW.inN (k := a) (by omega)
  exact va_alen (D := gD g) (x := (zL z a, .inr (.inr (.inr (.inr (fun i => (zP z a i).map (ad g))))))) hx hb hK hW.2.2.2.1 (a - 8) t (by rw [wsO_get h8 hlt, elm_reft ht ht1]) (tysG_R ht1 ht4) rfl hd (k p l e R s m args below meth c H locs cells slots ls C h1 h2 h3 h4 hX hW hS hg hl)
theorem r_aald {a t : Nat} {i : Int32} (hd : decode y.2.1 pc = .ok (.aaload, 1)) (ht : zT z a = 100 + t) (ht1 : 1 ≤ t) (ht4 : t ≤ 4) (hi : inB i (zL z a) = true) (k : oe (zP z a i.toNatClampNeg) (WPc g y d rc rs (pc + 1) lv (.null :: st) z I Q) (fun q => WPc g y d rc rs (pc + 1) lv (.ref q :: st) z I Q)) : WPc g y d rc rs pc lv (.int i :: .ref a :: st) z I Q := by
  intro p l e R s m args below meth c H locs cells slots ls C h1 h2 h3 h4 hX hW hS hg hl
  obtain ⟨hx, hb, hml, hr, hown, hts, hlk, hnm, hK, hG⟩ := id C
  obtain ⟨h8, hlt⟩ := hW.inN (k := a) (by omega)
  refine va_aldq (D := gD g) hx hb hK hW.2.2.2.1 (a - 8) t (by rw [wsO_get h8 hlt, elm_reft ht ht1]) (tysG_R ht1 ht4) (inB_vp hi) hd ?_
  show W _ _ _ _ _ _ _ _ _ _ _ _ _ _ _ (F0 _ _ _ (va_rf ((zP z a i.toNatClampNeg).map (ad g)) :: _))
  cases ho : zP z a i.toNatClampNeg with
  | none => rw [ho] at k; exact k p l e R s m args below meth c H locs cells slots ls C h1 h2 h3 h4 hX hW hS hg hl
  | some q => rw [ho] at k; exact k p l e R s m args below meth c H locs cells slots ls C h1 h2 h3 h4 hX hW hS hg hl
theorem r_iast {a : Nat} {i x : Int32} (hd : decode y.2.1 pc = .ok (.iastore, 1)) (ht : zT z a = 100) (hi : inB i (zL z a) = true) (k : WPc g y d rc rs (pc + 1) lv st z (up2 I a i.toNatClampNeg x) Q) : WPc g y d rc rs pc lv (.int x :: .int i :: .ref a :: st) z I Q := by
  intro p l e R s m args below meth c H locs cells slots ls C h1 h2 h3 h4 hX hW hS hg hl
  obtain ⟨hx, hb, hml, hr, hown, hts, hlk, hnm, hK, hG⟩ := id C
  obtain ⟨h8, hlt⟩ := hW.inN (k := a) (by omega)
  have hcell : H[ad g a]? = some (arrV (gA g 0) (zL z a) (fun j => .int (I a j))) := hW.2.2.2.1 (a - 8) (ad g a, .inl (gA g 0, zL z a, .inl (I a))) (by rw [wsO_get h8 hlt, elm_int ht])
  have hin := inB_vp hi
  refine W.iast hx hb hcell ((hK.2 0 _ rfl).1 _ (fun j => .int (I a j))) (fun q => by cases q) (by show ¬ (i < 0 ∨ (arrV _ _ _).slots.size ≤ _); rw [arrV_size]; exact hin) rfl rfl hd fun H1 e1 e2 e3 => ?_
  have hlow : ∀ q, q < g0 g → H1[q]? = H[q]? := fun q hq => e3 q (Nat.ne_of_lt (Nat.lt_of_lt_of_le hq (ad_ge h8)))
  refine k p l e R s m args below meth c H1 _ cells slots ls C h1 h2 h3 h4 (hG.2 s H H1 (Nat.le_trans hg hS.1) hlow hX) (hW.set (k := a) (by omega) rfl rfl (fun _ _ => rfl) (fun h8 b hb => ?_) (fun b hb => elm_other ?_) ?_ e2 e3) (hS.put e2 e3 (ad_ge h8)) hg hl
  · funext j; unfold up2; rw [if_neg (by omega)]
  · funext j; unfold up2; rw [if_neg hb]
  · rw [elm_int ht]
    show H1[ad g a]? = some (vp_cell _ _)
    rw [e1, vp_cell_i, arrV_store]
    congr 2
    funext q
    unfold updV up2
    rw [if_pos rfl]
    by_cases hq : q = i.toNatClampNeg
    · rw [if_pos hq, if_pos hq]
    · rw [if_neg hq, if_neg hq]
theorem aastEnd {a i t : Nat} {o : Option Nat} {H1 : Heap} (ht : zT z a = 100 + t) (ht1 : 1 ≤ t) (e1 : H1[ad g a]? = some ((arrV (gA g t) (zL z a) (fun j => va_rf ((zP z a j).map (ad g)))).setSlot i (va_rf (o.map (ad g))))) : va_at (gD g) vwCl (ad g a, elm g (zPut z a i o) I a) H1 := by
  rw [elm_ref (by show 101 ≤ zT z a; omega)]
  show H1[ad g a]? = some (vp_cell (gA g (zT z a - 100)) _)
  rw [e1, vp_cell_q, arrV_store, ht, show 100 + t - 100 = t by omega]
  congr 2
  funext q
  show updV _ _ _ _ = va_rf (((up2 z.2.2.2 a i o) a q).map (ad g))
  unfold updV up2
  rw [if_pos rfl]
  by_cases hq : q = i
  · rw [if_pos hq, if_pos hq]
  · rw [if_neg hq, if_neg hq]; rfl
theorem r_aastN {a t : Nat} {i : Int32} (hd : decode y.2.1 pc = .ok (.aastore, 1)) (ht : zT z a = 100 + t) (ht1 : 1 ≤ t) (ht4 : t ≤ 4) (hi : inB i (zL z a) = true) (k : WPc g y d rc rs (pc + 1) lv st (zPut z a i.toNatClampNeg none) I Q) : WPc g y d rc rs pc lv (.null :: .int i :: .ref a :: st) z I Q := by
  intro p l e R s m args below meth c H locs cells slots ls C h1 h2 h3 h4 hX hW hS hg hl
  obtain ⟨hx, hb, hml, hr, hown, hts, hlk, hnm, hK, hG⟩ := id C
  obtain ⟨h8, hlt⟩ := hW.inN (k := a) (by omega)
  have hcell : H[ad g a]? = some (arrV (gA g t) (zL z a) (fun j => va_rf ((zP z a j).map (ad g)))) := hW.2.2.2.1 (a - 8) (ad g a, .inl (gA g t, zL z a, .inr (.inr (.inr (.inr (fun i => (zP z a i).map (ad g))))))) (by rw [wsO_get h8 hlt, elm_reft ht ht1])
  have hin := inB_vp hi
  refine va_WaastN (C := tyR t) hx hb hcell ((hK.2 t _ (tysG_R ht1 ht4)).1 _ (fun j => va_rf _)) (fun h => by cases h) (by show ¬ (i < 0 ∨ (arrV _ _ _).slots.size ≤ _); rw [arrV_size]; exact hin) rfl rfl hd fun H1 e1 e2 e3 => ?_
  have hlow : ∀ q, q < g0 g → H1[q]? = H[q]? := fun q hq => e3 q (Nat.ne_of_lt (Nat.lt_of_lt_of_le hq (ad_ge h8)))
  exact k p l e R s m args below meth c H1 _ cells slots ls C h1 h2 h3 h4 (hG.2 s H H1 (Nat.le_trans hg hS.1) hlow hX) (hW.set (k := a) (by omega) rfl rfl (fun _ _ => rfl) (fun _ _ _ => rfl) (fun b hb => elm_zPut hb) (aastEnd ht ht1 e1) e2 e3) (hS.put e2 e3 (ad_ge h8)) hg hl
/-- casts and array classes that the tables give, but not as words that keep -/
def CaL : List (String × String) := [("UnlikeCoins$Common", "UnlikeCoins$Sort"), ("UnlikeCoins$Gilt", "UnlikeCoins$Scarce"), ("UnlikeCoins$Gilt", "UnlikeCoins$Sort"), ("UnlikeCoins$Melting", "UnlikeCoins$Sort"), ("UnlikeCoins$Scarce", "UnlikeCoins$Sort"), ("UnlikeCoins$Stamped", "UnlikeCoins$Common"), ("UnlikeCoins$Stamped", "UnlikeCoins$Sort"), ("[I", "java/lang/Cloneable")]
def NsL : List (String × Nat × MethodName × String) := [(RX11, 24, yX4_init, "UnlikeCoins"), (RX11, 46, yX5_init, "UnlikeCoins"), (RX2, 17, yX4_init, "UnlikeCoins"), (RX11, 62, yX7_init, "UnlikeCoins"), (RX5, 84, yX11_within, "UnlikeCoins"), (RX10, 21, yX11_within, "UnlikeCoins"), (RX4, 21, yX11_within, "UnlikeCoins")]
def GC (g : Gt) : Prop := (∀ (s : State) (H : Heap), gX g s H → ∀ q ∈ CaL, va_Nw (.castable q.1 q.2) s) ∧ ∀ (s : State) (H : Heap), gX g s H → (∀ t, 1 ≤ t → t ≤ 4 → va_AO (tyR t) s) ∧ ∀ q ∈ NsL, va_Nw (.methodLinkNest q.1 q.2.1 q.2.2.1 q.2.2.2) s
/-- may a cell of class ci stand in an array of tag 100 + t (its element class is that class, or the tables say that it can be cast to it) -/
def StoOK (ci t : Nat) : Prop := ∃ C T, ClsF ci C T ∧ (C = tyR t ∨ (C, tyR t) ∈ CaL)
theorem r_aast {a q ci t : Nat} {i : Int32} (hgc : GC g) (hd : decode y.2.1 pc = .ok (.aastore, 1)) (ht : zT z a = 100 + t) (ht1 : 1 ≤ t) (ht4 : t ≤ 4) (hi : inB i (zL z a) = true) (hq : zT z q = ci) (hsto : StoOK ci t) (hel : ∃ ce, ∃ C T, ClsF ce C T ∧ C = tyR t) (k : WPc g y d rc rs (pc + 1) lv st (zPut z a i.toNatClampNeg (some q)) I Q) : WPc g y d rc rs pc lv (.ref q :: .int i :: .ref a :: st) z I Q := by
  intro p l e R s m args below meth c H locs cells slots ls C h1 h2 h3 h4 hX hW hS hg hl
  obtain ⟨hx, hb, hml, hr, hown, hts, hlk, hnm, hK, hG⟩ := id C
  obtain ⟨h8, hlt⟩ := hW.inN (k := a) (by omega)
  obtain ⟨C0, T0, hc0, hcast⟩ := hsto
  obtain ⟨ce, C1, T1, hce, hC1⟩ := hel
  have h13 := hc0.2.2.2.2
  obtain ⟨h8q, hltq⟩ := hW.inN (k := q) (by omega)
  have hcell : H[ad g a]? = some (arrV (gA g t) (zL z a) (fun j => va_rf ((zP z a j).map (ad g)))) := hW.2.2.2.1 (a - 8) (ad g a, .inl (gA g t, zL z a, .inr (.inr (.inr (.inr (fun i => (zP z a i).map (ad g))))))) (by rw [wsO_get h8 hlt, elm_reft ht ht1])
  have hin := inB_vp hi
  have hlt2 : i.toNatClampNeg < zL z a := Nat.not_le.mp fun q => hin (Or.inr q)
  have hi0 : ¬ i < 0 := fun q => hin (Or.inl q)
  obtain ⟨r', hr', cellV, g1, g2, g3, -⟩ := hW.2.2.2.1 (q - 8) _ (by rw [wsO_get h8q hltq, elm_obj hq (by omega)])
  have hr2 : r' = (C0, T0, clN ci) := Option.some.inj (hr'.symm.trans hc0.1)
  subst hr2
  have hcls := (hK.1 ci _ hc0.1).2
  have hcle := (hK.1 ce _ hce.1).2
  obtain ⟨kA, comp, k1, k2, k3, -⟩ := (hK.2 t _ (tysG_R ht1 ht4)).2
  have hcomp : comp = (gD g).1 ce := Option.some.inj (k3.symm.trans (by rw [← hC1]; exact hcle.1))
  subst hcomp
  obtain ⟨kC, hkC, -⟩ := hcls.2
  obtain ⟨kE, hkE, -⟩ := hcle.2
  have hass : s.vm.assignable ((gD g).1 ci) ((gD g).1 ce) = true := by
    rcases hcast with h | h
    · have e : (gD g).1 ci = (gD g).1 ce := by
        have e1 := hcls.1
        have e2 := hcle.1
        rw [h, ← hC1] at e1
        exact Option.some.inj (e1.symm.trans e2)
      rw [← e]
      exact va_assign hcls
    · have h5 : (Cond.castable C0 (tyR t)).before args s = true := va_Nw.use (A := args) rfl (hgc.1 s H hX _ h)
      simp only [Cond.before, Cond.holds, Cond.value] at h5
      rw [hcls.1, ← hC1, hcle.1] at h5
      simpa using h5
  refine W.aast hx hb hcell (fun q h => by cases h) (fun h => by cases h) k1 k2 rfl hkE ⟨hi0, by show _ < (arrV _ _ _).slots.size; rw [arrV_size]; exact hlt2⟩ g1 (fun q h => by rw [g3] at h; cases h) (by rw [g2]; exact hkC) (by rw [g2]; exact hass) rfl rfl hd fun H1 e1 e2 e3 => ?_
  have hlow : ∀ q, q < g0 g → H1[q]? = H[q]? := fun q hq => e3 q (Nat.ne_of_lt (Nat.lt_of_lt_of_le hq (ad_ge h8)))
  exact k p l e R s m args below meth c H1 _ cells slots ls C h1 h2 h3 h4 (hG.2 s H H1 (Nat.le_trans hg hS.1) hlow hX) (hW.set (k := a) (by omega) rfl rfl (fun _ _ => rfl) (fun _ _ _ => rfl) (fun b hb => elm_zPut hb) (aastEnd (o := some q) ht ht1 e1) e2 e3) (hS.put e2 e3 (ad_ge h8)) hg hl
end RULES2
end
section
/-! making cells, calls, ends, at WPc -/
def nI0 (I : Is) (n : Nat) : Is := fun b j => if b = n then 0 else I b j
def zNew (z : Zs) (t len : Nat) : Zs := (z.1 + 1, up1 z.2.1 z.1 t, up1 z.2.2.1 z.1 len, fun b j => if b = z.1 then none else z.2.2.2 b j)
theorem elm_push {g : Gt} {z : Zs} {I : Is} {t len j : Nat} (h : j ≠ zN z) : elm g (zNew z t len) (nI0 I (zN z)) j = elm g z I j := by
  have h' : j ≠ z.1 := h
  have e1 : zT (zNew z t len) j = zT z j := by show up1 _ _ _ _ = _; unfold up1; rw [if_neg h']; rfl
  have e2 : zL (zNew z t len) j = zL z j := by show up1 _ _ _ _ = _; unfold up1; rw [if_neg h']; rfl
  have e3 : zP (zNew z t len) j = zP z j := by funext i; show (if j = z.1 then _ else _) = _; rw [if_neg h']; rfl
  have e4 : nI0 I (zN z) j = I j := by funext i; unfold nI0; rw [if_neg h]
  unfold elm fv
  rw [e1, e2, e3, e4]
theorem wsO_push {g : Gt} {z : Zs} {I : Is} {t len : Nat} (h : 8 ≤ zN z) : wsO g (zNew z t len) (nI0 I (zN z)) = wsO g z I ++ [(g0 g + (zN z - 8), elm g (zNew z t len) (nI0 I (zN z)) (zN z))] := by
  unfold wsO
  have e : zN (zNew z t len) - 8 = (zN z - 8) + 1 := by show zN z + 1 - 8 = _; omega
  rw [e, List.range_succ, List.map_append]
  congr 1
  · apply List.map_congr_left
    intro j hj
    have := List.mem_range.mp hj
    rw [elm_push (by omega)]
  · simp only [List.map_cons, List.map_nil]
    rw [show zN z - 8 + 8 = zN z by omega]
theorem Wh.push {g : Gt} {z : Zs} {I : Is} {H H' : Heap} {t len : Nat} (h : Wh g z I H) (ht : t < 13 ∨ 100 ≤ t) (he : va_at (gD g) vwCl (H.size, elm g (zNew z t len) (nI0 I (zN z)) (zN z)) H') (hs : H'.size = H.size + 1) (oq : ∀ q, q < H.size → H'[q]? = H[q]?) : Wh g (zNew z t len) (nI0 I (zN z)) H' := by
  obtain ⟨a1, a2, a3, a4, a5, a6⟩ := h
  have hne : ∀ k, k ≠ zN z → zT (zNew z t len) k = zT z k := fun k hk => by show up1 _ _ _ _ = _; unfold up1; exact if_neg hk
  refine ⟨by show 8 ≤ zN z + 1; omega, fun k hk => ?_, fun k hk => ?_, ?_, ?_, ?_⟩
  · have hk' : k < 8 ∨ zN z + 1 ≤ k := hk
    rw [hne k (by omega)]
    exact a2 k (by omega)
  · by_cases hkn : k = zN z
    · subst hkn
      have e : zT (zNew z t len) (zN z) = t := by show up1 _ _ _ _ = _; unfold up1; exact if_pos rfl
      rw [e] at hk ⊢
      omega
    · rw [hne k hkn] at hk ⊢
      exact a3 k hk
  · rw [wsO_push a1]
    refine va_P.app (a4.kept (fun k q hq => oq q.1 ((a4 k q hq).lt))) (fun k q hq => ?_)
    have hk : k < 1 := (List.getElem?_eq_some_iff.mp hq).1
    rw [show k = 0 by omega] at hq
    cases hq
    rw [← a5]
    exact he
  · rw [hs, a5]; show _ = g0 g + (zN z + 1 - 8); omega
  · intro k hk
    obtain ⟨b1, b2, b3⟩ := a6 k hk
    refine ⟨by rw [hne k (by omega)]; exact b1, ?_, ?_⟩
    · have : zL (zNew z t len) k = zL z k := by show up1 _ _ _ _ = _; unfold up1; rw [if_neg (by show k ≠ zN z; omega)]; rfl
      rw [this]; exact b2
    · rw [← b3]; funext j; unfold nI0; rw [if_neg (by omega)]
section RULES3
variable {g : Gt} {y : Mth} {d rc rs pc : Nat} {lv : List (Nat × Value)} {st : List Value} {z : Zs} {I : Is} {Q : Option Value → Zs → Is → Prop}
theorem ad_new {g : Gt} {z : Zs} {I : Is} {H : Heap} (h : Wh g z I H) : ad g (zN z) = H.size := by
  unfold ad
  rw [if_neg (by have := h.1; omega), h.2.2.2.2.1]
def DefOK (ci : Nat) : Prop := ∀ j, j < clN ci → defaultValue (tyC ci j) = if isR ci j then .null else .int 0
def NewOK (own : String) (idx ci : Nat) : Prop := ∃ C T, ClsF ci C T ∧ Cond.classLink own idx C ∈ gw_tbl ∧ Cond.instantiable C (clN ci) ∈ gw_tbl ∧ Cond.initialized C ∈ gw_tbl ∧ DefOK ci
theorem r_new {idx ci rc' rs' : Nat} (hd : decode y.2.1 pc = .ok (.new idx, 3)) (hn : NewOK y.1.cls idx ci) (hrc : 1 + rc' ≤ rc) (hrs : clN ci + rs' ≤ rs) (k : WPc g y d rc' rs' (pc + 3) lv (.ref (zN z) :: st) (zNew z ci 0) (nI0 I (zN z)) Q) : WPc g y d rc rs pc lv st z I Q := by
  intro p l e R s m args below meth c H locs cells slots ls C h1 h2 h3 h4 hX hW hS hg hl
  obtain ⟨hx, hb, hml, hr, hown, hts, hlk, hnm, hK, hG⟩ := id C
  obtain ⟨C0, T, hc, hcl, hinst, hini, hdef⟩ := hn
  have hKn := hK.1 ci _ hc.1
  refine W.newcK hx hb hown (hts _ hcl) (hts _ hinst) (hts _ hini) rfl hd (by omega) (by omega) hKn.2.1 rfl fun H1 kC hkC e1 z1 o1 => ?_
  have h13 := hc.2.2.2.2
  have hlow : ∀ q, q < g0 g → H1[q]? = H[q]? := fun q hq => o1 q (Nat.lt_of_lt_of_le hq (Nat.le_trans hg hS.1))
  rw [← ad_new hW]
  refine k p l e R s m args below meth c H1 locs (cells + 1) (slots + clN ci) ls C h1 h2 (by omega) (by omega) (hG.2 s H H1 (Nat.le_trans hg hS.1) hlow hX) (hW.push (Or.inl h13) ?_ z1 o1) ⟨Nat.le_trans hS.1 (by omega), fun q h1 h2 => (o1 q (Nat.lt_of_lt_of_le h1 hS.1)).trans (hS.2.1 q h1 h2), hS.2.2⟩ hg hl
  have ht : zT (zNew z ci 0) (zN z) = ci := by show up1 _ _ _ _ = _; unfold up1; exact if_pos rfl
  rw [elm_obj ht (by omega)]
  refine ⟨_, hc.1, (u_born (tyC ci) hts hc.2.1 hKn hkC e1 hc.2.2.1).to (fun j hj => ?_)⟩
  show _ = List.getD _ j Value.null
  rw [List.getD_eq_getElem?_getD, fs_get hj, Option.getD_some, hdef j hj]
  unfold fv
  have ep : zP (zNew z ci 0) (zN z) j = none := by show (if _ then _ else _) = _; exact if_pos rfl
  rw [ep]
  cases isR ci j
  · show _ = Value.int (nI0 I (zN z) (zN z) j); unfold nI0; rw [if_pos rfl]; rfl
  · rfl
theorem r_newI {n : Int32} {rc' rs' N : Nat} (hd : decode y.2.1 pc = .ok (.newarray .int, 2)) (hn : n = Int32.ofNat N) (hN : N ≤ 100000) (hrc : 1 + rc' ≤ rc) (hrs : N + rs' ≤ rs) (hw : Cond.arrayClass .int ∈ gw_tbl) (k : WPc g y d rc' rs' (pc + 2) lv (.ref (zN z) :: st) (zNew z 100 N) (nI0 I (zN z)) Q) : WPc g y d rc rs pc lv (.int n :: st) z I Q := by
  intro p l e R s m args below meth c H locs cells slots ls C h1 h2 h3 h4 hX hW hS hg hl
  obtain ⟨hx, hb, hml, hr, hown, hts, hlk, hnm, hK, hG⟩ := id C
  have hcl : n.toNatClampNeg = N := by rw [hn]; exact nI_clamp (n := N) (by omega)
  have hn0 : ¬ n < 0 := by rw [hn]; exact nI_pos (n := N) (by omega)
  refine va_newaK (atype := .int) hx hb (hts _ hw) rfl hd rfl hn0 hcl (by show N * 4 ≤ _; omega) (by omega) (by omega) rfl fun H1 cA e1 z1 o1 hAr hNm => ?_
  have hcA : cA = gA g 0 := by
    have h5 := (hK.2 0 _ rfl).2
    exact Option.some.inj (hNm.symm.trans h5)
  subst hcA
  have hlow : ∀ q, q < g0 g → H1[q]? = H[q]? := fun q hq => o1 q (Nat.lt_of_lt_of_le hq (Nat.le_trans hg hS.1))
  rw [← ad_new hW]
  refine k p l e R s m args below meth c H1 locs (cells + 1) (slots + N) ls C h1 h2 (by omega) (by omega) (hG.2 s H H1 (Nat.le_trans hg hS.1) hlow hX) (hW.push (Or.inr (by omega)) ?_ z1 o1) ⟨Nat.le_trans hS.1 (by omega), fun q h1 h2 => (o1 q (Nat.lt_of_lt_of_le h1 hS.1)).trans (hS.2.1 q h1 h2), hS.2.2⟩ hg hl
  have ht : zT (zNew z 100 N) (zN z) = 100 := by show up1 _ _ _ _ = _; unfold up1; exact if_pos rfl
  have hL : zL (zNew z 100 N) (zN z) = N := by show up1 _ _ _ _ = _; unfold up1; exact if_pos rfl
  rw [elm_int ht, hL]
  show H1[H.size]? = some (vp_cell _ _)
  rw [e1, vp_cell_i]
  congr 2
  funext j
  unfold nI0
  rw [if_pos rfl]
  rfl
def AnwOK (own : String) (idx t : Nat) : Prop := Cond.classLink own idx (tyR t) ∈ gw_tbl ∧ 1 ≤ t ∧ t ≤ 4
theorem r_newR {n : Int32} {idx t rc' rs' N : Nat} (hgc : GC g) (hd : decode y.2.1 pc = .ok (.anewarray idx, 3)) (ha : AnwOK y.1.cls idx t) (hn : n = Int32.ofNat N) (hN : N ≤ 100000) (hrc : 1 + rc' ≤ rc) (hrs : N + rs' ≤ rs) (k : WPc g y d rc' rs' (pc + 3) lv (.ref (zN z) :: st) (zNew z (100 + t) N) (nI0 I (zN z)) Q) : WPc g y d rc rs pc lv (.int n :: st) z I Q := by
  intro p l e R s m args below meth c H locs cells slots ls C h1 h2 h3 h4 hX hW hS hg hl
  obtain ⟨hx, hb, hml, hr, hown, hts, hlk, hnm, hK, hG⟩ := id C
  obtain ⟨hcl, ht1, ht4⟩ := ha
  have hclm : n.toNatClampNeg = N := by rw [hn]; exact nI_clamp (n := N) (by omega)
  have hn0 : ¬ n < 0 := by rw [hn]; exact nI_pos (n := N) (by omega)
  refine W.anew hx hb hown (hts _ hcl) ((hgc.2 s H hX).1 t ht1 ht4).use rfl hd rfl hn0 (by rw [hclm]; omega) (by omega) (by rw [hclm]; omega) (fun cA kA comp e1 e2 e3 e4 => ?_)
  rw [hclm]
  have hcA : cA = gA g t := by
    obtain ⟨kA', comp', b1, b2, b3, b4⟩ := (hK.2 t _ (tysG_R ht1 ht4)).2
    exact Option.some.inj (e1.symm.trans b4)
  subst hcA
  have o1 : ∀ q, q < H.size → (H.push ({ cls := gA g t, slots := Array.replicate N Value.null, vm := .none } : Cell))[q]? = H[q]? := fun q hq => by rw [Array.getElem?_push]; rw [if_neg (Nat.ne_of_lt hq)]
  have z1 : (H.push ({ cls := gA g t, slots := Array.replicate N Value.null, vm := .none } : Cell)).size = H.size + 1 := Array.size_push ..
  have hlow : ∀ q, q < g0 g → (H.push ({ cls := gA g t, slots := Array.replicate N Value.null, vm := .none } : Cell))[q]? = H[q]? := fun q hq => o1 q (Nat.lt_of_lt_of_le hq (Nat.le_trans hg hS.1))
  rw [← ad_new hW]
  refine k p l e R s m args below meth c _ locs (cells + 1) (slots + N) ls C h1 h2 (by omega) (by omega) (hG.2 s H _ (Nat.le_trans hg hS.1) hlow hX) (hW.push (Or.inr (by omega)) ?_ z1 o1) ⟨Nat.le_trans hS.1 (by omega), fun q h1 h2 => (o1 q (Nat.lt_of_lt_of_le h1 hS.1)).trans (hS.2.1 q h1 h2), hS.2.2⟩ hg hl
  have ht : zT (zNew z (100 + t) N) (zN z) = 100 + t := by show up1 _ _ _ _ = _; unfold up1; exact if_pos rfl
  have hL : zL (zNew z (100 + t) N) (zN z) = N := by show up1 _ _ _ _ = _; unfold up1; exact if_pos rfl
  rw [elm_reft ht ht1, hL]
  show (H.push _)[H.size]? = some (vp_cell _ _)
  rw [Array.getElem?_push_size, vp_cell_q]
  congr 1
  unfold arrV
  congr 1
  apply Array.ext
  · simp
  · intro i hi1 hi2
    simp only [Array.getElem_replicate, Array.getElem_ofFn]
    have ep : zP (zNew z (100 + t) N) (zN z) i = none := by show (if _ then _ else _) = _; exact if_pos rfl
    rw [ep]
    rfl
-- ends
theorem qmI {Q : Option Value → Zs → Is → Prop} {s t : State} {args : Array Value} {H : Heap} {locs : List Loc} {v : Option Value} (hq : Q v z I) (hW : Wh g z I H) (hS : va_S (Fa g) s.heap H locs) (hg : g0 g ≤ s.heap.size) (ht : t.heap = H) : Qm g Q args s (.returned (v.map (lf g))) t :=
  ⟨⟨v, z, I, rfl, hq, by rw [ht]; exact hW⟩, by rw [ht]; exact hS.1, fun q hq => by rw [ht]; exact hS.2.1 q (Nat.lt_of_lt_of_le hq hg) (fun h => absurd hq (Nat.not_lt.mpr h))⟩
theorem r_iret {x : Int32} {ty : FieldType} (hd : decode y.2.1 pc = .ok (.ireturn, 1)) (hr : y.2.2.2 = some ty) (hn : narrow ty (.int x) = .int x) (hq : Q (some (.int x)) z I) : WPc g y d rc rs pc lv [.int x] z I Q := by
  intro p l e R s m args below meth c H locs cells slots ls C h1 h2 h3 h4 hX hW hS hg hl
  refine W.widen (k := R.cells) (n := R.slots) (by omega) (by omega) ?_
  exact W.zret (v := x) C.1 C.2.1 (C.2.2.2.1.trans hr) hn (fun t ht _ => qmI (v := some (.int x)) hq hW hS hg ht) hS.2.2 hd C.2.2.2.2.2.2.1
theorem r_lret {x : Int64} (hd : decode y.2.1 pc = .ok (.lreturn, 1)) (hr : y.2.2.2 = some .long) (hq : Q (some (.long x)) z I) : WPc g y d rc rs pc lv [.long x] z I Q := by
  intro p l e R s m args below meth c H locs cells slots ls C h1 h2 h3 h4 hX hW hS hg hl
  refine W.widen (k := R.cells) (n := R.slots) (by omega) (by omega) ?_
  exact W.lret (v := x) C.1 C.2.1 (C.2.2.2.1.trans hr) (fun t ht _ => qmI (v := some (.long x)) hq hW hS hg ht) hS.2.2 hd C.2.2.2.2.2.2.1
theorem r_vret (hd : decode y.2.1 pc = .ok (.return_, 1)) (hr : y.2.2.2 = none) (hq : Q none z I) : WPc g y d rc rs pc lv [] z I Q := by
  intro p l e R s m args below meth c H locs cells slots ls C h1 h2 h3 h4 hX hW hS hg hl
  refine W.widen (k := R.cells) (n := R.slots) (by omega) (by omega) ?_
  exact W.vret C.1 C.2.1 (C.2.2.2.1.trans hr) (fun t ht _ => qmI (v := none) hq hW hS hg ht) hS.2.2 hd C.2.2.2.2.2.2.1
theorem r_aret {o : Option Nat} {ty : FieldType} (hd : decode y.2.1 pc = .ok (.areturn, 1)) (hr : y.2.2.2 = some ty) (hty : (∃ n, ty = .object n) ∨ ∃ t, ty = .array t) (hq : Q (some (va_rf o)) z I) : WPc g y d rc rs pc lv [va_rf o] z I Q := by
  intro p l e R s m args below meth c H locs cells slots ls C h1 h2 h3 h4 hX hW hS hg hl
  refine W.widen (k := R.cells) (n := R.slots) (by omega) (by omega) ?_
  show W _ _ _ _ _ _ _ _ _ _ _ _ _ _ _ (F0 m pc ls [lf g (va_rf o)])
  refine W.aret (v := lf g (va_rf o)) C.1 C.2.1 (C.2.2.2.1.trans hr) hty (by rw [lf_rf]; exact va_rf_or _) (fun t ht _ => qmI (v := some (va_rf o)) hq hW hS hg ht) hS.2.2 hd C.2.2.2.2.2.2.1
-- entry
theorem WPm.of {args : List Value} (hp : plainName y.1.cls = true) (hlen : (lg_sl args).length ≤ y.2.2.1) (k : WPc g y d rc rs 0 (lv_args 0 args) [] z I Q) : WPm g y d rc rs args z I Q := by
  intro l
  refine Met.ofW (cc := y.2.1) (maxL := y.2.2.1) (ret := y.2.2.2) hp rfl ?_
  intro p e s m as below meth c s₁ B hml hv
  obtain ⟨rfl, hK, hG, hX, hW⟩ := hv
  have hts := atoms_spec (ws := WS y) B.pre
  have hl := lv_entry (args.map (lf g)) (n := y.2.2.1) (by rw [lg_sl_lf]; exact hlen)
  rw [lfs_args] at hl
  rw [lg_entry_eq]
  have hgs : g0 g ≤ s.heap.size := by have := hW.2.2.2.2.1; omega
  exact k p l e (rmO d rc rs) s m _ below meth c s.heap [] 0 0 _ ⟨B.exec, B.bytes, hml, B.returns, findClass_of_methodNamed B.named, fun w h => hts w (List.mem_cons_of_mem _ h), B.notSynchronized, (name_of_methodNamed B.named B.method).1, hK, hG⟩ (Nat.le_refl _) (Nat.le_refl _) (by show 0 + rc ≤ rc; omega) (by show 0 + rs ≤ rs; omega) hX hW va_S.rf hgs hl
end RULES3
end
section
/-! calls, at WPc -/
/-- what every called method needs of the tables -/
def MthOK (y : Mth) (n : Nat) : Prop := Cond.code y.1 y.2.1 y.2.2.1 y.2.2.2 ∈ gw_tbl ∧ Cond.initialized y.1.cls ∈ gw_tbl ∧ (y.1.cls ≠ "java/lang/invoke/MethodHandle" ∧ y.1.cls ≠ "java/lang/invoke/VarHandle") ∧ (parseMethodDescriptor y.1.desc).map (fun d => d.parameters.length) = some n ∧ y.2.2.1 ≤ 22
theorem WS_good (y : Mth) (h : Cond.code y.1 y.2.1 y.2.2.1 y.2.2.2 ∈ gw_tbl) : GoodIn gw_tbl (WS y) := fun w hw => by
  have hm : w ∈ gw_tbl := (List.mem_cons.mp hw).elim (fun e => by rw [e]; exact h) id
  exact ⟨hm, good_of_word (gw_good w hm)⟩
section RULES4
variable {g : Gt} {y : Mth} {d rc rs pc : Nat} {lv : List (Nat × Value)} {st : List Value} {z : Zs} {I : Is} {Q : Option Value → Zs → Is → Prop}
variable {p : Program} {l : Launch} {e : Env} {R : Room} {s : State} {m : MethodId} {args : Array Value} {below : List Frame} {meth : Method} {c : Code} {H : Heap} {locs : List Loc} {cells slots : Nat} {ls : Array Slot}
theorem runK {mc ms rc' rs' : Nat} {st0 : List Value} {a : Array Value} {Q0 : Option Value → Zs → Is → Prop} (hr : va_Run p l e R s m args below meth c H locs cells slots mc ms (F0 m pc ls st0) (st.map (lf g)) (Qm g Q0 a) (Fa g)) (C : Cx g p y s m args meth c) (h1 : d ≤ R.frames) (h2 : 41 * d ≤ R.locals) (h3 : cells + rc ≤ R.cells) (h4 : slots + rs ≤ R.slots) (hmc : mc + rc' ≤ rc) (hms : ms + rs' ≤ rs) (hX : gX g s H) (hS : va_S (Fa g) s.heap H locs) (hg : g0 g ≤ s.heap.size) (hl : lv_has ls y.2.2.1 (lfs g lv)) (k : ∀ v z' I', Q0 v z' I' → WPc g y d rc' rs' (pc + 3) lv (v.toList ++ st) z' I' Q) : W p l e R s m args below meth c H locs cells slots (MQ below (Qm g Q) args s R.cells R.slots (Fa g)) (F0 m pc ls st0) := by
  intro T hT X
  obtain ⟨v, st₀, t, T', L, h0, X', hL, e1, e2, ⟨⟨v1, z1, I1, hv, hq, hW1⟩, hz, hk⟩, hst⟩ := hr T hT X
  have hv' : v = v1.map (lf g) := by cases hv; rfl
  rw [h0] at hz hk
  have hlow : ∀ q, q < g0 g → T'.heap[q]? = H[q]? := fun q hq => by rw [e1]; exact hk q hq
  have hsz : H.size ≤ T'.heap.size := by rw [e1]; exact hz
  obtain ⟨t2, a1, b1⟩ := k v1 z1 I1 hq p l e R s m args below meth c T'.heap (locs ++ L) (cells + mc) (slots + ms) ls C h1 h2 (by omega) (by omega) (C.2.2.2.2.2.2.2.2.2.2 s H T'.heap (Nat.le_trans hg hS.1) hlow hX) (by rw [e1]; exact hW1)
    ⟨Nat.le_trans hS.1 hsz, fun q h1 h2 => by rw [hlow q (Nat.lt_of_not_le h2)]; exact hS.2.1 q h1 h2, fun q hq => (List.mem_append.mp hq).elim (fun h => hS.2.2 q h) (fun h => hL q h)⟩ hg hl T' rfl X'
  refine ⟨t2, hst t2 ?_, b1⟩
  have e3 : v.toList ++ st.map (lf g) = (v1.toList ++ st).map (lf g) := by rw [hv']; cases v1 <;> simp
  show Steps _ _ _ (T'.setTop { method := m, pc := pc + 3, locals := ls, stack := v.toList ++ st.map (lf g), locked := none }) t2
  rw [e3]
  exact a1
theorem pm_blind {As : List Value} : FrameBlind (Pm g As z I) := fun a U gf mk q => ⟨q.1, va_K.moved (u := U) (U := U.calling gf mk a) (Vm.Alike.refl U.vm) q.2.1, q.2.2.1, q.2.2.1.1 U (U.calling gf mk a) U.heap (State.WarmedH.refl U) q.2.2.2.1, q.2.2.2.2⟩
theorem pm_at {As : List Value} (C : Cx g p y s m args meth c) (hX : gX g s H) (hW : Wh g z I H) : ∀ U : State, U.heap = H → s.WarmedH U.vm → Pm g As z I ((As.map (lf g)).toArray) U := fun U hU hw => ⟨rfl, va_K.moved hw.alike C.2.2.2.2.2.2.2.2.1, C.2.2.2.2.2.2.2.2.2, by rw [hU]; exact C.2.2.2.2.2.2.2.2.2.1 s U H hw hX, by rw [hU]; exact hW⟩
theorem cat_map : (st.map (lf g)).map (fun v => v.category) = st.map (fun v => v.category) := by rw [List.map_map]; exact List.map_congr_left (fun v _ => lf_cat g v)
theorem room_map {stx : List Value} (h : (st.map (fun v => v.category)).sum ≤ 8) : 2 * (F0 m pc ls stx).monitorRoom + ((st.map (lf g)).map fun v => v.category).sum ≤ 8 := lv_room (by rw [cat_map]; exact h)
theorem callB {y' : Mth} {n d' mc ms idx : Nat} (hm : MthOK y' n) (C : Cx g p y s m args meth c) (h1 : d' + 1 ≤ R.frames) (h2 : 41 * (d' + 1) ≤ R.locals) (hlink : Cond.methodLink y.1.cls idx y'.1 ∈ gw_tbl) : CallB R s args y.1.cls idx y'.1 y'.2.1 y'.2.2.1 y'.2.2.2 (WS y') (rmO d' mc ms) mc ms n := by
  obtain ⟨hc, hi, hne, hd, hml⟩ := hm
  have hts := C.2.2.2.2.2.1
  exact callB_of n hts (WS_good y' hc) rfl rfl rfl (hts _ hi) (hts _ hlink) ⟨hne.1, hne.2, hd⟩ ⟨h1, by show 8 + (y'.2.2.1 + 11) + 41 * d' ≤ _; omega⟩
theorem cfix (C : Cx g p y s m args meth c) : CallFix p m c y.2.1 y.2.2.1 s args gw_tbl y.1.cls := ⟨C.1, C.2.1, C.2.2.1, C.2.2.2.2.1, C.2.2.2.2.2.1⟩
theorem stk (As : List Value) (r : List Value) : (As.reverse ++ r).map (lf g) = (As.map (lf g)).reverse ++ r.map (lf g) := by rw [List.map_append, List.map_reverse]
end RULES4
section RULES5
variable {g : Gt} {y : Mth} {d rc rs pc : Nat} {lv : List (Nat × Value)} {st : List Value} {z : Zs} {I : Is} {Q : Option Value → Zs → Is → Prop}
def CalS (own : String) (idx : Nat) (y' : Mth) (n : Nat) : Prop := MthOK y' n ∧ Cond.methodLink own idx y'.1 ∈ gw_tbl ∧ Cond.static y'.1 ∈ gw_tbl
theorem r_callS {idx n mc ms rc' rs' : Nat} {y' : Mth} (As : List Value) (hd : decode y.2.1 pc = .ok (.invokestatic idx, 3)) (hc : CalS y.1.cls idx y' n) (hn : As.length = n) (hcat : (st.map (fun v => v.category)).sum ≤ 8) (hmc : mc + rc' ≤ rc) (hms : ms + rs' ≤ rs) (hM : WPm g y' d mc ms As z I (fun v z' I' => WPc g y (d + 1) rc' rs' (pc + 3) lv (v.toList ++ st) z' I' Q)) : WPc g y (d + 1) rc rs pc lv (As.reverse ++ st) z I Q := by
  intro p l e R s m args below meth c H locs cells slots ls C h1 h2 h3 h4 hX hW hS hg hl
  refine runK (va_runS (As := As.map (lf g)) (n := n) (cfix C) (hM l) ⟨callB hc.1 C h1 h2 hc.2.1, C.2.2.2.2.2.1 _ hc.2.2⟩ ⟨pm_blind, pm_at C hX hW⟩ rfl (by rw [List.length_map]; exact hn) hl.1 (stk As st) (room_map hcat) hd ⟨by omega, by omega⟩) C h1 h2 h3 h4 hmc hms hX hS hg hl (fun v z' I' q => q)
/-- the receiver's cell is of class ci -/
theorem recvO {g : Gt} {y : Mth} {z : Zs} {I : Is} {H : Heap} {p : Program} {s : State} {m : MethodId} {args : Array Value} {meth : Method} {c : Code} {a ci : Nat} {C0 : String} {T : u_T} (C : Cx g p y s m args meth c) (hW : Wh g z I H) (ht : zT z a = ci) (hc : ClsF ci C0 T) : ∃ cell : Cell, H[ad g a]? = some cell ∧ cell.vm.isStatics = false ∧ s.vm.findClass C0 = some cell.cls := by
  have h13 := hc.2.2.2.2
  obtain ⟨h8, hlt⟩ := hW.inN (k := a) (by omega)
  exact va_recv (D := gD g) (q := (C0, T, clN ci)) C.2.2.2.2.2.2.2.2.1 hW.2.2.2.1 (q0 := a - 8) hc.1 (by rw [wsO_get h8 hlt, elm_obj ht (by omega)])
def CalI (own : String) (idx : Nat) (y' : Mth) (n : Nat) : Prop := MthOK y' n ∧ Cond.methodLink own idx y'.1 ∈ gw_tbl ∧ Cond.instanceMethod y'.1 ∈ gw_tbl ∧ y'.1.name = "<init>" ∧ y'.2.2.2 = none
theorem r_callI {idx n mc ms rc' rs' a : Nat} {y' : Mth} (As : List Value) (hd : decode y.2.1 pc = .ok (.invokespecial idx, 3)) (hc : CalI y.1.cls idx y' n) (hn : As.length = n) (hcat : (st.map (fun v => v.category)).sum ≤ 8) (hmc : mc + rc' ≤ rc) (hms : ms + rs' ≤ rs) (hM : WPm g y' d mc ms (.ref a :: As) z I (fun v z' I' => WPc g y (d + 1) rc' rs' (pc + 3) lv (v.toList ++ st) z' I' Q)) : WPc g y (d + 1) rc rs pc lv (As.reverse ++ .ref a :: st) z I Q := by
  intro p l e R s m args below meth c H locs cells slots ls C h1 h2 h3 h4 hX hW hS hg hl
  have hB := callB (R := R) (mc := mc) (ms := ms) hc.1 C h1 h2 hc.2.1
  rw [hc.2.2.2.2] at hB
  exact runK (va_runI (As := As.map (lf g)) (b := ad g a) (n := n) (bytes := y'.2.1) (maxL := y'.2.2.1) (ws := WS y') (cfix C) (hM l) ⟨hB, hc.2.2.2.1, C.2.2.2.2.2.1 _ hc.2.2.1⟩ ⟨pm_blind, pm_at (As := .ref a :: As) C hX hW⟩ rfl (by rw [List.length_map]; exact hn) hl.1 (stk As (.ref a :: st)) (room_map hcat) hd ⟨by omega, by omega⟩) C h1 h2 h3 h4 hmc hms hX hS hg hl (fun v z' I' q => q)
def CalV (own : String) (idx : Nat) (y' : Mth) (n ci : Nat) : Prop := MthOK y' n ∧ Cond.methodLink own idx y'.1 ∈ gw_tbl ∧ Cond.instanceMethod y'.1 ∈ gw_tbl ∧ ∃ C T, ClsF ci C T ∧ C = y'.1.cls ∧ Cond.selects C y'.1 y'.1 ∈ gw_tbl
theorem r_callV {idx n ci mc ms rc' rs' a : Nat} {y' : Mth} (As : List Value) (hd : decode y.2.1 pc = .ok (.invokevirtual idx, 3)) (hc : CalV y.1.cls idx y' n ci) (ht : zT z a = ci) (hn : As.length = n) (hcat : (st.map (fun v => v.category)).sum ≤ 8) (hmc : mc + rc' ≤ rc) (hms : ms + rs' ≤ rs) (hM : WPm g y' d mc ms (.ref a :: As) z I (fun v z' I' => WPc g y (d + 1) rc' rs' (pc + 3) lv (v.toList ++ st) z' I' Q)) : WPc g y (d + 1) rc rs pc lv (As.reverse ++ .ref a :: st) z I Q := by
  intro p l e R s m args below meth c H locs cells slots ls C h1 h2 h3 h4 hX hW hS hg hl
  obtain ⟨hm, hlink, hinst, C0, T, hcl, hC0, hsel⟩ := hc
  have hts := C.2.2.2.2.2.1
  exact runK (va_runV (C := C0) (As := As.map (lf g)) (b := ad g a) (n := n) (cfix C) (hM l) ⟨callB hm C h1 h2 hlink, hts _ hinst, hts _ hsel⟩ ⟨pm_blind, recvO C hW ht hcl, pm_at (As := .ref a :: As) C hX hW⟩ rfl (by rw [List.length_map]; exact hn) hl.1 (stk As (.ref a :: st)) (room_map hcat) hd ⟨by omega, by omega⟩) C h1 h2 h3 h4 hmc hms hX hS hg hl (fun v z' I' q => q)
/-- a virtual call of x (named in the pool; owner declares it) that comes to y' for receivers of class ci -/
def CalU (own : String) (idx : Nat) (x : MethodName) (y' : Mth) (n ci : Nat) : Prop := MthOK y' n ∧ Cond.methodLink own idx x ∈ gw_tbl ∧ Cond.instanceMethod y'.1 ∈ gw_tbl ∧ ∃ (C : String) (T : u_T) (owner : String) (b0 : ByteArray) (m0 : Nat) (r0 : Option FieldType), ClsF ci C T ∧ Cond.sameMethod x.cls owner x.name x.desc ∈ gw_tbl ∧ Cond.instanceMethod ⟨owner, x.name, x.desc⟩ ∈ gw_tbl ∧ Cond.code ⟨owner, x.name, x.desc⟩ b0 m0 r0 ∈ gw_tbl ∧ Cond.selects C x y'.1 ∈ gw_tbl ∧ (owner ≠ "java/lang/invoke/MethodHandle" ∧ owner ≠ "java/lang/invoke/VarHandle") ∧ (parseMethodDescriptor x.desc).map (fun d => d.parameters.length) = some n
theorem r_callU {idx n ci mc ms rc' rs' a : Nat} {x : MethodName} {y' : Mth} (As : List Value) (hd : decode y.2.1 pc = .ok (.invokevirtual idx, 3)) (hc : CalU y.1.cls idx x y' n ci) (ht : zT z a = ci) (hn : As.length = n) (hcat : (st.map (fun v => v.category)).sum ≤ 8) (hmc : mc + rc' ≤ rc) (hms : ms + rs' ≤ rs) (hM : WPm g y' d mc ms (.ref a :: As) z I (fun v z' I' => WPc g y (d + 1) rc' rs' (pc + 3) lv (v.toList ++ st) z' I' Q)) : WPc g y (d + 1) rc rs pc lv (As.reverse ++ .ref a :: st) z I Q := by
  intro p l e R s m args below meth c H locs cells slots ls C h1 h2 h3 h4 hX hW hS hg hl
  obtain ⟨hm, hlink, hinst, C0, T, owner, b0, m0, r0, hcl, hsame, hio, hco, hsel, hne, hdesc⟩ := hc
  have hts := C.2.2.2.2.2.1
  have hG := WS_good y' hm.1
  have hcu : va_CU R s args y.1.cls C0 owner idx x y'.1 y'.2.1 y'.2.2.1 y'.2.2.2 (WS y') (rmO d mc ms) mc ms n := by
    refine ⟨⟨rfl, rfl, h1, by show 8 + (y'.2.2.1 + 11) + 41 * d ≤ _; have := hm.2.2.2.2; omega, pay_in hts hG, List.mem_cons_self⟩, hts _ hm.1, hts _ hm.2.1, hne, fun sig h => ?_, hts _ hlink, hts _ hsame, va_Decl.of (hts _ hio) (hts _ hco), hts _ hsel, hts _ hinst⟩
    rw [h] at hdesc
    exact (Option.some.inj hdesc).symm
  exact runK (va_runU (As := As.map (lf g)) (b := ad g a) (n := n) (cfix C) (hM l) hcu ⟨pm_blind, recvO C hW ht hcl, pm_at (As := .ref a :: As) C hX hW⟩ rfl (by rw [List.length_map]; exact hn) hl.1 (stk As (.ref a :: st)) (room_map hcat) hd ⟨by omega, by omega⟩) C h1 h2 h3 h4 hmc hms hX hS hg hl (fun v z' I' q => q)
/-- super.y'(..), for receivers of class ci -/
def CalP (own : String) (idx : Nat) (y' : Mth) (n ci : Nat) : Prop := MthOK y' n ∧ Cond.methodLink own idx y'.1 ∈ gw_tbl ∧ Cond.instanceMethod y'.1 ∈ gw_tbl ∧ Cond.sameMethod y'.1.cls y'.1.cls y'.1.name y'.1.desc ∈ gw_tbl ∧ Cond.superclass own y'.1.cls ∈ gw_tbl ∧ y'.1.name ≠ "<init>" ∧ ∃ C T, ClsF ci C T
theorem r_callP {idx n ci mc ms rc' rs' a : Nat} {y' : Mth} (As : List Value) (hd : decode y.2.1 pc = .ok (.invokespecial idx, 3)) (hc : CalP y.1.cls idx y' n ci) (ht : zT z a = ci) (hn : As.length = n) (hcat : (st.map (fun v => v.category)).sum ≤ 8) (hmc : mc + rc' ≤ rc) (hms : ms + rs' ≤ rs) (hM : WPm g y' d mc ms (.ref a :: As) z I (fun v z' I' => WPc g y (d + 1) rc' rs' (pc + 3) lv (v.toList ++ st) z' I' Q)) : WPc g y (d + 1) rc rs pc lv (As.reverse ++ .ref a :: st) z I Q := by
  intro p l e R s m args below meth c H locs cells slots ls C h1 h2 h3 h4 hX hW hS hg hl
  obtain ⟨hm, hlink, hinst, hsame, hsup, hni, C0, T, hcl⟩ := hc
  have hts := C.2.2.2.2.2.1
  have hG := WS_good y' hm.1
  have hcs : va_CS R s args y.1.cls idx y'.1 y'.2.1 y'.2.2.1 y'.2.2.2 (WS y') (rmO d mc ms) mc ms n := by
    refine ⟨⟨rfl, rfl, h1, by show 8 + (y'.2.2.1 + 11) + 41 * d ≤ _; have := hm.2.2.2.2; omega, pay_in hts hG, List.mem_cons_self⟩, hts _ hlink, hts _ hsame, hts _ hsup, hts _ hinst, hts _ hm.2.1, hts _ hm.1, hni, fun sig h => ?_⟩
    have hdesc := hm.2.2.2.1
    rw [h] at hdesc
    exact (Option.some.inj hdesc).symm
  have hat := (C.2.2.2.2.2.2.2.2.1.1 ci _ hcl.1).2
  exact runK (va_runSU (hat := hat) (As := As.map (lf g)) (b := ad g a) (n := n) (cfix C) (hM l) hcs ⟨pm_blind, recvO C hW ht hcl, pm_at (As := .ref a :: As) C hX hW⟩ rfl (by rw [List.length_map]; exact hn) hl.1 (stk As (.ref a :: st)) (room_map hcat) hd ⟨by omega, by omega⟩) C h1 h2 h3 h4 hmc hms hX hS hg hl (fun v z' I' q => q)
/-- super.x(..), where x is inherited: the pool names the superclass x.cls, the code is y' of its superclass -/
def CalQ (own : String) (idx : Nat) (x : MethodName) (y' : Mth) (n ci : Nat) : Prop := MthOK y' n ∧ Cond.methodLink own idx x ∈ gw_tbl ∧ Cond.instanceMethod y'.1 ∈ gw_tbl ∧ Cond.sameMethod x.cls y'.1.cls x.name x.desc ∈ gw_tbl ∧ Cond.superclass own x.cls ∈ gw_tbl ∧ Cond.superclass x.cls y'.1.cls ∈ gw_tbl ∧ (y'.1.name ≠ "<init>" ∧ x.name = y'.1.name ∧ x.desc = y'.1.desc) ∧ ∃ C T, ClsF ci C T
theorem r_callQ {idx n ci mc ms rc' rs' a : Nat} {x : MethodName} {y' : Mth} (As : List Value) (hd : decode y.2.1 pc = .ok (.invokespecial idx, 3)) (hc : CalQ y.1.cls idx x y' n ci) (ht : zT z a = ci) (hn : As.length = n) (hcat : (st.map (fun v => v.category)).sum ≤ 8) (hmc : mc + rc' ≤ rc) (hms : ms + rs' ≤ rs) (hM : WPm g y' d mc ms (.ref a :: As) z I (fun v z' I' => WPc g y (d + 1) rc' rs' (pc + 3) lv (v.toList ++ st) z' I' Q)) : WPc g y (d + 1) rc rs pc lv (As.reverse ++ .ref a :: st) z I Q := by
  intro p l e R s m args below meth c H locs cells slots ls C h1 h2 h3 h4 hX hW hS hg hl
  obtain ⟨hm, hlink, hinst, hsame, hsup, hsup2, ⟨hni, hxn, hxd⟩, C0, T0, hcl⟩ := hc
  have hts := C.2.2.2.2.2.1
  have hG := WS_good y' hm.1
  obtain ⟨hx, hb, hml, hown, -⟩ := cfix C
  obtain ⟨cellB, hcB, hoB, hclB⟩ := recvO C hW ht hcl
  obtain ⟨hfc, kB, hkB, -⟩ := (C.2.2.2.2.2.2.2.2.1.1 ci _ hcl.1).2
  have hcc : cellB.cls = (gD g).1 ci := (Option.some.inj (hfc.symm.trans hclB)).symm
  refine runK (mc := mc) (ms := ms) (Q0 := fun v z' I' => WPc g y (d + 1) rc' rs' (pc + 3) lv (v.toList ++ st) z' I' Q) (a := (Value.ref (ad g a) :: As.map (lf g)).toArray) ?_ C h1 h2 h3 h4 hmc hms hX hS hg hl (fun v z' I' q => q)
  intro T hT X
  obtain ⟨mk, methM, hnamed, hmethM, hstM, habM⟩ := Cond.instanceMethod_spec (hts _ hinst)
  obtain ⟨methM', cM, hmethM', -, -, -, -, -, -, hsigM⟩ := Cond.code_spec hnamed (hts _ hm.1)
  cases hmethM.symm.trans hmethM'
  obtain ⟨ps, dk, kp, hps, hdk, hkp, hsuper, -, -, hnid⟩ := Cond.superclass_spec hown (hts _ hsup)
  obtain ⟨ps2, dk2, kp2, hps2, hdk2, hkp2, hsuper2, -, -, -⟩ := Cond.superclass_spec hps (hts _ hsup2)
  have hn2 : s.methodNamed? ⟨y'.1.cls, x.name, x.desc⟩ = some mk := by rw [hxn, hxd]; exact hnamed
  have hpm : ps2 = mk.cls := Option.some.inj (hps2.symm.trans (findClass_of_methodNamed hnamed))
  have hsub : s.vm.isSubclass ps mk.cls = true := by
    rw [← hpm]
    obtain ⟨k, hk⟩ : ∃ k, s.vm.classes.size = k + 1 := ⟨s.vm.classes.size - 1, by have := (Array.getElem?_eq_some_iff.mp hdk).1; omega⟩
    unfold Vm.isSubclass
    rw [hk]
    simp [Vm.isSubclassAux, hdk2, hsuper2]
  obtain ⟨vm₁, X₁, hstep₁⟩ := X.invokespecialUp hx hown (hts _ hlink) (hts _ hsame) hn2 hmethM hstM habM (by rw [hxn]; exact hni) hdk hnid hps hsuper hsub (a := ad g a) (cell := cellB) (by rw [hT]; exact hcB)
    (fun z h => by rw [h] at hoB; cases hoB) (by rw [hcc]; exact hkB) (g := F0 m pc ls ((As.reverse ++ .ref a :: st : List Value).map (lf g))) rfl (argsL := As.map (lf g)) (rest := st.map (lf g)) (by
      rw [List.length_map, hn]
      have hdesc := hm.2.2.2.1
      rw [hsigM] at hdesc
      exact (Option.some.inj hdesc).symm) (stk As (.ref a :: st)) (by rw [hb]; exact hd)
  have hK : Back l R p e below s args y'.1 3 8 (PreOf R mc ms (Pm g (.ref a :: As) z I)) (PostOf (Qm g (fun v z' I' => WPc g y (d + 1) rc' rs' (pc + 3) lv (v.toList ++ st) z' I' Q)) mc ms (Fa g)) := back_of (bytes := y'.2.1) (maxL := y'.2.2.1) (ret := y'.2.2.2) (hM l) pm_blind rfl rfl h1 (by show 8 + (y'.2.2.1 + 11) + 41 * d ≤ _; have := hm.2.2.2.2; omega) (pay_in hts hG) List.mem_cons_self (fun a' U hW => word_at hW (Or.inl (by first | rfl | simp [Cond.onTables, Cond.keeps, Cond.steady])) (hts _ hm.2.1))
  obtain ⟨v, ⟨U', l2, c2, s2⟩, X', hpost, hsteps⟩ := hK m meth c ⟨T.setVm vm₁, locs, cells, slots⟩ (F0 m pc ls (st.map (lf g))) (.invokespecial idx) mk (Value.ref (ad g a) :: As.map (lf g)).toArray X₁ rfl (hl.1.trans hml.symm) (by rw [hb]; exact hd) (room_map hcat) (X₁.named hnamed) ⟨by show cells + mc ≤ _; omega, by show slots + ms ≤ _; omega, pm_at (As := .ref a :: As) C hX hW (T.setVm vm₁) hT X₁.warmed⟩
  obtain ⟨g', mk', t, L, e1, e2, hq, q1, hL, q2, q3⟩ := hpost
  dsimp only [Pt.U, Pt.locs, Pt.cells, Pt.slots] at X' e1 e2 q1 q2 q3 hsteps
  subst q1; subst q2; subst q3
  exact ⟨v, (T.setVm vm₁).calling g' mk' (Value.ref (ad g a) :: As.map (lf g)).toArray, t, U', L, hT, X', hL, e1, e2, hq, fun target h => hstep₁ _ (by rw [doInvoke_state]; exact hsteps.trans h)⟩
-- private ones of a nest mate
def NstOK (own : String) (idx : Nat) (y' : Mth) (n : Nat) (host : String) : Prop := MthOK y' n ∧ (own, idx, y'.1, host) ∈ NsL
theorem nestC {g : Gt} {y : Mth} {p : Program} {R : Room} {s : State} {m : MethodId} {args : Array Value} {meth : Method} {c : Code} {y' : Mth} {n d' mc ms idx : Nat} {host : String} (hm : NstOK y.1.cls idx y' n host) (hl0 : ∀ q ∈ NsL, va_Nw (.methodLinkNest q.1 q.2.1 q.2.2.1 q.2.2.2) s) (C : Cx g p y s m args meth c) (h1 : d' + 1 ≤ R.frames) (h2 : 41 * (d' + 1) ≤ R.locals) : va_CN R s args y.1.cls idx y'.1 host y'.2.1 y'.2.2.1 y'.2.2.2 (WS y') (rmO d' mc ms) mc ms n := by
  obtain ⟨⟨hc, hi, hne, hd, hml⟩, hl⟩ := hm
  have hts := C.2.2.2.2.2.1
  refine ⟨⟨rfl, rfl, h1, by show 8 + (y'.2.2.1 + 11) + 41 * d' ≤ _; omega, pay_in hts (WS_good y' hc), List.mem_cons_self⟩, hts _ hc, hts _ hi, hne, fun sig h => ?_, va_Nw.use rfl (hl0 _ hl)⟩
  rw [h] at hd
  exact (Option.some.inj hd).symm
theorem r_callSN {idx n mc ms rc' rs' : Nat} {y' : Mth} {host : String} (hgc : GC g) (As : List Value) (hd : decode y.2.1 pc = .ok (.invokestatic idx, 3)) (hc : NstOK y.1.cls idx y' n host) (hst : Cond.static y'.1 ∈ gw_tbl) (hn : As.length = n) (hcat : (st.map (fun v => v.category)).sum ≤ 8) (hmc : mc + rc' ≤ rc) (hms : ms + rs' ≤ rs) (hM : WPm g y' d mc ms As z I (fun v z' I' => WPc g y (d + 1) rc' rs' (pc + 3) lv (v.toList ++ st) z' I' Q)) : WPc g y (d + 1) rc rs pc lv (As.reverse ++ st) z I Q := by
  intro p l e R s m args below meth c H locs cells slots ls C h1 h2 h3 h4 hX hW hS hg hl
  exact runK (va_runSN (As := As.map (lf g)) (n := n) (cfix C) (hM l) ⟨nestC hc (hgc.2 s H hX).2 C h1 h2, C.2.2.2.2.2.1 _ hst, trivial⟩ ⟨pm_blind, pm_at C hX hW⟩ rfl (by rw [List.length_map]; exact hn) hl.1 (stk As st) (room_map hcat) hd ⟨by omega, by omega⟩) C h1 h2 h3 h4 hmc hms hX hS hg hl (fun v z' I' q => q)
theorem r_callIN {idx n mc ms rc' rs' a : Nat} {y' : Mth} {host : String} (hgc : GC g) (As : List Value) (hd : decode y.2.1 pc = .ok (.invokespecial idx, 3)) (hc : NstOK y.1.cls idx y' n host) (hin : Cond.instanceMethod y'.1 ∈ gw_tbl) (hnm : y'.1.name = "<init>") (hrn : y'.2.2.2 = none) (hn : As.length = n) (hcat : (st.map (fun v => v.category)).sum ≤ 8) (hmc : mc + rc' ≤ rc) (hms : ms + rs' ≤ rs) (hM : WPm g y' d mc ms (.ref a :: As) z I (fun v z' I' => WPc g y (d + 1) rc' rs' (pc + 3) lv (v.toList ++ st) z' I' Q)) : WPc g y (d + 1) rc rs pc lv (As.reverse ++ .ref a :: st) z I Q := by
  intro p l e R s m args below meth c H locs cells slots ls C h1 h2 h3 h4 hX hW hS hg hl
  have hB := nestC (R := R) (mc := mc) (ms := ms) hc (hgc.2 s H hX).2 C h1 h2
  rw [hrn] at hB
  exact runK (va_runIN (As := As.map (lf g)) (b := ad g a) (n := n) (bytes := y'.2.1) (maxL := y'.2.2.1) (ws := WS y') (cfix C) (hM l) ⟨hB, hnm, C.2.2.2.2.2.1 _ hin⟩ ⟨pm_blind, pm_at (As := .ref a :: As) C hX hW⟩ rfl (by rw [List.length_map]; exact hn) hl.1 (stk As (.ref a :: st)) (room_map hcat) hd ⟨by omega, by omega⟩) C h1 h2 h3 h4 hmc hms hX hS hg hl (fun v z' I' q => q)
/-- Object.<init> -/
def ObjOK (own : String) (idx : Nat) : Prop := Cond.methodLink own idx Lib.objectInit ∈ gw_tbl ∧ Cond.instanceMethod Lib.objectInit ∈ gw_tbl ∧ Cond.code Lib.objectInit ⟨#[0xb1]⟩ 1 none ∈ gw_tbl
theorem r_objInit {idx a : Nat} (hd : decode y.2.1 pc = .ok (.invokespecial idx, 3)) (hc : ObjOK y.1.cls idx) (hcat : (st.map (fun v => v.category)).sum ≤ 8) (k : WPc g y (d + 1) rc rs (pc + 3) lv st z I Q) : WPc g y (d + 1) rc rs pc lv (.ref a :: st) z I Q := by
  intro p l e R s m args below meth c H locs cells slots ls C h1 h2 h3 h4 hX hW hS hg hl
  have hts := C.2.2.2.2.2.1
  have hr := room_map (g := g) (m := m) (pc := pc) (ls := ls) (stx := (Value.ref a :: st).map (lf g)) hcat
  refine W.objInit C.1 C.2.1 C.2.2.2.2.1 (hts _ hc.1) (hts _ hc.2.1) (hts _ hc.2.2) rfl (hl.1.trans C.2.2.1.symm) rfl hd (by omega) (by omega) ?_
  exact W.eq (g2 := F0 m (pc + 3) ls (st.map (lf g))) rfl (k p l e R s m args below meth c H locs cells slots ls C h1 h2 h3 h4 hX hW hS hg hl)
/-- instanceof -/
theorem r_instY {idx a ci : Nat} {nm : String} (hgc : GC g) (hd : decode y.2.1 pc = .ok (.instanceof idx, 3)) (ht : zT z a = ci) (hl0 : Cond.classLink y.1.cls idx nm ∈ gw_tbl) (hy : ∃ C T, ClsF ci C T ∧ (C = nm ∨ (C, nm) ∈ CaL)) (k : WPc g y d rc rs (pc + 3) lv (.int 1 :: st) z I Q) : WPc g y d rc rs pc lv (.ref a :: st) z I Q := by
  intro p l e R s m args below meth c H locs cells slots ls C h1 h2 h3 h4 hX hW hS hg hl
  have hts := C.2.2.2.2.2.1
  obtain ⟨C0, T, hcl, hor⟩ := hy
  rcases hor with rfl | hcast
  · exact va_instS C.1 C.2.1 C.2.2.2.2.1 (hts _ hl0) (C.2.2.2.2.2.2.2.2.1.1 ci _ hcl.1).2 (recvO C hW ht hcl) hd (k p l e R s m args below meth c H locs cells slots ls C h1 h2 h3 h4 hX hW hS hg hl)
  · exact va_instY C.1 C.2.1 C.2.2.2.2.1 (hts _ hl0) (hgc.1 s H hX _ hcast) (recvO C hW ht hcl) hd (k p l e R s m args below meth c H locs cells slots ls C h1 h2 h3 h4 hX hW hS hg hl)
theorem r_instN {idx a ci : Nat} {nm : String} (hd : decode y.2.1 pc = .ok (.instanceof idx, 3)) (ht : zT z a = ci) (hl0 : Cond.classLink y.1.cls idx nm ∈ gw_tbl) {C0 : String} {T0 : u_T} (hcl : ClsF ci C0 T0) (hn : ∀ (s : State) (H : Heap), gX g s H → va_Nc C0 nm s) (k : WPc g y d rc rs (pc + 3) lv (.int 0 :: st) z I Q) : WPc g y d rc rs pc lv (.ref a :: st) z I Q := by
  intro p l e R s m args below meth c H locs cells slots ls C h1 h2 h3 h4 hX hW hS hg hl
  exact va_instNo C.1 C.2.1 C.2.2.2.2.1 (C.2.2.2.2.2.1 _ hl0) (hn s H hX) (recvO C hW ht hcl) hd (k p l e R s m args below meth c H locs cells slots ls C h1 h2 h3 h4 hX hW hS hg hl)
theorem r_ldc {idx : Nat} {v : Int32} (hd : decode y.2.1 pc = .ok (.ldc idx, 2)) (hc : Cond.constant y.1.cls idx v ∈ gw_tbl) (k : WPc g y d rc rs (pc + 2) lv (.int v :: st) z I Q) : WPc g y d rc rs pc lv st z I Q := fun p l e R s m args below meth c H locs cells slots ls C h1 h2 h3 h4 hX hW hS hg hl => lv_ldc C.1 C.2.1 C.2.2.2.2.1 (C.2.2.2.2.2.1 _ hc) hd (k p l e R s m args below meth c H locs cells slots ls C h1 h2 h3 h4 hX hW hS hg hl)
theorem r_ldcw {idx : Nat} {v : Int32} (hd : decode y.2.1 pc = .ok (.ldc_w idx, 3)) (hc : Cond.constant y.1.cls idx v ∈ gw_tbl) (k : WPc g y d rc rs (pc + 3) lv (.int v :: st) z I Q) : WPc g y d rc rs pc lv st z I Q := fun p l e R s m args below meth c H locs cells slots ls C h1 h2 h3 h4 hX hW hS hg hl => lv_ldcw C.1 C.2.1 C.2.2.2.2.1 (C.2.2.2.2.2.1 _ hc) hd (k p l e R s m args below meth c H locs cells slots ls C h1 h2 h3 h4 hX hW hS hg hl)
theorem r_ldc2 {idx : Nat} {v : Int64} (hd : decode y.2.1 pc = .ok (.ldc2_w idx, 3)) (hc : Cond.constantLong y.1.cls idx v ∈ gw_tbl) (k : WPc g y d rc rs (pc + 3) lv (.long v :: st) z I Q) : WPc g y d rc rs pc lv st z I Q := fun p l e R s m args below meth c H locs cells slots ls C h1 h2 h3 h4 hX hW hS hg hl => lv_ldc2 C.1 C.2.1 C.2.2.2.2.1 (C.2.2.2.2.2.1 _ hc) hd (k p l e R s m args below meth c H locs cells slots ls C h1 h2 h3 h4 hX hW hS hg hl)
end RULES5
end
section
/-! System.arraycopy over ints, clone and cast of an int[], at WPc -/
def inC (sp n : Int32) (len : Nat) : Bool := decide (0 ≤ sp.toInt) && (decide (0 ≤ n.toInt) && decide (sp.toInt + n.toInt ≤ (len : Int)))
theorem inC_of {sp n : Int32} {len : Nat} (h : inC sp n len = true) : (¬ sp < 0 ∧ ¬ n < 0) ∧ sp.toInt = (sp.toNatClampNeg : Int) ∧ n.toInt = (n.toNatClampNeg : Int) ∧ sp.toNatClampNeg + n.toNatClampNeg ≤ len := by
  unfold inC at h
  rw [Bool.and_eq_true, Bool.and_eq_true, decide_eq_true_iff, decide_eq_true_iff, decide_eq_true_iff] at h
  obtain ⟨a, b, c⟩ := h
  have e1 : sp.toInt = (sp.toNatClampNeg : Int) := by show sp.toInt = ((sp.toInt.toNat : Nat) : Int); omega
  have e2 : n.toInt = (n.toNatClampNeg : Int) := by show n.toInt = ((n.toInt.toNat : Nat) : Int); omega
  refine ⟨⟨?_, ?_⟩, e1, e2, by omega⟩
  · intro q; have := Int32.lt_iff_toInt_lt.mp q; simp at this; omega
  · intro q; have := Int32.lt_iff_toInt_lt.mp q; simp at this; omega
def cpI (I : Is) (a b sp dp n : Nat) : Is := fun c j => if c = b then va_cpy (I a) (I b) sp dp n j else I c j
section RULES6
variable {g : Gt} {y : Mth} {d rc rs pc : Nat} {lv : List (Nat × Value)} {st : List Value} {z : Zs} {I : Is} {Q : Option Value → Zs → Is → Prop}
def CpyOK (own : String) (idx : Nat) : Prop := Cond.methodLink own idx arraycopyName ∈ gw_tbl ∧ Cond.native arraycopyName ∈ gw_tbl ∧ Cond.static arraycopyName ∈ gw_tbl ∧ Cond.initialized "java/lang/System" ∈ gw_tbl
theorem r_acopy {idx a b : Nat} {sp dp n : Int32} (hd : decode y.2.1 pc = .ok (.invokestatic idx, 3)) (hc : CpyOK y.1.cls idx) (hta : zT z a = 100) (htb : zT z b = 100) (h1c : inC sp n (zL z a) = true) (h2c : inC dp n (zL z b) = true) (hcat : (st.map (fun v => v.category)).sum ≤ 8) (k : WPc g y (d + 1) rc rs (pc + 3) lv st z (cpI I a b sp.toNatClampNeg dp.toNatClampNeg n.toNatClampNeg) Q) : WPc g y (d + 1) rc rs pc lv (.int n :: .int dp :: .ref b :: .int sp :: .ref a :: st) z I Q := by
  intro p l e R s m args below meth c H locs cells slots ls C h1 h2 h3 h4 hX hW hS hg hl
  obtain ⟨hx, hb, hml, hr, hown, hts, hlk, hnm, hK, hG⟩ := id C
  obtain ⟨hc1, hc2, hc3, hc4⟩ := hc
  obtain ⟨⟨p1, p3⟩, e1, e3, p4⟩ := inC_of h1c
  obtain ⟨⟨p2, -⟩, e2, -, p5⟩ := inC_of h2c
  obtain ⟨h8a, hla⟩ := hW.inN (k := a) (by omega)
  obtain ⟨h8, hlt⟩ := hW.inN (k := b) (by omega)
  have hc0 : H[ad g a]? = some (vp_cell (gA g 0) (zL z a, .inl (I a))) := hW.2.2.2.1 (a - 8) (ad g a, .inl (gA g 0, zL z a, .inl (I a))) (by rw [wsO_get h8a hla, elm_int hta])
  have hc1' : H[ad g b]? = some (vp_cell (gA g 0) (zL z b, .inl (I b))) := hW.2.2.2.1 (b - 8) (ad g b, .inl (gA g 0, zL z b, .inl (I b))) (by rw [wsO_get h8 hlt, elm_int htb])
  obtain ⟨-, k0, hk0, cm0, hkk0⟩ := (hK.2 0 _ rfl).1 (zL z a) (fun j => .int (I a j))
  obtain ⟨-, k1, hk1, cm1, hkk1⟩ := (hK.2 0 _ rfl).1 (zL z b) (fun j => .int (I b j))
  have hnf : nativeFrameWords "java/lang/System" "arraycopy" 5 ≤ 20 := by decide +kernel
  intro T hT X
  obtain ⟨vm', X', step⟩ := X.arraycopy hx hown (hts _ hc1) (hts _ hc2) (hts _ hc3) (hts _ hc4) (src := ad g a) (dst := ad g b) (cs := vp_cell (gA g 0) (zL z a, .inl (I a))) (cd := vp_cell (gA g 0) (zL z b, .inl (I b))) (srcPos := sp) (destPos := dp) (n := n) (by rw [hT]; exact hc0) (by rw [hT]; exact hc1')
    (fun _ h => by cases h) (fun _ h => by cases h) (fun h => by cases h) (fun h => by cases h) hk0 hk1 hkk0 hkk1 (by simp [refKind]) p1 p2 p3
    (by rw [e1, e3]; show ¬ _ > ((arrV (gA g 0) (zL z a) (fun j => .int (I a j))).slots.size : Int); rw [arrV_size]; omega)
    (by rw [e2, e3]; show ¬ _ > ((arrV (gA g 0) (zL z b) (fun j => .int (I b j))).slots.size : Int); rw [arrV_size]; omega)
    (fun vm₁ _ i hi => by
      have e : (vp_cell (gA g 0) (zL z a, .inl (I a))).slots.getD (sp.toNatClampNeg + i) .null = .int (I a (sp.toNatClampNeg + i)) := by
        show (arrV (gA g 0) (zL z a) (fun j => .int (I a j))).slots.getD _ _ = _
        rw [Array.getD_eq_getD_getElem?, arrV_read _ _ (by omega)]
        rfl
      refine ⟨?_, ?_⟩
      · rw [e]; rfl
      · rw [e]; exact trivial)
    (g := F0 m pc ls ((.int n :: .int dp :: .ref b :: .int sp :: .ref a :: st : List Value).map (lf g))) rfl (by rw [hml]; exact hl.1) (rest := st.map (lf g)) rfl (by rw [hb]; exact hd) (by omega) (by show 2 * 0 + ((st.map (lf g)).map _).sum + (nativeFrameWords "java/lang/System" "arraycopy" 5 + 11) ≤ _; rw [cat_map]; omega)
  have ec : copied (vp_cell (gA g 0) (zL z a, .inl (I a))) (vp_cell (gA g 0) (zL z b, .inl (I b))) sp dp n = vp_cell (gA g 0) (zL z b, .inl (va_cpy (I a) (I b) sp.toNatClampNeg dp.toNatClampNeg n.toNatClampNeg)) := va_copied (fun z => .int z) (gA g 0) (gA g 0) (I a) (I b) p4
  rw [ec] at X' step
  have hl2 : ad g b < H.size := (Array.getElem?_eq_some_iff.mp hc1').1
  generalize hcell : vp_cell (gA g 0) (zL z b, .inl (va_cpy (I a) (I b) sp.toNatClampNeg dp.toNatClampNeg n.toNatClampNeg)) = nc at X' step
  have hheap : ((T.setVm vm').setCell (ad g b) nc).heap = H.setIfInBounds (ad g b) nc := by rw [← hT]; rfl
  have oq : ∀ q : Nat, q ≠ ad g b → (H.setIfInBounds (ad g b) nc)[q]? = H[q]? := fun q hq => by simp [Array.getElem?_setIfInBounds, Ne.symm hq]
  have sz : (H.setIfInBounds (ad g b) nc).size = H.size := by simp
  have hlow : ∀ q, q < g0 g → (H.setIfInBounds (ad g b) nc)[q]? = H[q]? := fun q hq => oq q (Nat.ne_of_lt (Nat.lt_of_lt_of_le hq (ad_ge h8)))
  obtain ⟨t, a1, b1⟩ := k p l e R s m args below meth c _ _ cells slots ls C h1 h2 h3 h4 (hG.2 s H _ (Nat.le_trans hg hS.1) hlow hX) (hW.set (k := b) (by omega) rfl rfl (fun _ _ => rfl) (fun h8 i hi => by funext j; unfold cpI; rw [if_neg (by omega)]) (fun c hc => elm_other (by funext j; unfold cpI; rw [if_neg hc])) (by
      rw [elm_int htb]
      show (H.setIfInBounds (ad g b) nc)[ad g b]? = some (vp_cell _ _)
      rw [show cpI I a b sp.toNatClampNeg dp.toNatClampNeg n.toNatClampNeg b = va_cpy (I a) (I b) sp.toNatClampNeg dp.toNatClampNeg n.toNatClampNeg from by funext j; unfold cpI; rw [if_pos rfl], hcell]
      simp [Array.getElem?_setIfInBounds, hl2]) sz oq) ⟨by rw [sz]; exact hS.1, fun q g1 g2 => by
      rw [oq q (fun e => g2 (by rw [e]; exact ad_ge h8))]
      exact hS.2.1 q g1 g2, fun q hq => by
      rcases List.mem_append.mp hq with h | h
      · exact hS.2.2 q h
      · obtain ⟨z, -, hz⟩ := List.mem_map.mp h
        rw [← hz]
        exact ad_ge h8⟩ hg hl _ hheap X'
  exact ⟨t, step t a1, b1⟩
/-- the new cell holds what cell a holds -/
def cpN (I : Is) (n a : Nat) : Is := fun b j => if b = n then I a j else I b j
def CloOK (own : String) (idx : Nat) : Prop := Cond.methodLink own idx ⟨"[I", "clone", "()Ljava/lang/Object;"⟩ ∈ gw_tbl ∧ Cond.sameMethod "[I" "java/lang/Object" "clone" "()Ljava/lang/Object;" ∈ gw_tbl ∧ Cond.native ⟨"java/lang/Object", "clone", "()Ljava/lang/Object;"⟩ ∈ gw_tbl ∧ Cond.instanceMethod ⟨"java/lang/Object", "clone", "()Ljava/lang/Object;"⟩ ∈ gw_tbl ∧ Cond.selects "[I" ⟨"[I", "clone", "()Ljava/lang/Object;"⟩ ⟨"java/lang/Object", "clone", "()Ljava/lang/Object;"⟩ ∈ gw_tbl
theorem r_clone {idx a rc' rs' : Nat} (hgc : GC g) (hd : decode y.2.1 pc = .ok (.invokevirtual idx, 3)) (hc : CloOK y.1.cls idx) (hta : zT z a = 100) (hrc : 1 + rc' ≤ rc) (hrs : zL z a + rs' ≤ rs) (hcat : (st.map (fun v => v.category)).sum ≤ 8) (k : WPc g y (d + 1) rc' rs' (pc + 3) lv (.ref (zN z) :: st) (zNew z 100 (zL z a)) (cpN I (zN z) a) Q) : WPc g y (d + 1) rc rs pc lv (.ref a :: st) z I Q := by
  intro p l e R s m args below meth c H locs cells slots ls C h1 h2 h3 h4 hX hW hS hg hl
  obtain ⟨hx, hb, hml, hr, hown, hts, hlk, hnm0, hK, hG⟩ := id C
  obtain ⟨hlink, hsame, hnat, hinst, hsel⟩ := hc
  obtain ⟨h8, hla⟩ := hW.inN (k := a) (by omega)
  have hc0 : H[ad g a]? = some (vp_cell (gA g 0) (zL z a, .inl (I a))) := hW.2.2.2.1 (a - 8) (ad g a, .inl (gA g 0, zL z a, .inl (I a))) (by rw [wsO_get h8 hla, elm_int hta])
  have hsz : (vp_cell (gA g 0) (zL z a, .inl (I a))).slots.size = zL z a := arrV_size _ _ _
  have hnm : s.vm.findClass "[I" = some (gA g 0) := (hK.2 0 _ rfl).2
  obtain ⟨c0, t0', f1, f2, f3⟩ := Cond.castable_spec (va_Nw.use (A := args) rfl (hgc.1 s H hX ("[I", "java/lang/Cloneable") (by decide +kernel)))
  cases hnm.symm.trans f1
  have hat := (hK.2 0 _ rfl).1
  intro T hT X
  obtain ⟨-, kA, hkA, comp, hkind⟩ := State.isArrayOf_alike X.warmed.alike (hat 0 (fun _ => .null))
  obtain ⟨-, kS, hkS, compS, hkindS⟩ := hat 0 (fun _ => .null)
  obtain ⟨vm', X', st'⟩ := X.cloneArray hx hown (hts _ hlink) (hts _ hsame) (hts _ hnat) (hts _ hinst) (hts _ hsel) (a := ad g a) (cell := vp_cell (gA g 0) (zL z a, .inl (I a))) (by rw [hT]; exact hc0) (fun k h => by cases h) (fun h => by cases h) hnm f2 f3
    (fun i v hv => by
      have hk' : T.vm.classes[gA g 0]? = some kA := hkA
      have hlt : i < zL z a := by have := (Array.getElem?_eq_some_iff.mp hv).1; rw [hsz] at this; exact this
      have e : (vp_cell (gA g 0) (zL z a, .inl (I a))).slots[i]? = some (.int (I a i)) := arrV_read _ _ hlt
      have ev : v = .int (I a i) := Option.some.inj (hv.symm.trans e)
      subst ev
      have hcl0 : (vp_cell (gA g 0) (zL z a, .inl (I a))).cls = gA g 0 := rfl
      rw [hcl0]
      simpa [State.fitsSlot, State.slotType?, hk', hkind] using (show fits .int (.int (I a i)) = true from rfl))
    (g := F0 m pc ls ((.ref a :: st : List Value).map (lf g))) rfl (by rw [hml]; exact hl.1) rfl (by rw [hb]; exact hd) (by omega) (by show 2 * 0 + ((st.map (lf g)).map _).sum + 14 ≤ _; rw [cat_map]; omega) (by omega) (by rw [hsz]; omega) (hloader := Vm.clonesLoader_of_array hkS hkindS)
  have hcellE : ({ cls := (vp_cell (gA g 0) (zL z a, .inl (I a))).cls, slots := (vp_cell (gA g 0) (zL z a, .inl (I a))).slots } : Cell) = vp_cell (gA g 0) (zL z a, .inl (I a)) := rfl
  rw [hcellE, hsz] at X'
  generalize hH1 : H.push (vp_cell (gA g 0) (zL z a, .inl (I a))) = H1
  have z1 : H1.size = H.size + 1 := by rw [← hH1, Array.size_push]
  have e1 : H1[H.size]? = some (vp_cell (gA g 0) (zL z a, .inl (I a))) := by rw [← hH1, Array.getElem?_push_size]
  have o1 : ∀ q : Nat, q < H.size → H1[q]? = H[q]? := fun q hq => by rw [← hH1, Array.getElem?_push, if_neg (Nat.ne_of_lt hq)]
  have hlow : ∀ q, q < g0 g → H1[q]? = H[q]? := fun q hq => o1 q (Nat.lt_of_lt_of_le hq (Nat.le_trans hg hS.1))
  have hWn : Wh g (zNew z 100 (zL z a)) (cpN I (zN z) a) H1 := by
    have hp := hW.push (t := 100) (len := zL z a) (H' := H.push (vp_cell (gA g 0) (zL z a, .inl (fun _ => 0)))) (Or.inr (Nat.le_refl _)) (by
      have ht : zT (zNew z 100 (zL z a)) (zN z) = 100 := by show up1 _ _ _ _ = _; unfold up1; exact if_pos rfl
      have hL : zL (zNew z 100 (zL z a)) (zN z) = zL z a := by show up1 _ _ _ _ = _; unfold up1; exact if_pos rfl
      rw [elm_int ht, hL]
      show (H.push _)[H.size]? = some (vp_cell _ _)
      rw [Array.getElem?_push_size]
      congr 2
      congr 1
      congr 1
      funext j
      unfold nI0
      rw [if_pos rfl]) (Array.size_push ..) (fun q hq => by rw [Array.getElem?_push, if_neg (Nat.ne_of_lt hq)])
    have hadn : ad g (zN z) = H.size := ad_new hW
    have ht : zT (zNew z 100 (zL z a)) (zN z) = 100 := by show up1 _ _ _ _ = _; unfold up1; exact if_pos rfl
    have hL : zL (zNew z 100 (zL z a)) (zN z) = zL z a := by show up1 _ _ _ _ = _; unfold up1; exact if_pos rfl
    refine hp.set (k := zN z) (by rw [ht]; omega) rfl rfl (fun _ _ => rfl) (fun h8 i hi => ?_) (fun b hb => ?_) ?_ (by rw [z1, Array.size_push]) (fun q hq => ?_)
    · funext j; unfold cpN nI0; rw [if_neg (by omega), if_neg (by omega)]
    · refine elm_other ?_
      funext j; unfold cpN nI0; rw [if_neg hb, if_neg hb]
    · rw [elm_int ht, hL, hadn]
      show H1[H.size]? = some (vp_cell _ _)
      rw [e1]
      congr 2
      congr 1
      congr 1
      funext j
      unfold cpN
      rw [if_pos rfl]
    · rw [hadn] at hq
      rw [← hH1, Array.getElem?_push, Array.getElem?_push, if_neg hq, if_neg hq]
  obtain ⟨t, b1, b2⟩ := k p l e R s m args below meth c H1 locs (cells + 1) (slots + zL z a) ls C h1 h2 (by omega) (by omega) (hG.2 s H H1 (Nat.le_trans hg hS.1) hlow hX) hWn ⟨Nat.le_trans hS.1 (by omega), fun q h1 h2 => (o1 q (Nat.lt_of_lt_of_le h1 hS.1)).trans (hS.2.1 q h1 h2), hS.2.2⟩ hg hl _ (by rw [← hH1, ← hT]; rfl) X'
  refine ⟨t, st' t ?_, b2⟩
  have ee : (Value.ref (zN z) :: st).map (lf g) = Value.ref T.heap.size :: st.map (lf g) := by show Value.ref (ad g (zN z)) :: _ = _; rw [ad_new hW, hT]
  rw [ee] at b1
  exact b1
theorem r_castI {idx a : Nat} (hd : decode y.2.1 pc = .ok (.checkcast idx, 3)) (hc : Cond.classLink y.1.cls idx "[I" ∈ gw_tbl) (hta : zT z a = 100) (k : WPc g y d rc rs (pc + 3) lv (.ref a :: st) z I Q) : WPc g y d rc rs pc lv (.ref a :: st) z I Q := by
  intro p l e R s m args below meth c H locs cells slots ls C h1 h2 h3 h4 hX hW hS hg hl
  obtain ⟨hx, hb, hml, hr, hown, hts, hlk, hnm0, hK, hG⟩ := id C
  obtain ⟨h8, hla⟩ := hW.inN (k := a) (by omega)
  exact va_castA (D := gD g) (x := (zL z a, .inl (I a))) hx hb hown (hts _ hc) hW.2.2.2.1 (a - 8) (by rw [wsO_get h8 hla, elm_int hta]) (hK.2 0 _ rfl).2 hd (k p l e R s m args below meth c H locs cells slots ls C h1 h2 h3 h4 hX hW hS hg hl)
end RULES6
end
section
/-! what holds outside our cells: the script, the three String constants, two statics, casts that fail; and its instructions, at WPc -/
def sx0 : String := "worth price * 2 ; fee 1 ; wage 1 ;"
def sx1 : String := "();+-*<="
def sx2 : String := "worth fee   wage  or    and   not   told  many  more  year  numberprice "
def slen : List Nat := [34, 8, 72]
def sbyt : List (List Int32) := [[119, 111, 114, 116, 104, 32, 112, 114, 105, 99, 101, 32, 42, 32, 50, 32, 59, 32, 102, 101, 101, 32, 49, 32, 59, 32, 119, 97, 103, 101, 32, 49, 32, 59], [40, 41, 59, 43, 45, 42, 60, 61], [119, 111, 114, 116, 104, 32, 102, 101, 101, 32, 32, 32, 119, 97, 103, 101, 32, 32, 111, 114, 32, 32, 32, 32, 97, 110, 100, 32, 32, 32, 110, 111, 116, 32, 32, 32, 116, 111, 108, 100, 32, 32, 109, 97, 110, 121, 32, 32, 109, 111, 114, 101, 32, 32, 121, 101, 97, 114, 32, 32, 110, 117, 109, 98, 101, 114, 112, 114, 105, 99, 101, 32]]
def NcL : List (String × String) := [("UnlikeCoins$Sort", "UnlikeCoins$Common"), ("UnlikeCoins$Sort", "UnlikeCoins$Scarce"), ("UnlikeCoins$Sort", "UnlikeCoins$Stamped"), ("UnlikeCoins$Sort", "UnlikeCoins$Gilt"), ("UnlikeCoins$Sort", "UnlikeCoins$Melting"), ("UnlikeCoins$Common", "UnlikeCoins$Scarce"), ("UnlikeCoins$Common", "UnlikeCoins$Stamped"), ("UnlikeCoins$Common", "UnlikeCoins$Gilt"), ("UnlikeCoins$Common", "UnlikeCoins$Melting"), ("UnlikeCoins$Scarce", "UnlikeCoins$Common"), ("UnlikeCoins$Scarce", "UnlikeCoins$Stamped"), ("UnlikeCoins$Scarce", "UnlikeCoins$Gilt"), ("UnlikeCoins$Scarce", "UnlikeCoins$Melting"), ("UnlikeCoins$Stamped", "UnlikeCoins$Scarce"), ("UnlikeCoins$Stamped", "UnlikeCoins$Gilt"), ("UnlikeCoins$Stamped", "UnlikeCoins$Melting"), ("UnlikeCoins$Gilt", "UnlikeCoins$Common"), ("UnlikeCoins$Gilt", "UnlikeCoins$Stamped"), ("UnlikeCoins$Gilt", "UnlikeCoins$Melting"), ("UnlikeCoins$Melting", "UnlikeCoins$Common"), ("UnlikeCoins$Melting", "UnlikeCoins$Scarce"), ("UnlikeCoins$Melting", "UnlikeCoins$Stamped"), ("UnlikeCoins$Melting", "UnlikeCoins$Gilt")]
def GS (g : Gt) : Prop := (ad g 0 < g0 g ∧ GC g) ∧ (∀ i, i < 3 → gL g (i + 4) = slen.getD i 0 ∧ ∀ j, j < slen.getD i 0 → gxs g (i + 4) j = (sbyt.getD i []).getD j 0) ∧ (∀ (s : State) (H : Heap), gX g s H → va_X (ad g 0) (gL g 0) (gxs g 0) s H ∧ vk_S 3 slen sbyt (fun i => ad g (i + 1)) (fun i => ad g (i + 4)) (Fa g) s H ∧ (vk_R RX11 63 sx0 (ad g 1) s ∧ vk_R RX5 106 sx1 (ad g 2) s ∧ vk_R RX5 117 sx2 (ad g 3) s) ∧ va_Z "java/lang/String" "COMPACT_STRINGS" "Z" (.int 1) (Fa g) s H ∧ ∀ q ∈ NcL, va_Nc q.1 q.2 s) ∧ ((∀ (s : State) (H : Heap), gX g s H → va_Z "jdk/internal/util/Preconditions" "SIOOBE_FORMATTER" "Ljava/util/function/BiFunction;" .null (Fa g) s H) ∨ (∀ (s : State) (H : Heap), gX g s H → va_Z "jdk/internal/util/Preconditions" "SIOOBE_FORMATTER" "Ljava/util/function/BiFunction;" (.ref (ad g 7)) (Fa g) s H))
theorem gXs {g : Gt} {s : State} {H : Heap} {locs : List Loc} (hG : GX g) (hX : gX g s H) (hS : va_S (Fa g) s.heap H locs) (hg : g0 g ≤ s.heap.size) : gX g s s.heap := hG.2 s H s.heap (Nat.le_trans hg hS.1) (fun q hq => (hS.2.1 q (Nat.lt_of_lt_of_le hq hg) (Nat.not_le.mpr hq)).symm) hX
section RULES7
variable {g : Gt} {y : Mth} {d rc rs pc : Nat} {lv : List (Nat × Value)} {st : List Value} {z : Zs} {I : Is} {Q : Option Value → Zs → Is → Prop}
theorem not_Fa {g : Gt} {b : Nat} (h : b < g0 g) : ¬ Fa g b := Nat.not_le.mpr h
theorem r_sald {i : Int32} (hs : GS g) (hd : decode y.2.1 pc = .ok (.iaload, 1)) (hi : inB i (zL z 0) = true) (k : WPc g y d rc rs (pc + 1) lv (.int (I 0 i.toNatClampNeg) :: st) z I Q) : WPc g y d rc rs pc lv (.int i :: .ref 0 :: st) z I Q := by
  intro p l e R s m args below meth c H locs cells slots ls C h1 h2 h3 h4 hX hW hS hg hl
  have hG := C.2.2.2.2.2.2.2.2.2
  obtain ⟨-, e1, e2⟩ := hW.2.2.2.2.2 0 (by omega)
  have hk := k p l e R s m args below meth c H locs cells slots ls C h1 h2 h3 h4 hX hW hS hg hl
  rw [e2] at hk
  rw [e1] at hi
  exact va_sld C.1 C.2.1 ((hs.2.2.1 s s.heap (gXs hG hX hS hg)).1) (Nat.lt_of_lt_of_le hs.1.1 hg) (not_Fa hs.1.1) hS (inB_vp hi) hd hk
theorem r_salen (hs : GS g) (hd : decode y.2.1 pc = .ok (.arraylength, 1)) (k : WPc g y d rc rs (pc + 1) lv (.int (Int32.ofNat (zL z 0)) :: st) z I Q) : WPc g y d rc rs pc lv (.ref 0 :: st) z I Q := by
  intro p l e R s m args below meth c H locs cells slots ls C h1 h2 h3 h4 hX hW hS hg hl
  have hG := C.2.2.2.2.2.2.2.2.2
  obtain ⟨-, e1, e2⟩ := hW.2.2.2.2.2 0 (by omega)
  have hk := k p l e R s m args below meth c H locs cells slots ls C h1 h2 h3 h4 hX hW hS hg hl
  rw [e1] at hk
  exact va_slen C.1 C.2.1 ((hs.2.2.1 s s.heap (gXs hG hX hS hg)).1) (Nat.lt_of_lt_of_le hs.1.1 hg) (not_Fa hs.1.1) hS hd hk
theorem r_bald {a : Nat} {i : Int32} (hs : GS g) (ha : a < 3) (hd : decode y.2.1 pc = .ok (.baload, 1)) (hi : inB i (zL z (a + 4)) = true) (k : WPc g y d rc rs (pc + 1) lv (.int (I (a + 4) i.toNatClampNeg) :: st) z I Q) : WPc g y d rc rs pc lv (.int i :: .ref (a + 4) :: st) z I Q := by
  intro p l e R s m args below meth c H locs cells slots ls C h1 h2 h3 h4 hX hW hS hg hl
  have hG := C.2.2.2.2.2.2.2.2.2
  obtain ⟨-, e1, e2⟩ := hW.2.2.2.2.2 (a + 4) (by omega)
  obtain ⟨f1, f2⟩ := hs.2.1 a ha
  have hk := k p l e R s m args below meth c H locs cells slots ls C h1 h2 h3 h4 hX hW hS hg hl
  rw [e1, f1] at hi
  have hin := inB_vp hi
  have hlt : i.toNatClampNeg < slen.getD a 0 := Nat.not_le.mp fun q => hin (Or.inr q)
  rw [e2, f2 _ hlt] at hk
  exact va_tb C.1 C.2.1 (((hs.2.2.1 s s.heap (gXs hG hX hS hg)).2.1).1 a ha).2.2.2 hS hin rfl hd hk
theorem r_balen {a : Nat} (hs : GS g) (ha : a < 3) (hd : decode y.2.1 pc = .ok (.arraylength, 1)) (k : WPc g y d rc rs (pc + 1) lv (.int (Int32.ofNat (zL z (a + 4))) :: st) z I Q) : WPc g y d rc rs pc lv (.ref (a + 4) :: st) z I Q := by
  intro p l e R s m args below meth c H locs cells slots ls C h1 h2 h3 h4 hX hW hS hg hl
  have hG := C.2.2.2.2.2.2.2.2.2
  obtain ⟨-, e1, e2⟩ := hW.2.2.2.2.2 (a + 4) (by omega)
  obtain ⟨f1, f2⟩ := hs.2.1 a ha
  have hk := k p l e R s m args below meth c H locs cells slots ls C h1 h2 h3 h4 hX hW hS hg hl
  rw [e1, f1] at hk
  exact va_tlen C.1 C.2.1 (((hs.2.2.1 s s.heap (gXs hG hX hS hg)).2.1).1 a ha).2.2.2 hS rfl hd hk
theorem r_sval {a idx : Nat} (hs : GS g) (ha : a < 3) (hd : decode y.2.1 pc = .ok (.getfield idx, 3)) (hl0 : Cond.fieldLink y.1.cls idx "java/lang/String" "value" "[B" ∈ gw_tbl) (k : WPc g y d rc rs (pc + 3) lv (.ref (a + 4) :: st) z I Q) : WPc g y d rc rs pc lv (.ref (a + 1) :: st) z I Q := by
  intro p l e R s m args below meth c H locs cells slots ls C h1 h2 h3 h4 hX hW hS hg hl
  have hG := C.2.2.2.2.2.2.2.2.2
  exact vk_getf C.1 C.2.1 (((hs.2.2.1 s s.heap (gXs hG hX hS hg)).2.1).1 a ha).2.2.1 hS C.2.2.2.2.1 (C.2.2.2.2.2.1 _ hl0) (fun _ h => h) hd (k p l e R s m args below meth c H locs cells slots ls C h1 h2 h3 h4 hX hW hS hg hl)
theorem r_scod {a idx : Nat} (hs : GS g) (ha : a < 3) (hd : decode y.2.1 pc = .ok (.getfield idx, 3)) (hl0 : Cond.fieldLink y.1.cls idx "java/lang/String" "coder" "B" ∈ gw_tbl) (k : WPc g y d rc rs (pc + 3) lv (.int 0 :: st) z I Q) : WPc g y d rc rs pc lv (.ref (a + 1) :: st) z I Q := by
  intro p l e R s m args below meth c H locs cells slots ls C h1 h2 h3 h4 hX hW hS hg hl
  have hG := C.2.2.2.2.2.2.2.2.2
  exact vk_getf C.1 C.2.1 (((hs.2.2.1 s s.heap (gXs hG hX hS hg)).2.1).1 a ha).2.1 hS C.2.2.2.2.1 (C.2.2.2.2.2.1 _ hl0) (fun _ h => h) hd (k p l e R s m args below meth c H locs cells slots ls C h1 h2 h3 h4 hX hW hS hg hl)
theorem r_gcs {idx : Nat} (hs : GS g) (hd : decode y.2.1 pc = .ok (.getstatic idx, 3)) (hl0 : Cond.fieldLink y.1.cls idx "java/lang/String" "COMPACT_STRINGS" "Z" ∈ gw_tbl) (k : WPc g y d rc rs (pc + 3) lv (.int 1 :: st) z I Q) : WPc g y d rc rs pc lv st z I Q := by
  intro p l e R s m args below meth c H locs cells slots ls C h1 h2 h3 h4 hX hW hS hg hl
  have hG := C.2.2.2.2.2.2.2.2.2
  exact va_gets C.1 C.2.1 (hs.2.2.1 s s.heap (gXs hG hX hS hg)).2.2.2.1 hS C.2.2.2.2.1 (C.2.2.2.2.2.1 _ hl0) (fun _ h => h) hd (k p l e R s m args below meth c H locs cells slots ls C h1 h2 h3 h4 hX hW hS hg hl)
theorem r_gfm {idx : Nat} (hs : GS g) (hd : decode y.2.1 pc = .ok (.getstatic idx, 3)) (hl0 : Cond.fieldLink y.1.cls idx "jdk/internal/util/Preconditions" "SIOOBE_FORMATTER" "Ljava/util/function/BiFunction;" ∈ gw_tbl) (k : WPc g y d rc rs (pc + 3) lv (.null :: st) z I Q) (k2 : WPc g y d rc rs (pc + 3) lv (.ref 7 :: st) z I Q) : WPc g y d rc rs pc lv st z I Q := by
  intro p l e R s m args below meth c H locs cells slots ls C h1 h2 h3 h4 hX hW hS hg hl
  have hG := C.2.2.2.2.2.2.2.2.2
  rcases hs.2.2.2 with h | h
  · exact va_gets C.1 C.2.1 (h s s.heap (gXs hG hX hS hg)) hS C.2.2.2.2.1 (C.2.2.2.2.2.1 _ hl0) (fun _ h => h) hd (k p l e R s m args below meth c H locs cells slots ls C h1 h2 h3 h4 hX hW hS hg hl)
  · exact va_gets C.1 C.2.1 (h s s.heap (gXs hG hX hS hg)) hS C.2.2.2.2.1 (C.2.2.2.2.2.1 _ hl0) (fun _ h => h) hd (k2 p l e R s m args below meth c H locs cells slots ls C h1 h2 h3 h4 hX hW hS hg hl)
theorem r_ldcS {idx a : Nat} {tx : String} (hs : ∀ (s : State) (H : Heap), gX g s H → vk_R y.1.cls idx tx (ad g a) s) (hd : decode y.2.1 pc = .ok (.ldc idx, 2)) (k : WPc g y d rc rs (pc + 2) lv (.ref a :: st) z I Q) : WPc g y d rc rs pc lv st z I Q := by
  intro p l e R s m args below meth c H locs cells slots ls C h1 h2 h3 h4 hX hW hS hg hl
  exact va_ldcS C.1 C.2.1 C.2.2.2.2.1 (hs s H hX) hd (k p l e R s m args below meth c H locs cells slots ls C h1 h2 h3 h4 hX hW hS hg hl)
def CalW (own : String) (idx : Nat) (y' : Mth) (n : Nat) : Prop := MthOK y' n ∧ Cond.methodLink own idx y'.1 ∈ gw_tbl ∧ Cond.instanceMethod y'.1 ∈ gw_tbl ∧ Cond.selects "java/lang/String" y'.1 y'.1 ∈ gw_tbl
/-- a virtual call on a String constant -/
theorem r_callW {idx n mc ms rc' rs' a : Nat} {y' : Mth} (hs : GS g) (ha : a < 3) (As : List Value) (hd : decode y.2.1 pc = .ok (.invokevirtual idx, 3)) (hc : CalW y.1.cls idx y' n) (hn : As.length = n) (hcat : (st.map (fun v => v.category)).sum ≤ 8) (hmc : mc + rc' ≤ rc) (hms : ms + rs' ≤ rs) (hM : WPm g y' d mc ms (.ref (a + 1) :: As) z I (fun v z' I' => WPc g y (d + 1) rc' rs' (pc + 3) lv (v.toList ++ st) z' I' Q)) : WPc g y (d + 1) rc rs pc lv (As.reverse ++ .ref (a + 1) :: st) z I Q := by
  intro p l e R s m args below meth c H locs cells slots ls C h1 h2 h3 h4 hX hW hS hg hl
  obtain ⟨hm, hlink, hinst, hsel⟩ := hc
  have hts := C.2.2.2.2.2.1
  have hG := C.2.2.2.2.2.2.2.2.2
  have hrec := vk_recv (hs.2.2.1 s s.heap (gXs hG hX hS hg)).2.1 ha hS
  exact runK (va_runV (C := "java/lang/String") (As := As.map (lf g)) (b := ad g (a + 1)) (n := n) (cfix C) (hM l) ⟨callB hm C h1 h2 hlink, hts _ hinst, hts _ hsel⟩ ⟨pm_blind, hrec, pm_at (As := .ref (a + 1) :: As) C hX hW⟩ rfl (by rw [List.length_map]; exact hn) hl.1 (stk As (.ref (a + 1) :: st)) (room_map hcat) hd ⟨by omega, by omega⟩) C h1 h2 h3 h4 hmc hms hX hS hg hl (fun v z' I' q => q)
end RULES7
end
section
/-! the walker: what is to be shown for a stretch of code, as a proposition that the kernel works out; and that it is enough -/
theorem WPm.mono {g : Gt} {y : Mth} {d rc rs : Nat} {args : List Value} {z : Zs} {I : Is} {Q Q' : Option Value → Zs → Is → Prop} (h : WPm g y d rc rs args z I Q) (hq : ∀ v z I, Q v z I → Q' v z I) : WPm g y d rc rs args z I Q' := fun l =>
  MetFree.mono (h l) (fun _ _ hp => hp) (fun _ _ _ _ _ hk => hk) (fun _ _ _ _ _ hQ => ⟨⟨hQ.1.1.elim fun v h1 => h1.elim fun z1 h2 => h2.elim fun I1 h3 => ⟨v, z1, I1, h3.1, hq _ _ _ h3.2.1, h3.2.2⟩, hQ.1.2⟩, hQ.2⟩)
abbrev FE : Type := Nat × Nat × List Nat × Nat
abbrev CE : Type := Nat × Nat × List (Nat × Mth) × Nat × Nat × Nat
abbrev KT : Type := List FE × List CE × List (Nat × Nat) × List (Nat × Value)
def fnd {α : Type} : List (Nat × α) → Nat → Option α
  | [], _ => none
  | (k, a) :: r, i => bif Nat.beq k i then some a else fnd r i
theorem fnd_mem {α : Type} : ∀ {l : List (Nat × α)} {i : Nat} {a : α}, fnd l i = some a → (i, a) ∈ l
  | [], _, _, h => by cases h
  | (j, w) :: r, i, v, h => by
    unfold fnd at h
    cases hb : Nat.beq j i with
    | true => rw [hb] at h; have e : j = i := Nat.eq_of_beq_eq_true hb; subst e; cases h; exact List.mem_cons_self
    | false => rw [hb] at h; exact List.mem_cons_of_mem _ (fnd_mem h)
def ckB (b : Bool) (X : Prop) : Prop := match b with
  | true => X
  | false => False
theorem ckB_of {b : Bool} {X : Prop} (h : ckB b X) : b = true ∧ X := by cases b with
  | true => exact ⟨rfl, h⟩
  | false => exact h.elim
theorem ckB_i {b : Bool} {X : Prop} (h : b = true) (x : X) : ckB b X := by subst h; exact x
def iteB (b : Bool) (X Y : Prop) : Prop := match b with
  | true => X
  | false => Y
theorem iteB_c {c : Prop} [Decidable c] {X Y : Prop} (h : iteB (decide c) X Y) : (c → X) ∧ (¬ c → Y) := by
  by_cases hc : c
  · rw [decide_eq_true hc] at h; exact ⟨fun _ => h, fun q => absurd hc q⟩
  · rw [decide_eq_false hc] at h; exact ⟨fun q => absurd q hc, fun _ => h⟩
theorem iteB_i {c : Prop} [Decidable c] {X Y : Prop} (hx : c → X) (hy : ¬ c → Y) : iteB (decide c) X Y := by
  by_cases hc : c
  · rw [decide_eq_true hc]; exact hx hc
  · rw [decide_eq_false hc]; exact hy hc
def tagB : List Nat → Nat → Bool
  | [], _ => false
  | [c], t => Nat.beq t c
  | c :: r, t => Nat.beq t c || tagB r t
theorem tagB_mem : ∀ {l : List Nat} {t : Nat}, tagB l t = true → t ∈ l
  | [], _, h => by cases h
  | [c], t, h => by have e : t = c := Nat.eq_of_beq_eq_true h; rw [e]; exact List.mem_cons_self
  | c :: b :: r, t, h => by
    have h' : (Nat.beq t c || tagB (b :: r) t) = true := h
    rw [Bool.or_eq_true] at h'
    rcases h' with h1 | h1
    · have e : t = c := Nat.eq_of_beq_eq_true h1; rw [e]; exact List.mem_cons_self
    · exact List.mem_cons_of_mem _ (tagB_mem h1)
def iarB (z : Zs) (a : Nat) : Bool := Nat.beq (zT z a) 100 || Nat.beq a 0
def narB (ty : FieldType) (x : Int32) : Bool := match ty with
  | .int => true
  | .boolean => decide (x = 0) || decide (x = 1)
  | .char => decide (x.toUInt32 % 65536 = x.toUInt32)
  | .byte => decide (x = 0)
  | _ => false
theorem narB_ok {ty : FieldType} {x : Int32} (h : narB ty x = true) : narrow ty (.int x) = .int x ∧ fits ty (.int x) = true := by
  unfold narB at h
  cases ty with
  | int => exact ⟨rfl, rfl⟩
  | boolean =>
    simp only [Bool.or_eq_true, decide_eq_true_iff] at h
    rcases h with rfl | rfl <;> exact ⟨by decide, by decide⟩
  | byte => simp only [decide_eq_true_iff] at h; subst h; exact ⟨by decide, by decide⟩
  | char =>
    simp only [decide_eq_true_iff] at h
    have hx : (x.toUInt32 % 65536).toInt32 = x := by rw [h]; rfl
    rw [← hx]
    exact ⟨pk_nc x, pk_fc x⟩
  | _ => simp at h
def rk (r : Option FieldType) : Nat := match r with
  | none => 0
  | some .long => 3
  | some (.object _) => 2
  | some (.array _) => 2
  | some _ => 1
def callK (g : Gt) (m : Mth) (d mc ms : Nat) (args : List Value) (z : Zs) (I : Is) (go : List Value → Zs → Is → Prop) : Prop := match rk m.2.2.2 with
  | 0 => WPv g m d mc ms args z I (fun z I => go [] z I)
  | 1 => WPi g m d mc ms args z I (fun x z I => go [.int x] z I)
  | 2 => WPr g m d mc ms args z I (fun o z I => oe o (go [.null] z I) (fun q => go [.ref q] z I))
  | _ => WPl g m d mc ms args z I (fun x z I => go [.long x] z I)
theorem callK_ok {g : Gt} {m : Mth} {d mc ms : Nat} {args : List Value} {z : Zs} {I : Is} {go : List Value → Zs → Is → Prop} {R : List Value → Zs → Is → Prop} (h : callK g m d mc ms args z I go) (hg : ∀ vs z I, go vs z I → R vs z I) : WPm g m d mc ms args z I (fun v z I => R v.toList z I) := by
  unfold callK at h
  split at h
  · exact h.mono (fun v z I q => by rw [q.1]; exact hg _ _ _ q.2)
  · exact h.mono (fun v z I q => by obtain ⟨x, rfl, hx⟩ := q; exact hg _ _ _ hx)
  · exact h.mono (fun v z I q => by
      obtain ⟨x, rfl, hx⟩ := q
      cases x with
      | none => exact hg _ _ _ hx
      | some q => exact hg _ _ _ hx)
  · exact h.mono (fun v z I q => by obtain ⟨x, rfl, hx⟩ := q; exact hg _ _ _ hx)
def dsp (l : List (Nat × Mth)) (t : Nat) (K : Mth → Prop) : Prop := match l with
  | [] => False
  | [(c, m)] => ckB (Nat.beq t c) (K m)
  | (c, m) :: r => iteB (Nat.beq t c) (K m) (dsp r t K)
theorem dsp_ok : ∀ {l : List (Nat × Mth)} {t : Nat} {K : Mth → Prop}, dsp l t K → ∃ m, (t, m) ∈ l ∧ K m
  | [], _, _, h => h.elim
  | [(c, m)], t, K, h => by
    obtain ⟨h1, h2⟩ := ckB_of h
    have e : t = c := Nat.eq_of_beq_eq_true h1
    exact ⟨m, by rw [e]; exact List.mem_cons_self, h2⟩
  | (c, m) :: b :: r, t, K, h => by
    have h' : iteB (Nat.beq t c) (K m) (dsp (b :: r) t K) := h
    unfold iteB at h'
    split at h'
    next hb => have e : t = c := Nat.eq_of_beq_eq_true hb; exact ⟨m, by rw [e]; exact List.mem_cons_self, h'⟩
    next hb => obtain ⟨m2, h1, h2⟩ := dsp_ok h'; exact ⟨m2, List.mem_cons_of_mem _ h1, h2⟩
def stoB (c t : Nat) : Bool := (Nat.beq t 1 && tagB [8, 0, 6, 9, 1, 3] c) || ((Nat.beq t 2 && Nat.beq c 4) || ((Nat.beq t 3 && Nat.beq c 10) || (Nat.beq t 4 && Nat.beq c 7)))
def rngB (t : Nat) : Bool := Nat.ble 101 t && Nat.ble t 104
def tswK (x : Int32) (go : Nat → Prop) (pc : Nat) (dflt : Int) : Int → List Int → Prop
  | _, [] => go ((pc : Int) + dflt).toNat
  | k, o :: r => iteB (decide (x = Int32.ofInt k)) (go ((pc : Int) + o).toNat) (tswK x go pc dflt (k + 1) r)
def lswK (x : Int32) (go : Nat → Prop) (pc : Nat) (dflt : Int) : List (Int × Int) → Prop
  | [] => ckB (decide (0 ≤ (pc : Int) + dflt)) (go ((pc : Int) + dflt).toNat)
  | (k, o) :: r => iteB (decide (x = Int32.ofInt k)) (ckB (decide (0 ≤ (pc : Int) + o)) (go ((pc : Int) + o).toNat)) (lswK x go pc dflt r)
def jmp (pc : Nat) (off : Int) (go : Nat → Prop) : Prop := ckB (decide (0 ≤ (pc : Int) + off)) (go ((pc : Int) + off).toNat)
/-- which array class an element class makes; which cells are of a class -/
def anwT (c : Nat) : Nat := match c with
  | 8 => 1
  | 4 => 2
  | 10 => 3
  | _ => 4
def insY (c : Nat) : List Nat := match c with
  | 0 => [0, 9]
  | 6 => [6, 1]
  | 9 => [9]
  | 1 => [1]
  | _ => [3]
/-- one instruction; go: what is to be shown behind it -/
def wst (g : Gt) (kt : KT) (y : Mth) (ini : Bool) (Q : Option Value → Zs → Is → Prop) (go : Nat → Nat → Nat → List (Nat × Value) → List Value → Zs → Is → Prop) (ins : Instr) (d rc rs pc : Nat) (lv : List (Nat × Value)) (st : List Value) (z : Zs) (I : Is) : Prop :=
  match ins, st with
  | .iconst n, st => go rc rs (pc + 1) lv (.int (Int32.ofInt n) :: st) z I
  | .bipush n, st => go rc rs (pc + 2) lv (.int (Int8.ofInt n).toInt32 :: st) z I
  | .sipush n, st => go rc rs (pc + 3) lv (.int (Int16.ofInt n).toInt32 :: st) z I
  | .lconst n, st => go rc rs (pc + 1) lv (.long (Int64.ofNat n.val) :: st) z I
  | .aconst_null, st => go rc rs (pc + 1) lv (.null :: st) z I
  | .iload_n n, st => match lk lv n.val with
    | some (.int x) => go rc rs (pc + 1) lv (.int x :: st) z I
    | _ => False
  | .iload n, st => match lk lv n with
    | some (.int x) => go rc rs (pc + 2) lv (.int x :: st) z I
    | _ => False
  | .lload_n n, st => match lk lv n.val with
    | some (.long x) => go rc rs (pc + 1) lv (.long x :: st) z I
    | _ => False
  | .lload n, st => match lk lv n with
    | some (.long x) => go rc rs (pc + 2) lv (.long x :: st) z I
    | _ => False
  | .aload_n n, st => match lk lv n.val with
    | some (.ref x) => go rc rs (pc + 1) lv (.ref x :: st) z I
    | some .null => go rc rs (pc + 1) lv (.null :: st) z I
    | _ => False
  | .aload n, st => match lk lv n with
    | some (.ref x) => go rc rs (pc + 2) lv (.ref x :: st) z I
    | some .null => go rc rs (pc + 2) lv (.null :: st) z I
    | _ => False
  | .istore_n n, .int x :: st => ckB (Nat.blt n.val y.2.2.1) (go rc rs (pc + 1) (lst lv n.val (.int x)) st z I)
  | .istore n, .int x :: st => ckB (Nat.blt n y.2.2.1) (go rc rs (pc + 2) (lst lv n (.int x)) st z I)
  | .lstore_n n, .long x :: st => ckB (Nat.blt (n.val + 1) y.2.2.1) (go rc rs (pc + 1) (lst2 lv n.val (.long x)) st z I)
  | .lstore n, .long x :: st => ckB (Nat.blt (n + 1) y.2.2.1) (go rc rs (pc + 2) (lst2 lv n (.long x)) st z I)
  | .astore_n n, .ref x :: st => ckB (Nat.blt n.val y.2.2.1) (go rc rs (pc + 1) (lst lv n.val (.ref x)) st z I)
  | .astore n, .ref x :: st => ckB (Nat.blt n y.2.2.1) (go rc rs (pc + 2) (lst lv n (.ref x)) st z I)
  | .astore_n n, .null :: st => ckB (Nat.blt n.val y.2.2.1) (go rc rs (pc + 1) (lst lv n.val .null) st z I)
  | .astore n, .null :: st => ckB (Nat.blt n y.2.2.1) (go rc rs (pc + 2) (lst lv n .null) st z I)
  | .iinc n a, st => match lk lv n with
    | some (.int x) => ckB (Nat.blt n y.2.2.1) (go rc rs (pc + 3) (lst lv n (.int (x + Int32.ofInt a))) st z I)
    | _ => False
  | .iadd, .int b :: .int a :: st => go rc rs (pc + 1) lv (.int (a + b) :: st) z I
  | .isub, .int b :: .int a :: st => go rc rs (pc + 1) lv (.int (a - b) :: st) z I
  | .imul, .int b :: .int a :: st => go rc rs (pc + 1) lv (.int (a * b) :: st) z I
  | .iand, .int b :: .int a :: st => go rc rs (pc + 1) lv (.int (a &&& b) :: st) z I
  | .ior, .int b :: .int a :: st => go rc rs (pc + 1) lv (.int (a ||| b) :: st) z I
  | .ishl, .int b :: .int a :: st => go rc rs (pc + 1) lv (.int (a <<< (b &&& 31)) :: st) z I
  | .ishr, .int b :: .int a :: st => go rc rs (pc + 1) lv (.int (a >>> (b &&& 31)) :: st) z I
  | .idiv, .int b :: .int a :: st => ckB (!decide (b = 0)) (go rc rs (pc + 1) lv (.int (a / b) :: st) z I)
  | .irem, .int b :: .int a :: st => ckB (!decide (b = 0)) (go rc rs (pc + 1) lv (.int (a - a / b * b) :: st) z I)
  | .ineg, .int a :: st => go rc rs (pc + 1) lv (.int (-a) :: st) z I
  | .ladd, .long b :: .long a :: st => go rc rs (pc + 1) lv (.long (a + b) :: st) z I
  | .lmul, .long b :: .long a :: st => go rc rs (pc + 1) lv (.long (a * b) :: st) z I
  | .ldiv, .long b :: .long a :: st => ckB (!decide (b = 0)) (go rc rs (pc + 1) lv (.long (a / b) :: st) z I)
  | .lrem, .long b :: .long a :: st => ckB (!decide (b = 0)) (go rc rs (pc + 1) lv (.long (a - a / b * b) :: st) z I)
  | .lcmp, .long b :: .long a :: st => go rc rs (pc + 1) lv (.int (lg_cmp a b) :: st) z I
  | .i2l, .int a :: st => go rc rs (pc + 1) lv (.long a.toInt64 :: st) z I
  | .l2i, .long a :: st => go rc rs (pc + 1) lv (.int a.toInt32 :: st) z I
  | .i2b, .int a :: st => go rc rs (pc + 1) lv (.int a.toInt8.toInt32 :: st) z I
  | .i2s, .int a :: st => go rc rs (pc + 1) lv (.int a.toInt16.toInt32 :: st) z I
  | .i2c, .int a :: st => go rc rs (pc + 1) lv (.int (a.toUInt32 % 65536).toInt32 :: st) z I
  | .dup, v :: st => ckB (Nat.beq v.category 1) (go rc rs (pc + 1) lv (v :: v :: st) z I)
  | .pop, v :: st => ckB (Nat.beq v.category 1) (go rc rs (pc + 1) lv st z I)
  | .dup2, v :: w :: st => ckB (Nat.beq v.category 1 && Nat.beq w.category 1) (go rc rs (pc + 1) lv (v :: w :: v :: w :: st) z I)
  | .goto o, st => jmp pc o (fun t => go rc rs t lv st z I)
  | .if_icmp .eq o, .int b :: .int a :: st => jmp pc o (fun t => iteB (decide (a = b)) (go rc rs t lv st z I) (go rc rs (pc + 3) lv st z I))
  | .if_icmp .ne o, .int b :: .int a :: st => jmp pc o (fun t => iteB (decide (a = b)) (go rc rs (pc + 3) lv st z I) (go rc rs t lv st z I))
  | .if_icmp .lt o, .int b :: .int a :: st => jmp pc o (fun t => iteB (decide (a < b)) (go rc rs t lv st z I) (go rc rs (pc + 3) lv st z I))
  | .if_icmp .le o, .int b :: .int a :: st => jmp pc o (fun t => iteB (decide (a ≤ b)) (go rc rs t lv st z I) (go rc rs (pc + 3) lv st z I))
  | .if_icmp .gt o, .int b :: .int a :: st => jmp pc o (fun t => iteB (decide (b < a)) (go rc rs t lv st z I) (go rc rs (pc + 3) lv st z I))
  | .if_icmp .ge o, .int b :: .int a :: st => jmp pc o (fun t => iteB (decide (b ≤ a)) (go rc rs t lv st z I) (go rc rs (pc + 3) lv st z I))
  | .ifCond .eq o, .int a :: st => jmp pc o (fun t => iteB (decide (a = 0)) (go rc rs t lv st z I) (go rc rs (pc + 3) lv st z I))
  | .ifCond .ne o, .int a :: st => jmp pc o (fun t => iteB (decide (a = 0)) (go rc rs (pc + 3) lv st z I) (go rc rs t lv st z I))
  | .ifCond .lt o, .int a :: st => jmp pc o (fun t => iteB (decide (a < 0)) (go rc rs t lv st z I) (go rc rs (pc + 3) lv st z I))
  | .ifCond .le o, .int a :: st => jmp pc o (fun t => iteB (decide (a ≤ 0)) (go rc rs t lv st z I) (go rc rs (pc + 3) lv st z I))
  | .ifCond .gt o, .int a :: st => jmp pc o (fun t => iteB (decide (0 < a)) (go rc rs t lv st z I) (go rc rs (pc + 3) lv st z I))
  | .ifCond .ge o, .int a :: st => jmp pc o (fun t => iteB (decide (0 ≤ a)) (go rc rs t lv st z I) (go rc rs (pc + 3) lv st z I))
  | .ifnull _, .ref _ :: st => go rc rs (pc + 3) lv st z I
  | .ifnull o, .null :: st => jmp pc o (fun t => go rc rs t lv st z I)
  | .ifnonnull o, .ref _ :: st => jmp pc o (fun t => go rc rs t lv st z I)
  | .ifnonnull _, .null :: st => go rc rs (pc + 3) lv st z I
  | .tableswitch dflt lo hi offs, .int x :: st => ckB (decide (-2147483648 ≤ lo ∧ hi < 2147483648) && (decide (lo + offs.toList.length = hi + 1) && (offs.toList.all (fun o => decide (0 ≤ (pc : Int) + o)) && decide (0 ≤ (pc : Int) + dflt)))) (tswK x (fun t => go rc rs t lv st z I) pc dflt lo offs.toList)
  | .lookupswitch dflt ps, .int x :: st => ckB ((ps.toList.zip (ps.toList.drop 1)).all (fun (a, next) => a.1 < next.1) && ps.toList.all (fun q => decide (-2147483648 ≤ q.1 ∧ q.1 < 2147483648))) (lswK x (fun t => go rc rs t lv st z I) pc dflt ps.toList)
  | .ldc i, st => match fnd kt.2.2.2 i with
    | some (.int x) => go rc rs (pc + 2) lv (.int x :: st) z I
    | some (.ref a) => go rc rs (pc + 2) lv (.ref a :: st) z I
    | _ => False
  | .ldc_w i, st => match fnd kt.2.2.2 i with
    | some (.int x) => go rc rs (pc + 3) lv (.int x :: st) z I
    | _ => False
  | .ldc2_w i, st => match fnd kt.2.2.2 i with
    | some (.long x) => go rc rs (pc + 3) lv (.long x :: st) z I
    | _ => False
  | .getfield i, .ref a :: st => match fnd kt.1 i with
    | some (j, [], _) => ckB (Nat.ble 1 a && Nat.ble a 3) (match j with
      | 0 => go rc rs (pc + 3) lv (.ref (a + 3) :: st) z I
      | 1 => go rc rs (pc + 3) lv (.int 0 :: st) z I
      | _ => False)
    | some (j, c :: tags, _) => ckB (tagB (c :: tags) (zT z a)) (match isR c j with
      | true => oe (zP z a j) (go rc rs (pc + 3) lv (.null :: st) z I) (fun q => go rc rs (pc + 3) lv (.ref q :: st) z I)
      | false => go rc rs (pc + 3) lv (.int (I a j) :: st) z I)
    | none => False
  | .getstatic i, st => match fnd kt.1 i with
    | some (2, [], _) => go rc rs (pc + 3) lv (.int 1 :: st) z I
    | some (3, [], _) => go rc rs (pc + 3) lv (.null :: st) z I ∧ go rc rs (pc + 3) lv (.ref 7 :: st) z I
    | _ => False
  | .putfield i, .int x :: .ref a :: st => match fnd kt.1 i with
    | some (j, c :: tags, fin) => ckB (tagB (c :: tags) (zT z a) && ((Nat.beq fin 0 || (Nat.beq fin 1 && ini)) && (narB (tyC c j) x && !isR c j))) (go rc rs (pc + 3) lv st z (up2 I a j x))
    | _ => False
  | .putfield i, .ref q :: .ref a :: st => match fnd kt.1 i with
    | some (j, c :: tags, fin) => ckB (tagB (c :: tags) (zT z a) && ((Nat.beq fin 0 || (Nat.beq fin 1 && ini)) && isR c j)) (go rc rs (pc + 3) lv st (zPut z a j (some q)) I)
    | _ => False
  | .iaload, .int i :: .ref a :: st => ckB (iarB z a) (ckB (inB i (zL z a)) (go rc rs (pc + 1) lv (.int (I a i.toNatClampNeg) :: st) z I))
  | .baload, .int i :: .ref a :: st => ckB (Nat.ble 4 a && Nat.ble a 6) (ckB (inB i (zL z a)) (go rc rs (pc + 1) lv (.int (I a i.toNatClampNeg) :: st) z I))
  | .iastore, .int x :: .int i :: .ref a :: st => ckB (Nat.beq (zT z a) 100) (ckB (inB i (zL z a)) (go rc rs (pc + 1) lv st z (up2 I a i.toNatClampNeg x)))
  | .arraylength, .ref a :: st => ckB (iarB z a || (rngB (zT z a) || (Nat.ble 4 a && Nat.ble a 6))) (go rc rs (pc + 1) lv (.int (Int32.ofNat (zL z a)) :: st) z I)
  | .aaload, .int i :: .ref a :: st => ckB (rngB (zT z a)) (ckB (inB i (zL z a)) (oe (zP z a i.toNatClampNeg) (go rc rs (pc + 1) lv (.null :: st) z I) (fun q => go rc rs (pc + 1) lv (.ref q :: st) z I)))
  | .aastore, .ref q :: .int i :: .ref a :: st => ckB (rngB (zT z a) && stoB (zT z q) (zT z a - 100)) (ckB (inB i (zL z a)) (go rc rs (pc + 1) lv st (zPut z a i.toNatClampNeg (some q)) I))
  | .aastore, .null :: .int i :: .ref a :: st => ckB (rngB (zT z a)) (ckB (inB i (zL z a)) (go rc rs (pc + 1) lv st (zPut z a i.toNatClampNeg none) I))
  | .new i, st => match fnd kt.2.2.1 i with
    | some c => ckB (Nat.blt c 13 && (Nat.ble 1 rc && Nat.ble (clN c) rs)) (go (rc - 1) (rs - clN c) (pc + 3) lv (.ref (zN z) :: st) (zNew z c 0) (nI0 I (zN z)))
    | none => False
  | .newarray .int, .int n :: st => ckB (Nat.ble 1 rc && (inB n 100001 && Nat.ble n.toNatClampNeg rs)) (go (rc - 1) (rs - n.toNatClampNeg) (pc + 2) lv (.ref (zN z) :: st) (zNew z 100 n.toNatClampNeg) (nI0 I (zN z)))
  | .anewarray i, .int n :: st => match fnd kt.2.2.1 i with
    | some c => ckB (tagB [8, 4, 10, 7] c) (ckB (Nat.ble 1 rc && (inB n 100001 && Nat.ble n.toNatClampNeg rs)) (go (rc - 1) (rs - n.toNatClampNeg) (pc + 3) lv (.ref (zN z) :: st) (zNew z (100 + anwT c) n.toNatClampNeg) (nI0 I (zN z))))
    | none => False
  | .instanceof i, .ref a :: st => match fnd kt.2.2.1 i with
    | some c => ckB (tagB [0, 6, 9, 1, 3] c) (iteB (tagB (insY c) (zT z a)) (go rc rs (pc + 3) lv (.int 1 :: st) z I) (ckB (tagB [8, 0, 6, 9, 1, 3] (zT z a)) (go rc rs (pc + 3) lv (.int 0 :: st) z I)))
    | none => False
  | .checkcast i, .ref a :: st => match fnd kt.2.2.1 i with
    | some 200 => ckB (Nat.beq (zT z a) 100) (go rc rs (pc + 3) lv (.ref a :: st) z I)
    | _ => False
  | .invokestatic i, st => match d, fnd kt.2.1 i with
    | d + 1, some (0, [(_, m)], n, mc, ms) => ckB (Nat.beq (st.take n).length n && (Nat.ble ((st.drop n).map (fun v => v.category)).sum 8 && (Nat.ble mc rc && Nat.ble ms rs))) (callK g m d mc ms (st.take n).reverse z I (fun vs z I => go (rc - mc) (rs - ms) (pc + 3) lv (vs ++ st.drop n) z I))
    | d + 1, some (1, [(_, m)], n, mc, ms) => ckB (Nat.beq (st.take n).length n && (Nat.ble ((st.drop n).map (fun v => v.category)).sum 8 && (Nat.ble mc rc && Nat.ble ms rs))) (callK g m d mc ms (st.take n).reverse z I (fun vs z I => go (rc - mc) (rs - ms) (pc + 3) lv (vs ++ st.drop n) z I))
    | _ + 1, some (7, _) => match st with
      | .int n :: .int dp :: .ref b :: .int sp :: .ref a :: st => ckB (Nat.beq (zT z a) 100 && (Nat.beq (zT z b) 100 && Nat.ble (st.map (fun v => v.category)).sum 8)) (ckB (inC sp n (zL z a)) (ckB (inC dp n (zL z b)) (go rc rs (pc + 3) lv st z (cpI I a b sp.toNatClampNeg dp.toNatClampNeg n.toNatClampNeg))))
      | _ => False
    | _, _ => False
  | .invokespecial i, st => match d, fnd kt.2.1 i with
    | d + 1, some (2, [(_, m)], n, mc, ms) => match st.drop n with
      | .ref a :: st2 => ckB (Nat.beq (st.take n).length n && (Nat.ble (st2.map (fun v => v.category)).sum 8 && (Nat.ble mc rc && Nat.ble ms rs))) (callK g m d mc ms (.ref a :: (st.take n).reverse) z I (fun vs z I => go (rc - mc) (rs - ms) (pc + 3) lv (vs ++ st2) z I))
      | _ => False
    | d + 1, some (3, [(_, m)], n, mc, ms) => match st.drop n with
      | .ref a :: st2 => ckB (Nat.beq (st.take n).length n && (Nat.ble (st2.map (fun v => v.category)).sum 8 && (Nat.ble mc rc && Nat.ble ms rs))) (callK g m d mc ms (.ref a :: (st.take n).reverse) z I (fun vs z I => go (rc - mc) (rs - ms) (pc + 3) lv (vs ++ st2) z I))
      | _ => False
    | d + 1, some (4, l, n, mc, ms) => match st.drop n with
      | .ref a :: st2 => ckB (Nat.beq (st.take n).length n && (Nat.ble (st2.map (fun v => v.category)).sum 8 && (Nat.ble mc rc && Nat.ble ms rs))) (dsp l (zT z a) (fun m => callK g m d mc ms (.ref a :: (st.take n).reverse) z I (fun vs z I => go (rc - mc) (rs - ms) (pc + 3) lv (vs ++ st2) z I)))
      | _ => False
    | _ + 1, some (6, _) => match st with
      | .ref _ :: st => ckB (Nat.ble (st.map (fun v => v.category)).sum 8) (go rc rs (pc + 3) lv st z I)
      | _ => False
    | _, _ => False
  | .invokevirtual i, st => match d, fnd kt.2.1 i with
    | d + 1, some (5, l, n, mc, ms) => match st.drop n with
      | .ref a :: st2 => ckB (Nat.beq (st.take n).length n && (Nat.ble (st2.map (fun v => v.category)).sum 8 && (Nat.ble mc rc && Nat.ble ms rs))) (dsp l (zT z a) (fun m => callK g m d mc ms (.ref a :: (st.take n).reverse) z I (fun vs z I => go (rc - mc) (rs - ms) (pc + 3) lv (vs ++ st2) z I)))
      | _ => False
    | d + 1, some (9, [(_, m)], n, mc, ms) => match st.drop n with
      | .ref a :: st2 => ckB (Nat.ble 1 a && Nat.ble a 3 && (Nat.beq (st.take n).length n && (Nat.ble (st2.map (fun v => v.category)).sum 8 && (Nat.ble mc rc && Nat.ble ms rs)))) (callK g m d mc ms (.ref a :: (st.take n).reverse) z I (fun vs z I => go (rc - mc) (rs - ms) (pc + 3) lv (vs ++ st2) z I))
      | _ => False
    | _ + 1, some (8, _) => match st with
      | .ref a :: st => ckB (Nat.beq (zT z a) 100 && (Nat.ble (st.map (fun v => v.category)).sum 8 && (Nat.ble 1 rc && Nat.ble (zL z a) rs))) (go (rc - 1) (rs - zL z a) (pc + 3) lv (.ref (zN z) :: st) (zNew z 100 (zL z a)) (cpN I (zN z) a))
      | _ => False
    | _, _ => False
  | .ireturn, [.int x] => match y.2.2.2 with
    | some ty => ckB (narB ty x) (Q (some (.int x)) z I)
    | none => False
  | .lreturn, [.long x] => match y.2.2.2 with
    | some .long => Q (some (.long x)) z I
    | _ => False
  | .areturn, [.ref q] => ckB (Nat.beq (rk y.2.2.2) 2) (Q (some (.ref q)) z I)
  | .areturn, [.null] => ckB (Nat.beq (rk y.2.2.2) 2) (Q (some .null) z I)
  | .return_, [] => ckB (Nat.beq (rk y.2.2.2) 0) (Q none z I)
  | _, _ => False
end
section
/-! the walker is enough -/
def FEok (own : String) (i j : Nat) (tags : List Nat) (fin : Nat) : Prop :=
  (tags = [] → (j = 0 → Cond.fieldLink own i "java/lang/String" "value" "[B" ∈ gw_tbl) ∧ (j = 1 → Cond.fieldLink own i "java/lang/String" "coder" "B" ∈ gw_tbl) ∧ (j = 2 → Cond.fieldLink own i "java/lang/String" "COMPACT_STRINGS" "Z" ∈ gw_tbl) ∧ (j = 3 → Cond.fieldLink own i "jdk/internal/util/Preconditions" "SIOOBE_FORMATTER" "Ljava/util/function/BiFunction;" ∈ gw_tbl)) ∧
  ∀ c ∈ tags, FldOK own i c j ∧ isR c j = isR (tags.headD 0) j ∧ tyC c j = tyC (tags.headD 0) j ∧ (fin = 0 → ∃ C T, ClsF c C T ∧ (T j).2.2.2 = false) ∧ (fin = 1 → ∃ C T, ClsF c C T ∧ (T j).2.2.2 = true ∧ (T j).1 = own)
def CEok (own : String) (i k : Nat) (l : List (Nat × Mth)) (n : Nat) : Prop :=
  (k = 0 → ∀ q ∈ l, CalS own i q.2 n) ∧ (k = 1 → ∀ q ∈ l, (∃ host, NstOK own i q.2 n host) ∧ Cond.static q.2.1 ∈ gw_tbl) ∧ (k = 2 → ∀ q ∈ l, CalI own i q.2 n) ∧ (k = 3 → ∀ q ∈ l, (∃ host, NstOK own i q.2 n host) ∧ Cond.instanceMethod q.2.1 ∈ gw_tbl ∧ q.2.1.name = "<init>" ∧ q.2.2.2.2 = none) ∧ (k = 4 → ∀ q ∈ l, CalP own i q.2 n q.1 ∨ ∃ x, CalQ own i x q.2 n q.1) ∧ (k = 5 → ∀ q ∈ l, CalV own i q.2 n q.1 ∨ ∃ x, CalU own i x q.2 n q.1) ∧ (k = 6 → ObjOK own i) ∧ (k = 7 → CpyOK own i) ∧ (k = 8 → CloOK own i) ∧ (k = 9 → ∀ q ∈ l, CalW own i q.2 n)
def NEok (own : String) (i c : Nat) : Prop := (c = 200 → Cond.classLink own i "[I" ∈ gw_tbl) ∧ (c ≠ 200 → ∃ C T, ClsF c C T ∧ Cond.classLink own i C ∈ gw_tbl)
def LEok (g : Gt) (own : String) (i : Nat) (v : Value) : Prop := match v with
  | .int x => Cond.constant own i x ∈ gw_tbl
  | .long x => Cond.constantLong own i x ∈ gw_tbl
  | .ref a => ∃ tx, ∀ (s : State) (H : Heap), gX g s H → vk_R own i tx (ad g a) s
  | _ => False
def KTok (g : Gt) (own : String) (kt : KT) : Prop := (∀ e ∈ kt.1, FEok own e.1 e.2.1 e.2.2.1 e.2.2.2) ∧ (∀ e ∈ kt.2.1, CEok own e.1 e.2.1 e.2.2.1 e.2.2.2.1) ∧ (∀ e ∈ kt.2.2.1, NEok own e.1 e.2) ∧ ∀ e ∈ kt.2.2.2, LEok g own e.1 e.2
/-- what the tables say of the classes at large -/
def AllOK : Prop := (∀ c C T, ClsF c C T → Cond.instantiable C (clN c) ∈ gw_tbl ∧ Cond.initialized C ∈ gw_tbl ∧ DefOK c) ∧ (∀ c t, stoB c t = true → StoOK c t ∧ ∃ ce C T, ClsF ce C T ∧ C = tyR t) ∧ Cond.arrayClass .int ∈ gw_tbl ∧ (∀ c C T, ClsF c C T → tyR (anwT c) = C ∨ ¬ (c = 8 ∨ c = 4 ∨ c = 10 ∨ c = 7)) ∧ (∀ c nm T, ClsF c nm T → (c = 0 ∨ c = 6 ∨ c = 9 ∨ c = 1 ∨ c = 3) → ∀ t, (tagB (insY c) t = true → ∃ C T, ClsF t C T ∧ (C = nm ∨ (C, nm) ∈ CaL)) ∧ (tagB (insY c) t = false → tagB [8, 0, 6, 9, 1, 3] t = true → ∃ C T, ClsF t C T ∧ ((C, nm) ∈ NcL ∨ ¬ (c = 0 ∨ c = 6 ∨ c = 9 ∨ c = 1 ∨ c = 3))))
def ilen (ins : Instr) (len : Nat) : Nat := match ins with
  | .tableswitch .. => len
  | .lookupswitch .. => len
  | .bipush _ | .iload _ | .lload _ | .aload _ | .istore _ | .lstore _ | .astore _ | .ldc _ | .newarray _ => 2
  | .sipush _ | .iinc _ _ | .goto _ | .if_icmp _ _ | .ifCond _ _ | .ifnull _ | .ifnonnull _ | .ldc_w _ | .ldc2_w _ | .getfield _ | .putfield _ | .getstatic _ | .new _ | .anewarray _ | .instanceof _ | .checkcast _ | .invokestatic _ | .invokespecial _ | .invokevirtual _ => 3
  | _ => 1
theorem inB_nI {n : Int32} (h : inB n 100001 = true) : n = Int32.ofNat n.toNatClampNeg ∧ n.toNatClampNeg ≤ 100000 := by
  obtain ⟨j, hj, rfl⟩ := vp_in_of (inB_vp h) (by omega)
  have e : (nI j).toNatClampNeg = j := nI_clamp (by omega)
  rw [e]
  exact ⟨rfl, by omega⟩
theorem Int32.ofInt_of {x : Int32} {k : Int} (h : x.toInt = k) : x = Int32.ofInt k := by rw [← h]; exact (Int32.ofInt_toInt x).symm
theorem jmp_of {pc : Nat} {off : Int} {go : Nat → Prop} (h : jmp pc off go) : ∃ t : Nat, (pc : Int) + off = (t : Int) ∧ go t := by
  obtain ⟨h1, h2⟩ := ckB_of h
  have := of_decide_eq_true h1
  exact ⟨_, by omega, h2⟩
theorem tswK_get {x : Int32} {go : Nat → Prop} {pc : Nat} {dflt : Int} : ∀ {l : List Int} {k : Int}, -2147483648 ≤ k → k + l.length ≤ 2147483648 → tswK x go pc dflt k l → (∀ (i : Nat) (off : Int) (tgt : Nat), l[i]? = some off → (pc : Int) + off = (tgt : Int) → x.toInt = k + i → go tgt) ∧ ((x.toInt < k ∨ k + l.length ≤ x.toInt) → go ((pc : Int) + dflt).toNat)
  | [], k, _, _, h => ⟨fun i off _ h2 _ _ => by simp at h2, fun _ => h⟩
  | o :: r, k, hk, hk2, h => by
    simp only [List.length_cons] at hk2
    obtain ⟨h1, h2⟩ := iteB_c h
    have hki : (Int32.ofInt k).toInt = k := Int32.toInt_ofInt_of_le (by simpa using hk) (by simp; omega)
    refine ⟨fun i off tgt hi ht hx => ?_, fun hx => ?_⟩
    · cases i with
      | zero =>
        simp at hi
        subst hi
        have h3 := h1 (Int32.ofInt_of (by simpa using hx))
        rw [ht] at h3
        exact h3
      | succ i =>
        have hne : ¬ x = Int32.ofInt k := fun e => by rw [e, hki] at hx; push_cast at hx; omega
        exact (tswK_get (k := k + 1) (by omega) (by omega) (h2 hne)).1 i off tgt (by simpa using hi) ht (by rw [hx]; push_cast; omega)
    · simp only [List.length_cons] at hx
      have hne : ¬ x = Int32.ofInt k := fun e => by rw [e, hki] at hx; push_cast at hx; omega
      exact (tswK_get (k := k + 1) (by omega) (by omega) (h2 hne)).2 (by push_cast at hx; omega)

theorem lswK_get {x : Int32} {go : Nat → Prop} {pc : Nat} {dflt : Int} : ∀ {l : List (Int × Int)}, (∀ q ∈ l, -2147483648 ≤ q.1 ∧ q.1 < 2147483648) → lswK x go pc dflt l → ∃ (off : Int) (tgt : Nat), Op.lookupswitch.offset l dflt x.toInt = off ∧ (pc : Int) + off = (tgt : Int) ∧ go tgt
  | [], _, h => by
    obtain ⟨h1, h2⟩ := ckB_of h
    have := of_decide_eq_true h1
    exact ⟨dflt, _, rfl, by omega, h2⟩
  | (k, o) :: r, hr, h => by
    have hk := hr (k, o) List.mem_cons_self
    have hki : (Int32.ofInt k).toInt = k := Int32.toInt_ofInt_of_le (by simpa using hk.1) (by simpa using hk.2)
    obtain ⟨hA, hB⟩ := iteB_c h
    by_cases hx : x = Int32.ofInt k
    · obtain ⟨h1, h2⟩ := ckB_of (hA hx)
      have := of_decide_eq_true h1
      refine ⟨o, _, ?_, by omega, h2⟩
      have : x.toInt = k := by rw [hx, hki]
      simp [Op.lookupswitch.offset, this]
    · obtain ⟨off, tgt, e1, e2, e3⟩ := lswK_get (fun q hq => hr q (List.mem_cons_of_mem _ hq)) (hB hx)
      refine ⟨off, tgt, ?_, e2, e3⟩
      rw [lv_osw hx hki]
      exact e1
theorem oe_map {o : Option Nat} {A A' : Prop} {B B' : Nat → Prop} (h : oe o A B) (ha : A → A') (hb : ∀ q, B q → B' q) : oe o A' B' := by
  cases o with
  | none => exact ha h
  | some q => exact hb q h
theorem rk_ref {r : Option FieldType} (h : rk r = 2) : ∃ ty, r = some ty ∧ ((∃ n, ty = .object n) ∨ ∃ t, ty = .array t) := by
  cases r with
  | none => simp [rk] at h
  | some ty => cases ty <;> simp [rk] at h <;> first | exact ⟨_, rfl, Or.inl ⟨_, rfl⟩⟩ | exact ⟨_, rfl, Or.inr ⟨_, rfl⟩⟩
theorem rk_void {r : Option FieldType} (h : rk r = 0) : r = none := by
  cases r with
  | none => rfl
  | some ty => cases ty <;> simp [rk] at h
section WST
variable {g : Gt} {kt : KT} {y : Mth} {ini : Bool} {d rc rs pc : Nat} {lv : List (Nat × Value)} {st : List Value} {z : Zs} {I : Is} {Q : Option Value → Zs → Is → Prop} {go : Nat → Nat → Nat → List (Nat × Value) → List Value → Zs → Is → Prop}
theorem finOK {i j c : Nat} {tags : List Nat} {fin : Nat} {t : Nat} (he : FEok y.1.cls i j (c :: tags) fin) (hini : ini = true → y.1.name = "<init>") (ht : t ∈ c :: tags) (hf : (Nat.beq fin 0 || (Nat.beq fin 1 && ini)) = true) : FinOK y t j := by
  obtain ⟨-, -, -, h0, h1⟩ := he.2 t ht
  rw [Bool.or_eq_true, Bool.and_eq_true] at hf
  rcases hf with h | ⟨h, hi⟩
  · obtain ⟨C, T, a, b⟩ := h0 (Nat.eq_of_beq_eq_true h)
    exact ⟨C, T, a, Or.inl b⟩
  · obtain ⟨C, T, a, b, e⟩ := h1 (Nat.eq_of_beq_eq_true h)
    exact ⟨C, T, a, Or.inr ⟨b, hini hi, e⟩⟩
theorem rngB_of {t : Nat} (h : rngB t = true) : ∃ u, t = 100 + u ∧ 1 ≤ u ∧ u ≤ 4 := by
  unfold rngB at h
  rw [Bool.and_eq_true] at h
  have h1 := Nat.le_of_ble_eq_true h.1
  have h2 := Nat.le_of_ble_eq_true h.2
  exact ⟨t - 100, by omega, by omega, by omega⟩
theorem call_st {n : Nat} {st : List Value} : st = (st.take n).reverse.reverse ++ st.drop n := by rw [List.reverse_reverse, List.take_append_drop]
theorem call_st2 {n a : Nat} {st st2 : List Value} (h : st.drop n = .ref a :: st2) : st = (st.take n).reverse.reverse ++ .ref a :: st2 := by rw [List.reverse_reverse, ← h, List.take_append_drop]
set_option maxHeartbeats 4000000 in
set_option maxRecDepth 100000 in
theorem wst_ok {ins : Instr} {len : Nat} (hA : AllOK) (hs : GS g) (hkt : KTok g y.1.cls kt) (hini : ini = true → y.1.name = "<init>") (hgo : ∀ rc rs pc lv st z I, go rc rs pc lv st z I → WPc g y d rc rs pc lv st z I Q) (hd : decode y.2.1 pc = .ok (ins, len)) (hlen : len = ilen ins len) (h : wst g kt y ini Q go ins d rc rs pc lv st z I) : WPc g y d rc rs pc lv st z I Q := by
  unfold wst at h
  split at h
  · exact r_iconst (by rw [hd, hlen]; rfl) (hgo _ _ _ _ _ _ _ h)
  · exact r_bipush (by rw [hd, hlen]; rfl) (hgo _ _ _ _ _ _ _ h)
  · exact r_sipush (by rw [hd, hlen]; rfl) (hgo _ _ _ _ _ _ _ h)
  · exact r_lconst (by rw [hd, hlen]; rfl) (hgo _ _ _ _ _ _ _ h)
  · exact r_null (by rw [hd, hlen]; rfl) (hgo _ _ _ _ _ _ _ h)
  · split at h
    · exact r_iload_n (by rw [hd, hlen]; rfl) (by assumption) (hgo _ _ _ _ _ _ _ h)
    · exact h.elim
  · split at h
    · exact r_iload (by rw [hd, hlen]; rfl) (by assumption) (hgo _ _ _ _ _ _ _ h)
    · exact h.elim
  · split at h
    · exact r_lload_n (by rw [hd, hlen]; rfl) (by assumption) (hgo _ _ _ _ _ _ _ h)
    · exact h.elim
  · split at h
    · exact r_lload (by rw [hd, hlen]; rfl) (by assumption) (hgo _ _ _ _ _ _ _ h)
    · exact h.elim
  · split at h
    · exact r_aload_n (by rw [hd, hlen]; rfl) (by assumption) (hgo _ _ _ _ _ _ _ h)
    · exact r_aload_nN (by rw [hd, hlen]; rfl) (by assumption) (hgo _ _ _ _ _ _ _ h)
    · exact h.elim
  · split at h
    · exact r_aload (by rw [hd, hlen]; rfl) (by assumption) (hgo _ _ _ _ _ _ _ h)
    · exact r_aloadN (by rw [hd, hlen]; rfl) (by assumption) (hgo _ _ _ _ _ _ _ h)
    · exact h.elim
  · exact r_istore_n (by rw [hd, hlen]; rfl) (Nat.blt_eq.mp (ckB_of h).1) (hgo _ _ _ _ _ _ _ (ckB_of h).2)
  · exact r_istore (by rw [hd, hlen]; rfl) (Nat.blt_eq.mp (ckB_of h).1) (hgo _ _ _ _ _ _ _ (ckB_of h).2)
  · exact r_lstore_n (by rw [hd, hlen]; rfl) (Nat.blt_eq.mp (ckB_of h).1) (hgo _ _ _ _ _ _ _ (ckB_of h).2)
  · exact r_lstore (by rw [hd, hlen]; rfl) (Nat.blt_eq.mp (ckB_of h).1) (hgo _ _ _ _ _ _ _ (ckB_of h).2)
  · exact r_astore_n (by rw [hd, hlen]; rfl) (Nat.blt_eq.mp (ckB_of h).1) (hgo _ _ _ _ _ _ _ (ckB_of h).2)
  · exact r_astore (by rw [hd, hlen]; rfl) (Nat.blt_eq.mp (ckB_of h).1) (hgo _ _ _ _ _ _ _ (ckB_of h).2)
  · exact r_astore_nN (by rw [hd, hlen]; rfl) (Nat.blt_eq.mp (ckB_of h).1) (hgo _ _ _ _ _ _ _ (ckB_of h).2)
  · exact r_astoreN (by rw [hd, hlen]; rfl) (Nat.blt_eq.mp (ckB_of h).1) (hgo _ _ _ _ _ _ _ (ckB_of h).2)
  · split at h
    · exact r_iinc (by rw [hd, hlen]; rfl) (by assumption) (Nat.blt_eq.mp (ckB_of h).1) (hgo _ _ _ _ _ _ _ (ckB_of h).2)
    · exact h.elim
  · exact r_iadd (by rw [hd, hlen]; rfl) (hgo _ _ _ _ _ _ _ h)
  · exact r_isub (by rw [hd, hlen]; rfl) (hgo _ _ _ _ _ _ _ h)
  · exact r_imul (by rw [hd, hlen]; rfl) (hgo _ _ _ _ _ _ _ h)
  · exact r_iand (by rw [hd, hlen]; rfl) (hgo _ _ _ _ _ _ _ h)
  · exact r_ior (by rw [hd, hlen]; rfl) (hgo _ _ _ _ _ _ _ h)
  · exact r_ishl (by rw [hd, hlen]; rfl) (hgo _ _ _ _ _ _ _ h)
  · exact r_ishr (by rw [hd, hlen]; rfl) (hgo _ _ _ _ _ _ _ h)
  · exact r_idiv (by rw [hd, hlen]; rfl) (by simpa using (ckB_of h).1) (hgo _ _ _ _ _ _ _ (ckB_of h).2)
  · exact r_irem (by rw [hd, hlen]; rfl) (by simpa using (ckB_of h).1) (hgo _ _ _ _ _ _ _ (ckB_of h).2)
  · exact r_ineg (by rw [hd, hlen]; rfl) (hgo _ _ _ _ _ _ _ h)
  · exact r_ladd (by rw [hd, hlen]; rfl) (hgo _ _ _ _ _ _ _ h)
  · exact r_lmul (by rw [hd, hlen]; rfl) (hgo _ _ _ _ _ _ _ h)
  · exact r_ldiv (by rw [hd, hlen]; rfl) (by simpa using (ckB_of h).1) (hgo _ _ _ _ _ _ _ (ckB_of h).2)
  · exact r_lrem (by rw [hd, hlen]; rfl) (by simpa using (ckB_of h).1) (hgo _ _ _ _ _ _ _ (ckB_of h).2)
  · exact r_lcmp (by rw [hd, hlen]; rfl) (hgo _ _ _ _ _ _ _ h)
  · exact r_i2l (by rw [hd, hlen]; rfl) (hgo _ _ _ _ _ _ _ h)
  · exact r_l2i (by rw [hd, hlen]; rfl) (hgo _ _ _ _ _ _ _ h)
  · exact r_i2b (by rw [hd, hlen]; rfl) (hgo _ _ _ _ _ _ _ h)
  · exact r_i2s (by rw [hd, hlen]; rfl) (hgo _ _ _ _ _ _ _ h)
  · exact r_i2c (by rw [hd, hlen]; rfl) (hgo _ _ _ _ _ _ _ h)
  · exact r_dup (by rw [hd, hlen]; rfl) (Nat.eq_of_beq_eq_true (ckB_of h).1) (hgo _ _ _ _ _ _ _ (ckB_of h).2)
  · exact r_pop (by rw [hd, hlen]; rfl) (Nat.eq_of_beq_eq_true (ckB_of h).1) (hgo _ _ _ _ _ _ _ (ckB_of h).2)
  · have h1 := (ckB_of h).1
    rw [Bool.and_eq_true] at h1
    exact r_dup2 (by rw [hd, hlen]; rfl) (Nat.eq_of_beq_eq_true h1.1) (Nat.eq_of_beq_eq_true h1.2) (hgo _ _ _ _ _ _ _ (ckB_of h).2)
  · obtain ⟨t, h1, h2⟩ := jmp_of h
    exact r_goto (by rw [hd, hlen]; rfl) h1 (hgo _ _ _ _ _ _ _ h2)
  · obtain ⟨t, ht, hb⟩ := jmp_of h
    obtain ⟨kt, kf⟩ := iteB_c hb
    exact r_icmp_eq (by rw [hd, hlen]; rfl) ht (fun q => hgo _ _ _ _ _ _ _ (kt q)) (fun q => hgo _ _ _ _ _ _ _ (kf q))
  · obtain ⟨t, ht, hb⟩ := jmp_of h
    obtain ⟨kt, kf⟩ := iteB_c hb
    exact r_icmp_ne (by rw [hd, hlen]; rfl) ht (fun q => hgo _ _ _ _ _ _ _ (kf q)) (fun q => hgo _ _ _ _ _ _ _ (kt q))
  · obtain ⟨t, ht, hb⟩ := jmp_of h
    obtain ⟨kt, kf⟩ := iteB_c hb
    exact r_icmp_lt (by rw [hd, hlen]; rfl) ht (fun q => hgo _ _ _ _ _ _ _ (kt q)) (fun q => hgo _ _ _ _ _ _ _ (kf q))
  · obtain ⟨t, ht, hb⟩ := jmp_of h
    obtain ⟨kt, kf⟩ := iteB_c hb
    exact r_icmp_le (by rw [hd, hlen]; rfl) ht (fun q => hgo _ _ _ _ _ _ _ (kt q)) (fun q => hgo _ _ _ _ _ _ _ (kf q))
  · obtain ⟨t, ht, hb⟩ := jmp_of h
    obtain ⟨kt, kf⟩ := iteB_c hb
    exact r_icmp_gt (by rw [hd, hlen]; rfl) ht (fun q => hgo _ _ _ _ _ _ _ (kt q)) (fun q => hgo _ _ _ _ _ _ _ (kf q))
  · obtain ⟨t, ht, hb⟩ := jmp_of h
    obtain ⟨kt, kf⟩ := iteB_c hb
    exact r_icmp_ge (by rw [hd, hlen]; rfl) ht (fun q => hgo _ _ _ _ _ _ _ (kt q)) (fun q => hgo _ _ _ _ _ _ _ (kf q))
  · obtain ⟨t, ht, hb⟩ := jmp_of h
    obtain ⟨kt, kf⟩ := iteB_c hb
    exact r_if_eq (by rw [hd, hlen]; rfl) ht (fun q => hgo _ _ _ _ _ _ _ (kt q)) (fun q => hgo _ _ _ _ _ _ _ (kf q))
  · obtain ⟨t, ht, hb⟩ := jmp_of h
    obtain ⟨kt, kf⟩ := iteB_c hb
    exact r_if_ne (by rw [hd, hlen]; rfl) ht (fun q => hgo _ _ _ _ _ _ _ (kf q)) (fun q => hgo _ _ _ _ _ _ _ (kt q))
  · obtain ⟨t, ht, hb⟩ := jmp_of h
    obtain ⟨kt, kf⟩ := iteB_c hb
    exact r_if_lt (by rw [hd, hlen]; rfl) ht (fun q => hgo _ _ _ _ _ _ _ (kt q)) (fun q => hgo _ _ _ _ _ _ _ (kf q))
  · obtain ⟨t, ht, hb⟩ := jmp_of h
    obtain ⟨kt, kf⟩ := iteB_c hb
    exact r_if_le (by rw [hd, hlen]; rfl) ht (fun q => hgo _ _ _ _ _ _ _ (kt q)) (fun q => hgo _ _ _ _ _ _ _ (kf q))
  · obtain ⟨t, ht, hb⟩ := jmp_of h
    obtain ⟨kt, kf⟩ := iteB_c hb
    exact r_if_gt (by rw [hd, hlen]; rfl) ht (fun q => hgo _ _ _ _ _ _ _ (kt q)) (fun q => hgo _ _ _ _ _ _ _ (kf q))
  · obtain ⟨t, ht, hb⟩ := jmp_of h
    obtain ⟨kt, kf⟩ := iteB_c hb
    exact r_if_ge (by rw [hd, hlen]; rfl) ht (fun q => hgo _ _ _ _ _ _ _ (kt q)) (fun q => hgo _ _ _ _ _ _ _ (kf q))
  · exact r_ifnull (tgt := 0) (by rw [hd, hlen]; rfl) (hgo _ _ _ _ _ _ _ h)
  · obtain ⟨t, h1, h2⟩ := jmp_of h
    exact r_ifnullN (a := 0) (by rw [hd, hlen]; rfl) h1 (hgo _ _ _ _ _ _ _ h2)
  · obtain ⟨t, h1, h2⟩ := jmp_of h
    exact r_ifnonnull (by rw [hd, hlen]; rfl) h1 (hgo _ _ _ _ _ _ _ h2)
  · exact r_ifnonnullN (a := 0) (tgt := 0) (by rw [hd, hlen]; rfl) (hgo _ _ _ _ _ _ _ h)
  · next dflt lo hi offs x st0 =>
    obtain ⟨h1, h2⟩ := ckB_of h
    rw [Bool.and_eq_true, Bool.and_eq_true, Bool.and_eq_true] at h1
    have e0 := of_decide_eq_true h1.1
    have e1 := of_decide_eq_true h1.2.1
    have e2 := List.all_eq_true.mp h1.2.2.1
    have e3 := of_decide_eq_true h1.2.2.2
    have e4 : lo + offs.size = hi + 1 := by rw [← e1]; simp
    obtain ⟨k1, k2⟩ := tswK_get e0.1 (by omega) h2
    exact r_tsw hd e4 (fun i off tgt ho ht hx => hgo _ _ _ _ _ _ _ (k1 i off tgt (by simpa using ho) ht hx)) ((pc : Int) + dflt).toNat (by omega) (fun q => hgo _ _ _ _ _ _ _ (k2 (by rcases q with q | q <;> omega))) (fun i off ho => of_decide_eq_true (e2 off (by have := List.mem_of_getElem? (l := offs.toList) (i := i) (by simpa using ho); exact this)))
  · obtain ⟨h1, h2⟩ := ckB_of h
    rw [Bool.and_eq_true] at h1
    obtain ⟨off, tgt, e1, e2, e3⟩ := lswK_get (fun q hq => of_decide_eq_true (List.all_eq_true.mp h1.2 q hq)) h2
    exact r_lsw hd h1.1 e1 e2 (hgo _ _ _ _ _ _ _ e3)
  · split at h
    · next hf => exact r_ldc (by rw [hd, hlen]; rfl) (hkt.2.2.2 _ (fnd_mem hf)) (hgo _ _ _ _ _ _ _ h)
    · next hf => obtain ⟨tx, ht⟩ := hkt.2.2.2 _ (fnd_mem hf); exact r_ldcS ht (by rw [hd, hlen]; rfl) (hgo _ _ _ _ _ _ _ h)
    · exact h.elim
  · split at h
    · next hf => exact r_ldcw (by rw [hd, hlen]; rfl) (hkt.2.2.2 _ (fnd_mem hf)) (hgo _ _ _ _ _ _ _ h)
    · exact h.elim
  · split at h
    · next hf => exact r_ldc2 (by rw [hd, hlen]; rfl) (hkt.2.2.2 _ (fnd_mem hf)) (hgo _ _ _ _ _ _ _ h)
    · exact h.elim
  · -- getfield
    next i a st0 =>
    split at h
    · next hf =>
      obtain ⟨h1, h2⟩ := ckB_of h
      rw [Bool.and_eq_true] at h1
      have a1 := Nat.le_of_ble_eq_true h1.1
      have a2 := Nat.le_of_ble_eq_true h1.2
      have he := (hkt.1 _ (fnd_mem hf)).1 rfl
      split at h2
      · obtain ⟨b, rfl⟩ : ∃ b, a = b + 1 := ⟨a - 1, (Nat.sub_add_cancel a1).symm⟩
        exact r_sval hs (by omega) (by rw [hd, hlen]; rfl) (he.1 rfl) (hgo _ _ _ _ _ _ _ h2)
      · obtain ⟨b, rfl⟩ : ∃ b, a = b + 1 := ⟨a - 1, (Nat.sub_add_cancel a1).symm⟩
        exact r_scod hs (by omega) (by rw [hd, hlen]; rfl) (he.2.1 rfl) (hgo _ _ _ _ _ _ _ h2)
      · exact h2.elim
    · next hf =>
      obtain ⟨h1, h2⟩ := ckB_of h
      have hm := tagB_mem h1
      obtain ⟨hF, hR, -⟩ := (hkt.1 _ (fnd_mem hf)).2 _ hm
      split at h2
      · next hr => exact r_getR (by rw [hd, hlen]; rfl) hF (by rw [hR]; exact hr) rfl (oe_map h2 (fun q => hgo _ _ _ _ _ _ _ q) (fun _ q => hgo _ _ _ _ _ _ _ q))
      · next hr => exact r_getI (by rw [hd, hlen]; rfl) hF (by rw [hR]; exact hr) rfl (hgo _ _ _ _ _ _ _ h2)
    · exact h.elim
  · -- getstatic
    split at h
    · next hf => exact r_gcs hs (by rw [hd, hlen]; rfl) (((hkt.1 _ (fnd_mem hf)).1 rfl).2.2.1 rfl) (hgo _ _ _ _ _ _ _ h)
    · next hf => exact r_gfm hs (by rw [hd, hlen]; rfl) (((hkt.1 _ (fnd_mem hf)).1 rfl).2.2.2 rfl) (hgo _ _ _ _ _ _ _ h.1) (hgo _ _ _ _ _ _ _ h.2)
    · exact h.elim
  · -- putfield int
    split at h
    · next hf =>
      obtain ⟨h1, h2⟩ := ckB_of h
      rw [Bool.and_eq_true, Bool.and_eq_true, Bool.and_eq_true] at h1
      obtain ⟨b1, b2, b3, b4⟩ := h1
      have hm := tagB_mem b1
      have he := hkt.1 _ (fnd_mem hf)
      obtain ⟨hF, hR, hT, -⟩ := he.2 _ hm
      have hn := narB_ok b3
      exact r_putI (by rw [hd, hlen]; rfl) hF (finOK he hini hm b2) (by rw [hR]; simpa using b4) rfl (by rw [hT]; exact hn.1) (by rw [hT]; exact hn.2) (hgo _ _ _ _ _ _ _ h2)
    · exact h.elim
  · -- putfield ref
    split at h
    · next hf =>
      obtain ⟨h1, h2⟩ := ckB_of h
      rw [Bool.and_eq_true, Bool.and_eq_true] at h1
      obtain ⟨b1, b2, b3⟩ := h1
      have hm := tagB_mem b1
      have he := hkt.1 _ (fnd_mem hf)
      obtain ⟨hF, hR, -⟩ := he.2 _ hm
      exact r_putR (by rw [hd, hlen]; rfl) hF (finOK he hini hm b2) (by rw [hR]; exact b3) rfl (hgo _ _ _ _ _ _ _ h2)
    · exact h.elim
  · -- iaload
    obtain ⟨h1, h2⟩ := ckB_of h
    obtain ⟨h3, h4⟩ := ckB_of h2
    unfold iarB at h1
    rw [Bool.or_eq_true] at h1
    rcases h1 with h1 | h1
    · exact r_iald (by rw [hd, hlen]; rfl) (Nat.eq_of_beq_eq_true h1) h3 (hgo _ _ _ _ _ _ _ h4)
    · have e := Nat.eq_of_beq_eq_true h1
      subst e
      exact r_sald hs (by rw [hd, hlen]; rfl) h3 (hgo _ _ _ _ _ _ _ h4)
  · -- baload
    next i a st0 =>
    obtain ⟨h1, h2⟩ := ckB_of h
    obtain ⟨h3, h4⟩ := ckB_of h2
    rw [Bool.and_eq_true] at h1
    have a1 := Nat.le_of_ble_eq_true h1.1
    have a2 := Nat.le_of_ble_eq_true h1.2
    obtain ⟨b, rfl⟩ : ∃ b, a = b + 4 := ⟨a - 4, (Nat.sub_add_cancel a1).symm⟩
    exact r_bald hs (by omega) (by rw [hd, hlen]; rfl) h3 (hgo _ _ _ _ _ _ _ h4)
  · -- iastore
    obtain ⟨h1, h2⟩ := ckB_of h
    obtain ⟨h3, h4⟩ := ckB_of h2
    exact r_iast (by rw [hd, hlen]; rfl) (Nat.eq_of_beq_eq_true h1) h3 (hgo _ _ _ _ _ _ _ h4)
  · -- arraylength
    next a st0 =>
    obtain ⟨h1, h2⟩ := ckB_of h
    unfold iarB at h1
    rw [Bool.or_eq_true, Bool.or_eq_true, Bool.or_eq_true, Bool.and_eq_true] at h1
    rcases h1 with (h1 | h1) | h1 | ⟨h1, h3⟩
    · exact r_alenI (by rw [hd, hlen]; rfl) (Nat.eq_of_beq_eq_true h1) (hgo _ _ _ _ _ _ _ h2)
    · have e := Nat.eq_of_beq_eq_true h1
      subst e
      exact r_salen hs (by rw [hd, hlen]; rfl) (hgo _ _ _ _ _ _ _ h2)
    · obtain ⟨u, e1, e2, e3⟩ := rngB_of h1
      exact r_alenR (by rw [hd, hlen]; rfl) e1 e2 e3 (hgo _ _ _ _ _ _ _ h2)
    · have a1 := Nat.le_of_ble_eq_true h1
      have a2 := Nat.le_of_ble_eq_true h3
      obtain ⟨b, rfl⟩ : ∃ b, a = b + 4 := ⟨a - 4, (Nat.sub_add_cancel a1).symm⟩
      exact r_balen hs (by omega) (by rw [hd, hlen]; rfl) (hgo _ _ _ _ _ _ _ h2)
  · -- aaload
    obtain ⟨h1, h2⟩ := ckB_of h
    obtain ⟨h3, h4⟩ := ckB_of h2
    obtain ⟨u, e1, e2, e3⟩ := rngB_of h1
    exact r_aald (by rw [hd, hlen]; rfl) e1 e2 e3 h3 (oe_map h4 (fun q => hgo _ _ _ _ _ _ _ q) (fun _ q => hgo _ _ _ _ _ _ _ q))
  · -- aastore
    obtain ⟨h1, h2⟩ := ckB_of h
    obtain ⟨h3, h4⟩ := ckB_of h2
    rw [Bool.and_eq_true] at h1
    obtain ⟨u, e1, e2, e3⟩ := rngB_of h1.1
    have hst := h1.2
    rw [e1, show 100 + u - 100 = u by omega] at hst
    obtain ⟨s1, s2⟩ := hA.2.1 _ _ hst
    exact r_aast hs.1.2 (by rw [hd, hlen]; rfl) e1 e2 e3 h3 rfl s1 s2 (hgo _ _ _ _ _ _ _ h4)
  · -- aastore null
    obtain ⟨h1, h2⟩ := ckB_of h
    obtain ⟨h3, h4⟩ := ckB_of h2
    obtain ⟨u, e1, e2, e3⟩ := rngB_of h1
    exact r_aastN (by rw [hd, hlen]; rfl) e1 e2 e3 h3 (hgo _ _ _ _ _ _ _ h4)
  · -- new
    split at h
    · next c hf =>
      obtain ⟨h1, h2⟩ := ckB_of h
      rw [Bool.and_eq_true, Bool.and_eq_true] at h1
      have a0 := Nat.blt_eq.mp h1.1
      have a1 := Nat.le_of_ble_eq_true h1.2.1
      have a2 := Nat.le_of_ble_eq_true h1.2.2
      have hne := hkt.2.2.1 _ (fnd_mem hf)
      obtain ⟨C, T, hC, hl⟩ := hne.2 (by show c ≠ 200; omega)
      have hC : ClsF c C T := hC
      obtain ⟨i1, i2, i3⟩ := hA.1 c C T hC
      exact r_new (by rw [hd, hlen]; rfl) ⟨C, T, hC, hl, i1, i2, i3⟩ (by omega) (by omega) (hgo _ _ _ _ _ _ _ h2)
    · exact h.elim
  · -- newarray
    obtain ⟨h1, h2⟩ := ckB_of h
    rw [Bool.and_eq_true, Bool.and_eq_true] at h1
    have a1 := Nat.le_of_ble_eq_true h1.1
    obtain ⟨e1, e2⟩ := inB_nI h1.2.1
    have a2 := Nat.le_of_ble_eq_true h1.2.2
    exact r_newI (by rw [hd, hlen]; rfl) e1 e2 (by omega) (by omega) hA.2.2.1 (hgo _ _ _ _ _ _ _ h2)
  · -- anewarray
    split at h
    · next c hf =>
      obtain ⟨h0, h⟩ := ckB_of h
      obtain ⟨h1, h2⟩ := ckB_of h
      rw [Bool.and_eq_true, Bool.and_eq_true] at h1
      have a1 := Nat.le_of_ble_eq_true h1.1
      obtain ⟨e1, e2⟩ := inB_nI h1.2.1
      have a2 := Nat.le_of_ble_eq_true h1.2.2
      have hm := tagB_mem h0
      have hc : c = 8 ∨ c = 4 ∨ c = 10 ∨ c = 7 := by simpa using hm
      obtain ⟨C, T, hC, hl⟩ := (hkt.2.2.1 _ (fnd_mem hf)).2 (by show c ≠ 200; omega)
      have hC : ClsF c C T := hC
      have hC2 : tyR (anwT c) = C := (hA.2.2.2.1 c C T hC).resolve_right (fun q => q hc)
      have ht : 1 ≤ anwT c ∧ anwT c ≤ 4 := by rcases hc with rfl | rfl | rfl | rfl <;> decide
      exact r_newR (t := anwT c) hs.1.2 (by rw [hd, hlen]; rfl) ⟨by rw [hC2]; exact hl, ht.1, ht.2⟩ e1 e2 (by omega) (by omega) (hgo _ _ _ _ _ _ _ h2)
    · exact h.elim
  · -- instanceof
    next i a st0 =>
    split at h
    · next c hf =>
      obtain ⟨h0, h⟩ := ckB_of h
      have hm := tagB_mem h0
      have hc : c = 0 ∨ c = 6 ∨ c = 9 ∨ c = 1 ∨ c = 3 := by simpa using hm
      obtain ⟨C, T, hC, hl⟩ := (hkt.2.2.1 _ (fnd_mem hf)).2 (by show c ≠ 200; omega)
      have hC : ClsF c C T := hC
      obtain ⟨hy, hn⟩ := hA.2.2.2.2 c C T hC hc (zT z a)
      unfold iteB at h
      split at h
      · next hb => exact r_instY hs.1.2 (by rw [hd, hlen]; rfl) rfl hl (hy hb) (hgo _ _ _ _ _ _ _ h)
      · next hb =>
        obtain ⟨h1, h2⟩ := ckB_of h
        obtain ⟨C2, T2, hC2, hor⟩ := hn hb h1
        have hmem : (C2, C) ∈ NcL := hor.resolve_right (fun q => q hc)
        exact r_instN (by rw [hd, hlen]; rfl) rfl hl hC2 (fun s H hX => (hs.2.2.1 s H hX).2.2.2.2 _ hmem) (hgo _ _ _ _ _ _ _ h2)
    · exact h.elim
  · -- checkcast
    split at h
    · next hf =>
      obtain ⟨h1, h2⟩ := ckB_of h
      exact r_castI (by rw [hd, hlen]; rfl) ((hkt.2.2.1 _ (fnd_mem hf)).1 rfl) (Nat.eq_of_beq_eq_true h1) (hgo _ _ _ _ _ _ _ h2)
    · exact h.elim
  · -- invokestatic
    split at h
    · next d0 m n mc ms hf =>
      obtain ⟨h1, h2⟩ := ckB_of h
      rw [Bool.and_eq_true, Bool.and_eq_true, Bool.and_eq_true] at h1
      obtain ⟨b1, b2, b3, b4⟩ := h1
      have hc := (hkt.2.1 _ (fnd_mem hf)).1 rfl _ List.mem_cons_self
      rw [call_st (n := n) (st := st)]
      exact r_callS _ (by rw [hd, hlen]; rfl) hc (by rw [List.length_reverse]; exact Nat.eq_of_beq_eq_true b1) (Nat.le_of_ble_eq_true b2) (by have := Nat.le_of_ble_eq_true b3; omega) (by have := Nat.le_of_ble_eq_true b4; omega) (callK_ok h2 (fun vs z I q => hgo _ _ _ _ _ _ _ q))
    · next d0 m n mc ms hf =>
      obtain ⟨h1, h2⟩ := ckB_of h
      rw [Bool.and_eq_true, Bool.and_eq_true, Bool.and_eq_true] at h1
      obtain ⟨b1, b2, b3, b4⟩ := h1
      obtain ⟨⟨host, hc⟩, hstat⟩ := (hkt.2.1 _ (fnd_mem hf)).2.1 rfl _ List.mem_cons_self
      rw [call_st (n := n) (st := st)]
      exact r_callSN hs.1.2 _ (by rw [hd, hlen]; rfl) hc hstat (by rw [List.length_reverse]; exact Nat.eq_of_beq_eq_true b1) (Nat.le_of_ble_eq_true b2) (by have := Nat.le_of_ble_eq_true b3; omega) (by have := Nat.le_of_ble_eq_true b4; omega) (callK_ok h2 (fun vs z I q => hgo _ _ _ _ _ _ _ q))
    · next hf =>
      split at h
      · obtain ⟨h1, h2⟩ := ckB_of h
        obtain ⟨h3, h4⟩ := ckB_of h2
        obtain ⟨h5, h6⟩ := ckB_of h4
        rw [Bool.and_eq_true, Bool.and_eq_true] at h1
        exact r_acopy (by rw [hd, hlen]; rfl) ((hkt.2.1 _ (fnd_mem hf)).2.2.2.2.2.2.2.1 rfl) (Nat.eq_of_beq_eq_true h1.1) (Nat.eq_of_beq_eq_true h1.2.1) h3 h5 (Nat.le_of_ble_eq_true h1.2.2) (hgo _ _ _ _ _ _ _ h6)
      · exact h.elim
    · exact h.elim
  · -- invokespecial
    split at h
    · next d0 m n mc ms hf =>
      split at h
      · next hst =>
        obtain ⟨h1, h2⟩ := ckB_of h
        rw [Bool.and_eq_true, Bool.and_eq_true, Bool.and_eq_true] at h1
        obtain ⟨b1, b2, b3, b4⟩ := h1
        have hc := (hkt.2.1 _ (fnd_mem hf)).2.2.1 rfl _ List.mem_cons_self
        rw [call_st2 hst]
        exact r_callI _ (by rw [hd, hlen]; rfl) hc (by rw [List.length_reverse]; exact Nat.eq_of_beq_eq_true b1) (Nat.le_of_ble_eq_true b2) (by have := Nat.le_of_ble_eq_true b3; omega) (by have := Nat.le_of_ble_eq_true b4; omega) (callK_ok h2 (fun vs z I q => hgo _ _ _ _ _ _ _ q))
      · exact h.elim
    · next d0 m n mc ms hf =>
      split at h
      · next hst =>
        obtain ⟨h1, h2⟩ := ckB_of h
        rw [Bool.and_eq_true, Bool.and_eq_true, Bool.and_eq_true] at h1
        obtain ⟨b1, b2, b3, b4⟩ := h1
        obtain ⟨⟨host, hc⟩, hin, hnm, hrn⟩ := (hkt.2.1 _ (fnd_mem hf)).2.2.2.1 rfl _ List.mem_cons_self
        rw [call_st2 hst]
        exact r_callIN hs.1.2 _ (by rw [hd, hlen]; rfl) hc hin hnm hrn (by rw [List.length_reverse]; exact Nat.eq_of_beq_eq_true b1) (Nat.le_of_ble_eq_true b2) (by have := Nat.le_of_ble_eq_true b3; omega) (by have := Nat.le_of_ble_eq_true b4; omega) (callK_ok h2 (fun vs z I q => hgo _ _ _ _ _ _ _ q))
      · exact h.elim
    · next d0 l n mc ms hf =>
      split at h
      · next hst =>
        obtain ⟨h1, h2⟩ := ckB_of h
        rw [Bool.and_eq_true, Bool.and_eq_true, Bool.and_eq_true] at h1
        obtain ⟨b1, b2, b3, b4⟩ := h1
        obtain ⟨m, hm, h3⟩ := dsp_ok h2
        rw [call_st2 hst]
        rcases (hkt.2.1 _ (fnd_mem hf)).2.2.2.2.1 rfl _ hm with hc | ⟨x, hc⟩
        · exact r_callP _ (by rw [hd, hlen]; rfl) hc rfl (by rw [List.length_reverse]; exact Nat.eq_of_beq_eq_true b1) (Nat.le_of_ble_eq_true b2) (by have := Nat.le_of_ble_eq_true b3; omega) (by have := Nat.le_of_ble_eq_true b4; omega) (callK_ok h3 (fun vs z I q => hgo _ _ _ _ _ _ _ q))
        · exact r_callQ _ (by rw [hd, hlen]; rfl) hc rfl (by rw [List.length_reverse]; exact Nat.eq_of_beq_eq_true b1) (Nat.le_of_ble_eq_true b2) (by have := Nat.le_of_ble_eq_true b3; omega) (by have := Nat.le_of_ble_eq_true b4; omega) (callK_ok h3 (fun vs z I q => hgo _ _ _ _ _ _ _ q))
      · exact h.elim
    · next hf =>
      split at h
      · obtain ⟨h1, h2⟩ := ckB_of h
        exact r_objInit (by rw [hd, hlen]; rfl) ((hkt.2.1 _ (fnd_mem hf)).2.2.2.2.2.2.1 rfl) (Nat.le_of_ble_eq_true h1) (hgo _ _ _ _ _ _ _ h2)
      · exact h.elim
    · exact h.elim
  · -- invokevirtual
    split at h
    · next d0 l n mc ms hf =>
      split at h
      · next hst =>
        obtain ⟨h1, h2⟩ := ckB_of h
        rw [Bool.and_eq_true, Bool.and_eq_true, Bool.and_eq_true] at h1
        obtain ⟨b1, b2, b3, b4⟩ := h1
        obtain ⟨m, hm, h3⟩ := dsp_ok h2
        rw [call_st2 hst]
        rcases (hkt.2.1 _ (fnd_mem hf)).2.2.2.2.2.1 rfl _ hm with hc | ⟨x, hc⟩
        · exact r_callV _ (by rw [hd, hlen]; rfl) hc rfl (by rw [List.length_reverse]; exact Nat.eq_of_beq_eq_true b1) (Nat.le_of_ble_eq_true b2) (by have := Nat.le_of_ble_eq_true b3; omega) (by have := Nat.le_of_ble_eq_true b4; omega) (callK_ok h3 (fun vs z I q => hgo _ _ _ _ _ _ _ q))
        · exact r_callU _ (by rw [hd, hlen]; rfl) hc rfl (by rw [List.length_reverse]; exact Nat.eq_of_beq_eq_true b1) (Nat.le_of_ble_eq_true b2) (by have := Nat.le_of_ble_eq_true b3; omega) (by have := Nat.le_of_ble_eq_true b4; omega) (callK_ok h3 (fun vs z I q => hgo _ _ _ _ _ _ _ q))
      · exact h.elim
    · next d0 m n mc ms hf =>
      split at h
      · next a st2 hst =>
        obtain ⟨h1, h2⟩ := ckB_of h
        rw [Bool.and_eq_true, Bool.and_eq_true, Bool.and_eq_true, Bool.and_eq_true, Bool.and_eq_true] at h1
        obtain ⟨⟨c1, c2⟩, b1, b2, b3, b4⟩ := h1
        have a1 := Nat.le_of_ble_eq_true c1
        have a2 := Nat.le_of_ble_eq_true c2
        obtain ⟨b, rfl⟩ : ∃ b, a = b + 1 := ⟨a - 1, (Nat.sub_add_cancel a1).symm⟩
        have hc := (hkt.2.1 _ (fnd_mem hf)).2.2.2.2.2.2.2.2.2 rfl _ List.mem_cons_self
        rw [call_st2 hst]
        exact r_callW hs (by omega) _ (by rw [hd, hlen]; rfl) hc (by rw [List.length_reverse]; exact Nat.eq_of_beq_eq_true b1) (Nat.le_of_ble_eq_true b2) (by have := Nat.le_of_ble_eq_true b3; omega) (by have := Nat.le_of_ble_eq_true b4; omega) (callK_ok h2 (fun vs z I q => hgo _ _ _ _ _ _ _ q))
      · exact h.elim
    · next hf =>
      split at h
      · obtain ⟨h1, h2⟩ := ckB_of h
        rw [Bool.and_eq_true, Bool.and_eq_true, Bool.and_eq_true] at h1
        obtain ⟨b1, b2, b3, b4⟩ := h1
        exact r_clone hs.1.2 (by rw [hd, hlen]; rfl) ((hkt.2.1 _ (fnd_mem hf)).2.2.2.2.2.2.2.2.1 rfl) (Nat.eq_of_beq_eq_true b1) (by have := Nat.le_of_ble_eq_true b3; omega) (by have := Nat.le_of_ble_eq_true b4; omega) (Nat.le_of_ble_eq_true b2) (hgo _ _ _ _ _ _ _ h2)
      · exact h.elim
    · exact h.elim
  · -- ireturn
    split at h
    · next ty hty =>
      obtain ⟨h1, h2⟩ := ckB_of h
      exact r_iret (by rw [hd, hlen]; rfl) hty (narB_ok h1).1 h2
    · exact h.elim
  · -- lreturn
    split at h
    · next hty => exact r_lret (by rw [hd, hlen]; rfl) hty h
    · exact h.elim
  · -- areturn
    next q =>
    obtain ⟨h1, h2⟩ := ckB_of h
    obtain ⟨ty, e1, e2⟩ := rk_ref (Nat.eq_of_beq_eq_true h1)
    exact r_aret (o := some q) (by rw [hd, hlen]; rfl) e1 e2 h2
  · obtain ⟨h1, h2⟩ := ckB_of h
    obtain ⟨ty, e1, e2⟩ := rk_ref (Nat.eq_of_beq_eq_true h1)
    exact r_aret (o := none) (by rw [hd, hlen]; rfl) e1 e2 h2
  · obtain ⟨h1, h2⟩ := ckB_of h
    exact r_vret (by rw [hd, hlen]; rfl) (rk_void (Nat.eq_of_beq_eq_true h1)) h2
  · exact h.elim
end WST
end
