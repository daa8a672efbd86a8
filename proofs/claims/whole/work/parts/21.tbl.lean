-- ===== PART A: goes FIRST, ahead of the names: the tables' words, and 'selects' of the private methods out of them =====
/-- a private method of a class that the tables say can be made, by its rows of tables_1 -/
def lw_okq (q : MethodName × Nat) : Prop := (q.1.cls ≠ "java/lang/invoke/MethodHandle" ∧ q.1.cls ≠ "java/lang/invoke/VarHandle") ∧ Cond.instantiable q.1.cls q.2 ∈ tables_1 ∧ Cond.privateMethod q.1 ∈ tables_1 ∧ Cond.instanceMethod q.1 ∈ tables_1
theorem lw_p0 : lw_okq (⟨"HotHand", "isOnTape", "(I)Z"⟩, 17) := ⟨⟨by decide +kernel, by decide +kernel⟩, List.mem_of_getElem? (i := 21) (by decide +kernel), List.mem_of_getElem? (i := 356) (by decide +kernel), List.mem_of_getElem? (i := 357) (by decide +kernel)⟩
theorem lw_p1 : lw_okq (⟨"HotHand$Reader", "open", "(I)V"⟩, 6) := ⟨⟨by decide +kernel, by decide +kernel⟩, List.mem_of_getElem? (i := 107) (by decide +kernel), List.mem_of_getElem? (i := 372) (by decide +kernel), List.mem_of_getElem? (i := 373) (by decide +kernel)⟩
theorem lw_p2 : lw_okq (⟨"HotHand$Reader", "wordIn", "(II)I"⟩, 6) := ⟨⟨by decide +kernel, by decide +kernel⟩, List.mem_of_getElem? (i := 107) (by decide +kernel), List.mem_of_getElem? (i := 379) (by decide +kernel), List.mem_of_getElem? (i := 380) (by decide +kernel)⟩
theorem lw_p3 : lw_okq (⟨"HotHand$Reader", "numberIn", "(II)I"⟩, 6) := ⟨⟨by decide +kernel, by decide +kernel⟩, List.mem_of_getElem? (i := 107) (by decide +kernel), List.mem_of_getElem? (i := 432) (by decide +kernel), List.mem_of_getElem? (i := 433) (by decide +kernel)⟩
theorem lw_p4 : lw_okq (⟨"HotHand$Reader", "readRule", "(LHotHand$Rules;)Z"⟩, 6) := ⟨⟨by decide +kernel, by decide +kernel⟩, List.mem_of_getElem? (i := 107) (by decide +kernel), List.mem_of_getElem? (i := 436) (by decide +kernel), List.mem_of_getElem? (i := 437) (by decide +kernel)⟩
theorem lw_p5 : lw_okq (⟨"HotHand$Reader", "isWordOf", "(II)Z"⟩, 6) := ⟨⟨by decide +kernel, by decide +kernel⟩, List.mem_of_getElem? (i := 107) (by decide +kernel), List.mem_of_getElem? (i := 440) (by decide +kernel), List.mem_of_getElem? (i := 441) (by decide +kernel)⟩
theorem lw_p6 : lw_okq (⟨"HotHand$Reader", "take", "()I"⟩, 6) := ⟨⟨by decide +kernel, by decide +kernel⟩, List.mem_of_getElem? (i := 107) (by decide +kernel), List.mem_of_getElem? (i := 444) (by decide +kernel), List.mem_of_getElem? (i := 445) (by decide +kernel)⟩
theorem lw_p7 : lw_okq (⟨"HotHand$Reader", "isNumber", "(II)Z"⟩, 6) := ⟨⟨by decide +kernel, by decide +kernel⟩, List.mem_of_getElem? (i := 107) (by decide +kernel), List.mem_of_getElem? (i := 451) (by decide +kernel), List.mem_of_getElem? (i := 452) (by decide +kernel)⟩
theorem lw_p8 : lw_okq (⟨"HotHand$Reader", "readIf", "(LHotHand$Rules;Z)Z"⟩, 6) := ⟨⟨by decide +kernel, by decide +kernel⟩, List.mem_of_getElem? (i := 107) (by decide +kernel), List.mem_of_getElem? (i := 455) (by decide +kernel), List.mem_of_getElem? (i := 456) (by decide +kernel)⟩
theorem lw_p9 : lw_okq (⟨"HotHand$Reader", "isWord", "(I)Z"⟩, 6) := ⟨⟨by decide +kernel, by decide +kernel⟩, List.mem_of_getElem? (i := 107) (by decide +kernel), List.mem_of_getElem? (i := 459) (by decide +kernel), List.mem_of_getElem? (i := 460) (by decide +kernel)⟩
theorem lw_p10 : lw_okq (⟨"HotHand$Reader", "readAny", "(LHotHand$Rules;I)Z"⟩, 6) := ⟨⟨by decide +kernel, by decide +kernel⟩, List.mem_of_getElem? (i := 107) (by decide +kernel), List.mem_of_getElem? (i := 463) (by decide +kernel), List.mem_of_getElem? (i := 464) (by decide +kernel)⟩
theorem lw_p11 : lw_okq (⟨"HotHand$Reader", "readOne", "(LHotHand$Rules;I)Z"⟩, 6) := ⟨⟨by decide +kernel, by decide +kernel⟩, List.mem_of_getElem? (i := 107) (by decide +kernel), List.mem_of_getElem? (i := 467) (by decide +kernel), List.mem_of_getElem? (i := 468) (by decide +kernel)⟩
theorem lw_p12 : lw_okq (⟨"HotHand$Reader", "isSign", "(C)Z"⟩, 6) := ⟨⟨by decide +kernel, by decide +kernel⟩, List.mem_of_getElem? (i := 107) (by decide +kernel), List.mem_of_getElem? (i := 471) (by decide +kernel), List.mem_of_getElem? (i := 472) (by decide +kernel)⟩
theorem lw_p13 : lw_okq (⟨"HotHand$Reader", "readComparison", "(LHotHand$Rules;)Z"⟩, 6) := ⟨⟨by decide +kernel, by decide +kernel⟩, List.mem_of_getElem? (i := 107) (by decide +kernel), List.mem_of_getElem? (i := 475) (by decide +kernel), List.mem_of_getElem? (i := 476) (by decide +kernel)⟩
theorem lw_p14 : lw_okq (⟨"HotHand$Reader", "readStatement", "(LHotHand$Rules;)Z"⟩, 6) := ⟨⟨by decide +kernel, by decide +kernel⟩, List.mem_of_getElem? (i := 107) (by decide +kernel), List.mem_of_getElem? (i := 487) (by decide +kernel), List.mem_of_getElem? (i := 488) (by decide +kernel)⟩
theorem lw_p15 : lw_okq (⟨"HotHand", "closeText", "(Z)Z"⟩, 17) := ⟨⟨by decide +kernel, by decide +kernel⟩, List.mem_of_getElem? (i := 21) (by decide +kernel), List.mem_of_getElem? (i := 491) (by decide +kernel), List.mem_of_getElem? (i := 492) (by decide +kernel)⟩
def lw_privs_1 : List (MethodName × Nat) := [(⟨"HotHand", "isOnTape", "(I)Z"⟩, 17), (⟨"HotHand$Reader", "open", "(I)V"⟩, 6), (⟨"HotHand$Reader", "wordIn", "(II)I"⟩, 6), (⟨"HotHand$Reader", "numberIn", "(II)I"⟩, 6), (⟨"HotHand$Reader", "readRule", "(LHotHand$Rules;)Z"⟩, 6), (⟨"HotHand$Reader", "isWordOf", "(II)Z"⟩, 6), (⟨"HotHand$Reader", "take", "()I"⟩, 6), (⟨"HotHand$Reader", "isNumber", "(II)Z"⟩, 6), (⟨"HotHand$Reader", "readIf", "(LHotHand$Rules;Z)Z"⟩, 6), (⟨"HotHand$Reader", "isWord", "(I)Z"⟩, 6), (⟨"HotHand$Reader", "readAny", "(LHotHand$Rules;I)Z"⟩, 6), (⟨"HotHand$Reader", "readOne", "(LHotHand$Rules;I)Z"⟩, 6), (⟨"HotHand$Reader", "isSign", "(C)Z"⟩, 6), (⟨"HotHand$Reader", "readComparison", "(LHotHand$Rules;)Z"⟩, 6), (⟨"HotHand$Reader", "readStatement", "(LHotHand$Rules;)Z"⟩, 6), (⟨"HotHand", "closeText", "(Z)Z"⟩, 17)]
theorem lw_r1 : ∀ q ∈ lw_privs_1, lw_okq q := List.forall_mem_cons.mpr ⟨lw_p0, List.forall_mem_cons.mpr ⟨lw_p1, List.forall_mem_cons.mpr ⟨lw_p2, List.forall_mem_cons.mpr ⟨lw_p3, List.forall_mem_cons.mpr ⟨lw_p4, List.forall_mem_cons.mpr ⟨lw_p5, List.forall_mem_cons.mpr ⟨lw_p6, List.forall_mem_cons.mpr ⟨lw_p7, List.forall_mem_cons.mpr ⟨lw_p8, List.forall_mem_cons.mpr ⟨lw_p9, List.forall_mem_cons.mpr ⟨lw_p10, List.forall_mem_cons.mpr ⟨lw_p11, List.forall_mem_cons.mpr ⟨lw_p12, List.forall_mem_cons.mpr ⟨lw_p13, List.forall_mem_cons.mpr ⟨lw_p14, List.forall_mem_cons.mpr ⟨lw_p15, fun _ h => absurd h List.not_mem_nil⟩⟩⟩⟩⟩⟩⟩⟩⟩⟩⟩⟩⟩⟩⟩⟩
theorem lw_p16 : lw_okq (⟨"HotHand$Reader", "readTerm", "(LHotHand$Measure;I)Z"⟩, 6) := ⟨⟨by decide +kernel, by decide +kernel⟩, List.mem_of_getElem? (i := 107) (by decide +kernel), List.mem_of_getElem? (i := 521) (by decide +kernel), List.mem_of_getElem? (i := 522) (by decide +kernel)⟩
theorem lw_p17 : lw_okq (⟨"HotHand$Reader", "takeOf", "()Z"⟩, 6) := ⟨⟨by decide +kernel, by decide +kernel⟩, List.mem_of_getElem? (i := 107) (by decide +kernel), List.mem_of_getElem? (i := 525) (by decide +kernel), List.mem_of_getElem? (i := 526) (by decide +kernel)⟩
theorem lw_p18 : lw_okq (⟨"HotHand", "lawOf", "(I)LHotHand$Rules;"⟩, 17) := ⟨⟨by decide +kernel, by decide +kernel⟩, List.mem_of_getElem? (i := 21) (by decide +kernel), List.mem_of_getElem? (i := 570) (by decide +kernel), List.mem_of_getElem? (i := 571) (by decide +kernel)⟩
theorem lw_p19 : lw_okq (⟨"HotHand", "walkTo", "(II)V"⟩, 17) := ⟨⟨by decide +kernel, by decide +kernel⟩, List.mem_of_getElem? (i := 21) (by decide +kernel), List.mem_of_getElem? (i := 574) (by decide +kernel), List.mem_of_getElem? (i := 575) (by decide +kernel)⟩
theorem lw_p20 : lw_okq (⟨"HotHand$Rules", "firstOf", "(ILHotHand$Asked;I)I"⟩, 8) := ⟨⟨by decide +kernel, by decide +kernel⟩, List.mem_of_getElem? (i := 73) (by decide +kernel), List.mem_of_getElem? (i := 599) (by decide +kernel), List.mem_of_getElem? (i := 600) (by decide +kernel)⟩
theorem lw_p21 : lw_okq (⟨"HotHand$Rules", "holds", "(ILHotHand$Asked;)Z"⟩, 8) := ⟨⟨by decide +kernel, by decide +kernel⟩, List.mem_of_getElem? (i := 73) (by decide +kernel), List.mem_of_getElem? (i := 603) (by decide +kernel), List.mem_of_getElem? (i := 604) (by decide +kernel)⟩
theorem lw_p22 : lw_okq (⟨"HotHand$Asked", "wordOf", "(I)I"⟩, 7) := ⟨⟨by decide +kernel, by decide +kernel⟩, List.mem_of_getElem? (i := 134) (by decide +kernel), List.mem_of_getElem? (i := 612) (by decide +kernel), List.mem_of_getElem? (i := 613) (by decide +kernel)⟩
theorem lw_p23 : lw_okq (⟨"HotHand", "toldOfRow", "(II)I"⟩, 17) := ⟨⟨by decide +kernel, by decide +kernel⟩, List.mem_of_getElem? (i := 21) (by decide +kernel), List.mem_of_getElem? (i := 643) (by decide +kernel), List.mem_of_getElem? (i := 644) (by decide +kernel)⟩
theorem lw_p24 : lw_okq (⟨"HotHand", "isMeasure", "(I)Z"⟩, 17) := ⟨⟨by decide +kernel, by decide +kernel⟩, List.mem_of_getElem? (i := 21) (by decide +kernel), List.mem_of_getElem? (i := 661) (by decide +kernel), List.mem_of_getElem? (i := 662) (by decide +kernel)⟩
theorem lw_p25 : lw_okq (⟨"HotHand$Measure", "termOf", "(IIIJ)J"⟩, 6) := ⟨⟨by decide +kernel, by decide +kernel⟩, List.mem_of_getElem? (i := 267) (by decide +kernel), List.mem_of_getElem? (i := 672) (by decide +kernel), List.mem_of_getElem? (i := 673) (by decide +kernel)⟩
theorem lw_p26 : lw_okq (⟨"HotHand$Shuffles", "join", "(II)V"⟩, 5) := ⟨⟨by decide +kernel, by decide +kernel⟩, List.mem_of_getElem? (i := 193) (by decide +kernel), List.mem_of_getElem? (i := 769) (by decide +kernel), List.mem_of_getElem? (i := 770) (by decide +kernel)⟩
theorem lw_p27 : lw_okq (⟨"HotHand$Trial", "lay", "(III)V"⟩, 2) := ⟨⟨by decide +kernel, by decide +kernel⟩, List.mem_of_getElem? (i := 217) (by decide +kernel), List.mem_of_getElem? (i := 792) (by decide +kernel), List.mem_of_getElem? (i := 793) (by decide +kernel)⟩
theorem lw_p28 : lw_okq (⟨"HotHand$Court", "hardBits", "(II)I"⟩, 8) := ⟨⟨by decide +kernel, by decide +kernel⟩, List.mem_of_getElem? (i := 29) (by decide +kernel), List.mem_of_getElem? (i := 829) (by decide +kernel), List.mem_of_getElem? (i := 830) (by decide +kernel)⟩
theorem lw_p29 : lw_okq (⟨"HotHand", "hundredthsOf", "(I)I"⟩, 17) := ⟨⟨by decide +kernel, by decide +kernel⟩, List.mem_of_getElem? (i := 21) (by decide +kernel), List.mem_of_getElem? (i := 845) (by decide +kernel), List.mem_of_getElem? (i := 846) (by decide +kernel)⟩
theorem lw_p30 : lw_okq (⟨"HotHand", "sortPeople", "()I"⟩, 17) := ⟨⟨by decide +kernel, by decide +kernel⟩, List.mem_of_getElem? (i := 21) (by decide +kernel), List.mem_of_getElem? (i := 861) (by decide +kernel), List.mem_of_getElem? (i := 862) (by decide +kernel)⟩
theorem lw_p31 : lw_okq (⟨"HotHand", "apart", "(II)I"⟩, 17) := ⟨⟨by decide +kernel, by decide +kernel⟩, List.mem_of_getElem? (i := 21) (by decide +kernel), List.mem_of_getElem? (i := 865) (by decide +kernel), List.mem_of_getElem? (i := 866) (by decide +kernel)⟩
def lw_privs_2 : List (MethodName × Nat) := [(⟨"HotHand$Reader", "readTerm", "(LHotHand$Measure;I)Z"⟩, 6), (⟨"HotHand$Reader", "takeOf", "()Z"⟩, 6), (⟨"HotHand", "lawOf", "(I)LHotHand$Rules;"⟩, 17), (⟨"HotHand", "walkTo", "(II)V"⟩, 17), (⟨"HotHand$Rules", "firstOf", "(ILHotHand$Asked;I)I"⟩, 8), (⟨"HotHand$Rules", "holds", "(ILHotHand$Asked;)Z"⟩, 8), (⟨"HotHand$Asked", "wordOf", "(I)I"⟩, 7), (⟨"HotHand", "toldOfRow", "(II)I"⟩, 17), (⟨"HotHand", "isMeasure", "(I)Z"⟩, 17), (⟨"HotHand$Measure", "termOf", "(IIIJ)J"⟩, 6), (⟨"HotHand$Shuffles", "join", "(II)V"⟩, 5), (⟨"HotHand$Trial", "lay", "(III)V"⟩, 2), (⟨"HotHand$Court", "hardBits", "(II)I"⟩, 8), (⟨"HotHand", "hundredthsOf", "(I)I"⟩, 17), (⟨"HotHand", "sortPeople", "()I"⟩, 17), (⟨"HotHand", "apart", "(II)I"⟩, 17)]
theorem lw_r2 : ∀ q ∈ lw_privs_2, lw_okq q := List.forall_mem_cons.mpr ⟨lw_p16, List.forall_mem_cons.mpr ⟨lw_p17, List.forall_mem_cons.mpr ⟨lw_p18, List.forall_mem_cons.mpr ⟨lw_p19, List.forall_mem_cons.mpr ⟨lw_p20, List.forall_mem_cons.mpr ⟨lw_p21, List.forall_mem_cons.mpr ⟨lw_p22, List.forall_mem_cons.mpr ⟨lw_p23, List.forall_mem_cons.mpr ⟨lw_p24, List.forall_mem_cons.mpr ⟨lw_p25, List.forall_mem_cons.mpr ⟨lw_p26, List.forall_mem_cons.mpr ⟨lw_p27, List.forall_mem_cons.mpr ⟨lw_p28, List.forall_mem_cons.mpr ⟨lw_p29, List.forall_mem_cons.mpr ⟨lw_p30, List.forall_mem_cons.mpr ⟨lw_p31, fun _ h => absurd h List.not_mem_nil⟩⟩⟩⟩⟩⟩⟩⟩⟩⟩⟩⟩⟩⟩⟩⟩
theorem lw_p32 : lw_okq (⟨"HotHand", "allBehindBoth", "(I)J"⟩, 17) := ⟨⟨by decide +kernel, by decide +kernel⟩, List.mem_of_getElem? (i := 21) (by decide +kernel), List.mem_of_getElem? (i := 876) (by decide +kernel), List.mem_of_getElem? (i := 877) (by decide +kernel)⟩
theorem lw_p33 : lw_okq (⟨"HotHand", "moreBehindHit", "(I)J"⟩, 17) := ⟨⟨by decide +kernel, by decide +kernel⟩, List.mem_of_getElem? (i := 21) (by decide +kernel), List.mem_of_getElem? (i := 880) (by decide +kernel), List.mem_of_getElem? (i := 881) (by decide +kernel)⟩
theorem lw_p34 : lw_okq (⟨"HotHand", "throwersLeaning", "(I)I"⟩, 17) := ⟨⟨by decide +kernel, by decide +kernel⟩, List.mem_of_getElem? (i := 21) (by decide +kernel), List.mem_of_getElem? (i := 888) (by decide +kernel), List.mem_of_getElem? (i := 889) (by decide +kernel)⟩
theorem lw_p35 : lw_okq (⟨"HotHand", "pathWeight", "(IIIII)J"⟩, 17) := ⟨⟨by decide +kernel, by decide +kernel⟩, List.mem_of_getElem? (i := 21) (by decide +kernel), List.mem_of_getElem? (i := 901) (by decide +kernel), List.mem_of_getElem? (i := 902) (by decide +kernel)⟩
theorem lw_p36 : lw_okq (⟨"HotHand", "countBets", "(IIZZ)I"⟩, 17) := ⟨⟨by decide +kernel, by decide +kernel⟩, List.mem_of_getElem? (i := 21) (by decide +kernel), List.mem_of_getElem? (i := 909) (by decide +kernel), List.mem_of_getElem? (i := 910) (by decide +kernel)⟩
theorem lw_p37 : lw_okq (⟨"HotHand", "hotBits", "(I)I"⟩, 17) := ⟨⟨by decide +kernel, by decide +kernel⟩, List.mem_of_getElem? (i := 21) (by decide +kernel), List.mem_of_getElem? (i := 965) (by decide +kernel), List.mem_of_getElem? (i := 966) (by decide +kernel)⟩
theorem lw_p38 : lw_okq (⟨"HotHandModel", "isThrower", "(I)Z"⟩, 73) := ⟨⟨by decide +kernel, by decide +kernel⟩, List.mem_of_getElem? (i := 1000) (by decide +kernel), List.mem_of_getElem? (i := 1234) (by decide +kernel), List.mem_of_getElem? (i := 1235) (by decide +kernel)⟩
theorem lw_p39 : lw_okq (⟨"HotHandModel", "isRow", "(I)Z"⟩, 73) := ⟨⟨by decide +kernel, by decide +kernel⟩, List.mem_of_getElem? (i := 1000) (by decide +kernel), List.mem_of_getElem? (i := 1245) (by decide +kernel), List.mem_of_getElem? (i := 1246) (by decide +kernel)⟩
theorem lw_p40 : lw_okq (⟨"HotHandModel", "adds", "(IZII)V"⟩, 73) := ⟨⟨by decide +kernel, by decide +kernel⟩, List.mem_of_getElem? (i := 1000) (by decide +kernel), List.mem_of_getElem? (i := 1249) (by decide +kernel), List.mem_of_getElem? (i := 1250) (by decide +kernel)⟩
theorem lw_p41 : lw_okq (⟨"HotHandModel", "four", "(I)V"⟩, 73) := ⟨⟨by decide +kernel, by decide +kernel⟩, List.mem_of_getElem? (i := 1000) (by decide +kernel), List.mem_of_getElem? (i := 1262) (by decide +kernel), List.mem_of_getElem? (i := 1263) (by decide +kernel)⟩
theorem lw_p42 : lw_okq (⟨"HotHandModel", "reads", "(IZ)Z"⟩, 73) := ⟨⟨by decide +kernel, by decide +kernel⟩, List.mem_of_getElem? (i := 1000) (by decide +kernel), List.mem_of_getElem? (i := 1270) (by decide +kernel), List.mem_of_getElem? (i := 1271) (by decide +kernel)⟩
theorem lw_p43 : lw_okq (⟨"HotHandModel", "lays", "(I)V"⟩, 73) := ⟨⟨by decide +kernel, by decide +kernel⟩, List.mem_of_getElem? (i := 1000) (by decide +kernel), List.mem_of_getElem? (i := 1274) (by decide +kernel), List.mem_of_getElem? (i := 1275) (by decide +kernel)⟩
theorem lw_p44 : lw_okq (⟨"HotHandModel", "blanks", "()V"⟩, 73) := ⟨⟨by decide +kernel, by decide +kernel⟩, List.mem_of_getElem? (i := 1000) (by decide +kernel), List.mem_of_getElem? (i := 1278) (by decide +kernel), List.mem_of_getElem? (i := 1279) (by decide +kernel)⟩
theorem lw_p45 : lw_okq (⟨"HotHandModel", "lawRule", "()Z"⟩, 73) := ⟨⟨by decide +kernel, by decide +kernel⟩, List.mem_of_getElem? (i := 1000) (by decide +kernel), List.mem_of_getElem? (i := 1282) (by decide +kernel), List.mem_of_getElem? (i := 1283) (by decide +kernel)⟩
theorem lw_p46 : lw_okq (⟨"HotHandModel", "takes", "(J)Z"⟩, 73) := ⟨⟨by decide +kernel, by decide +kernel⟩, List.mem_of_getElem? (i := 1000) (by decide +kernel), List.mem_of_getElem? (i := 1287) (by decide +kernel), List.mem_of_getElem? (i := 1288) (by decide +kernel)⟩
theorem lw_p47 : lw_okq (⟨"HotHandModel", "word", "()J"⟩, 73) := ⟨⟨by decide +kernel, by decide +kernel⟩, List.mem_of_getElem? (i := 1000) (by decide +kernel), List.mem_of_getElem? (i := 1291) (by decide +kernel), List.mem_of_getElem? (i := 1292) (by decide +kernel)⟩
def lw_privs_3 : List (MethodName × Nat) := [(⟨"HotHand", "allBehindBoth", "(I)J"⟩, 17), (⟨"HotHand", "moreBehindHit", "(I)J"⟩, 17), (⟨"HotHand", "throwersLeaning", "(I)I"⟩, 17), (⟨"HotHand", "pathWeight", "(IIIII)J"⟩, 17), (⟨"HotHand", "countBets", "(IIZZ)I"⟩, 17), (⟨"HotHand", "hotBits", "(I)I"⟩, 17), (⟨"HotHandModel", "isThrower", "(I)Z"⟩, 73), (⟨"HotHandModel", "isRow", "(I)Z"⟩, 73), (⟨"HotHandModel", "adds", "(IZII)V"⟩, 73), (⟨"HotHandModel", "four", "(I)V"⟩, 73), (⟨"HotHandModel", "reads", "(IZ)Z"⟩, 73), (⟨"HotHandModel", "lays", "(I)V"⟩, 73), (⟨"HotHandModel", "blanks", "()V"⟩, 73), (⟨"HotHandModel", "lawRule", "()Z"⟩, 73), (⟨"HotHandModel", "takes", "(J)Z"⟩, 73), (⟨"HotHandModel", "word", "()J"⟩, 73)]
theorem lw_r3 : ∀ q ∈ lw_privs_3, lw_okq q := List.forall_mem_cons.mpr ⟨lw_p32, List.forall_mem_cons.mpr ⟨lw_p33, List.forall_mem_cons.mpr ⟨lw_p34, List.forall_mem_cons.mpr ⟨lw_p35, List.forall_mem_cons.mpr ⟨lw_p36, List.forall_mem_cons.mpr ⟨lw_p37, List.forall_mem_cons.mpr ⟨lw_p38, List.forall_mem_cons.mpr ⟨lw_p39, List.forall_mem_cons.mpr ⟨lw_p40, List.forall_mem_cons.mpr ⟨lw_p41, List.forall_mem_cons.mpr ⟨lw_p42, List.forall_mem_cons.mpr ⟨lw_p43, List.forall_mem_cons.mpr ⟨lw_p44, List.forall_mem_cons.mpr ⟨lw_p45, List.forall_mem_cons.mpr ⟨lw_p46, List.forall_mem_cons.mpr ⟨lw_p47, fun _ h => absurd h List.not_mem_nil⟩⟩⟩⟩⟩⟩⟩⟩⟩⟩⟩⟩⟩⟩⟩⟩
theorem lw_p48 : lw_okq (⟨"HotHandModel", "ruleTold", "(II)Z"⟩, 73) := ⟨⟨by decide +kernel, by decide +kernel⟩, List.mem_of_getElem? (i := 1000) (by decide +kernel), List.mem_of_getElem? (i := 1295) (by decide +kernel), List.mem_of_getElem? (i := 1296) (by decide +kernel)⟩
theorem lw_p49 : lw_okq (⟨"HotHandModel", "takesNumber", "(II)Z"⟩, 73) := ⟨⟨by decide +kernel, by decide +kernel⟩, List.mem_of_getElem? (i := 1000) (by decide +kernel), List.mem_of_getElem? (i := 1299) (by decide +kernel), List.mem_of_getElem? (i := 1300) (by decide +kernel)⟩
theorem lw_p50 : lw_okq (⟨"HotHandModel", "any", "()Z"⟩, 73) := ⟨⟨by decide +kernel, by decide +kernel⟩, List.mem_of_getElem? (i := 1000) (by decide +kernel), List.mem_of_getElem? (i := 1304) (by decide +kernel), List.mem_of_getElem? (i := 1305) (by decide +kernel)⟩
theorem lw_p51 : lw_okq (⟨"HotHandModel", "all", "()Z"⟩, 73) := ⟨⟨by decide +kernel, by decide +kernel⟩, List.mem_of_getElem? (i := 1000) (by decide +kernel), List.mem_of_getElem? (i := 1308) (by decide +kernel), List.mem_of_getElem? (i := 1309) (by decide +kernel)⟩
theorem lw_p52 : lw_okq (⟨"HotHandModel", "single", "()Z"⟩, 73) := ⟨⟨by decide +kernel, by decide +kernel⟩, List.mem_of_getElem? (i := 1000) (by decide +kernel), List.mem_of_getElem? (i := 1312) (by decide +kernel), List.mem_of_getElem? (i := 1313) (by decide +kernel)⟩
theorem lw_p53 : lw_okq (⟨"HotHandModel", "opens", "()Z"⟩, 73) := ⟨⟨by decide +kernel, by decide +kernel⟩, List.mem_of_getElem? (i := 1000) (by decide +kernel), List.mem_of_getElem? (i := 1317) (by decide +kernel), List.mem_of_getElem? (i := 1318) (by decide +kernel)⟩
theorem lw_p54 : lw_okq (⟨"HotHandModel", "puts", "(III)V"⟩, 73) := ⟨⟨by decide +kernel, by decide +kernel⟩, List.mem_of_getElem? (i := 1000) (by decide +kernel), List.mem_of_getElem? (i := 1321) (by decide +kernel), List.mem_of_getElem? (i := 1322) (by decide +kernel)⟩
theorem lw_p55 : lw_okq (⟨"HotHandModel", "takesSign", "(I)Z"⟩, 73) := ⟨⟨by decide +kernel, by decide +kernel⟩, List.mem_of_getElem? (i := 1000) (by decide +kernel), List.mem_of_getElem? (i := 1325) (by decide +kernel), List.mem_of_getElem? (i := 1326) (by decide +kernel)⟩
theorem lw_p56 : lw_okq (⟨"HotHandModel", "beliefRule", "()Z"⟩, 73) := ⟨⟨by decide +kernel, by decide +kernel⟩, List.mem_of_getElem? (i := 1000) (by decide +kernel), List.mem_of_getElem? (i := 1343) (by decide +kernel), List.mem_of_getElem? (i := 1344) (by decide +kernel)⟩
theorem lw_p57 : lw_okq (⟨"HotHandModel", "keeps", "(I)V"⟩, 73) := ⟨⟨by decide +kernel, by decide +kernel⟩, List.mem_of_getElem? (i := 1000) (by decide +kernel), List.mem_of_getElem? (i := 1348) (by decide +kernel), List.mem_of_getElem? (i := 1349) (by decide +kernel)⟩
theorem lw_p58 : lw_okq (⟨"HotHandModel", "ahead", "(II)V"⟩, 73) := ⟨⟨by decide +kernel, by decide +kernel⟩, List.mem_of_getElem? (i := 1000) (by decide +kernel), List.mem_of_getElem? (i := 1367) (by decide +kernel), List.mem_of_getElem? (i := 1368) (by decide +kernel)⟩
theorem lw_p59 : lw_okq (⟨"HotHandModel", "begins", "()V"⟩, 73) := ⟨⟨by decide +kernel, by decide +kernel⟩, List.mem_of_getElem? (i := 1000) (by decide +kernel), List.mem_of_getElem? (i := 1371) (by decide +kernel), List.mem_of_getElem? (i := 1372) (by decide +kernel)⟩
theorem lw_p60 : lw_okq (⟨"HotHandModel", "isHit", "(II)Z"⟩, 73) := ⟨⟨by decide +kernel, by decide +kernel⟩, List.mem_of_getElem? (i := 1000) (by decide +kernel), List.mem_of_getElem? (i := 1375) (by decide +kernel), List.mem_of_getElem? (i := 1376) (by decide +kernel)⟩
theorem lw_p61 : lw_okq (⟨"HotHandModel", "hardAt", "(II)I"⟩, 73) := ⟨⟨by decide +kernel, by decide +kernel⟩, List.mem_of_getElem? (i := 1000) (by decide +kernel), List.mem_of_getElem? (i := 1382) (by decide +kernel), List.mem_of_getElem? (i := 1383) (by decide +kernel)⟩
theorem lw_p62 : lw_okq (⟨"HotHandModel", "guardAt", "(II)I"⟩, 73) := ⟨⟨by decide +kernel, by decide +kernel⟩, List.mem_of_getElem? (i := 1000) (by decide +kernel), List.mem_of_getElem? (i := 1386) (by decide +kernel), List.mem_of_getElem? (i := 1387) (by decide +kernel)⟩
theorem lw_p63 : lw_okq (⟨"HotHandModel", "goesOn", "(IZII)V"⟩, 73) := ⟨⟨by decide +kernel, by decide +kernel⟩, List.mem_of_getElem? (i := 1000) (by decide +kernel), List.mem_of_getElem? (i := 1390) (by decide +kernel), List.mem_of_getElem? (i := 1391) (by decide +kernel)⟩
def lw_privs_4 : List (MethodName × Nat) := [(⟨"HotHandModel", "ruleTold", "(II)Z"⟩, 73), (⟨"HotHandModel", "takesNumber", "(II)Z"⟩, 73), (⟨"HotHandModel", "any", "()Z"⟩, 73), (⟨"HotHandModel", "all", "()Z"⟩, 73), (⟨"HotHandModel", "single", "()Z"⟩, 73), (⟨"HotHandModel", "opens", "()Z"⟩, 73), (⟨"HotHandModel", "puts", "(III)V"⟩, 73), (⟨"HotHandModel", "takesSign", "(I)Z"⟩, 73), (⟨"HotHandModel", "beliefRule", "()Z"⟩, 73), (⟨"HotHandModel", "keeps", "(I)V"⟩, 73), (⟨"HotHandModel", "ahead", "(II)V"⟩, 73), (⟨"HotHandModel", "begins", "()V"⟩, 73), (⟨"HotHandModel", "isHit", "(II)Z"⟩, 73), (⟨"HotHandModel", "hardAt", "(II)I"⟩, 73), (⟨"HotHandModel", "guardAt", "(II)I"⟩, 73), (⟨"HotHandModel", "goesOn", "(IZII)V"⟩, 73)]
theorem lw_r4 : ∀ q ∈ lw_privs_4, lw_okq q := List.forall_mem_cons.mpr ⟨lw_p48, List.forall_mem_cons.mpr ⟨lw_p49, List.forall_mem_cons.mpr ⟨lw_p50, List.forall_mem_cons.mpr ⟨lw_p51, List.forall_mem_cons.mpr ⟨lw_p52, List.forall_mem_cons.mpr ⟨lw_p53, List.forall_mem_cons.mpr ⟨lw_p54, List.forall_mem_cons.mpr ⟨lw_p55, List.forall_mem_cons.mpr ⟨lw_p56, List.forall_mem_cons.mpr ⟨lw_p57, List.forall_mem_cons.mpr ⟨lw_p58, List.forall_mem_cons.mpr ⟨lw_p59, List.forall_mem_cons.mpr ⟨lw_p60, List.forall_mem_cons.mpr ⟨lw_p61, List.forall_mem_cons.mpr ⟨lw_p62, List.forall_mem_cons.mpr ⟨lw_p63, fun _ h => absurd h List.not_mem_nil⟩⟩⟩⟩⟩⟩⟩⟩⟩⟩⟩⟩⟩⟩⟩⟩
theorem lw_p64 : lw_okq (⟨"HotHandModel", "asks", "(II)V"⟩, 73) := ⟨⟨by decide +kernel, by decide +kernel⟩, List.mem_of_getElem? (i := 1000) (by decide +kernel), List.mem_of_getElem? (i := 1397) (by decide +kernel), List.mem_of_getElem? (i := 1398) (by decide +kernel)⟩
theorem lw_p65 : lw_okq (⟨"HotHandModel", "first", "(III)I"⟩, 73) := ⟨⟨by decide +kernel, by decide +kernel⟩, List.mem_of_getElem? (i := 1000) (by decide +kernel), List.mem_of_getElem? (i := 1401) (by decide +kernel), List.mem_of_getElem? (i := 1402) (by decide +kernel)⟩
theorem lw_p66 : lw_okq (⟨"HotHandModel", "isTrue", "(I)Z"⟩, 73) := ⟨⟨by decide +kernel, by decide +kernel⟩, List.mem_of_getElem? (i := 1000) (by decide +kernel), List.mem_of_getElem? (i := 1405) (by decide +kernel), List.mem_of_getElem? (i := 1406) (by decide +kernel)⟩
theorem lw_p67 : lw_okq (⟨"HotHandModel", "hardNow", "(I)I"⟩, 73) := ⟨⟨by decide +kernel, by decide +kernel⟩, List.mem_of_getElem? (i := 1000) (by decide +kernel), List.mem_of_getElem? (i := 1409) (by decide +kernel), List.mem_of_getElem? (i := 1410) (by decide +kernel)⟩
theorem lw_p68 : lw_okq (⟨"HotHandModel", "guardNow", "(II)I"⟩, 73) := ⟨⟨by decide +kernel, by decide +kernel⟩, List.mem_of_getElem? (i := 1000) (by decide +kernel), List.mem_of_getElem? (i := 1413) (by decide +kernel), List.mem_of_getElem? (i := 1414) (by decide +kernel)⟩
theorem lw_p69 : lw_okq (⟨"HotHandModel", "draws", "()I"⟩, 73) := ⟨⟨by decide +kernel, by decide +kernel⟩, List.mem_of_getElem? (i := 1000) (by decide +kernel), List.mem_of_getElem? (i := 1417) (by decide +kernel), List.mem_of_getElem? (i := 1418) (by decide +kernel)⟩
theorem lw_p70 : lw_okq (⟨"HotHandModel", "chanceNow", "(III)I"⟩, 73) := ⟨⟨by decide +kernel, by decide +kernel⟩, List.mem_of_getElem? (i := 1000) (by decide +kernel), List.mem_of_getElem? (i := 1424) (by decide +kernel), List.mem_of_getElem? (i := 1425) (by decide +kernel)⟩
theorem lw_p71 : lw_okq (⟨"HotHandModel", "measureTold", "()Z"⟩, 73) := ⟨⟨by decide +kernel, by decide +kernel⟩, List.mem_of_getElem? (i := 1000) (by decide +kernel), List.mem_of_getElem? (i := 1445) (by decide +kernel), List.mem_of_getElem? (i := 1446) (by decide +kernel)⟩
theorem lw_p72 : lw_okq (⟨"HotHandModel", "termTold", "(II)Z"⟩, 73) := ⟨⟨by decide +kernel, by decide +kernel⟩, List.mem_of_getElem? (i := 1000) (by decide +kernel), List.mem_of_getElem? (i := 1449) (by decide +kernel), List.mem_of_getElem? (i := 1450) (by decide +kernel)⟩
theorem lw_p73 : lw_okq (⟨"HotHandModel", "ofTold", "()I"⟩, 73) := ⟨⟨by decide +kernel, by decide +kernel⟩, List.mem_of_getElem? (i := 1000) (by decide +kernel), List.mem_of_getElem? (i := 1459) (by decide +kernel), List.mem_of_getElem? (i := 1460) (by decide +kernel)⟩
theorem lw_p74 : lw_okq (⟨"HotHandModel", "isMeasure", "(I)Z"⟩, 73) := ⟨⟨by decide +kernel, by decide +kernel⟩, List.mem_of_getElem? (i := 1000) (by decide +kernel), List.mem_of_getElem? (i := 1467) (by decide +kernel), List.mem_of_getElem? (i := 1468) (by decide +kernel)⟩
theorem lw_p75 : lw_okq (⟨"HotHandModel", "valueOf", "(III)J"⟩, 73) := ⟨⟨by decide +kernel, by decide +kernel⟩, List.mem_of_getElem? (i := 1000) (by decide +kernel), List.mem_of_getElem? (i := 1472) (by decide +kernel), List.mem_of_getElem? (i := 1473) (by decide +kernel)⟩
theorem lw_p76 : lw_okq (⟨"HotHandModel", "termValue", "(III)J"⟩, 73) := ⟨⟨by decide +kernel, by decide +kernel⟩, List.mem_of_getElem? (i := 1000) (by decide +kernel), List.mem_of_getElem? (i := 1476) (by decide +kernel), List.mem_of_getElem? (i := 1477) (by decide +kernel)⟩
theorem lw_p77 : lw_okq (⟨"HotHandModel", "behind", "(IIII)V"⟩, 73) := ⟨⟨by decide +kernel, by decide +kernel⟩, List.mem_of_getElem? (i := 1000) (by decide +kernel), List.mem_of_getElem? (i := 1481) (by decide +kernel), List.mem_of_getElem? (i := 1482) (by decide +kernel)⟩
theorem lw_p78 : lw_okq (⟨"HotHandModel", "isOf", "(II)I"⟩, 73) := ⟨⟨by decide +kernel, by decide +kernel⟩, List.mem_of_getElem? (i := 1000) (by decide +kernel), List.mem_of_getElem? (i := 1485) (by decide +kernel), List.mem_of_getElem? (i := 1486) (by decide +kernel)⟩
theorem lw_p79 : lw_okq (⟨"HotHandModel", "runsIn", "(II)I"⟩, 73) := ⟨⟨by decide +kernel, by decide +kernel⟩, List.mem_of_getElem? (i := 1000) (by decide +kernel), List.mem_of_getElem? (i := 1489) (by decide +kernel), List.mem_of_getElem? (i := 1490) (by decide +kernel)⟩
def lw_privs_5 : List (MethodName × Nat) := [(⟨"HotHandModel", "asks", "(II)V"⟩, 73), (⟨"HotHandModel", "first", "(III)I"⟩, 73), (⟨"HotHandModel", "isTrue", "(I)Z"⟩, 73), (⟨"HotHandModel", "hardNow", "(I)I"⟩, 73), (⟨"HotHandModel", "guardNow", "(II)I"⟩, 73), (⟨"HotHandModel", "draws", "()I"⟩, 73), (⟨"HotHandModel", "chanceNow", "(III)I"⟩, 73), (⟨"HotHandModel", "measureTold", "()Z"⟩, 73), (⟨"HotHandModel", "termTold", "(II)Z"⟩, 73), (⟨"HotHandModel", "ofTold", "()I"⟩, 73), (⟨"HotHandModel", "isMeasure", "(I)Z"⟩, 73), (⟨"HotHandModel", "valueOf", "(III)J"⟩, 73), (⟨"HotHandModel", "termValue", "(III)J"⟩, 73), (⟨"HotHandModel", "behind", "(IIII)V"⟩, 73), (⟨"HotHandModel", "isOf", "(II)I"⟩, 73), (⟨"HotHandModel", "runsIn", "(II)I"⟩, 73)]
theorem lw_r5 : ∀ q ∈ lw_privs_5, lw_okq q := List.forall_mem_cons.mpr ⟨lw_p64, List.forall_mem_cons.mpr ⟨lw_p65, List.forall_mem_cons.mpr ⟨lw_p66, List.forall_mem_cons.mpr ⟨lw_p67, List.forall_mem_cons.mpr ⟨lw_p68, List.forall_mem_cons.mpr ⟨lw_p69, List.forall_mem_cons.mpr ⟨lw_p70, List.forall_mem_cons.mpr ⟨lw_p71, List.forall_mem_cons.mpr ⟨lw_p72, List.forall_mem_cons.mpr ⟨lw_p73, List.forall_mem_cons.mpr ⟨lw_p74, List.forall_mem_cons.mpr ⟨lw_p75, List.forall_mem_cons.mpr ⟨lw_p76, List.forall_mem_cons.mpr ⟨lw_p77, List.forall_mem_cons.mpr ⟨lw_p78, List.forall_mem_cons.mpr ⟨lw_p79, fun _ h => absurd h List.not_mem_nil⟩⟩⟩⟩⟩⟩⟩⟩⟩⟩⟩⟩⟩⟩⟩⟩
theorem lw_p80 : lw_okq (⟨"HotHandModel", "longestIn", "(III)I"⟩, 73) := ⟨⟨by decide +kernel, by decide +kernel⟩, List.mem_of_getElem? (i := 1000) (by decide +kernel), List.mem_of_getElem? (i := 1493) (by decide +kernel), List.mem_of_getElem? (i := 1494) (by decide +kernel)⟩
theorem lw_p81 : lw_okq (⟨"HotHandModel", "pairsIn", "(IIII)I"⟩, 73) := ⟨⟨by decide +kernel, by decide +kernel⟩, List.mem_of_getElem? (i := 1000) (by decide +kernel), List.mem_of_getElem? (i := 1497) (by decide +kernel), List.mem_of_getElem? (i := 1498) (by decide +kernel)⟩
theorem lw_p82 : lw_okq (⟨"HotHandModel", "firstIn", "(III)I"⟩, 73) := ⟨⟨by decide +kernel, by decide +kernel⟩, List.mem_of_getElem? (i := 1000) (by decide +kernel), List.mem_of_getElem? (i := 1501) (by decide +kernel), List.mem_of_getElem? (i := 1502) (by decide +kernel)⟩
theorem lw_p83 : lw_okq (⟨"HotHandModel", "is", "(JJ)V"⟩, 73) := ⟨⟨by decide +kernel, by decide +kernel⟩, List.mem_of_getElem? (i := 1000) (by decide +kernel), List.mem_of_getElem? (i := 1505) (by decide +kernel), List.mem_of_getElem? (i := 1506) (by decide +kernel)⟩
theorem lw_p84 : lw_okq (⟨"HotHandModel", "tells", "(I)J"⟩, 73) := ⟨⟨by decide +kernel, by decide +kernel⟩, List.mem_of_getElem? (i := 1000) (by decide +kernel), List.mem_of_getElem? (i := 1513) (by decide +kernel), List.mem_of_getElem? (i := 1514) (by decide +kernel)⟩
theorem lw_p85 : lw_okq (⟨"HotHandModel", "joins", "(IIIII)V"⟩, 73) := ⟨⟨by decide +kernel, by decide +kernel⟩, List.mem_of_getElem? (i := 1000) (by decide +kernel), List.mem_of_getElem? (i := 1525) (by decide +kernel), List.mem_of_getElem? (i := 1526) (by decide +kernel)⟩
theorem lw_p86 : lw_okq (⟨"HotHandModel", "leans", "(III)V"⟩, 73) := ⟨⟨by decide +kernel, by decide +kernel⟩, List.mem_of_getElem? (i := 1000) (by decide +kernel), List.mem_of_getElem? (i := 1540) (by decide +kernel), List.mem_of_getElem? (i := 1541) (by decide +kernel)⟩
theorem lw_p87 : lw_okq (⟨"HotHandModel", "togethers", "(I)Z"⟩, 73) := ⟨⟨by decide +kernel, by decide +kernel⟩, List.mem_of_getElem? (i := 1000) (by decide +kernel), List.mem_of_getElem? (i := 1562) (by decide +kernel), List.mem_of_getElem? (i := 1563) (by decide +kernel)⟩
theorem lw_p88 : lw_okq (⟨"HotHandModel", "choose", "(II)J"⟩, 73) := ⟨⟨by decide +kernel, by decide +kernel⟩, List.mem_of_getElem? (i := 1000) (by decide +kernel), List.mem_of_getElem? (i := 1566) (by decide +kernel), List.mem_of_getElem? (i := 1567) (by decide +kernel)⟩
theorem lw_p89 : lw_okq (⟨"HotHandModel", "pairWays", "(III)J"⟩, 73) := ⟨⟨by decide +kernel, by decide +kernel⟩, List.mem_of_getElem? (i := 1000) (by decide +kernel), List.mem_of_getElem? (i := 1571) (by decide +kernel), List.mem_of_getElem? (i := 1572) (by decide +kernel)⟩
theorem lw_p90 : lw_okq (⟨"HotHandModel", "togetherLeast", "()J"⟩, 73) := ⟨⟨by decide +kernel, by decide +kernel⟩, List.mem_of_getElem? (i := 1000) (by decide +kernel), List.mem_of_getElem? (i := 1575) (by decide +kernel), List.mem_of_getElem? (i := 1576) (by decide +kernel)⟩
theorem lw_p91 : lw_okq (⟨"HotHandModel", "lineOf", "(III)I"⟩, 73) := ⟨⟨by decide +kernel, by decide +kernel⟩, List.mem_of_getElem? (i := 1000) (by decide +kernel), List.mem_of_getElem? (i := 1591) (by decide +kernel), List.mem_of_getElem? (i := 1592) (by decide +kernel)⟩
theorem lw_p92 : lw_okq (⟨"HotHandModel", "tries", "(III)V"⟩, 73) := ⟨⟨by decide +kernel, by decide +kernel⟩, List.mem_of_getElem? (i := 1000) (by decide +kernel), List.mem_of_getElem? (i := 1595) (by decide +kernel), List.mem_of_getElem? (i := 1596) (by decide +kernel)⟩
theorem lw_p93 : lw_okq (⟨"HotHandModel", "tail", "(I)J"⟩, 73) := ⟨⟨by decide +kernel, by decide +kernel⟩, List.mem_of_getElem? (i := 1000) (by decide +kernel), List.mem_of_getElem? (i := 1599) (by decide +kernel), List.mem_of_getElem? (i := 1600) (by decide +kernel)⟩
theorem lw_p94 : lw_okq (⟨"HotHandModel", "powerOf", "(IIII)J"⟩, 73) := ⟨⟨by decide +kernel, by decide +kernel⟩, List.mem_of_getElem? (i := 1000) (by decide +kernel), List.mem_of_getElem? (i := 1603) (by decide +kernel), List.mem_of_getElem? (i := 1604) (by decide +kernel)⟩
theorem lw_p95 : lw_okq (⟨"HotHandModel", "isStrong", "(IIIII)Z"⟩, 73) := ⟨⟨by decide +kernel, by decide +kernel⟩, List.mem_of_getElem? (i := 1000) (by decide +kernel), List.mem_of_getElem? (i := 1611) (by decide +kernel), List.mem_of_getElem? (i := 1612) (by decide +kernel)⟩
def lw_privs_6 : List (MethodName × Nat) := [(⟨"HotHandModel", "longestIn", "(III)I"⟩, 73), (⟨"HotHandModel", "pairsIn", "(IIII)I"⟩, 73), (⟨"HotHandModel", "firstIn", "(III)I"⟩, 73), (⟨"HotHandModel", "is", "(JJ)V"⟩, 73), (⟨"HotHandModel", "tells", "(I)J"⟩, 73), (⟨"HotHandModel", "joins", "(IIIII)V"⟩, 73), (⟨"HotHandModel", "leans", "(III)V"⟩, 73), (⟨"HotHandModel", "togethers", "(I)Z"⟩, 73), (⟨"HotHandModel", "choose", "(II)J"⟩, 73), (⟨"HotHandModel", "pairWays", "(III)J"⟩, 73), (⟨"HotHandModel", "togetherLeast", "()J"⟩, 73), (⟨"HotHandModel", "lineOf", "(III)I"⟩, 73), (⟨"HotHandModel", "tries", "(III)V"⟩, 73), (⟨"HotHandModel", "tail", "(I)J"⟩, 73), (⟨"HotHandModel", "powerOf", "(IIII)J"⟩, 73), (⟨"HotHandModel", "isStrong", "(IIIII)Z"⟩, 73)]
theorem lw_r6 : ∀ q ∈ lw_privs_6, lw_okq q := List.forall_mem_cons.mpr ⟨lw_p80, List.forall_mem_cons.mpr ⟨lw_p81, List.forall_mem_cons.mpr ⟨lw_p82, List.forall_mem_cons.mpr ⟨lw_p83, List.forall_mem_cons.mpr ⟨lw_p84, List.forall_mem_cons.mpr ⟨lw_p85, List.forall_mem_cons.mpr ⟨lw_p86, List.forall_mem_cons.mpr ⟨lw_p87, List.forall_mem_cons.mpr ⟨lw_p88, List.forall_mem_cons.mpr ⟨lw_p89, List.forall_mem_cons.mpr ⟨lw_p90, List.forall_mem_cons.mpr ⟨lw_p91, List.forall_mem_cons.mpr ⟨lw_p92, List.forall_mem_cons.mpr ⟨lw_p93, List.forall_mem_cons.mpr ⟨lw_p94, List.forall_mem_cons.mpr ⟨lw_p95, fun _ h => absurd h List.not_mem_nil⟩⟩⟩⟩⟩⟩⟩⟩⟩⟩⟩⟩⟩⟩⟩⟩
theorem lw_p96 : lw_okq (⟨"HotHandModel", "counts", "(I)V"⟩, 73) := ⟨⟨by decide +kernel, by decide +kernel⟩, List.mem_of_getElem? (i := 1000) (by decide +kernel), List.mem_of_getElem? (i := 1623) (by decide +kernel), List.mem_of_getElem? (i := 1624) (by decide +kernel)⟩
theorem lw_p97 : lw_okq (⟨"HotHandModel", "hundredthsOf", "(I)I"⟩, 73) := ⟨⟨by decide +kernel, by decide +kernel⟩, List.mem_of_getElem? (i := 1000) (by decide +kernel), List.mem_of_getElem? (i := 1639) (by decide +kernel), List.mem_of_getElem? (i := 1640) (by decide +kernel)⟩
theorem lw_p98 : lw_okq (⟨"HotHandModel", "sorts", "()V"⟩, 73) := ⟨⟨by decide +kernel, by decide +kernel⟩, List.mem_of_getElem? (i := 1000) (by decide +kernel), List.mem_of_getElem? (i := 1647) (by decide +kernel), List.mem_of_getElem? (i := 1648) (by decide +kernel)⟩
theorem lw_p99 : lw_okq (⟨"HotHandModel", "tries", "(II)V"⟩, 73) := ⟨⟨by decide +kernel, by decide +kernel⟩, List.mem_of_getElem? (i := 1000) (by decide +kernel), List.mem_of_getElem? (i := 1651) (by decide +kernel), List.mem_of_getElem? (i := 1652) (by decide +kernel)⟩
theorem lw_p100 : lw_okq (⟨"HotHandModel", "apart", "(II)I"⟩, 73) := ⟨⟨by decide +kernel, by decide +kernel⟩, List.mem_of_getElem? (i := 1000) (by decide +kernel), List.mem_of_getElem? (i := 1655) (by decide +kernel), List.mem_of_getElem? (i := 1656) (by decide +kernel)⟩
theorem lw_p101 : lw_okq (⟨"HotHandModel", "shares", "(I)Z"⟩, 73) := ⟨⟨by decide +kernel, by decide +kernel⟩, List.mem_of_getElem? (i := 1000) (by decide +kernel), List.mem_of_getElem? (i := 1664) (by decide +kernel), List.mem_of_getElem? (i := 1665) (by decide +kernel)⟩
theorem lw_p102 : lw_okq (⟨"HotHandModel", "weightOf", "(IIIIII)J"⟩, 73) := ⟨⟨by decide +kernel, by decide +kernel⟩, List.mem_of_getElem? (i := 1000) (by decide +kernel), List.mem_of_getElem? (i := 1672) (by decide +kernel), List.mem_of_getElem? (i := 1673) (by decide +kernel)⟩
theorem lw_p103 : lw_okq (⟨"HotHandModel", "lays", "(II)V"⟩, 73) := ⟨⟨by decide +kernel, by decide +kernel⟩, List.mem_of_getElem? (i := 1000) (by decide +kernel), List.mem_of_getElem? (i := 1680) (by decide +kernel), List.mem_of_getElem? (i := 1681) (by decide +kernel)⟩
theorem lw_p104 : lw_okq (⟨"HotHandModel", "plays", "(IIIIII)V"⟩, 73) := ⟨⟨by decide +kernel, by decide +kernel⟩, List.mem_of_getElem? (i := 1000) (by decide +kernel), List.mem_of_getElem? (i := 1692) (by decide +kernel), List.mem_of_getElem? (i := 1693) (by decide +kernel)⟩
theorem lw_p105 : lw_okq (⟨"HotHandModel", "fetches", "(I)V"⟩, 73) := ⟨⟨by decide +kernel, by decide +kernel⟩, List.mem_of_getElem? (i := 1000) (by decide +kernel), List.mem_of_getElem? (i := 1696) (by decide +kernel), List.mem_of_getElem? (i := 1697) (by decide +kernel)⟩
def lw_privs_7 : List (MethodName × Nat) := [(⟨"HotHandModel", "counts", "(I)V"⟩, 73), (⟨"HotHandModel", "hundredthsOf", "(I)I"⟩, 73), (⟨"HotHandModel", "sorts", "()V"⟩, 73), (⟨"HotHandModel", "tries", "(II)V"⟩, 73), (⟨"HotHandModel", "apart", "(II)I"⟩, 73), (⟨"HotHandModel", "shares", "(I)Z"⟩, 73), (⟨"HotHandModel", "weightOf", "(IIIIII)J"⟩, 73), (⟨"HotHandModel", "lays", "(II)V"⟩, 73), (⟨"HotHandModel", "plays", "(IIIIII)V"⟩, 73), (⟨"HotHandModel", "fetches", "(I)V"⟩, 73)]
theorem lw_r7 : ∀ q ∈ lw_privs_7, lw_okq q := List.forall_mem_cons.mpr ⟨lw_p96, List.forall_mem_cons.mpr ⟨lw_p97, List.forall_mem_cons.mpr ⟨lw_p98, List.forall_mem_cons.mpr ⟨lw_p99, List.forall_mem_cons.mpr ⟨lw_p100, List.forall_mem_cons.mpr ⟨lw_p101, List.forall_mem_cons.mpr ⟨lw_p102, List.forall_mem_cons.mpr ⟨lw_p103, List.forall_mem_cons.mpr ⟨lw_p104, List.forall_mem_cons.mpr ⟨lw_p105, fun _ h => absurd h List.not_mem_nil⟩⟩⟩⟩⟩⟩⟩⟩⟩⟩
def lw_privs : List (MethodName × Nat) := lw_privs_1 ++ (lw_privs_2 ++ (lw_privs_3 ++ (lw_privs_4 ++ (lw_privs_5 ++ (lw_privs_6 ++ (lw_privs_7))))))
def lw_tbl : List Cond := k2_sels lw_privs ++ tables_1
theorem lw_privs_ok : ∀ q ∈ lw_privs, lw_okq q := by
  show ∀ q ∈ lw_privs_1 ++ (lw_privs_2 ++ (lw_privs_3 ++ (lw_privs_4 ++ (lw_privs_5 ++ (lw_privs_6 ++ (lw_privs_7)))))), lw_okq q
  exact List.forall_mem_append.mpr ⟨lw_r1, List.forall_mem_append.mpr ⟨lw_r2, List.forall_mem_append.mpr ⟨lw_r3, List.forall_mem_append.mpr ⟨lw_r4, List.forall_mem_append.mpr ⟨lw_r5, List.forall_mem_append.mpr ⟨lw_r6, lw_r7⟩⟩⟩⟩⟩⟩
def RX0 : String := "HotHand$Asked"
def TX0 : u_T := fun k => match k with
  | 0 => ("HotHand$Asked", "run", "I", false)
  | 1 => ("HotHand$Asked", "miss", "I", false)
  | 2 => ("HotHand$Asked", "state", "I", false)
  | 3 => ("HotHand$Asked", "place", "I", false)
  | 4 => ("HotHand$Asked", "hits", "I", false)
  | 5 => ("HotHand$Asked", "hard", "I", false)
  | _ => ("HotHand$Asked", "guard", "I", false)
def tyX0 : Nat → FieldType := fun k => match k with
  | 0 => .int
  | 1 => .int
  | 2 => .int
  | 3 => .int
  | 4 => .int
  | 5 => .int
  | _ => .int
theorem nmX0 : ∀ a, a < 7 → ∀ b, b < 7 → a ≠ b → (TX0 a).2.1 ≠ (TX0 b).2.1 := by decide +kernel
theorem tyX0_ok : ∀ k, k < 7 → parseFieldDescriptor (TX0 k).2.2.1 = some (tyX0 k) := by decide +kernel
def RX1 : String := "HotHand$Court"
def TX1 : u_T := fun k => match k with
  | 0 => ("HotHand$Court", "throwers", "I", false)
  | 1 => ("HotHand$Court", "rows", "I", false)
  | 2 => ("HotHand$Court", "z", "J", false)
  | 3 => ("HotHand$Court", "owners", "[I", true)
  | 4 => ("HotHand$Court", "lengths", "[I", true)
  | 5 => ("HotHand$Court", "hits", "[I", true)
  | 6 => ("HotHand$Court", "hards", "[J", true)
  | _ => ("HotHand$Court", "guards", "[J", true)
def tyX1 : Nat → FieldType := fun k => match k with
  | 0 => .int
  | 1 => .int
  | 2 => .long
  | 3 => .array .int
  | 4 => .array .int
  | 5 => .array .int
  | 6 => .array .long
  | _ => .array .long
theorem nmX1 : ∀ a, a < 8 → ∀ b, b < 8 → a ≠ b → (TX1 a).2.1 ≠ (TX1 b).2.1 := by decide +kernel
theorem tyX1_ok : ∀ k, k < 8 → parseFieldDescriptor (TX1 k).2.2.1 = some (tyX1 k) := by decide +kernel
def RX2 : String := "HotHand$Game"
def TX2 : u_T := fun k => match k with
  | 0 => ("HotHand$Game", "length", "I", false)
  | 1 => ("HotHand$Game", "oneLaw", "LHotHand$Rules;", false)
  | 2 => ("HotHand$Game", "otherLaw", "LHotHand$Rules;", false)
  | 3 => ("HotHand$Game", "givenAt", "I", false)
  | 4 => ("HotHand$Game", "more", "I", false)
  | 5 => ("HotHand$Game", "ones", "[LHotHand$Asked;", true)
  | 6 => ("HotHand$Game", "others", "[LHotHand$Asked;", true)
  | _ => ("HotHand$Game", "isOnes", "[Z", true)
def tyX2 : Nat → FieldType := fun k => match k with
  | 0 => .int
  | 1 => .object "HotHand$Rules"
  | 2 => .object "HotHand$Rules"
  | 3 => .int
  | 4 => .int
  | 5 => .array (.object "HotHand$Asked")
  | 6 => .array (.object "HotHand$Asked")
  | _ => .array .boolean
theorem nmX2 : ∀ a, a < 8 → ∀ b, b < 8 → a ≠ b → (TX2 a).2.1 ≠ (TX2 b).2.1 := by decide +kernel
theorem tyX2_ok : ∀ k, k < 8 → parseFieldDescriptor (TX2 k).2.2.1 = some (tyX2 k) := by decide +kernel
def RX3 : String := "HotHand$Leaning"
def TX3 : u_T := fun k => match k with
  | 0 => ("HotHand$Leaning", "upper", "J", false)
  | 1 => ("HotHand$Leaning", "weight", "J", false)
  | _ => ("HotHand$Leaning", "likely", "[J", true)
def tyX3 : Nat → FieldType := fun k => match k with
  | 0 => .long
  | 1 => .long
  | _ => .array .long
theorem nmX3 : ∀ a, a < 3 → ∀ b, b < 3 → a ≠ b → (TX3 a).2.1 ≠ (TX3 b).2.1 := by decide +kernel
theorem tyX3_ok : ∀ k, k < 3 → parseFieldDescriptor (TX3 k).2.2.1 = some (tyX3 k) := by decide +kernel
def RX4 : String := "HotHand$Measure"
def TX4 : u_T := fun k => match k with
  | 0 => ("HotHand$Measure", "terms", "I", false)
  | 1 => ("HotHand$Measure", "times", "[I", true)
  | 2 => ("HotHand$Measure", "kinds", "[I", true)
  | 3 => ("HotHand$Measure", "ofs", "[Z", true)
  | 4 => ("HotHand$Measure", "seconds", "[Z", true)
  | _ => ("HotHand$Measure", "aheads", "[I", true)
def tyX4 : Nat → FieldType := fun k => match k with
  | 0 => .int
  | 1 => .array .int
  | 2 => .array .int
  | 3 => .array .boolean
  | 4 => .array .boolean
  | _ => .array .int
theorem nmX4 : ∀ a, a < 6 → ∀ b, b < 6 → a ≠ b → (TX4 a).2.1 ≠ (TX4 b).2.1 := by decide +kernel
theorem tyX4_ok : ∀ k, k < 6 → parseFieldDescriptor (TX4 k).2.2.1 = some (tyX4 k) := by decide +kernel
def RX5 : String := "HotHand$Reader"
def TX5 : u_T := fun k => match k with
  | 0 => ("HotHand$Reader", "held", "I", false)
  | 1 => ("HotHand$Reader", "tape", "[B", true)
  | 2 => ("HotHand$Reader", "kinds", "[I", true)
  | 3 => ("HotHand$Reader", "contents", "[I", true)
  | 4 => ("HotHand$Reader", "places", "[I", true)
  | _ => ("HotHand$Reader", "at", "I", false)
def tyX5 : Nat → FieldType := fun k => match k with
  | 0 => .int
  | 1 => .array .byte
  | 2 => .array .int
  | 3 => .array .int
  | 4 => .array .int
  | _ => .int
theorem nmX5 : ∀ a, a < 6 → ∀ b, b < 6 → a ≠ b → (TX5 a).2.1 ≠ (TX5 b).2.1 := by decide +kernel
theorem tyX5_ok : ∀ k, k < 6 → parseFieldDescriptor (TX5 k).2.2.1 = some (tyX5 k) := by decide +kernel
def RX6 : String := "HotHand$Rules"
def TX6 : u_T := fun k => match k with
  | 0 => ("HotHand$Rules", "count", "I", false)
  | 1 => ("HotHand$Rules", "harder", "I", false)
  | 2 => ("HotHand$Rules", "guarded", "I", false)
  | 3 => ("HotHand$Rules", "written", "I", false)
  | 4 => ("HotHand$Rules", "kinds", "[I", true)
  | 5 => ("HotHand$Rules", "numbers", "[I", true)
  | 6 => ("HotHand$Rules", "ends", "[I", true)
  | _ => ("HotHand$Rules", "codes", "[I", true)
def tyX6 : Nat → FieldType := fun k => match k with
  | 0 => .int
  | 1 => .int
  | 2 => .int
  | 3 => .int
  | 4 => .array .int
  | 5 => .array .int
  | 6 => .array .int
  | _ => .array .int
theorem nmX6 : ∀ a, a < 8 → ∀ b, b < 8 → a ≠ b → (TX6 a).2.1 ≠ (TX6 b).2.1 := by decide +kernel
theorem tyX6_ok : ∀ k, k < 8 → parseFieldDescriptor (TX6 k).2.2.1 = some (tyX6 k) := by decide +kernel
def RX7 : String := "HotHand$Shuffles"
def TX7 : u_T := fun k => match k with
  | 0 => ("HotHand$Shuffles", "all", "J", false)
  | 1 => ("HotHand$Shuffles", "pairs", "I", false)
  | 2 => ("HotHand$Shuffles", "ways", "[J", true)
  | 3 => ("HotHand$Shuffles", "own", "[J", true)
  | _ => ("HotHand$Shuffles", "most", "I", false)
def tyX7 : Nat → FieldType := fun k => match k with
  | 0 => .long
  | 1 => .int
  | 2 => .array .long
  | 3 => .array .long
  | _ => .int
theorem nmX7 : ∀ a, a < 5 → ∀ b, b < 5 → a ≠ b → (TX7 a).2.1 ≠ (TX7 b).2.1 := by decide +kernel
theorem tyX7_ok : ∀ k, k < 5 → parseFieldDescriptor (TX7 k).2.2.1 = some (tyX7 k) := by decide +kernel
def RX8 : String := "HotHand$Trial"
def TX8 : u_T := fun k => match k with
  | 0 => ("HotHand$Trial", "hot", "[J", true)
  | _ => ("HotHand$Trial", "cold", "[J", true)
def tyX8 : Nat → FieldType := fun k => match k with
  | 0 => .array .long
  | _ => .array .long
theorem nmX8 : ∀ a, a < 2 → ∀ b, b < 2 → a ≠ b → (TX8 a).2.1 ≠ (TX8 b).2.1 := by decide +kernel
theorem tyX8_ok : ∀ k, k < 2 → parseFieldDescriptor (TX8 k).2.2.1 = some (tyX8 k) := by decide +kernel
def RX9 : String := "HotHand$Word"
def TX9 : u_T := fun k => match k with
  | _ => ("", "", "", false)
def tyX9 : Nat → FieldType := fun k => match k with
  | _ => .int
theorem nmX9 : ∀ a, a < 0 → ∀ b, b < 0 → a ≠ b → (TX9 a).2.1 ≠ (TX9 b).2.1 := by decide +kernel
theorem tyX9_ok : ∀ k, k < 0 → parseFieldDescriptor (TX9 k).2.2.1 = some (tyX9 k) := by decide +kernel
def RX10 : String := "HotHand"
def TX10 : u_T := fun k => match k with
  | 0 => ("HotHand", "court", "LHotHand$Court;", true)
  | 1 => ("HotHand", "images", "[LHotHand$Court;", true)
  | 2 => ("HotHand", "imageCount", "I", false)
  | 3 => ("HotHand", "laws", "[LHotHand$Rules;", true)
  | 4 => ("HotHand", "beliefs", "[LHotHand$Rules;", true)
  | 5 => ("HotHand", "spare", "LHotHand$Rules;", false)
  | 6 => ("HotHand", "measures", "[LHotHand$Measure;", true)
  | 7 => ("HotHand", "measureCount", "I", false)
  | 8 => ("HotHand", "reader", "LHotHand$Reader;", true)
  | 9 => ("HotHand", "faultPlace", "I", false)
  | 10 => ("HotHand", "asked", "LHotHand$Asked;", true)
  | 11 => ("HotHand", "leaning", "LHotHand$Leaning;", true)
  | 12 => ("HotHand", "shuffles", "LHotHand$Shuffles;", true)
  | 13 => ("HotHand", "trial", "LHotHand$Trial;", true)
  | 14 => ("HotHand", "game", "LHotHand$Game;", true)
  | 15 => ("HotHand", "people", "[I", true)
  | _ => ("HotHand", "without", "[J", true)
def tyX10 : Nat → FieldType := fun k => match k with
  | 0 => .object "HotHand$Court"
  | 1 => .array (.object "HotHand$Court")
  | 2 => .int
  | 3 => .array (.object "HotHand$Rules")
  | 4 => .array (.object "HotHand$Rules")
  | 5 => .object "HotHand$Rules"
  | 6 => .array (.object "HotHand$Measure")
  | 7 => .int
  | 8 => .object "HotHand$Reader"
  | 9 => .int
  | 10 => .object "HotHand$Asked"
  | 11 => .object "HotHand$Leaning"
  | 12 => .object "HotHand$Shuffles"
  | 13 => .object "HotHand$Trial"
  | 14 => .object "HotHand$Game"
  | 15 => .array .int
  | _ => .array .long
theorem nmX10 : ∀ a, a < 17 → ∀ b, b < 17 → a ≠ b → (TX10 a).2.1 ≠ (TX10 b).2.1 := by decide +kernel
theorem tyX10_ok : ∀ k, k < 17 → parseFieldDescriptor (TX10 k).2.2.1 = some (tyX10 k) := by decide +kernel
def RX11 : String := "HotHandModel"
def TX11 : u_T := fun k => match k with
  | 0 => ("HotHandModel", "up", "J", false)
  | 1 => ("HotHandModel", "down", "J", false)
  | 2 => ("HotHandModel", "throwers", "I", false)
  | 3 => ("HotHandModel", "rows", "I", false)
  | 4 => ("HotHandModel", "z", "J", false)
  | 5 => ("HotHandModel", "rowThrower", "[I", true)
  | 6 => ("HotHandModel", "rowMany", "[I", true)
  | 7 => ("HotHandModel", "rowHits", "[I", true)
  | 8 => ("HotHandModel", "hardOf", "[I", true)
  | 9 => ("HotHandModel", "guardOf", "[I", true)
  | 10 => ("HotHandModel", "taped", "I", false)
  | 11 => ("HotHandModel", "size", "I", false)
  | 12 => ("HotHandModel", "at", "I", false)
  | 13 => ("HotHandModel", "deep", "I", false)
  | 14 => ("HotHandModel", "stepMany", "I", false)
  | 15 => ("HotHandModel", "told", "I", false)
  | 16 => ("HotHandModel", "measures", "I", false)
  | 17 => ("HotHandModel", "fault", "I", false)
  | 18 => ("HotHandModel", "ruleMany", "[I", true)
  | 19 => ("HotHandModel", "toldMany", "[I", true)
  | 20 => ("HotHandModel", "harder", "[I", true)
  | 21 => ("HotHandModel", "guarded", "[I", true)
  | 22 => ("HotHandModel", "ruleKind", "[I", true)
  | 23 => ("HotHandModel", "ruleNumber", "[I", true)
  | 24 => ("HotHandModel", "from", "[I", true)
  | 25 => ("HotHandModel", "to", "[I", true)
  | 26 => ("HotHandModel", "op", "[I", true)
  | 27 => ("HotHandModel", "arg", "[I", true)
  | 28 => ("HotHandModel", "than", "[I", true)
  | 29 => ("HotHandModel", "pile", "[Z", true)
  | 30 => ("HotHandModel", "tape", "[B", true)
  | 31 => ("HotHandModel", "text", "[B", true)
  | 32 => ("HotHandModel", "wordEnd", "I", false)
  | 33 => ("HotHandModel", "read", "I", false)
  | 34 => ("HotHandModel", "here", "[I", true)
  | 35 => ("HotHandModel", "termMany", "[I", true)
  | 36 => ("HotHandModel", "termTimes", "[I", true)
  | 37 => ("HotHandModel", "termKind", "[I", true)
  | 38 => ("HotHandModel", "termOf", "[I", true)
  | 39 => ("HotHandModel", "termNext", "[I", true)
  | 40 => ("HotHandModel", "behindMany", "I", false)
  | 41 => ("HotHandModel", "behindHits", "I", false)
  | 42 => ("HotHandModel", "hasValue", "Z", false)
  | 43 => ("HotHandModel", "joinedHits", "I", false)
  | 44 => ("HotHandModel", "joinedMany", "I", false)
  | 45 => ("HotHandModel", "leanSum", "J", false)
  | 46 => ("HotHandModel", "leanWeight", "J", false)
  | 47 => ("HotHandModel", "choose", "[J", true)
  | 48 => ("HotHandModel", "ways", "[J", true)
  | 49 => ("HotHandModel", "nextWays", "[J", true)
  | 50 => ("HotHandModel", "isChosen", "Z", false)
  | 51 => ("HotHandModel", "pairSum", "I", false)
  | 52 => ("HotHandModel", "pairMost", "I", false)
  | 53 => ("HotHandModel", "togetherAll", "J", false)
  | 54 => ("HotHandModel", "runWays", "[J", true)
  | 55 => ("HotHandModel", "runNext", "[J", true)
  | 56 => ("HotHandModel", "miss", "[J", true)
  | 57 => ("HotHandModel", "hit", "[J", true)
  | 58 => ("HotHandModel", "nextMiss", "[J", true)
  | 59 => ("HotHandModel", "nextHit", "[J", true)
  | 60 => ("HotHandModel", "hardCount", "[I", true)
  | 61 => ("HotHandModel", "throwsOf", "I", false)
  | 62 => ("HotHandModel", "hitsOf", "I", false)
  | 63 => ("HotHandModel", "sorted", "[I", true)
  | 64 => ("HotHandModel", "best", "[I", true)
  | 65 => ("HotHandModel", "sortedMany", "I", false)
  | 66 => ("HotHandModel", "share", "[J", true)
  | 67 => ("HotHandModel", "bet", "[I", true)
  | 68 => ("HotHandModel", "asked", "[I", true)
  | 69 => ("HotHandModel", "gameWeight", "J", false)
  | 70 => ("HotHandModel", "images", "I", false)
  | 71 => ("HotHandModel", "image", "[I", true)
  | _ => ("HotHandModel", "imageZ", "[J", true)
def tyX11 : Nat → FieldType := fun k => match k with
  | 0 => .long
  | 1 => .long
  | 2 => .int
  | 3 => .int
  | 4 => .long
  | 5 => .array .int
  | 6 => .array .int
  | 7 => .array .int
  | 8 => .array .int
  | 9 => .array .int
  | 10 => .int
  | 11 => .int
  | 12 => .int
  | 13 => .int
  | 14 => .int
  | 15 => .int
  | 16 => .int
  | 17 => .int
  | 18 => .array .int
  | 19 => .array .int
  | 20 => .array .int
  | 21 => .array .int
  | 22 => .array .int
  | 23 => .array .int
  | 24 => .array .int
  | 25 => .array .int
  | 26 => .array .int
  | 27 => .array .int
  | 28 => .array .int
  | 29 => .array .boolean
  | 30 => .array .byte
  | 31 => .array .byte
  | 32 => .int
  | 33 => .int
  | 34 => .array .int
  | 35 => .array .int
  | 36 => .array .int
  | 37 => .array .int
  | 38 => .array .int
  | 39 => .array .int
  | 40 => .int
  | 41 => .int
  | 42 => .boolean
  | 43 => .int
  | 44 => .int
  | 45 => .long
  | 46 => .long
  | 47 => .array .long
  | 48 => .array .long
  | 49 => .array .long
  | 50 => .boolean
  | 51 => .int
  | 52 => .int
  | 53 => .long
  | 54 => .array .long
  | 55 => .array .long
  | 56 => .array .long
  | 57 => .array .long
  | 58 => .array .long
  | 59 => .array .long
  | 60 => .array .int
  | 61 => .int
  | 62 => .int
  | 63 => .array .int
  | 64 => .array .int
  | 65 => .int
  | 66 => .array .long
  | 67 => .array .int
  | 68 => .array .int
  | 69 => .long
  | 70 => .int
  | 71 => .array .int
  | _ => .array .long
theorem nmX11 : ∀ a, a < 73 → ∀ b, b < 73 → a ≠ b → (TX11 a).2.1 ≠ (TX11 b).2.1 := by decide +kernel
theorem tyX11_ok : ∀ k, k < 73 → parseFieldDescriptor (TX11 k).2.2.1 = some (tyX11 k) := by decide +kernel
abbrev vwCl : List vw_C := [(RX0, TX0, 7), (RX1, TX1, 8), (RX2, TX2, 8), (RX3, TX3, 3), (RX4, TX4, 6), (RX5, TX5, 6), (RX6, TX6, 8), (RX7, TX7, 5), (RX8, TX8, 2), (RX10, TX10, 17), (RX11, TX11, 73)]
theorem inX0 : ∀ w ∈ u_ws RX0 TX0 7, w ∈ lw_tbl := by decide +kernel
theorem inX1 : ∀ w ∈ u_ws RX1 TX1 8, w ∈ lw_tbl := by decide +kernel
theorem inX2 : ∀ w ∈ u_ws RX2 TX2 8, w ∈ lw_tbl := by decide +kernel
theorem inX3 : ∀ w ∈ u_ws RX3 TX3 3, w ∈ lw_tbl := by decide +kernel
theorem inX4 : ∀ w ∈ u_ws RX4 TX4 6, w ∈ lw_tbl := by decide +kernel
theorem inX5 : ∀ w ∈ u_ws RX5 TX5 6, w ∈ lw_tbl := by decide +kernel
theorem inX6 : ∀ w ∈ u_ws RX6 TX6 8, w ∈ lw_tbl := by decide +kernel
theorem inX7 : ∀ w ∈ u_ws RX7 TX7 5, w ∈ lw_tbl := by decide +kernel
theorem inX8 : ∀ w ∈ u_ws RX8 TX8 2, w ∈ lw_tbl := by decide +kernel
theorem inX10 : ∀ w ∈ u_ws RX10 TX10 17, w ∈ lw_tbl := by decide +kernel
theorem inX11 : ∀ w ∈ u_ws RX11 TX11 73, w ∈ lw_tbl := by decide +kernel
